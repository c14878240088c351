theorem dX6_block_134 : decode cX6_block 134 = .ok (.iload_n 2, 1) := by decide +kernel
theorem dX6_block_135 : decode cX6_block 135 = .ok (.ifCond .ne 8, 3) := by decide +kernel
theorem dX6_block_138 : decode cX6_block 138 = .ok (.iload 4, 2) := by decide +kernel
theorem dX6_block_140 : decode cX6_block 140 = .ok (.goto 15, 3) := by decide +kernel
theorem dX6_block_143 : decode cX6_block 143 = .ok (.iload_n 2, 1) := by decide +kernel
theorem dX6_block_144 : decode cX6_block 144 = .ok (.iconst 1, 1) := by decide +kernel
theorem dX6_block_145 : decode cX6_block 145 = .ok (.if_icmp .ne 8, 3) := by decide +kernel
theorem dX6_block_148 : decode cX6_block 148 = .ok (.iload 5, 2) := by decide +kernel
theorem dX6_block_150 : decode cX6_block 150 = .ok (.goto 5, 3) := by decide +kernel
theorem dX6_block_153 : decode cX6_block 153 = .ok (.iload 6, 2) := by decide +kernel
theorem dX6_block_155 : decode cX6_block 155 = .ok (.iadd, 1) := by decide +kernel
theorem dX6_block_156 : decode cX6_block 156 = .ok (.ireturn, 1) := by decide +kernel
set_option maxRecDepth 20000 in
theorem ggX6_sizeOf_X6_openOf : GoodIn wsX6_sizeOf wsX6_openOf := goodIn_r _ [5, 6, 11, 12, 13, 14, 15, 16, 17, 18, 19, 20, 21, 22, 23, 24, 25, 26, 27, 28] rfl (by decide +kernel)
set_option maxRecDepth 20000 in
theorem gX6_sizeOf_X6_openOf : GoodIn wsX6_sizeOf (wsV RX6 99 RX6 yX6_openOf wsX6_openOf) := goodIn_app (goodIn_of _ (by decide +kernel)) ggX6_sizeOf_X6_openOf
set_option maxRecDepth 20000 in
theorem ggX6_sizeOf_X6_shutOf : GoodIn wsX6_sizeOf wsX6_shutOf := goodIn_r _ [10, 6, 11, 12, 13, 14, 15, 16, 17, 18, 19, 20, 21, 22, 23, 24, 25, 26, 27, 28] rfl (by decide +kernel)
set_option maxRecDepth 20000 in
theorem gX6_sizeOf_X6_shutOf : GoodIn wsX6_sizeOf (wsV RX6 115 RX6 yX6_shutOf wsX6_shutOf) := goodIn_app (goodIn_of _ (by decide +kernel)) ggX6_sizeOf_X6_shutOf
theorem dX6_sizeOf_0 : decode cX6_sizeOf 0 = .ok (.aload_n 0, 1) := by decide +kernel
theorem dX6_sizeOf_1 : decode cX6_sizeOf 1 = .ok (.iload_n 1, 1) := by decide +kernel
theorem dX6_sizeOf_2 : decode cX6_sizeOf 2 = .ok (.invokevirtual 99, 3) := by decide +kernel
theorem dX6_sizeOf_5 : decode cX6_sizeOf 5 = .ok (.istore_n 2, 1) := by decide +kernel
theorem dX6_sizeOf_6 : decode cX6_sizeOf 6 = .ok (.aload_n 0, 1) := by decide +kernel
theorem dX6_sizeOf_7 : decode cX6_sizeOf 7 = .ok (.iload_n 2, 1) := by decide +kernel
theorem dX6_sizeOf_8 : decode cX6_sizeOf 8 = .ok (.invokevirtual 115, 3) := by decide +kernel
theorem dX6_sizeOf_11 : decode cX6_sizeOf 11 = .ok (.iload_n 2, 1) := by decide +kernel
theorem dX6_sizeOf_12 : decode cX6_sizeOf 12 = .ok (.isub, 1) := by decide +kernel
theorem dX6_sizeOf_13 : decode cX6_sizeOf 13 = .ok (.iconst 1, 1) := by decide +kernel
theorem dX6_sizeOf_14 : decode cX6_sizeOf 14 = .ok (.iadd, 1) := by decide +kernel
theorem dX6_sizeOf_15 : decode cX6_sizeOf 15 = .ok (.iconst 2, 1) := by decide +kernel
theorem dX6_sizeOf_16 : decode cX6_sizeOf 16 = .ok (.idiv, 1) := by decide +kernel
theorem dX6_sizeOf_17 : decode cX6_sizeOf 17 = .ok (.ireturn, 1) := by decide +kernel
set_option maxRecDepth 20000 in
theorem ggX6_upFrom_X6_depthOf : GoodIn wsX6_upFrom wsX6_depthOf := goodIn_r _ [5, 6, 7, 8, 4, 9, 10, 11, 12, 13, 14, 15, 16, 17, 18, 19, 20, 21, 22, 23, 24, 25, 26, 27, 28, 29, 30, 31, 32] rfl (by decide +kernel)
set_option maxRecDepth 20000 in
theorem gX6_upFrom_X6_depthOf : GoodIn wsX6_upFrom (wsV RX6 122 RX6 yX6_depthOf wsX6_depthOf) := goodIn_app (goodIn_of _ (by decide +kernel)) ggX6_upFrom_X6_depthOf
theorem dX6_upFrom_0 : decode cX6_upFrom 0 = .ok (.iload_n 1, 1) := by decide +kernel
theorem dX6_upFrom_1 : decode cX6_upFrom 1 = .ok (.istore_n 3, 1) := by decide +kernel
theorem dX6_upFrom_2 : decode cX6_upFrom 2 = .ok (.iconst 0, 1) := by decide +kernel
theorem dX6_upFrom_3 : decode cX6_upFrom 3 = .ok (.istore 4, 2) := by decide +kernel
theorem dX6_upFrom_5 : decode cX6_upFrom 5 = .ok (.iload 4, 2) := by decide +kernel
theorem dX6_upFrom_7 : decode cX6_upFrom 7 = .ok (.iload_n 2, 1) := by decide +kernel
theorem dX6_upFrom_8 : decode cX6_upFrom 8 = .ok (.if_icmp .ge 64, 3) := by decide +kernel
theorem dX6_upFrom_11 : decode cX6_upFrom 11 = .ok (.iload_n 3, 1) := by decide +kernel
theorem dX6_upFrom_12 : decode cX6_upFrom 12 = .ok (.bipush (-4), 2) := by decide +kernel
theorem dX6_upFrom_14 : decode cX6_upFrom 14 = .ok (.if_icmp .eq 58, 3) := by decide +kernel
theorem dX6_upFrom_17 : decode cX6_upFrom 17 = .ok (.aload_n 0, 1) := by decide +kernel
theorem dX6_upFrom_18 : decode cX6_upFrom 18 = .ok (.iload_n 3, 1) := by decide +kernel
theorem dX6_upFrom_19 : decode cX6_upFrom 19 = .ok (.invokevirtual 122, 3) := by decide +kernel
theorem dX6_upFrom_22 : decode cX6_upFrom 22 = .ok (.istore 5, 2) := by decide +kernel
theorem dX6_upFrom_24 : decode cX6_upFrom 24 = .ok (.iload_n 3, 1) := by decide +kernel
theorem dX6_upFrom_25 : decode cX6_upFrom 25 = .ok (.iconst 1, 1) := by decide +kernel
theorem dX6_upFrom_26 : decode cX6_upFrom 26 = .ok (.isub, 1) := by decide +kernel
theorem dX6_upFrom_27 : decode cX6_upFrom 27 = .ok (.istore 6, 2) := by decide +kernel
theorem dX6_upFrom_29 : decode cX6_upFrom 29 = .ok (.iload 6, 2) := by decide +kernel
theorem dX6_upFrom_31 : decode cX6_upFrom 31 = .ok (.ifCond .lt 22, 3) := by decide +kernel
theorem dX6_upFrom_34 : decode cX6_upFrom 34 = .ok (.aload_n 0, 1) := by decide +kernel
theorem dX6_upFrom_35 : decode cX6_upFrom 35 = .ok (.iload 6, 2) := by decide +kernel
theorem dX6_upFrom_37 : decode cX6_upFrom 37 = .ok (.invokevirtual 122, 3) := by decide +kernel
theorem dX6_upFrom_40 : decode cX6_upFrom 40 = .ok (.iload 5, 2) := by decide +kernel
theorem dX6_upFrom_42 : decode cX6_upFrom 42 = .ok (.iconst 1, 1) := by decide +kernel
theorem dX6_upFrom_43 : decode cX6_upFrom 43 = .ok (.isub, 1) := by decide +kernel
theorem dX6_upFrom_44 : decode cX6_upFrom 44 = .ok (.if_icmp .eq 9, 3) := by decide +kernel
theorem dX6_upFrom_47 : decode cX6_upFrom 47 = .ok (.iinc 6 (-1), 3) := by decide +kernel
theorem dX6_upFrom_50 : decode cX6_upFrom 50 = .ok (.goto (-21), 3) := by decide +kernel
theorem dX6_upFrom_53 : decode cX6_upFrom 53 = .ok (.iload 6, 2) := by decide +kernel
theorem dX6_upFrom_55 : decode cX6_upFrom 55 = .ok (.ifCond .ge 8, 3) := by decide +kernel
theorem dX6_upFrom_58 : decode cX6_upFrom 58 = .ok (.bipush (-4), 2) := by decide +kernel
theorem dX6_upFrom_60 : decode cX6_upFrom 60 = .ok (.goto 5, 3) := by decide +kernel
theorem dX6_upFrom_63 : decode cX6_upFrom 63 = .ok (.iload 6, 2) := by decide +kernel
theorem dX6_upFrom_65 : decode cX6_upFrom 65 = .ok (.istore_n 3, 1) := by decide +kernel
theorem dX6_upFrom_66 : decode cX6_upFrom 66 = .ok (.iinc 4 1, 3) := by decide +kernel
theorem dX6_upFrom_69 : decode cX6_upFrom 69 = .ok (.goto (-64), 3) := by decide +kernel
theorem dX6_upFrom_72 : decode cX6_upFrom 72 = .ok (.iload_n 3, 1) := by decide +kernel
theorem dX6_upFrom_73 : decode cX6_upFrom 73 = .ok (.ireturn, 1) := by decide +kernel
set_option maxRecDepth 20000 in
theorem ggX6_childrenOf_X6_sizeOf : GoodIn wsX6_childrenOf wsX6_sizeOf := goodIn_r _ [5, 6, 7, 8, 4, 9, 10, 11, 12, 13, 14, 23, 24, 25, 26, 27, 28, 29, 30, 31, 32, 33, 34, 35, 36, 37, 38, 39, 40] rfl (by decide +kernel)
set_option maxRecDepth 20000 in
theorem gX6_childrenOf_X6_sizeOf : GoodIn wsX6_childrenOf (wsV RX6 125 RX6 yX6_sizeOf wsX6_sizeOf) := goodIn_app (goodIn_of _ (by decide +kernel)) ggX6_childrenOf_X6_sizeOf
set_option maxRecDepth 20000 in
theorem ggX6_childrenOf_X6_depthOf : GoodIn wsX6_childrenOf wsX6_depthOf := goodIn_r _ [18, 6, 7, 8, 4, 9, 10, 19, 20, 21, 22, 23, 24, 25, 26, 27, 28, 29, 30, 31, 32, 33, 34, 35, 36, 37, 38, 39, 40] rfl (by decide +kernel)
set_option maxRecDepth 20000 in
theorem gX6_childrenOf_X6_depthOf : GoodIn wsX6_childrenOf (wsV RX6 122 RX6 yX6_depthOf wsX6_depthOf) := goodIn_app (goodIn_of _ (by decide +kernel)) ggX6_childrenOf_X6_depthOf
theorem dX6_childrenOf_0 : decode cX6_childrenOf 0 = .ok (.iconst 0, 1) := by decide +kernel
theorem dX6_childrenOf_1 : decode cX6_childrenOf 1 = .ok (.istore_n 2, 1) := by decide +kernel
theorem dX6_childrenOf_2 : decode cX6_childrenOf 2 = .ok (.iload_n 1, 1) := by decide +kernel
theorem dX6_childrenOf_3 : decode cX6_childrenOf 3 = .ok (.iconst 1, 1) := by decide +kernel
theorem dX6_childrenOf_4 : decode cX6_childrenOf 4 = .ok (.iadd, 1) := by decide +kernel
theorem dX6_childrenOf_5 : decode cX6_childrenOf 5 = .ok (.istore_n 3, 1) := by decide +kernel
theorem dX6_childrenOf_6 : decode cX6_childrenOf 6 = .ok (.iload_n 3, 1) := by decide +kernel
theorem dX6_childrenOf_7 : decode cX6_childrenOf 7 = .ok (.iload_n 1, 1) := by decide +kernel
theorem dX6_childrenOf_8 : decode cX6_childrenOf 8 = .ok (.aload_n 0, 1) := by decide +kernel
theorem dX6_childrenOf_9 : decode cX6_childrenOf 9 = .ok (.iload_n 1, 1) := by decide +kernel
theorem dX6_childrenOf_10 : decode cX6_childrenOf 10 = .ok (.invokevirtual 125, 3) := by decide +kernel
theorem dX6_childrenOf_13 : decode cX6_childrenOf 13 = .ok (.iadd, 1) := by decide +kernel
theorem dX6_childrenOf_14 : decode cX6_childrenOf 14 = .ok (.if_icmp .ge 32, 3) := by decide +kernel
theorem dX6_childrenOf_17 : decode cX6_childrenOf 17 = .ok (.iload_n 2, 1) := by decide +kernel
theorem dX6_childrenOf_18 : decode cX6_childrenOf 18 = .ok (.aload_n 0, 1) := by decide +kernel
theorem dX6_childrenOf_19 : decode cX6_childrenOf 19 = .ok (.iload_n 3, 1) := by decide +kernel
theorem dX6_childrenOf_20 : decode cX6_childrenOf 20 = .ok (.invokevirtual 122, 3) := by decide +kernel
theorem dX6_childrenOf_23 : decode cX6_childrenOf 23 = .ok (.aload_n 0, 1) := by decide +kernel
theorem dX6_childrenOf_24 : decode cX6_childrenOf 24 = .ok (.iload_n 1, 1) := by decide +kernel
theorem dX6_childrenOf_25 : decode cX6_childrenOf 25 = .ok (.invokevirtual 122, 3) := by decide +kernel
theorem dX6_childrenOf_28 : decode cX6_childrenOf 28 = .ok (.iconst 1, 1) := by decide +kernel
theorem dX6_childrenOf_29 : decode cX6_childrenOf 29 = .ok (.iadd, 1) := by decide +kernel
theorem dX6_childrenOf_30 : decode cX6_childrenOf 30 = .ok (.if_icmp .ne 7, 3) := by decide +kernel
theorem dX6_childrenOf_33 : decode cX6_childrenOf 33 = .ok (.iconst 1, 1) := by decide +kernel
theorem dX6_childrenOf_34 : decode cX6_childrenOf 34 = .ok (.goto 4, 3) := by decide +kernel
theorem dX6_childrenOf_37 : decode cX6_childrenOf 37 = .ok (.iconst 0, 1) := by decide +kernel
theorem dX6_childrenOf_38 : decode cX6_childrenOf 38 = .ok (.iadd, 1) := by decide +kernel
theorem dX6_childrenOf_39 : decode cX6_childrenOf 39 = .ok (.istore_n 2, 1) := by decide +kernel
theorem dX6_childrenOf_40 : decode cX6_childrenOf 40 = .ok (.iinc 3 1, 3) := by decide +kernel
theorem dX6_childrenOf_43 : decode cX6_childrenOf 43 = .ok (.goto (-37), 3) := by decide +kernel
theorem dX6_childrenOf_46 : decode cX6_childrenOf 46 = .ok (.iload_n 2, 1) := by decide +kernel
theorem dX6_childrenOf_47 : decode cX6_childrenOf 47 = .ok (.ireturn, 1) := by decide +kernel
set_option maxRecDepth 20000 in
theorem ggX6_childOf_X6_sizeOf : GoodIn wsX6_childOf wsX6_sizeOf := goodIn_r _ [5, 6, 7, 8, 4, 9, 10, 11, 12, 13, 14, 23, 24, 25, 26, 27, 28, 29, 30, 31, 32, 33, 34, 35, 36, 37, 38, 39, 40] rfl (by decide +kernel)
set_option maxRecDepth 20000 in
theorem gX6_childOf_X6_sizeOf : GoodIn wsX6_childOf (wsV RX6 125 RX6 yX6_sizeOf wsX6_sizeOf) := goodIn_app (goodIn_of _ (by decide +kernel)) ggX6_childOf_X6_sizeOf
set_option maxRecDepth 20000 in
theorem ggX6_childOf_X6_depthOf : GoodIn wsX6_childOf wsX6_depthOf := goodIn_r _ [18, 6, 7, 8, 4, 9, 10, 19, 20, 21, 22, 23, 24, 25, 26, 27, 28, 29, 30, 31, 32, 33, 34, 35, 36, 37, 38, 39, 40] rfl (by decide +kernel)
set_option maxRecDepth 20000 in
theorem gX6_childOf_X6_depthOf : GoodIn wsX6_childOf (wsV RX6 122 RX6 yX6_depthOf wsX6_depthOf) := goodIn_app (goodIn_of _ (by decide +kernel)) ggX6_childOf_X6_depthOf
theorem dX6_childOf_0 : decode cX6_childOf 0 = .ok (.iload_n 2, 1) := by decide +kernel
theorem dX6_childOf_1 : decode cX6_childOf 1 = .ok (.istore_n 3, 1) := by decide +kernel
theorem dX6_childOf_2 : decode cX6_childOf 2 = .ok (.iload_n 1, 1) := by decide +kernel
theorem dX6_childOf_3 : decode cX6_childOf 3 = .ok (.iconst 1, 1) := by decide +kernel
theorem dX6_childOf_4 : decode cX6_childOf 4 = .ok (.iadd, 1) := by decide +kernel
theorem dX6_childOf_5 : decode cX6_childOf 5 = .ok (.istore 4, 2) := by decide +kernel
theorem dX6_childOf_7 : decode cX6_childOf 7 = .ok (.iload 4, 2) := by decide +kernel
theorem dX6_childOf_9 : decode cX6_childOf 9 = .ok (.iload_n 1, 1) := by decide +kernel
theorem dX6_childOf_10 : decode cX6_childOf 10 = .ok (.aload_n 0, 1) := by decide +kernel
theorem dX6_childOf_11 : decode cX6_childOf 11 = .ok (.iload_n 1, 1) := by decide +kernel
theorem dX6_childOf_12 : decode cX6_childOf 12 = .ok (.invokevirtual 125, 3) := by decide +kernel
theorem dX6_childOf_15 : decode cX6_childOf 15 = .ok (.iadd, 1) := by decide +kernel
theorem dX6_childOf_16 : decode cX6_childOf 16 = .ok (.if_icmp .ge 35, 3) := by decide +kernel
theorem dX6_childOf_19 : decode cX6_childOf 19 = .ok (.aload_n 0, 1) := by decide +kernel
theorem dX6_childOf_20 : decode cX6_childOf 20 = .ok (.iload 4, 2) := by decide +kernel
theorem dX6_childOf_22 : decode cX6_childOf 22 = .ok (.invokevirtual 122, 3) := by decide +kernel
theorem dX6_childOf_25 : decode cX6_childOf 25 = .ok (.aload_n 0, 1) := by decide +kernel
theorem dX6_childOf_26 : decode cX6_childOf 26 = .ok (.iload_n 1, 1) := by decide +kernel
theorem dX6_childOf_27 : decode cX6_childOf 27 = .ok (.invokevirtual 122, 3) := by decide +kernel
theorem dX6_childOf_30 : decode cX6_childOf 30 = .ok (.iconst 1, 1) := by decide +kernel
theorem dX6_childOf_31 : decode cX6_childOf 31 = .ok (.iadd, 1) := by decide +kernel
theorem dX6_childOf_32 : decode cX6_childOf 32 = .ok (.if_icmp .ne 13, 3) := by decide +kernel
theorem dX6_childOf_35 : decode cX6_childOf 35 = .ok (.iload_n 3, 1) := by decide +kernel
theorem dX6_childOf_36 : decode cX6_childOf 36 = .ok (.ifCond .ne 6, 3) := by decide +kernel
theorem dX6_childOf_39 : decode cX6_childOf 39 = .ok (.iload 4, 2) := by decide +kernel
theorem dX6_childOf_41 : decode cX6_childOf 41 = .ok (.ireturn, 1) := by decide +kernel
theorem dX6_childOf_42 : decode cX6_childOf 42 = .ok (.iinc 3 (-1), 3) := by decide +kernel
theorem dX6_childOf_45 : decode cX6_childOf 45 = .ok (.iinc 4 1, 3) := by decide +kernel
theorem dX6_childOf_48 : decode cX6_childOf 48 = .ok (.goto (-41), 3) := by decide +kernel
theorem dX6_childOf_51 : decode cX6_childOf 51 = .ok (.bipush (-4), 2) := by decide +kernel
theorem dX6_childOf_53 : decode cX6_childOf 53 = .ok (.ireturn, 1) := by decide +kernel
set_option maxRecDepth 20000 in
theorem ggX6_whichOf_X6_upFrom : GoodIn wsX6_whichOf wsX6_upFrom := goodIn_r _ [5, 6, 7, 8, 4, 9, 10, 11, 12, 13, 14, 15, 16, 17, 18, 19, 20, 21, 22, 23, 24, 25, 26, 27, 28, 29, 30, 31, 32, 33, 34, 35, 36] rfl (by decide +kernel)
set_option maxRecDepth 20000 in
theorem gX6_whichOf_X6_upFrom : GoodIn wsX6_whichOf (wsV RX6 128 RX6 yX6_upFrom wsX6_upFrom) := goodIn_app (goodIn_of _ (by decide +kernel)) ggX6_whichOf_X6_upFrom
set_option maxRecDepth 20000 in
theorem ggX6_whichOf_X6_depthOf : GoodIn wsX6_whichOf wsX6_depthOf := goodIn_r _ [9, 10, 11, 12, 4, 13, 14, 15, 16, 17, 18, 19, 20, 21, 22, 23, 24, 25, 26, 27, 28, 29, 30, 31, 32, 33, 34, 35, 36] rfl (by decide +kernel)
set_option maxRecDepth 20000 in
theorem gX6_whichOf_X6_depthOf : GoodIn wsX6_whichOf (wsV RX6 122 RX6 yX6_depthOf wsX6_depthOf) := goodIn_app (goodIn_of _ (by decide +kernel)) ggX6_whichOf_X6_depthOf
theorem dX6_whichOf_0 : decode cX6_whichOf 0 = .ok (.aload_n 0, 1) := by decide +kernel
theorem dX6_whichOf_1 : decode cX6_whichOf 1 = .ok (.iload_n 1, 1) := by decide +kernel
theorem dX6_whichOf_2 : decode cX6_whichOf 2 = .ok (.iconst 1, 1) := by decide +kernel
theorem dX6_whichOf_3 : decode cX6_whichOf 3 = .ok (.invokevirtual 128, 3) := by decide +kernel
theorem dX6_whichOf_6 : decode cX6_whichOf 6 = .ok (.istore_n 2, 1) := by decide +kernel
theorem dX6_whichOf_7 : decode cX6_whichOf 7 = .ok (.aload_n 0, 1) := by decide +kernel
theorem dX6_whichOf_8 : decode cX6_whichOf 8 = .ok (.iload_n 1, 1) := by decide +kernel
theorem dX6_whichOf_9 : decode cX6_whichOf 9 = .ok (.invokevirtual 122, 3) := by decide +kernel
theorem dX6_whichOf_12 : decode cX6_whichOf 12 = .ok (.istore_n 3, 1) := by decide +kernel
theorem dX6_whichOf_13 : decode cX6_whichOf 13 = .ok (.iconst 0, 1) := by decide +kernel
theorem dX6_whichOf_14 : decode cX6_whichOf 14 = .ok (.istore 4, 2) := by decide +kernel
theorem dX6_whichOf_16 : decode cX6_whichOf 16 = .ok (.iload_n 2, 1) := by decide +kernel
theorem dX6_whichOf_17 : decode cX6_whichOf 17 = .ok (.iconst 1, 1) := by decide +kernel
theorem dX6_whichOf_18 : decode cX6_whichOf 18 = .ok (.iadd, 1) := by decide +kernel
theorem dX6_whichOf_19 : decode cX6_whichOf 19 = .ok (.istore 5, 2) := by decide +kernel
theorem dX6_whichOf_21 : decode cX6_whichOf 21 = .ok (.iload_n 2, 1) := by decide +kernel
theorem dX6_whichOf_22 : decode cX6_whichOf 22 = .ok (.bipush (-4), 2) := by decide +kernel
theorem dX6_whichOf_24 : decode cX6_whichOf 24 = .ok (.if_icmp .eq 35, 3) := by decide +kernel
theorem dX6_whichOf_27 : decode cX6_whichOf 27 = .ok (.iload 5, 2) := by decide +kernel
theorem dX6_whichOf_29 : decode cX6_whichOf 29 = .ok (.iload_n 1, 1) := by decide +kernel
theorem dX6_whichOf_30 : decode cX6_whichOf 30 = .ok (.if_icmp .ge 29, 3) := by decide +kernel
theorem dX6_whichOf_33 : decode cX6_whichOf 33 = .ok (.iload 4, 2) := by decide +kernel
theorem dX6_whichOf_35 : decode cX6_whichOf 35 = .ok (.aload_n 0, 1) := by decide +kernel
theorem dX6_whichOf_36 : decode cX6_whichOf 36 = .ok (.iload 5, 2) := by decide +kernel
theorem dX6_whichOf_38 : decode cX6_whichOf 38 = .ok (.invokevirtual 122, 3) := by decide +kernel
theorem dX6_whichOf_41 : decode cX6_whichOf 41 = .ok (.iload_n 3, 1) := by decide +kernel
theorem dX6_whichOf_42 : decode cX6_whichOf 42 = .ok (.if_icmp .ne 7, 3) := by decide +kernel
theorem dX6_whichOf_45 : decode cX6_whichOf 45 = .ok (.iconst 1, 1) := by decide +kernel
theorem dX6_whichOf_46 : decode cX6_whichOf 46 = .ok (.goto 4, 3) := by decide +kernel
theorem dX6_whichOf_49 : decode cX6_whichOf 49 = .ok (.iconst 0, 1) := by decide +kernel
theorem dX6_whichOf_50 : decode cX6_whichOf 50 = .ok (.iadd, 1) := by decide +kernel
theorem dX6_whichOf_51 : decode cX6_whichOf 51 = .ok (.istore 4, 2) := by decide +kernel
theorem dX6_whichOf_53 : decode cX6_whichOf 53 = .ok (.iinc 5 1, 3) := by decide +kernel
theorem dX6_whichOf_56 : decode cX6_whichOf 56 = .ok (.goto (-35), 3) := by decide +kernel
theorem dX6_whichOf_59 : decode cX6_whichOf 59 = .ok (.iload 4, 2) := by decide +kernel
theorem dX6_whichOf_61 : decode cX6_whichOf 61 = .ok (.ireturn, 1) := by decide +kernel
set_option maxRecDepth 20000 in
theorem ggX6_nextOf_X6_upFrom : GoodIn wsX6_nextOf wsX6_upFrom := goodIn_r _ [5, 6, 7, 8, 4, 9, 10, 11, 12, 13, 14, 15, 16, 17, 18, 35, 36, 37, 38, 39, 40, 41, 42, 43, 44, 45, 46, 47, 48, 49, 50, 51, 52] rfl (by decide +kernel)
set_option maxRecDepth 20000 in
theorem gX6_nextOf_X6_upFrom : GoodIn wsX6_nextOf (wsV RX6 128 RX6 yX6_upFrom wsX6_upFrom) := goodIn_app (goodIn_of _ (by decide +kernel)) ggX6_nextOf_X6_upFrom
set_option maxRecDepth 20000 in
theorem ggX6_nextOf_X6_whichOf : GoodIn wsX6_nextOf wsX6_whichOf := goodIn_r _ [22, 1, 2, 3, 4, 5, 6, 7, 8, 9, 10, 11, 12, 13, 14, 15, 16, 17, 18, 35, 36, 37, 38, 39, 40, 41, 42, 43, 44, 45, 46, 47, 48, 49, 50, 51, 52] rfl (by decide +kernel)
set_option maxRecDepth 20000 in
theorem gX6_nextOf_X6_whichOf : GoodIn wsX6_nextOf (wsV RX6 131 RX6 yX6_whichOf wsX6_whichOf) := goodIn_app (goodIn_of _ (by decide +kernel)) ggX6_nextOf_X6_whichOf
set_option maxRecDepth 20000 in
theorem ggX6_nextOf_X6_childOf : GoodIn wsX6_nextOf wsX6_childOf := goodIn_r _ [26, 27, 28, 29, 4, 30, 10, 11, 12, 13, 14, 31, 32, 33, 34, 6, 7, 8, 9, 15, 16, 17, 18, 35, 36, 37, 38, 39, 40, 41, 42, 43, 44, 45, 46, 47, 48, 49, 50, 51, 52] rfl (by decide +kernel)
set_option maxRecDepth 20000 in
theorem gX6_nextOf_X6_childOf : GoodIn wsX6_nextOf (wsV RX6 134 RX6 yX6_childOf wsX6_childOf) := goodIn_app (goodIn_of _ (by decide +kernel)) ggX6_nextOf_X6_childOf
theorem dX6_nextOf_0 : decode cX6_nextOf 0 = .ok (.aload_n 0, 1) := by decide +kernel
theorem dX6_nextOf_1 : decode cX6_nextOf 1 = .ok (.iload_n 1, 1) := by decide +kernel
theorem dX6_nextOf_2 : decode cX6_nextOf 2 = .ok (.iconst 1, 1) := by decide +kernel
theorem dX6_nextOf_3 : decode cX6_nextOf 3 = .ok (.invokevirtual 128, 3) := by decide +kernel
theorem dX6_nextOf_6 : decode cX6_nextOf 6 = .ok (.istore_n 3, 1) := by decide +kernel
theorem dX6_nextOf_7 : decode cX6_nextOf 7 = .ok (.aload_n 0, 1) := by decide +kernel
theorem dX6_nextOf_8 : decode cX6_nextOf 8 = .ok (.iload_n 1, 1) := by decide +kernel
theorem dX6_nextOf_9 : decode cX6_nextOf 9 = .ok (.invokevirtual 131, 3) := by decide +kernel
theorem dX6_nextOf_12 : decode cX6_nextOf 12 = .ok (.iload_n 2, 1) := by decide +kernel
theorem dX6_nextOf_13 : decode cX6_nextOf 13 = .ok (.iadd, 1) := by decide +kernel
theorem dX6_nextOf_14 : decode cX6_nextOf 14 = .ok (.istore 4, 2) := by decide +kernel
theorem dX6_nextOf_16 : decode cX6_nextOf 16 = .ok (.iload_n 3, 1) := by decide +kernel
theorem dX6_nextOf_17 : decode cX6_nextOf 17 = .ok (.bipush (-4), 2) := by decide +kernel
theorem dX6_nextOf_19 : decode cX6_nextOf 19 = .ok (.if_icmp .eq 8, 3) := by decide +kernel
theorem dX6_nextOf_22 : decode cX6_nextOf 22 = .ok (.iload 4, 2) := by decide +kernel
theorem dX6_nextOf_24 : decode cX6_nextOf 24 = .ok (.ifCond .ge 8, 3) := by decide +kernel
theorem dX6_nextOf_27 : decode cX6_nextOf 27 = .ok (.bipush (-4), 2) := by decide +kernel
theorem dX6_nextOf_29 : decode cX6_nextOf 29 = .ok (.goto 10, 3) := by decide +kernel
theorem dX6_nextOf_32 : decode cX6_nextOf 32 = .ok (.aload_n 0, 1) := by decide +kernel
theorem dX6_nextOf_33 : decode cX6_nextOf 33 = .ok (.iload_n 3, 1) := by decide +kernel
theorem dX6_nextOf_34 : decode cX6_nextOf 34 = .ok (.iload 4, 2) := by decide +kernel
theorem dX6_nextOf_36 : decode cX6_nextOf 36 = .ok (.invokevirtual 134, 3) := by decide +kernel
theorem dX6_nextOf_39 : decode cX6_nextOf 39 = .ok (.ireturn, 1) := by decide +kernel
set_option maxRecDepth 20000 in
theorem ggX6_leavesOf_X6_sizeOf : GoodIn wsX6_leavesOf wsX6_sizeOf := goodIn_r _ [5, 6, 7, 8, 4, 9, 10, 11, 12, 13, 14, 15, 16, 17, 18, 19, 20, 21, 22, 23, 24, 25, 26, 27, 28, 29, 30, 31, 32] rfl (by decide +kernel)
set_option maxRecDepth 20000 in
theorem gX6_leavesOf_X6_sizeOf : GoodIn wsX6_leavesOf (wsV RX6 125 RX6 yX6_sizeOf wsX6_sizeOf) := goodIn_app (goodIn_of _ (by decide +kernel)) ggX6_leavesOf_X6_sizeOf
theorem dX6_leavesOf_0 : decode cX6_leavesOf 0 = .ok (.iconst 0, 1) := by decide +kernel
theorem dX6_leavesOf_1 : decode cX6_leavesOf 1 = .ok (.istore_n 2, 1) := by decide +kernel
theorem dX6_leavesOf_2 : decode cX6_leavesOf 2 = .ok (.iload_n 1, 1) := by decide +kernel
theorem dX6_leavesOf_3 : decode cX6_leavesOf 3 = .ok (.istore_n 3, 1) := by decide +kernel
theorem dX6_leavesOf_4 : decode cX6_leavesOf 4 = .ok (.iload_n 3, 1) := by decide +kernel
theorem dX6_leavesOf_5 : decode cX6_leavesOf 5 = .ok (.iload_n 1, 1) := by decide +kernel
theorem dX6_leavesOf_6 : decode cX6_leavesOf 6 = .ok (.aload_n 0, 1) := by decide +kernel
theorem dX6_leavesOf_7 : decode cX6_leavesOf 7 = .ok (.iload_n 1, 1) := by decide +kernel
theorem dX6_leavesOf_8 : decode cX6_leavesOf 8 = .ok (.invokevirtual 125, 3) := by decide +kernel
theorem dX6_leavesOf_11 : decode cX6_leavesOf 11 = .ok (.iadd, 1) := by decide +kernel
theorem dX6_leavesOf_12 : decode cX6_leavesOf 12 = .ok (.if_icmp .ge 26, 3) := by decide +kernel
theorem dX6_leavesOf_15 : decode cX6_leavesOf 15 = .ok (.iload_n 2, 1) := by decide +kernel
theorem dX6_leavesOf_16 : decode cX6_leavesOf 16 = .ok (.aload_n 0, 1) := by decide +kernel
theorem dX6_leavesOf_17 : decode cX6_leavesOf 17 = .ok (.iload_n 3, 1) := by decide +kernel
theorem dX6_leavesOf_18 : decode cX6_leavesOf 18 = .ok (.invokevirtual 125, 3) := by decide +kernel
theorem dX6_leavesOf_21 : decode cX6_leavesOf 21 = .ok (.iconst 1, 1) := by decide +kernel
theorem dX6_leavesOf_22 : decode cX6_leavesOf 22 = .ok (.if_icmp .ne 7, 3) := by decide +kernel
theorem dX6_leavesOf_25 : decode cX6_leavesOf 25 = .ok (.iconst 1, 1) := by decide +kernel
theorem dX6_leavesOf_26 : decode cX6_leavesOf 26 = .ok (.goto 4, 3) := by decide +kernel
theorem dX6_leavesOf_29 : decode cX6_leavesOf 29 = .ok (.iconst 0, 1) := by decide +kernel
theorem dX6_leavesOf_30 : decode cX6_leavesOf 30 = .ok (.iadd, 1) := by decide +kernel
theorem dX6_leavesOf_31 : decode cX6_leavesOf 31 = .ok (.istore_n 2, 1) := by decide +kernel
theorem dX6_leavesOf_32 : decode cX6_leavesOf 32 = .ok (.iinc 3 1, 3) := by decide +kernel
theorem dX6_leavesOf_35 : decode cX6_leavesOf 35 = .ok (.goto (-31), 3) := by decide +kernel
theorem dX6_leavesOf_38 : decode cX6_leavesOf 38 = .ok (.iload_n 2, 1) := by decide +kernel
theorem dX6_leavesOf_39 : decode cX6_leavesOf 39 = .ok (.ireturn, 1) := by decide +kernel
set_option maxRecDepth 20000 in
theorem ggX6_deepestOf_X6_sizeOf : GoodIn wsX6_deepestOf wsX6_sizeOf := goodIn_r _ [5, 6, 7, 8, 4, 9, 10, 11, 12, 13, 14, 23, 24, 25, 26, 27, 28, 29, 30, 31, 32, 33, 34, 35, 36, 37, 38, 39, 40] rfl (by decide +kernel)
set_option maxRecDepth 20000 in
theorem gX6_deepestOf_X6_sizeOf : GoodIn wsX6_deepestOf (wsV RX6 125 RX6 yX6_sizeOf wsX6_sizeOf) := goodIn_app (goodIn_of _ (by decide +kernel)) ggX6_deepestOf_X6_sizeOf
set_option maxRecDepth 20000 in
theorem ggX6_deepestOf_X6_depthOf : GoodIn wsX6_deepestOf wsX6_depthOf := goodIn_r _ [18, 6, 7, 8, 4, 9, 10, 19, 20, 21, 22, 23, 24, 25, 26, 27, 28, 29, 30, 31, 32, 33, 34, 35, 36, 37, 38, 39, 40] rfl (by decide +kernel)
set_option maxRecDepth 20000 in
theorem gX6_deepestOf_X6_depthOf : GoodIn wsX6_deepestOf (wsV RX6 122 RX6 yX6_depthOf wsX6_depthOf) := goodIn_app (goodIn_of _ (by decide +kernel)) ggX6_deepestOf_X6_depthOf
theorem dX6_deepestOf_0 : decode cX6_deepestOf 0 = .ok (.iload_n 1, 1) := by decide +kernel
theorem dX6_deepestOf_1 : decode cX6_deepestOf 1 = .ok (.istore_n 2, 1) := by decide +kernel
theorem dX6_deepestOf_2 : decode cX6_deepestOf 2 = .ok (.iload_n 1, 1) := by decide +kernel
theorem dX6_deepestOf_3 : decode cX6_deepestOf 3 = .ok (.istore_n 3, 1) := by decide +kernel
theorem dX6_deepestOf_4 : decode cX6_deepestOf 4 = .ok (.iload_n 3, 1) := by decide +kernel
theorem dX6_deepestOf_5 : decode cX6_deepestOf 5 = .ok (.iload_n 1, 1) := by decide +kernel
theorem dX6_deepestOf_6 : decode cX6_deepestOf 6 = .ok (.aload_n 0, 1) := by decide +kernel
theorem dX6_deepestOf_7 : decode cX6_deepestOf 7 = .ok (.iload_n 1, 1) := by decide +kernel
theorem dX6_deepestOf_8 : decode cX6_deepestOf 8 = .ok (.invokevirtual 125, 3) := by decide +kernel
theorem dX6_deepestOf_11 : decode cX6_deepestOf 11 = .ok (.iadd, 1) := by decide +kernel
theorem dX6_deepestOf_12 : decode cX6_deepestOf 12 = .ok (.if_icmp .ge 28, 3) := by decide +kernel
theorem dX6_deepestOf_15 : decode cX6_deepestOf 15 = .ok (.aload_n 0, 1) := by decide +kernel
theorem dX6_deepestOf_16 : decode cX6_deepestOf 16 = .ok (.iload_n 3, 1) := by decide +kernel
theorem dX6_deepestOf_17 : decode cX6_deepestOf 17 = .ok (.invokevirtual 122, 3) := by decide +kernel
theorem dX6_deepestOf_20 : decode cX6_deepestOf 20 = .ok (.aload_n 0, 1) := by decide +kernel
theorem dX6_deepestOf_21 : decode cX6_deepestOf 21 = .ok (.iload_n 2, 1) := by decide +kernel
theorem dX6_deepestOf_22 : decode cX6_deepestOf 22 = .ok (.invokevirtual 122, 3) := by decide +kernel
theorem dX6_deepestOf_25 : decode cX6_deepestOf 25 = .ok (.if_icmp .le 7, 3) := by decide +kernel
theorem dX6_deepestOf_28 : decode cX6_deepestOf 28 = .ok (.iload_n 3, 1) := by decide +kernel
theorem dX6_deepestOf_29 : decode cX6_deepestOf 29 = .ok (.goto 4, 3) := by decide +kernel
theorem dX6_deepestOf_32 : decode cX6_deepestOf 32 = .ok (.iload_n 2, 1) := by decide +kernel
theorem dX6_deepestOf_33 : decode cX6_deepestOf 33 = .ok (.istore_n 2, 1) := by decide +kernel
theorem dX6_deepestOf_34 : decode cX6_deepestOf 34 = .ok (.iinc 3 1, 3) := by decide +kernel
theorem dX6_deepestOf_37 : decode cX6_deepestOf 37 = .ok (.goto (-33), 3) := by decide +kernel
theorem dX6_deepestOf_40 : decode cX6_deepestOf 40 = .ok (.iload_n 2, 1) := by decide +kernel
theorem dX6_deepestOf_41 : decode cX6_deepestOf 41 = .ok (.ireturn, 1) := by decide +kernel
set_option maxRecDepth 20000 in
theorem ggX6_fromBelow_X6_openOf : GoodIn wsX6_fromBelow wsX6_openOf := goodIn_r _ [5, 6, 19, 20, 21, 22, 23, 24, 25, 26, 27, 28, 29, 30, 31, 32, 33, 34, 35, 36] rfl (by decide +kernel)
set_option maxRecDepth 20000 in
theorem gX6_fromBelow_X6_openOf : GoodIn wsX6_fromBelow (wsV RX6 99 RX6 yX6_openOf wsX6_openOf) := goodIn_app (goodIn_of _ (by decide +kernel)) ggX6_fromBelow_X6_openOf
set_option maxRecDepth 20000 in
theorem ggX6_fromBelow_X6_shutOf : GoodIn wsX6_fromBelow wsX6_shutOf := goodIn_r _ [10, 6, 19, 20, 21, 22, 23, 24, 25, 26, 27, 28, 29, 30, 31, 32, 33, 34, 35, 36] rfl (by decide +kernel)
set_option maxRecDepth 20000 in
theorem gX6_fromBelow_X6_shutOf : GoodIn wsX6_fromBelow (wsV RX6 115 RX6 yX6_shutOf wsX6_shutOf) := goodIn_app (goodIn_of _ (by decide +kernel)) ggX6_fromBelow_X6_shutOf
set_option maxRecDepth 20000 in
theorem ggX6_fromBelow_X6_opensAt : GoodIn wsX6_fromBelow wsX6_opensAt := goodIn_r _ [14, 15, 16, 17, 4, 18, 6, 19, 20, 21, 22, 23, 24, 25, 26, 27, 28, 29, 30, 31, 32, 33, 34, 35, 36] rfl (by decide +kernel)
set_option maxRecDepth 20000 in
theorem gX6_fromBelow_X6_opensAt : GoodIn wsX6_fromBelow (wsV RX6 137 RX6 yX6_opensAt wsX6_opensAt) := goodIn_app (goodIn_of _ (by decide +kernel)) ggX6_fromBelow_X6_opensAt
theorem dX6_fromBelow_0 : decode cX6_fromBelow 0 = .ok (.aload_n 0, 1) := by decide +kernel
theorem dX6_fromBelow_1 : decode cX6_fromBelow 1 = .ok (.aload_n 0, 1) := by decide +kernel
theorem dX6_fromBelow_2 : decode cX6_fromBelow 2 = .ok (.iload_n 1, 1) := by decide +kernel
theorem dX6_fromBelow_3 : decode cX6_fromBelow 3 = .ok (.invokevirtual 99, 3) := by decide +kernel
theorem dX6_fromBelow_6 : decode cX6_fromBelow 6 = .ok (.invokevirtual 115, 3) := by decide +kernel
theorem dX6_fromBelow_9 : decode cX6_fromBelow 9 = .ok (.istore_n 2, 1) := by decide +kernel
theorem dX6_fromBelow_10 : decode cX6_fromBelow 10 = .ok (.iload_n 2, 1) := by decide +kernel
theorem dX6_fromBelow_11 : decode cX6_fromBelow 11 = .ok (.aload_n 0, 1) := by decide +kernel
theorem dX6_fromBelow_12 : decode cX6_fromBelow 12 = .ok (.iload_n 2, 1) := by decide +kernel
theorem dX6_fromBelow_13 : decode cX6_fromBelow 13 = .ok (.invokevirtual 137, 3) := by decide +kernel
theorem dX6_fromBelow_16 : decode cX6_fromBelow 16 = .ok (.isub, 1) := by decide +kernel
theorem dX6_fromBelow_17 : decode cX6_fromBelow 17 = .ok (.ireturn, 1) := by decide +kernel
set_option maxRecDepth 20000 in
theorem ggX6_placeAsked_X6_openOf : GoodIn wsX6_placeAsked wsX6_openOf := goodIn_r _ [5, 6, 15, 16, 17, 18, 19, 20, 21, 22, 23, 24, 25, 26, 27, 28, 29, 30, 31, 32] rfl (by decide +kernel)
set_option maxRecDepth 20000 in
theorem gX6_placeAsked_X6_openOf : GoodIn wsX6_placeAsked (wsV RX6 99 RX6 yX6_openOf wsX6_openOf) := goodIn_app (goodIn_of _ (by decide +kernel)) ggX6_placeAsked_X6_openOf
set_option maxRecDepth 20000 in
theorem ggX6_placeAsked_X6_shutOf : GoodIn wsX6_placeAsked wsX6_shutOf := goodIn_r _ [10, 6, 15, 16, 17, 18, 19, 20, 21, 22, 23, 24, 25, 26, 27, 28, 29, 30, 31, 32] rfl (by decide +kernel)
set_option maxRecDepth 20000 in
theorem gX6_placeAsked_X6_shutOf : GoodIn wsX6_placeAsked (wsV RX6 115 RX6 yX6_shutOf wsX6_shutOf) := goodIn_app (goodIn_of _ (by decide +kernel)) ggX6_placeAsked_X6_shutOf
set_option maxRecDepth 20000 in
theorem ggX6_placeAsked_X6_excessAt : GoodIn wsX6_placeAsked wsX6_excessAt := goodIn_r _ [14, 6, 15, 16, 17, 18, 19, 20, 21, 22, 23, 24, 25, 26, 27, 28, 29, 30, 31, 32] rfl (by decide +kernel)
set_option maxRecDepth 20000 in
theorem gX6_placeAsked_X6_excessAt : GoodIn wsX6_placeAsked (wsV RX6 96 RX6 yX6_excessAt wsX6_excessAt) := goodIn_app (goodIn_of _ (by decide +kernel)) ggX6_placeAsked_X6_excessAt
theorem dX6_placeAsked_0 : decode cX6_placeAsked 0 = .ok (.aload_n 0, 1) := by decide +kernel
theorem dX6_placeAsked_1 : decode cX6_placeAsked 1 = .ok (.iload_n 1, 1) := by decide +kernel
theorem dX6_placeAsked_2 : decode cX6_placeAsked 2 = .ok (.invokevirtual 99, 3) := by decide +kernel
theorem dX6_placeAsked_5 : decode cX6_placeAsked 5 = .ok (.istore_n 3, 1) := by decide +kernel
theorem dX6_placeAsked_6 : decode cX6_placeAsked 6 = .ok (.iload_n 2, 1) := by decide +kernel
theorem dX6_placeAsked_7 : decode cX6_placeAsked 7 = .ok (.ifCond .ne 7, 3) := by decide +kernel
theorem dX6_placeAsked_10 : decode cX6_placeAsked 10 = .ok (.iload_n 3, 1) := by decide +kernel
theorem dX6_placeAsked_11 : decode cX6_placeAsked 11 = .ok (.goto 21, 3) := by decide +kernel
theorem dX6_placeAsked_14 : decode cX6_placeAsked 14 = .ok (.iload_n 2, 1) := by decide +kernel
theorem dX6_placeAsked_15 : decode cX6_placeAsked 15 = .ok (.iconst 1, 1) := by decide +kernel
theorem dX6_placeAsked_16 : decode cX6_placeAsked 16 = .ok (.if_icmp .ne 11, 3) := by decide +kernel
theorem dX6_placeAsked_19 : decode cX6_placeAsked 19 = .ok (.aload_n 0, 1) := by decide +kernel
theorem dX6_placeAsked_20 : decode cX6_placeAsked 20 = .ok (.iload_n 3, 1) := by decide +kernel
theorem dX6_placeAsked_21 : decode cX6_placeAsked 21 = .ok (.invokevirtual 115, 3) := by decide +kernel
theorem dX6_placeAsked_24 : decode cX6_placeAsked 24 = .ok (.goto 8, 3) := by decide +kernel
theorem dX6_placeAsked_27 : decode cX6_placeAsked 27 = .ok (.aload_n 0, 1) := by decide +kernel
theorem dX6_placeAsked_28 : decode cX6_placeAsked 28 = .ok (.iload_n 3, 1) := by decide +kernel
theorem dX6_placeAsked_29 : decode cX6_placeAsked 29 = .ok (.invokevirtual 96, 3) := by decide +kernel
theorem dX6_placeAsked_32 : decode cX6_placeAsked 32 = .ok (.ireturn, 1) := by decide +kernel
set_option maxRecDepth 20000 in
theorem ggX6_node_X6_isNode : GoodIn wsX6_node wsX6_isNode := goodIn_r _ [5, 6, 7, 8, 4, 9, 10, 11, 12, 13, 74, 75, 76, 77, 78, 79, 80, 81, 82, 83, 84, 85, 86, 87, 88, 89, 90, 91] rfl (by decide +kernel)
set_option maxRecDepth 20000 in
theorem gX6_node_X6_isNode : GoodIn wsX6_node (wsV RX6 140 RX6 yX6_isNode wsX6_isNode) := goodIn_app (goodIn_of _ (by decide +kernel)) ggX6_node_X6_isNode
set_option maxRecDepth 20000 in
theorem ggX6_node_X6_placeAsked : GoodIn wsX6_node wsX6_placeAsked := goodIn_r _ [17, 18, 19, 20, 4, 21, 10, 22, 23, 24, 25, 26, 27, 28, 29, 74, 75, 76, 77, 78, 79, 80, 81, 82, 83, 84, 85, 86, 87, 88, 89, 90, 91] rfl (by decide +kernel)
set_option maxRecDepth 20000 in
theorem gX6_node_X6_placeAsked : GoodIn wsX6_node (wsV RX6 143 RX6 yX6_placeAsked wsX6_placeAsked) := goodIn_app (goodIn_of _ (by decide +kernel)) ggX6_node_X6_placeAsked
set_option maxRecDepth 20000 in
theorem ggX6_node_X6_upFrom : GoodIn wsX6_node wsX6_upFrom := goodIn_r _ [33, 34, 35, 36, 4, 37, 18, 19, 20, 21, 10, 26, 27, 28, 29, 74, 75, 76, 77, 78, 79, 80, 81, 82, 83, 84, 85, 86, 87, 88, 89, 90, 91] rfl (by decide +kernel)
set_option maxRecDepth 20000 in
theorem gX6_node_X6_upFrom : GoodIn wsX6_node (wsV RX6 128 RX6 yX6_upFrom wsX6_upFrom) := goodIn_app (goodIn_of _ (by decide +kernel)) ggX6_node_X6_upFrom
set_option maxRecDepth 20000 in
theorem ggX6_node_X6_childOf : GoodIn wsX6_node wsX6_childOf := goodIn_r _ [41, 42, 43, 44, 4, 45, 18, 19, 20, 21, 10, 22, 23, 24, 25, 34, 35, 36, 37, 26, 27, 28, 29, 74, 75, 76, 77, 78, 79, 80, 81, 82, 83, 84, 85, 86, 87, 88, 89, 90, 91] rfl (by decide +kernel)
set_option maxRecDepth 20000 in
theorem gX6_node_X6_childOf : GoodIn wsX6_node (wsV RX6 134 RX6 yX6_childOf wsX6_childOf) := goodIn_app (goodIn_of _ (by decide +kernel)) ggX6_node_X6_childOf
set_option maxRecDepth 20000 in
theorem ggX6_node_X6_childrenOf : GoodIn wsX6_node wsX6_childrenOf := goodIn_r _ [49, 42, 43, 44, 4, 45, 18, 19, 20, 21, 10, 22, 23, 24, 25, 34, 35, 36, 37, 26, 27, 28, 29, 74, 75, 76, 77, 78, 79, 80, 81, 82, 83, 84, 85, 86, 87, 88, 89, 90, 91] rfl (by decide +kernel)
set_option maxRecDepth 20000 in
theorem gX6_node_X6_childrenOf : GoodIn wsX6_node (wsV RX6 146 RX6 yX6_childrenOf wsX6_childrenOf) := goodIn_app (goodIn_of _ (by decide +kernel)) ggX6_node_X6_childrenOf
set_option maxRecDepth 20000 in
theorem ggX6_node_X6_nextOf : GoodIn wsX6_node wsX6_nextOf := goodIn_r _ [53, 30, 31, 32, 4, 33, 34, 35, 36, 37, 18, 19, 20, 21, 10, 26, 27, 28, 29, 54, 55, 56, 57, 38, 39, 40, 41, 42, 43, 44, 45, 22, 23, 24, 25, 74, 75, 76, 77, 78, 79, 80, 81, 82, 83, 84, 85, 86, 87, 88, 89, 90, 91] rfl (by decide +kernel)
set_option maxRecDepth 20000 in
theorem gX6_node_X6_nextOf : GoodIn wsX6_node (wsV RX6 149 RX6 yX6_nextOf wsX6_nextOf) := goodIn_app (goodIn_of _ (by decide +kernel)) ggX6_node_X6_nextOf
set_option maxRecDepth 20000 in
theorem ggX6_node_X6_sizeOf : GoodIn wsX6_node wsX6_sizeOf := goodIn_r _ [45, 18, 19, 20, 4, 21, 10, 22, 23, 24, 25, 74, 75, 76, 77, 78, 79, 80, 81, 82, 83, 84, 85, 86, 87, 88, 89, 90, 91] rfl (by decide +kernel)
set_option maxRecDepth 20000 in
theorem gX6_node_X6_sizeOf : GoodIn wsX6_node (wsV RX6 125 RX6 yX6_sizeOf wsX6_sizeOf) := goodIn_app (goodIn_of _ (by decide +kernel)) ggX6_node_X6_sizeOf
set_option maxRecDepth 20000 in
theorem ggX6_node_X6_leavesOf : GoodIn wsX6_node wsX6_leavesOf := goodIn_r _ [61, 42, 43, 44, 4, 45, 18, 19, 20, 21, 10, 22, 23, 24, 25, 74, 75, 76, 77, 78, 79, 80, 81, 82, 83, 84, 85, 86, 87, 88, 89, 90, 91] rfl (by decide +kernel)
set_option maxRecDepth 20000 in
theorem gX6_node_X6_leavesOf : GoodIn wsX6_node (wsV RX6 152 RX6 yX6_leavesOf wsX6_leavesOf) := goodIn_app (goodIn_of _ (by decide +kernel)) ggX6_node_X6_leavesOf
set_option maxRecDepth 20000 in
theorem ggX6_node_X6_deepestOf : GoodIn wsX6_node wsX6_deepestOf := goodIn_r _ [65, 42, 43, 44, 4, 45, 18, 19, 20, 21, 10, 22, 23, 24, 25, 34, 35, 36, 37, 26, 27, 28, 29, 74, 75, 76, 77, 78, 79, 80, 81, 82, 83, 84, 85, 86, 87, 88, 89, 90, 91] rfl (by decide +kernel)
set_option maxRecDepth 20000 in
theorem gX6_node_X6_deepestOf : GoodIn wsX6_node (wsV RX6 155 RX6 yX6_deepestOf wsX6_deepestOf) := goodIn_app (goodIn_of _ (by decide +kernel)) ggX6_node_X6_deepestOf
set_option maxRecDepth 20000 in
theorem ggX6_node_X6_depthOf : GoodIn wsX6_node wsX6_depthOf := goodIn_r _ [37, 18, 19, 20, 4, 21, 10, 26, 27, 28, 29, 74, 75, 76, 77, 78, 79, 80, 81, 82, 83, 84, 85, 86, 87, 88, 89, 90, 91] rfl (by decide +kernel)
set_option maxRecDepth 20000 in
theorem gX6_node_X6_depthOf : GoodIn wsX6_node (wsV RX6 122 RX6 yX6_depthOf wsX6_depthOf) := goodIn_app (goodIn_of _ (by decide +kernel)) ggX6_node_X6_depthOf
set_option maxRecDepth 20000 in
theorem ggX6_node_X6_fromBelow : GoodIn wsX6_node wsX6_fromBelow := goodIn_r _ [69, 18, 19, 20, 4, 21, 10, 22, 23, 24, 25, 70, 71, 72, 73, 26, 27, 28, 29, 74, 75, 76, 77, 78, 79, 80, 81, 82, 83, 84, 85, 86, 87, 88, 89, 90, 91] rfl (by decide +kernel)
set_option maxRecDepth 20000 in
theorem gX6_node_X6_fromBelow : GoodIn wsX6_node (wsV RX6 158 RX6 yX6_fromBelow wsX6_fromBelow) := goodIn_app (goodIn_of _ (by decide +kernel)) ggX6_node_X6_fromBelow
set_option maxRecDepth 20000 in
theorem ggX6_node_X6_whichOf : GoodIn wsX6_node wsX6_whichOf := goodIn_r _ [57, 30, 31, 32, 4, 33, 34, 35, 36, 37, 18, 19, 20, 21, 10, 26, 27, 28, 29, 74, 75, 76, 77, 78, 79, 80, 81, 82, 83, 84, 85, 86, 87, 88, 89, 90, 91] rfl (by decide +kernel)
set_option maxRecDepth 20000 in
theorem gX6_node_X6_whichOf : GoodIn wsX6_node (wsV RX6 131 RX6 yX6_whichOf wsX6_whichOf) := goodIn_app (goodIn_of _ (by decide +kernel)) ggX6_node_X6_whichOf
theorem dX6_node_0 : decode cX6_node 0 = .ok (.aload_n 0, 1) := by decide +kernel
theorem dX6_node_1 : decode cX6_node 1 = .ok (.iload_n 1, 1) := by decide +kernel
theorem dX6_node_2 : decode cX6_node 2 = .ok (.invokevirtual 140, 3) := by decide +kernel
theorem dX6_node_5 : decode cX6_node 5 = .ok (.ifCond .ne 5, 3) := by decide +kernel
theorem dX6_node_8 : decode cX6_node 8 = .ok (.iconst (-1), 1) := by decide +kernel
theorem dX6_node_9 : decode cX6_node 9 = .ok (.ireturn, 1) := by decide +kernel
theorem dX6_node_10 : decode cX6_node 10 = .ok (.iload_n 2, 1) := by decide +kernel
theorem dX6_node_11 : decode cX6_node 11 = .ok (.tableswitch 176 0 13 #[69, 69, 69, 76, 83, 90, 116, 123, 130, 136, 142, 148, 164, 170], 69) := by decide +kernel
theorem dX6_node_80 : decode cX6_node 80 = .ok (.aload_n 0, 1) := by decide +kernel
theorem dX6_node_81 : decode cX6_node 81 = .ok (.iload_n 1, 1) := by decide +kernel
theorem dX6_node_82 : decode cX6_node 82 = .ok (.iload_n 2, 1) := by decide +kernel
theorem dX6_node_83 : decode cX6_node 83 = .ok (.invokevirtual 143, 3) := by decide +kernel
theorem dX6_node_86 : decode cX6_node 86 = .ok (.ireturn, 1) := by decide +kernel
theorem dX6_node_87 : decode cX6_node 87 = .ok (.aload_n 0, 1) := by decide +kernel
theorem dX6_node_88 : decode cX6_node 88 = .ok (.iload_n 1, 1) := by decide +kernel
theorem dX6_node_89 : decode cX6_node 89 = .ok (.iconst 1, 1) := by decide +kernel
theorem dX6_node_90 : decode cX6_node 90 = .ok (.invokevirtual 128, 3) := by decide +kernel
theorem dX6_node_93 : decode cX6_node 93 = .ok (.ireturn, 1) := by decide +kernel
theorem dX6_node_94 : decode cX6_node 94 = .ok (.aload_n 0, 1) := by decide +kernel
theorem dX6_node_95 : decode cX6_node 95 = .ok (.iload_n 1, 1) := by decide +kernel
theorem dX6_node_96 : decode cX6_node 96 = .ok (.iconst 0, 1) := by decide +kernel
theorem dX6_node_97 : decode cX6_node 97 = .ok (.invokevirtual 134, 3) := by decide +kernel
theorem dX6_node_100 : decode cX6_node 100 = .ok (.ireturn, 1) := by decide +kernel
theorem dX6_node_101 : decode cX6_node 101 = .ok (.aload_n 0, 1) := by decide +kernel
theorem dX6_node_102 : decode cX6_node 102 = .ok (.iload_n 1, 1) := by decide +kernel
theorem dX6_node_103 : decode cX6_node 103 = .ok (.invokevirtual 146, 3) := by decide +kernel
theorem dX6_node_106 : decode cX6_node 106 = .ok (.ifCond .ne 8, 3) := by decide +kernel
theorem dX6_node_109 : decode cX6_node 109 = .ok (.bipush (-4), 2) := by decide +kernel
theorem dX6_node_111 : decode cX6_node 111 = .ok (.goto 15, 3) := by decide +kernel
theorem dX6_node_114 : decode cX6_node 114 = .ok (.aload_n 0, 1) := by decide +kernel
theorem dX6_node_115 : decode cX6_node 115 = .ok (.iload_n 1, 1) := by decide +kernel
theorem dX6_node_116 : decode cX6_node 116 = .ok (.aload_n 0, 1) := by decide +kernel
theorem dX6_node_117 : decode cX6_node 117 = .ok (.iload_n 1, 1) := by decide +kernel
theorem dX6_node_118 : decode cX6_node 118 = .ok (.invokevirtual 146, 3) := by decide +kernel
theorem dX6_node_121 : decode cX6_node 121 = .ok (.iconst 1, 1) := by decide +kernel
theorem dX6_node_122 : decode cX6_node 122 = .ok (.isub, 1) := by decide +kernel
theorem dX6_node_123 : decode cX6_node 123 = .ok (.invokevirtual 134, 3) := by decide +kernel
theorem dX6_node_126 : decode cX6_node 126 = .ok (.ireturn, 1) := by decide +kernel
theorem dX6_node_127 : decode cX6_node 127 = .ok (.aload_n 0, 1) := by decide +kernel
theorem dX6_node_128 : decode cX6_node 128 = .ok (.iload_n 1, 1) := by decide +kernel
theorem dX6_node_129 : decode cX6_node 129 = .ok (.iconst 1, 1) := by decide +kernel
theorem dX6_node_130 : decode cX6_node 130 = .ok (.invokevirtual 149, 3) := by decide +kernel
theorem dX6_node_133 : decode cX6_node 133 = .ok (.ireturn, 1) := by decide +kernel
theorem dX6_node_134 : decode cX6_node 134 = .ok (.aload_n 0, 1) := by decide +kernel
theorem dX6_node_135 : decode cX6_node 135 = .ok (.iload_n 1, 1) := by decide +kernel
theorem dX6_node_136 : decode cX6_node 136 = .ok (.iconst (-1), 1) := by decide +kernel
theorem dX6_node_137 : decode cX6_node 137 = .ok (.invokevirtual 149, 3) := by decide +kernel
theorem dX6_node_140 : decode cX6_node 140 = .ok (.ireturn, 1) := by decide +kernel
theorem dX6_node_141 : decode cX6_node 141 = .ok (.aload_n 0, 1) := by decide +kernel
theorem dX6_node_142 : decode cX6_node 142 = .ok (.iload_n 1, 1) := by decide +kernel
theorem dX6_node_143 : decode cX6_node 143 = .ok (.invokevirtual 146, 3) := by decide +kernel
theorem dX6_node_146 : decode cX6_node 146 = .ok (.ireturn, 1) := by decide +kernel
theorem dX6_node_147 : decode cX6_node 147 = .ok (.aload_n 0, 1) := by decide +kernel
theorem dX6_node_148 : decode cX6_node 148 = .ok (.iload_n 1, 1) := by decide +kernel
theorem dX6_node_149 : decode cX6_node 149 = .ok (.invokevirtual 125, 3) := by decide +kernel
theorem dX6_node_152 : decode cX6_node 152 = .ok (.ireturn, 1) := by decide +kernel
theorem dX6_node_153 : decode cX6_node 153 = .ok (.aload_n 0, 1) := by decide +kernel
theorem dX6_node_154 : decode cX6_node 154 = .ok (.iload_n 1, 1) := by decide +kernel
theorem dX6_node_155 : decode cX6_node 155 = .ok (.invokevirtual 152, 3) := by decide +kernel
theorem dX6_node_158 : decode cX6_node 158 = .ok (.ireturn, 1) := by decide +kernel
theorem dX6_node_159 : decode cX6_node 159 = .ok (.aload_n 0, 1) := by decide +kernel
theorem dX6_node_160 : decode cX6_node 160 = .ok (.aload_n 0, 1) := by decide +kernel
theorem dX6_node_161 : decode cX6_node 161 = .ok (.iload_n 1, 1) := by decide +kernel
theorem dX6_node_162 : decode cX6_node 162 = .ok (.invokevirtual 155, 3) := by decide +kernel
theorem dX6_node_165 : decode cX6_node 165 = .ok (.invokevirtual 122, 3) := by decide +kernel
theorem dX6_node_168 : decode cX6_node 168 = .ok (.aload_n 0, 1) := by decide +kernel
theorem dX6_node_169 : decode cX6_node 169 = .ok (.iload_n 1, 1) := by decide +kernel
theorem dX6_node_170 : decode cX6_node 170 = .ok (.invokevirtual 122, 3) := by decide +kernel
theorem dX6_node_173 : decode cX6_node 173 = .ok (.isub, 1) := by decide +kernel
theorem dX6_node_174 : decode cX6_node 174 = .ok (.ireturn, 1) := by decide +kernel
theorem dX6_node_175 : decode cX6_node 175 = .ok (.aload_n 0, 1) := by decide +kernel
theorem dX6_node_176 : decode cX6_node 176 = .ok (.iload_n 1, 1) := by decide +kernel
theorem dX6_node_177 : decode cX6_node 177 = .ok (.invokevirtual 158, 3) := by decide +kernel
theorem dX6_node_180 : decode cX6_node 180 = .ok (.ireturn, 1) := by decide +kernel
theorem dX6_node_181 : decode cX6_node 181 = .ok (.aload_n 0, 1) := by decide +kernel
theorem dX6_node_182 : decode cX6_node 182 = .ok (.iload_n 1, 1) := by decide +kernel
theorem dX6_node_183 : decode cX6_node 183 = .ok (.invokevirtual 131, 3) := by decide +kernel
theorem dX6_node_186 : decode cX6_node 186 = .ok (.ireturn, 1) := by decide +kernel
theorem dX6_node_187 : decode cX6_node 187 = .ok (.iconst (-1), 1) := by decide +kernel
theorem dX6_node_188 : decode cX6_node 188 = .ok (.ireturn, 1) := by decide +kernel
set_option maxRecDepth 20000 in
theorem ggX6_child_X6_isNode : GoodIn wsX6_child wsX6_isNode := goodIn_r _ [5, 6, 7, 8, 4, 9, 10, 11, 12, 13, 38, 39, 40, 41, 42, 43, 44, 45, 46, 47, 48, 49, 50, 51, 52, 53, 54, 55] rfl (by decide +kernel)
set_option maxRecDepth 20000 in
theorem gX6_child_X6_isNode : GoodIn wsX6_child (wsV RX6 140 RX6 yX6_isNode wsX6_isNode) := goodIn_app (goodIn_of _ (by decide +kernel)) ggX6_child_X6_isNode
set_option maxRecDepth 20000 in
theorem ggX6_child_X6_childOf : GoodIn wsX6_child wsX6_childOf := goodIn_r _ [17, 18, 19, 20, 4, 21, 22, 23, 24, 25, 10, 26, 27, 28, 29, 30, 31, 32, 33, 34, 35, 36, 37, 38, 39, 40, 41, 42, 43, 44, 45, 46, 47, 48, 49, 50, 51, 52, 53, 54, 55] rfl (by decide +kernel)
set_option maxRecDepth 20000 in
theorem gX6_child_X6_childOf : GoodIn wsX6_child (wsV RX6 134 RX6 yX6_childOf wsX6_childOf) := goodIn_app (goodIn_of _ (by decide +kernel)) ggX6_child_X6_childOf
theorem dX6_child_0 : decode cX6_child 0 = .ok (.aload_n 0, 1) := by decide +kernel
theorem dX6_child_1 : decode cX6_child 1 = .ok (.iload_n 1, 1) := by decide +kernel
theorem dX6_child_2 : decode cX6_child 2 = .ok (.invokevirtual 140, 3) := by decide +kernel
theorem dX6_child_5 : decode cX6_child 5 = .ok (.ifCond .eq 7, 3) := by decide +kernel
theorem dX6_child_8 : decode cX6_child 8 = .ok (.iload_n 2, 1) := by decide +kernel
theorem dX6_child_9 : decode cX6_child 9 = .ok (.ifCond .ge 7, 3) := by decide +kernel
theorem dX6_child_12 : decode cX6_child 12 = .ok (.iconst (-1), 1) := by decide +kernel
theorem dX6_child_13 : decode cX6_child 13 = .ok (.goto 9, 3) := by decide +kernel
theorem dX6_child_16 : decode cX6_child 16 = .ok (.aload_n 0, 1) := by decide +kernel
theorem dX6_child_17 : decode cX6_child 17 = .ok (.iload_n 1, 1) := by decide +kernel
theorem dX6_child_18 : decode cX6_child 18 = .ok (.iload_n 2, 1) := by decide +kernel
theorem dX6_child_19 : decode cX6_child 19 = .ok (.invokevirtual 134, 3) := by decide +kernel
theorem dX6_child_22 : decode cX6_child 22 = .ok (.ireturn, 1) := by decide +kernel
set_option maxRecDepth 20000 in
theorem ggX6_below_X6_many : GoodIn wsX6_below wsX6_many := goodIn_r _ [5, 6, 34, 35, 36, 37, 38, 39, 40, 41, 42, 43, 44, 45, 46, 47, 48, 49, 50, 51] rfl (by decide +kernel)
set_option maxRecDepth 20000 in
theorem gX6_below_X6_many : GoodIn wsX6_below (wsV RX6 89 RX6 yX6_many wsX6_many) := goodIn_app (goodIn_of _ (by decide +kernel)) ggX6_below_X6_many
set_option maxRecDepth 20000 in
theorem ggX6_below_X6_isNode : GoodIn wsX6_below wsX6_isNode := goodIn_r _ [10, 1, 2, 3, 4, 5, 6, 11, 12, 13, 34, 35, 36, 37, 38, 39, 40, 41, 42, 43, 44, 45, 46, 47, 48, 49, 50, 51] rfl (by decide +kernel)
set_option maxRecDepth 20000 in
theorem gX6_below_X6_isNode : GoodIn wsX6_below (wsV RX6 140 RX6 yX6_isNode wsX6_isNode) := goodIn_app (goodIn_of _ (by decide +kernel)) ggX6_below_X6_isNode
set_option maxRecDepth 20000 in
theorem ggX6_below_X6_fromBelow : GoodIn wsX6_below wsX6_fromBelow := goodIn_r _ [17, 18, 19, 20, 4, 21, 6, 22, 23, 24, 25, 26, 27, 28, 29, 30, 31, 32, 33, 34, 35, 36, 37, 38, 39, 40, 41, 42, 43, 44, 45, 46, 47, 48, 49, 50, 51] rfl (by decide +kernel)
set_option maxRecDepth 20000 in
theorem gX6_below_X6_fromBelow : GoodIn wsX6_below (wsV RX6 158 RX6 yX6_fromBelow wsX6_fromBelow) := goodIn_app (goodIn_of _ (by decide +kernel)) ggX6_below_X6_fromBelow
theorem dX6_below_0 : decode cX6_below 0 = .ok (.iconst 0, 1) := by decide +kernel
theorem dX6_below_1 : decode cX6_below 1 = .ok (.istore_n 2, 1) := by decide +kernel
theorem dX6_below_2 : decode cX6_below 2 = .ok (.iload_n 2, 1) := by decide +kernel
theorem dX6_below_3 : decode cX6_below 3 = .ok (.aload_n 0, 1) := by decide +kernel
theorem dX6_below_4 : decode cX6_below 4 = .ok (.invokevirtual 89, 3) := by decide +kernel
theorem dX6_below_7 : decode cX6_below 7 = .ok (.if_icmp .ge 28, 3) := by decide +kernel
theorem dX6_below_10 : decode cX6_below 10 = .ok (.aload_n 0, 1) := by decide +kernel
theorem dX6_below_11 : decode cX6_below 11 = .ok (.iload_n 1, 1) := by decide +kernel
theorem dX6_below_12 : decode cX6_below 12 = .ok (.invokevirtual 140, 3) := by decide +kernel
theorem dX6_below_15 : decode cX6_below 15 = .ok (.ifCond .eq 20, 3) := by decide +kernel
theorem dX6_below_18 : decode cX6_below 18 = .ok (.aload_n 0, 1) := by decide +kernel
theorem dX6_below_19 : decode cX6_below 19 = .ok (.iload_n 2, 1) := by decide +kernel
theorem dX6_below_20 : decode cX6_below 20 = .ok (.invokevirtual 158, 3) := by decide +kernel
theorem dX6_below_23 : decode cX6_below 23 = .ok (.iload_n 1, 1) := by decide +kernel
theorem dX6_below_24 : decode cX6_below 24 = .ok (.if_icmp .ne 5, 3) := by decide +kernel
theorem dX6_below_27 : decode cX6_below 27 = .ok (.iload_n 2, 1) := by decide +kernel
theorem dX6_below_28 : decode cX6_below 28 = .ok (.ireturn, 1) := by decide +kernel
theorem dX6_below_29 : decode cX6_below 29 = .ok (.iinc 2 1, 3) := by decide +kernel
theorem dX6_below_32 : decode cX6_below 32 = .ok (.goto (-30), 3) := by decide +kernel
theorem dX6_below_35 : decode cX6_below 35 = .ok (.iconst (-1), 1) := by decide +kernel
theorem dX6_below_36 : decode cX6_below 36 = .ok (.ireturn, 1) := by decide +kernel
set_option maxRecDepth 20000 in
theorem ggX6_up_X6_isNode : GoodIn wsX6_up wsX6_isNode := goodIn_r _ [5, 6, 7, 8, 4, 9, 10, 11, 12, 13, 30, 31, 32, 33, 34, 35, 36, 37, 38, 39, 40, 41, 42, 43, 44, 45, 46, 47] rfl (by decide +kernel)
set_option maxRecDepth 20000 in
theorem gX6_up_X6_isNode : GoodIn wsX6_up (wsV RX6 140 RX6 yX6_isNode wsX6_isNode) := goodIn_app (goodIn_of _ (by decide +kernel)) ggX6_up_X6_isNode
set_option maxRecDepth 20000 in
theorem ggX6_up_X6_upFrom : GoodIn wsX6_up wsX6_upFrom := goodIn_r _ [17, 18, 19, 20, 4, 21, 22, 23, 24, 25, 10, 26, 27, 28, 29, 30, 31, 32, 33, 34, 35, 36, 37, 38, 39, 40, 41, 42, 43, 44, 45, 46, 47] rfl (by decide +kernel)
set_option maxRecDepth 20000 in
theorem gX6_up_X6_upFrom : GoodIn wsX6_up (wsV RX6 128 RX6 yX6_upFrom wsX6_upFrom) := goodIn_app (goodIn_of _ (by decide +kernel)) ggX6_up_X6_upFrom
theorem dX6_up_0 : decode cX6_up 0 = .ok (.aload_n 0, 1) := by decide +kernel
theorem dX6_up_1 : decode cX6_up 1 = .ok (.iload_n 1, 1) := by decide +kernel
theorem dX6_up_2 : decode cX6_up 2 = .ok (.invokevirtual 140, 3) := by decide +kernel
theorem dX6_up_5 : decode cX6_up 5 = .ok (.ifCond .eq 7, 3) := by decide +kernel
theorem dX6_up_8 : decode cX6_up 8 = .ok (.iload_n 2, 1) := by decide +kernel
theorem dX6_up_9 : decode cX6_up 9 = .ok (.ifCond .ge 7, 3) := by decide +kernel
theorem dX6_up_12 : decode cX6_up 12 = .ok (.iconst (-1), 1) := by decide +kernel
theorem dX6_up_13 : decode cX6_up 13 = .ok (.goto 9, 3) := by decide +kernel
theorem dX6_up_16 : decode cX6_up 16 = .ok (.aload_n 0, 1) := by decide +kernel
theorem dX6_up_17 : decode cX6_up 17 = .ok (.iload_n 1, 1) := by decide +kernel
theorem dX6_up_18 : decode cX6_up 18 = .ok (.iload_n 2, 1) := by decide +kernel
theorem dX6_up_19 : decode cX6_up 19 = .ok (.invokevirtual 128, 3) := by decide +kernel
theorem dX6_up_22 : decode cX6_up 22 = .ok (.ireturn, 1) := by decide +kernel
set_option maxRecDepth 20000 in
theorem ggX6_isAbove_X6_sizeOf : GoodIn wsX6_isAbove wsX6_sizeOf := goodIn_r _ [5, 6, 7, 8, 4, 9, 10, 11, 12, 13, 14, 15, 16, 17, 18, 19, 20, 21, 22, 23, 24, 25, 26, 27, 28, 29, 30, 31, 32] rfl (by decide +kernel)
set_option maxRecDepth 20000 in
theorem gX6_isAbove_X6_sizeOf : GoodIn wsX6_isAbove (wsV RX6 125 RX6 yX6_sizeOf wsX6_sizeOf) := goodIn_app (goodIn_of _ (by decide +kernel)) ggX6_isAbove_X6_sizeOf
theorem dX6_isAbove_0 : decode cX6_isAbove 0 = .ok (.iload_n 2, 1) := by decide +kernel
theorem dX6_isAbove_1 : decode cX6_isAbove 1 = .ok (.iload_n 1, 1) := by decide +kernel
theorem dX6_isAbove_2 : decode cX6_isAbove 2 = .ok (.if_icmp .lt 18, 3) := by decide +kernel
theorem dX6_isAbove_5 : decode cX6_isAbove 5 = .ok (.iload_n 2, 1) := by decide +kernel
theorem dX6_isAbove_6 : decode cX6_isAbove 6 = .ok (.iload_n 1, 1) := by decide +kernel
theorem dX6_isAbove_7 : decode cX6_isAbove 7 = .ok (.aload_n 0, 1) := by decide +kernel
theorem dX6_isAbove_8 : decode cX6_isAbove 8 = .ok (.iload_n 1, 1) := by decide +kernel
theorem dX6_isAbove_9 : decode cX6_isAbove 9 = .ok (.invokevirtual 125, 3) := by decide +kernel
theorem dX6_isAbove_12 : decode cX6_isAbove 12 = .ok (.iadd, 1) := by decide +kernel
theorem dX6_isAbove_13 : decode cX6_isAbove 13 = .ok (.if_icmp .ge 7, 3) := by decide +kernel
theorem dX6_isAbove_16 : decode cX6_isAbove 16 = .ok (.iconst 1, 1) := by decide +kernel
theorem dX6_isAbove_17 : decode cX6_isAbove 17 = .ok (.goto 4, 3) := by decide +kernel
theorem dX6_isAbove_20 : decode cX6_isAbove 20 = .ok (.iconst 0, 1) := by decide +kernel
theorem dX6_isAbove_21 : decode cX6_isAbove 21 = .ok (.ireturn, 1) := by decide +kernel
set_option maxRecDepth 20000 in
theorem ggX6_meetOf_X6_isAbove : GoodIn wsX6_meetOf wsX6_isAbove := goodIn_r _ [5, 6, 7, 8, 4, 9, 10, 11, 12, 13, 14, 15, 16, 17, 18, 31, 32, 33, 34, 35, 36, 37, 38, 39, 40, 41, 42, 43, 44, 45, 46, 47, 48] rfl (by decide +kernel)
set_option maxRecDepth 20000 in
theorem gX6_meetOf_X6_isAbove : GoodIn wsX6_meetOf (wsV RX6 161 RX6 yX6_isAbove wsX6_isAbove) := goodIn_app (goodIn_of _ (by decide +kernel)) ggX6_meetOf_X6_isAbove
set_option maxRecDepth 20000 in
theorem ggX6_meetOf_X6_upFrom : GoodIn wsX6_meetOf wsX6_upFrom := goodIn_r _ [22, 23, 24, 25, 4, 26, 10, 11, 12, 13, 14, 27, 28, 29, 30, 31, 32, 33, 34, 35, 36, 37, 38, 39, 40, 41, 42, 43, 44, 45, 46, 47, 48] rfl (by decide +kernel)
set_option maxRecDepth 20000 in
theorem gX6_meetOf_X6_upFrom : GoodIn wsX6_meetOf (wsV RX6 128 RX6 yX6_upFrom wsX6_upFrom) := goodIn_app (goodIn_of _ (by decide +kernel)) ggX6_meetOf_X6_upFrom
theorem dX6_meetOf_0 : decode cX6_meetOf 0 = .ok (.iload_n 1, 1) := by decide +kernel
theorem dX6_meetOf_1 : decode cX6_meetOf 1 = .ok (.istore_n 3, 1) := by decide +kernel
theorem dX6_meetOf_2 : decode cX6_meetOf 2 = .ok (.aload_n 0, 1) := by decide +kernel
theorem dX6_meetOf_3 : decode cX6_meetOf 3 = .ok (.iload_n 3, 1) := by decide +kernel
theorem dX6_meetOf_4 : decode cX6_meetOf 4 = .ok (.iload_n 2, 1) := by decide +kernel
theorem dX6_meetOf_5 : decode cX6_meetOf 5 = .ok (.invokevirtual 161, 3) := by decide +kernel
theorem dX6_meetOf_8 : decode cX6_meetOf 8 = .ok (.ifCond .ne 13, 3) := by decide +kernel
theorem dX6_meetOf_11 : decode cX6_meetOf 11 = .ok (.aload_n 0, 1) := by decide +kernel
theorem dX6_meetOf_12 : decode cX6_meetOf 12 = .ok (.iload_n 3, 1) := by decide +kernel
theorem dX6_meetOf_13 : decode cX6_meetOf 13 = .ok (.iconst 1, 1) := by decide +kernel
theorem dX6_meetOf_14 : decode cX6_meetOf 14 = .ok (.invokevirtual 128, 3) := by decide +kernel
theorem dX6_meetOf_17 : decode cX6_meetOf 17 = .ok (.istore_n 3, 1) := by decide +kernel
theorem dX6_meetOf_18 : decode cX6_meetOf 18 = .ok (.goto (-16), 3) := by decide +kernel
theorem dX6_meetOf_21 : decode cX6_meetOf 21 = .ok (.iload_n 3, 1) := by decide +kernel
theorem dX6_meetOf_22 : decode cX6_meetOf 22 = .ok (.ireturn, 1) := by decide +kernel
set_option maxRecDepth 20000 in
theorem ggX6_meet_X6_isNode : GoodIn wsX6_meet wsX6_isNode := goodIn_r _ [5, 6, 7, 8, 4, 9, 10, 11, 12, 13, 46, 47, 48, 49, 50, 51, 52, 53, 54, 55, 56, 57, 58, 59, 60, 61, 62, 63] rfl (by decide +kernel)
set_option maxRecDepth 20000 in
theorem gX6_meet_X6_isNode : GoodIn wsX6_meet (wsV RX6 140 RX6 yX6_isNode wsX6_isNode) := goodIn_app (goodIn_of _ (by decide +kernel)) ggX6_meet_X6_isNode
set_option maxRecDepth 20000 in
theorem ggX6_meet_X6_meetOf : GoodIn wsX6_meet wsX6_meetOf := goodIn_r _ [17, 18, 19, 20, 4, 21, 22, 23, 24, 25, 26, 27, 28, 29, 10, 30, 31, 32, 33, 34, 35, 36, 37, 38, 39, 40, 41, 42, 43, 44, 45, 46, 47, 48, 49, 50, 51, 52, 53, 54, 55, 56, 57, 58, 59, 60, 61, 62, 63] rfl (by decide +kernel)
set_option maxRecDepth 20000 in
theorem gX6_meet_X6_meetOf : GoodIn wsX6_meet (wsV RX6 164 RX6 yX6_meetOf wsX6_meetOf) := goodIn_app (goodIn_of _ (by decide +kernel)) ggX6_meet_X6_meetOf
theorem dX6_meet_0 : decode cX6_meet 0 = .ok (.aload_n 0, 1) := by decide +kernel
theorem dX6_meet_1 : decode cX6_meet 1 = .ok (.iload_n 1, 1) := by decide +kernel
theorem dX6_meet_2 : decode cX6_meet 2 = .ok (.invokevirtual 140, 3) := by decide +kernel
theorem dX6_meet_5 : decode cX6_meet 5 = .ok (.ifCond .eq 20, 3) := by decide +kernel
theorem dX6_meet_8 : decode cX6_meet 8 = .ok (.aload_n 0, 1) := by decide +kernel
theorem dX6_meet_9 : decode cX6_meet 9 = .ok (.iload_n 2, 1) := by decide +kernel
theorem dX6_meet_10 : decode cX6_meet 10 = .ok (.invokevirtual 140, 3) := by decide +kernel
theorem dX6_meet_13 : decode cX6_meet 13 = .ok (.ifCond .eq 12, 3) := by decide +kernel
theorem dX6_meet_16 : decode cX6_meet 16 = .ok (.aload_n 0, 1) := by decide +kernel
theorem dX6_meet_17 : decode cX6_meet 17 = .ok (.iload_n 1, 1) := by decide +kernel
theorem dX6_meet_18 : decode cX6_meet 18 = .ok (.iload_n 2, 1) := by decide +kernel
theorem dX6_meet_19 : decode cX6_meet 19 = .ok (.invokevirtual 164, 3) := by decide +kernel
theorem dX6_meet_22 : decode cX6_meet 22 = .ok (.goto 4, 3) := by decide +kernel
theorem dX6_meet_25 : decode cX6_meet 25 = .ok (.iconst (-1), 1) := by decide +kernel
theorem dX6_meet_26 : decode cX6_meet 26 = .ok (.ireturn, 1) := by decide +kernel
set_option maxRecDepth 20000 in
theorem ggX6_way_X6_isNode : GoodIn wsX6_way wsX6_isNode := goodIn_r _ [5, 6, 7, 8, 4, 9, 10, 11, 12, 13, 46, 47, 48, 49, 50, 51, 52, 53, 54, 55, 56, 57, 58, 59, 60, 61, 62, 63] rfl (by decide +kernel)
set_option maxRecDepth 20000 in
theorem gX6_way_X6_isNode : GoodIn wsX6_way (wsV RX6 140 RX6 yX6_isNode wsX6_isNode) := goodIn_app (goodIn_of _ (by decide +kernel)) ggX6_way_X6_isNode
set_option maxRecDepth 20000 in
theorem ggX6_way_X6_depthOf : GoodIn wsX6_way wsX6_depthOf := goodIn_r _ [17, 18, 19, 20, 4, 21, 10, 22, 23, 24, 25, 46, 47, 48, 49, 50, 51, 52, 53, 54, 55, 56, 57, 58, 59, 60, 61, 62, 63] rfl (by decide +kernel)
set_option maxRecDepth 20000 in
theorem gX6_way_X6_depthOf : GoodIn wsX6_way (wsV RX6 122 RX6 yX6_depthOf wsX6_depthOf) := goodIn_app (goodIn_of _ (by decide +kernel)) ggX6_way_X6_depthOf
set_option maxRecDepth 20000 in
theorem ggX6_way_X6_meetOf : GoodIn wsX6_way wsX6_meetOf := goodIn_r _ [29, 30, 31, 32, 4, 33, 34, 35, 36, 37, 18, 19, 20, 21, 10, 38, 39, 40, 41, 42, 43, 44, 45, 14, 15, 16, 17, 22, 23, 24, 25, 46, 47, 48, 49, 50, 51, 52, 53, 54, 55, 56, 57, 58, 59, 60, 61, 62, 63] rfl (by decide +kernel)
set_option maxRecDepth 20000 in
theorem gX6_way_X6_meetOf : GoodIn wsX6_way (wsV RX6 164 RX6 yX6_meetOf wsX6_meetOf) := goodIn_app (goodIn_of _ (by decide +kernel)) ggX6_way_X6_meetOf
theorem dX6_way_0 : decode cX6_way 0 = .ok (.aload_n 0, 1) := by decide +kernel
theorem dX6_way_1 : decode cX6_way 1 = .ok (.iload_n 1, 1) := by decide +kernel
theorem dX6_way_2 : decode cX6_way 2 = .ok (.invokevirtual 140, 3) := by decide +kernel
theorem dX6_way_5 : decode cX6_way 5 = .ok (.ifCond .eq 38, 3) := by decide +kernel
theorem dX6_way_8 : decode cX6_way 8 = .ok (.aload_n 0, 1) := by decide +kernel
theorem dX6_way_9 : decode cX6_way 9 = .ok (.iload_n 2, 1) := by decide +kernel
theorem dX6_way_10 : decode cX6_way 10 = .ok (.invokevirtual 140, 3) := by decide +kernel
theorem dX6_way_13 : decode cX6_way 13 = .ok (.ifCond .eq 30, 3) := by decide +kernel
theorem dX6_way_16 : decode cX6_way 16 = .ok (.aload_n 0, 1) := by decide +kernel
theorem dX6_way_17 : decode cX6_way 17 = .ok (.iload_n 1, 1) := by decide +kernel
theorem dX6_way_18 : decode cX6_way 18 = .ok (.invokevirtual 122, 3) := by decide +kernel
theorem dX6_way_21 : decode cX6_way 21 = .ok (.aload_n 0, 1) := by decide +kernel
theorem dX6_way_22 : decode cX6_way 22 = .ok (.iload_n 2, 1) := by decide +kernel
theorem dX6_way_23 : decode cX6_way 23 = .ok (.invokevirtual 122, 3) := by decide +kernel
theorem dX6_way_26 : decode cX6_way 26 = .ok (.iadd, 1) := by decide +kernel
theorem dX6_way_27 : decode cX6_way 27 = .ok (.iconst 2, 1) := by decide +kernel
theorem dX6_way_28 : decode cX6_way 28 = .ok (.aload_n 0, 1) := by decide +kernel
theorem dX6_way_29 : decode cX6_way 29 = .ok (.aload_n 0, 1) := by decide +kernel
theorem dX6_way_30 : decode cX6_way 30 = .ok (.iload_n 1, 1) := by decide +kernel
theorem dX6_way_31 : decode cX6_way 31 = .ok (.iload_n 2, 1) := by decide +kernel
theorem dX6_way_32 : decode cX6_way 32 = .ok (.invokevirtual 164, 3) := by decide +kernel
theorem dX6_way_35 : decode cX6_way 35 = .ok (.invokevirtual 122, 3) := by decide +kernel
theorem dX6_way_38 : decode cX6_way 38 = .ok (.imul, 1) := by decide +kernel
theorem dX6_way_39 : decode cX6_way 39 = .ok (.isub, 1) := by decide +kernel
theorem dX6_way_40 : decode cX6_way 40 = .ok (.goto 4, 3) := by decide +kernel
theorem dX6_way_43 : decode cX6_way 43 = .ok (.iconst (-1), 1) := by decide +kernel
theorem dX6_way_44 : decode cX6_way 44 = .ok (.ireturn, 1) := by decide +kernel
set_option maxRecDepth 20000 in
theorem ggX6_level_X6_in : GoodIn wsX6_level wsX6_in := goodIn_r _ [5] rfl (by decide +kernel)
set_option maxRecDepth 20000 in
theorem gX6_level_X6_in : GoodIn wsX6_level (va_wsS RX6 41 yX6_in wsX6_in) := goodIn_app (goodIn_of _ (by decide +kernel)) ggX6_level_X6_in
set_option maxRecDepth 20000 in
theorem ggX6_level_X6_many : GoodIn wsX6_level wsX6_many := goodIn_r _ [9, 10, 23, 24, 25, 26, 27, 28, 29, 30, 31, 32, 33, 34, 35, 36, 37, 38, 39, 40] rfl (by decide +kernel)
set_option maxRecDepth 20000 in
theorem gX6_level_X6_many : GoodIn wsX6_level (wsV RX6 89 RX6 yX6_many wsX6_many) := goodIn_app (goodIn_of _ (by decide +kernel)) ggX6_level_X6_many
set_option maxRecDepth 20000 in
theorem ggX6_level_X6_depthOf : GoodIn wsX6_level wsX6_depthOf := goodIn_r _ [14, 15, 16, 17, 4, 18, 10, 19, 20, 21, 22, 23, 24, 25, 26, 27, 28, 29, 30, 31, 32, 33, 34, 35, 36, 37, 38, 39, 40] rfl (by decide +kernel)
set_option maxRecDepth 20000 in
theorem gX6_level_X6_depthOf : GoodIn wsX6_level (wsV RX6 122 RX6 yX6_depthOf wsX6_depthOf) := goodIn_app (goodIn_of _ (by decide +kernel)) ggX6_level_X6_depthOf
theorem dX6_level_0 : decode cX6_level 0 = .ok (.iload_n 1, 1) := by decide +kernel
theorem dX6_level_1 : decode cX6_level 1 = .ok (.ifCond .lt 15, 3) := by decide +kernel
theorem dX6_level_4 : decode cX6_level 4 = .ok (.iload_n 2, 1) := by decide +kernel
theorem dX6_level_5 : decode cX6_level 5 = .ok (.i2l, 1) := by decide +kernel
theorem dX6_level_6 : decode cX6_level 6 = .ok (.lconst 0, 1) := by decide +kernel
theorem dX6_level_7 : decode cX6_level 7 = .ok (.ldc2_w 109, 3) := by decide +kernel
theorem dX6_level_10 : decode cX6_level 10 = .ok (.invokestatic 41, 3) := by decide +kernel
theorem dX6_level_13 : decode cX6_level 13 = .ok (.ifCond .ne 5, 3) := by decide +kernel
theorem dX6_level_16 : decode cX6_level 16 = .ok (.iconst (-1), 1) := by decide +kernel
theorem dX6_level_17 : decode cX6_level 17 = .ok (.ireturn, 1) := by decide +kernel
theorem dX6_level_18 : decode cX6_level 18 = .ok (.bipush (-4), 2) := by decide +kernel
theorem dX6_level_20 : decode cX6_level 20 = .ok (.istore_n 3, 1) := by decide +kernel
theorem dX6_level_21 : decode cX6_level 21 = .ok (.bipush (-4), 2) := by decide +kernel
theorem dX6_level_23 : decode cX6_level 23 = .ok (.istore 4, 2) := by decide +kernel
theorem dX6_level_25 : decode cX6_level 25 = .ok (.iconst 0, 1) := by decide +kernel
theorem dX6_level_26 : decode cX6_level 26 = .ok (.istore 5, 2) := by decide +kernel
theorem dX6_level_28 : decode cX6_level 28 = .ok (.iconst 0, 1) := by decide +kernel
theorem dX6_level_29 : decode cX6_level 29 = .ok (.istore 6, 2) := by decide +kernel
theorem dX6_level_31 : decode cX6_level 31 = .ok (.iload 6, 2) := by decide +kernel
theorem dX6_level_33 : decode cX6_level 33 = .ok (.aload_n 0, 1) := by decide +kernel
theorem dX6_level_34 : decode cX6_level 34 = .ok (.invokevirtual 89, 3) := by decide +kernel
theorem dX6_level_37 : decode cX6_level 37 = .ok (.if_icmp .ge 39, 3) := by decide +kernel
theorem dX6_level_40 : decode cX6_level 40 = .ok (.aload_n 0, 1) := by decide +kernel
theorem dX6_level_41 : decode cX6_level 41 = .ok (.iload 6, 2) := by decide +kernel
theorem dX6_level_43 : decode cX6_level 43 = .ok (.invokevirtual 122, 3) := by decide +kernel
theorem dX6_level_46 : decode cX6_level 46 = .ok (.iload_n 1, 1) := by decide +kernel
theorem dX6_level_47 : decode cX6_level 47 = .ok (.if_icmp .ne 23, 3) := by decide +kernel
theorem dX6_level_50 : decode cX6_level 50 = .ok (.iload_n 3, 1) := by decide +kernel
theorem dX6_level_51 : decode cX6_level 51 = .ok (.bipush (-4), 2) := by decide +kernel
theorem dX6_level_53 : decode cX6_level 53 = .ok (.if_icmp .ne 8, 3) := by decide +kernel
theorem dX6_level_56 : decode cX6_level 56 = .ok (.iload 6, 2) := by decide +kernel
theorem dX6_level_58 : decode cX6_level 58 = .ok (.goto 4, 3) := by decide +kernel
theorem dX6_level_61 : decode cX6_level 61 = .ok (.iload_n 3, 1) := by decide +kernel
theorem dX6_level_62 : decode cX6_level 62 = .ok (.istore_n 3, 1) := by decide +kernel
theorem dX6_level_63 : decode cX6_level 63 = .ok (.iload 6, 2) := by decide +kernel
theorem dX6_level_65 : decode cX6_level 65 = .ok (.istore 4, 2) := by decide +kernel
theorem dX6_level_67 : decode cX6_level 67 = .ok (.iinc 5 1, 3) := by decide +kernel
theorem dX6_level_70 : decode cX6_level 70 = .ok (.iinc 6 1, 3) := by decide +kernel
theorem dX6_level_73 : decode cX6_level 73 = .ok (.goto (-42), 3) := by decide +kernel
theorem dX6_level_76 : decode cX6_level 76 = .ok (.iload_n 2, 1) := by decide +kernel
theorem dX6_level_77 : decode cX6_level 77 = .ok (.ifCond .ne 7, 3) := by decide +kernel
theorem dX6_level_80 : decode cX6_level 80 = .ok (.iload_n 3, 1) := by decide +kernel
theorem dX6_level_81 : decode cX6_level 81 = .ok (.goto 15, 3) := by decide +kernel
theorem dX6_level_84 : decode cX6_level 84 = .ok (.iload_n 2, 1) := by decide +kernel
theorem dX6_level_85 : decode cX6_level 85 = .ok (.iconst 1, 1) := by decide +kernel
theorem dX6_level_86 : decode cX6_level 86 = .ok (.if_icmp .ne 8, 3) := by decide +kernel
theorem dX6_level_89 : decode cX6_level 89 = .ok (.iload 4, 2) := by decide +kernel
theorem dX6_level_91 : decode cX6_level 91 = .ok (.goto 5, 3) := by decide +kernel
theorem dX6_level_94 : decode cX6_level 94 = .ok (.iload 5, 2) := by decide +kernel
theorem dX6_level_96 : decode cX6_level 96 = .ok (.ireturn, 1) := by decide +kernel
set_option maxRecDepth 20000 in
theorem ggX6_beside_X6_isNode : GoodIn wsX6_beside wsX6_isNode := goodIn_r _ [5, 6, 7, 8, 4, 9, 10, 11, 12, 13, 26, 27, 28, 29, 30, 31, 32, 33, 34, 35, 36, 37, 38, 39, 40, 41, 42, 43] rfl (by decide +kernel)
set_option maxRecDepth 20000 in
theorem gX6_beside_X6_isNode : GoodIn wsX6_beside (wsV RX6 140 RX6 yX6_isNode wsX6_isNode) := goodIn_app (goodIn_of _ (by decide +kernel)) ggX6_beside_X6_isNode
set_option maxRecDepth 20000 in
theorem ggX6_beside_X6_in : GoodIn wsX6_beside wsX6_in := goodIn_r _ [13] rfl (by decide +kernel)
set_option maxRecDepth 20000 in
theorem gX6_beside_X6_in : GoodIn wsX6_beside (va_wsS RX6 41 yX6_in wsX6_in) := goodIn_app (goodIn_of _ (by decide +kernel)) ggX6_beside_X6_in
set_option maxRecDepth 20000 in
theorem ggX6_beside_X6_depthOf : GoodIn wsX6_beside wsX6_depthOf := goodIn_r _ [17, 18, 19, 20, 4, 21, 10, 22, 23, 24, 25, 26, 27, 28, 29, 30, 31, 32, 33, 34, 35, 36, 37, 38, 39, 40, 41, 42, 43] rfl (by decide +kernel)
set_option maxRecDepth 20000 in
theorem gX6_beside_X6_depthOf : GoodIn wsX6_beside (wsV RX6 122 RX6 yX6_depthOf wsX6_depthOf) := goodIn_app (goodIn_of _ (by decide +kernel)) ggX6_beside_X6_depthOf
theorem dX6_beside_0 : decode cX6_beside 0 = .ok (.aload_n 0, 1) := by decide +kernel
theorem dX6_beside_1 : decode cX6_beside 1 = .ok (.iload_n 1, 1) := by decide +kernel
theorem dX6_beside_2 : decode cX6_beside 2 = .ok (.invokevirtual 140, 3) := by decide +kernel
theorem dX6_beside_5 : decode cX6_beside 5 = .ok (.ifCond .eq 13, 3) := by decide +kernel
theorem dX6_beside_8 : decode cX6_beside 8 = .ok (.iload_n 2, 1) := by decide +kernel
theorem dX6_beside_9 : decode cX6_beside 9 = .ok (.i2l, 1) := by decide +kernel
theorem dX6_beside_10 : decode cX6_beside 10 = .ok (.lconst 0, 1) := by decide +kernel
theorem dX6_beside_11 : decode cX6_beside 11 = .ok (.lconst 1, 1) := by decide +kernel
theorem dX6_beside_12 : decode cX6_beside 12 = .ok (.invokestatic 41, 3) := by decide +kernel
theorem dX6_beside_15 : decode cX6_beside 15 = .ok (.ifCond .ne 5, 3) := by decide +kernel
theorem dX6_beside_18 : decode cX6_beside 18 = .ok (.iconst (-1), 1) := by decide +kernel
theorem dX6_beside_19 : decode cX6_beside 19 = .ok (.ireturn, 1) := by decide +kernel
theorem dX6_beside_20 : decode cX6_beside 20 = .ok (.iload_n 2, 1) := by decide +kernel
theorem dX6_beside_21 : decode cX6_beside 21 = .ok (.ifCond .ne 7, 3) := by decide +kernel
theorem dX6_beside_24 : decode cX6_beside 24 = .ok (.iconst 1, 1) := by decide +kernel
theorem dX6_beside_25 : decode cX6_beside 25 = .ok (.goto 4, 3) := by decide +kernel
theorem dX6_beside_28 : decode cX6_beside 28 = .ok (.iconst (-1), 1) := by decide +kernel
theorem dX6_beside_29 : decode cX6_beside 29 = .ok (.istore_n 3, 1) := by decide +kernel
theorem dX6_beside_30 : decode cX6_beside 30 = .ok (.iload_n 1, 1) := by decide +kernel
theorem dX6_beside_31 : decode cX6_beside 31 = .ok (.iload_n 3, 1) := by decide +kernel
theorem dX6_beside_32 : decode cX6_beside 32 = .ok (.iadd, 1) := by decide +kernel
theorem dX6_beside_33 : decode cX6_beside 33 = .ok (.istore 4, 2) := by decide +kernel
theorem dX6_beside_35 : decode cX6_beside 35 = .ok (.aload_n 0, 1) := by decide +kernel
theorem dX6_beside_36 : decode cX6_beside 36 = .ok (.iload 4, 2) := by decide +kernel
theorem dX6_beside_38 : decode cX6_beside 38 = .ok (.invokevirtual 140, 3) := by decide +kernel
theorem dX6_beside_41 : decode cX6_beside 41 = .ok (.ifCond .eq 26, 3) := by decide +kernel
theorem dX6_beside_44 : decode cX6_beside 44 = .ok (.aload_n 0, 1) := by decide +kernel
theorem dX6_beside_45 : decode cX6_beside 45 = .ok (.iload 4, 2) := by decide +kernel
theorem dX6_beside_47 : decode cX6_beside 47 = .ok (.invokevirtual 122, 3) := by decide +kernel
theorem dX6_beside_50 : decode cX6_beside 50 = .ok (.aload_n 0, 1) := by decide +kernel
theorem dX6_beside_51 : decode cX6_beside 51 = .ok (.iload_n 1, 1) := by decide +kernel
theorem dX6_beside_52 : decode cX6_beside 52 = .ok (.invokevirtual 122, 3) := by decide +kernel
theorem dX6_beside_55 : decode cX6_beside 55 = .ok (.if_icmp .eq 12, 3) := by decide +kernel
theorem dX6_beside_58 : decode cX6_beside 58 = .ok (.iload 4, 2) := by decide +kernel
theorem dX6_beside_60 : decode cX6_beside 60 = .ok (.iload_n 3, 1) := by decide +kernel
theorem dX6_beside_61 : decode cX6_beside 61 = .ok (.iadd, 1) := by decide +kernel
theorem dX6_beside_62 : decode cX6_beside 62 = .ok (.istore 4, 2) := by decide +kernel
theorem dX6_beside_64 : decode cX6_beside 64 = .ok (.goto (-29), 3) := by decide +kernel
theorem dX6_beside_67 : decode cX6_beside 67 = .ok (.aload_n 0, 1) := by decide +kernel
theorem dX6_beside_68 : decode cX6_beside 68 = .ok (.iload 4, 2) := by decide +kernel
theorem dX6_beside_70 : decode cX6_beside 70 = .ok (.invokevirtual 140, 3) := by decide +kernel
theorem dX6_beside_73 : decode cX6_beside 73 = .ok (.ifCond .eq 8, 3) := by decide +kernel
theorem dX6_beside_76 : decode cX6_beside 76 = .ok (.iload 4, 2) := by decide +kernel
theorem dX6_beside_78 : decode cX6_beside 78 = .ok (.goto 5, 3) := by decide +kernel
theorem dX6_beside_81 : decode cX6_beside 81 = .ok (.bipush (-4), 2) := by decide +kernel
theorem dX6_beside_83 : decode cX6_beside 83 = .ok (.ireturn, 1) := by decide +kernel
set_option maxRecDepth 20000 in
theorem ggX6_deepest_X6_isNode : GoodIn wsX6_deepest wsX6_isNode := goodIn_r _ [5, 6, 7, 8, 4, 9, 10, 11, 12, 13, 38, 39, 40, 41, 42, 43, 44, 45, 46, 47, 48, 49, 50, 51, 52, 53, 54, 55] rfl (by decide +kernel)
set_option maxRecDepth 20000 in
theorem gX6_deepest_X6_isNode : GoodIn wsX6_deepest (wsV RX6 140 RX6 yX6_isNode wsX6_isNode) := goodIn_app (goodIn_of _ (by decide +kernel)) ggX6_deepest_X6_isNode
set_option maxRecDepth 20000 in
theorem ggX6_deepest_X6_deepestOf : GoodIn wsX6_deepest wsX6_deepestOf := goodIn_r _ [17, 18, 19, 20, 4, 21, 22, 23, 24, 25, 10, 26, 27, 28, 29, 30, 31, 32, 33, 34, 35, 36, 37, 38, 39, 40, 41, 42, 43, 44, 45, 46, 47, 48, 49, 50, 51, 52, 53, 54, 55] rfl (by decide +kernel)
set_option maxRecDepth 20000 in
theorem gX6_deepest_X6_deepestOf : GoodIn wsX6_deepest (wsV RX6 155 RX6 yX6_deepestOf wsX6_deepestOf) := goodIn_app (goodIn_of _ (by decide +kernel)) ggX6_deepest_X6_deepestOf
theorem dX6_deepest_0 : decode cX6_deepest 0 = .ok (.aload_n 0, 1) := by decide +kernel
theorem dX6_deepest_1 : decode cX6_deepest 1 = .ok (.iload_n 1, 1) := by decide +kernel
theorem dX6_deepest_2 : decode cX6_deepest 2 = .ok (.invokevirtual 140, 3) := by decide +kernel
theorem dX6_deepest_5 : decode cX6_deepest 5 = .ok (.ifCond .eq 11, 3) := by decide +kernel
theorem dX6_deepest_8 : decode cX6_deepest 8 = .ok (.aload_n 0, 1) := by decide +kernel
theorem dX6_deepest_9 : decode cX6_deepest 9 = .ok (.iload_n 1, 1) := by decide +kernel
theorem dX6_deepest_10 : decode cX6_deepest 10 = .ok (.invokevirtual 155, 3) := by decide +kernel
theorem dX6_deepest_13 : decode cX6_deepest 13 = .ok (.goto 4, 3) := by decide +kernel
theorem dX6_deepest_16 : decode cX6_deepest 16 = .ok (.iconst (-1), 1) := by decide +kernel
theorem dX6_deepest_17 : decode cX6_deepest 17 = .ok (.ireturn, 1) := by decide +kernel
set_option maxRecDepth 20000 in
theorem ggX6_alike_X6_isNode : GoodIn wsX6_alike wsX6_isNode := goodIn_r _ [6, 7, 8, 9, 5, 10, 1, 11, 12, 13, 26, 27, 28, 29, 30, 31, 32, 33, 34, 35, 36, 37, 38, 39, 40, 41, 42, 43] rfl (by decide +kernel)
set_option maxRecDepth 20000 in
theorem gX6_alike_X6_isNode : GoodIn wsX6_alike (wsV RX6 140 RX6 yX6_isNode wsX6_isNode) := goodIn_app (goodIn_of _ (by decide +kernel)) ggX6_alike_X6_isNode
set_option maxRecDepth 20000 in
theorem ggX6_alike_X6_sizeOf : GoodIn wsX6_alike wsX6_sizeOf := goodIn_r _ [17, 18, 19, 20, 5, 21, 1, 22, 23, 24, 25, 26, 27, 28, 29, 30, 31, 32, 33, 34, 35, 36, 37, 38, 39, 40, 41, 42, 43] rfl (by decide +kernel)
set_option maxRecDepth 20000 in
theorem gX6_alike_X6_sizeOf : GoodIn wsX6_alike (wsV RX6 125 RX6 yX6_sizeOf wsX6_sizeOf) := goodIn_app (goodIn_of _ (by decide +kernel)) ggX6_alike_X6_sizeOf
set_option maxRecDepth 20000 in
theorem ggX6_alike_X6_openOf : GoodIn wsX6_alike wsX6_openOf := goodIn_r _ [21, 1, 26, 27, 28, 29, 30, 31, 32, 33, 34, 35, 36, 37, 38, 39, 40, 41, 42, 43] rfl (by decide +kernel)
set_option maxRecDepth 20000 in
theorem gX6_alike_X6_openOf : GoodIn wsX6_alike (wsV RX6 99 RX6 yX6_openOf wsX6_openOf) := goodIn_app (goodIn_of _ (by decide +kernel)) ggX6_alike_X6_openOf
theorem dX6_alike_0 : decode cX6_alike 0 = .ok (.aload_n 0, 1) := by decide +kernel
theorem dX6_alike_1 : decode cX6_alike 1 = .ok (.iload_n 1, 1) := by decide +kernel
theorem dX6_alike_2 : decode cX6_alike 2 = .ok (.invokevirtual 140, 3) := by decide +kernel
theorem dX6_alike_5 : decode cX6_alike 5 = .ok (.ifCond .eq 11, 3) := by decide +kernel
theorem dX6_alike_8 : decode cX6_alike 8 = .ok (.aload_n 0, 1) := by decide +kernel
theorem dX6_alike_9 : decode cX6_alike 9 = .ok (.iload_n 2, 1) := by decide +kernel
theorem dX6_alike_10 : decode cX6_alike 10 = .ok (.invokevirtual 140, 3) := by decide +kernel
theorem dX6_alike_13 : decode cX6_alike 13 = .ok (.ifCond .ne 5, 3) := by decide +kernel
theorem dX6_alike_16 : decode cX6_alike 16 = .ok (.iconst (-1), 1) := by decide +kernel
theorem dX6_alike_17 : decode cX6_alike 17 = .ok (.ireturn, 1) := by decide +kernel
theorem dX6_alike_18 : decode cX6_alike 18 = .ok (.aload_n 0, 1) := by decide +kernel
theorem dX6_alike_19 : decode cX6_alike 19 = .ok (.iload_n 1, 1) := by decide +kernel
theorem dX6_alike_20 : decode cX6_alike 20 = .ok (.invokevirtual 125, 3) := by decide +kernel
theorem dX6_alike_23 : decode cX6_alike 23 = .ok (.aload_n 0, 1) := by decide +kernel
theorem dX6_alike_24 : decode cX6_alike 24 = .ok (.iload_n 2, 1) := by decide +kernel
theorem dX6_alike_25 : decode cX6_alike 25 = .ok (.invokevirtual 125, 3) := by decide +kernel
theorem dX6_alike_28 : decode cX6_alike 28 = .ok (.if_icmp .ne 7, 3) := by decide +kernel
theorem dX6_alike_31 : decode cX6_alike 31 = .ok (.iconst 1, 1) := by decide +kernel
theorem dX6_alike_32 : decode cX6_alike 32 = .ok (.goto 4, 3) := by decide +kernel
theorem dX6_alike_35 : decode cX6_alike 35 = .ok (.iconst 0, 1) := by decide +kernel
theorem dX6_alike_36 : decode cX6_alike 36 = .ok (.istore_n 3, 1) := by decide +kernel
theorem dX6_alike_37 : decode cX6_alike 37 = .ok (.aload_n 0, 1) := by decide +kernel
theorem dX6_alike_38 : decode cX6_alike 38 = .ok (.iload_n 1, 1) := by decide +kernel
theorem dX6_alike_39 : decode cX6_alike 39 = .ok (.invokevirtual 99, 3) := by decide +kernel
theorem dX6_alike_42 : decode cX6_alike 42 = .ok (.istore 4, 2) := by decide +kernel
theorem dX6_alike_44 : decode cX6_alike 44 = .ok (.aload_n 0, 1) := by decide +kernel
theorem dX6_alike_45 : decode cX6_alike 45 = .ok (.iload_n 2, 1) := by decide +kernel
theorem dX6_alike_46 : decode cX6_alike 46 = .ok (.invokevirtual 99, 3) := by decide +kernel
theorem dX6_alike_49 : decode cX6_alike 49 = .ok (.istore 5, 2) := by decide +kernel
theorem dX6_alike_51 : decode cX6_alike 51 = .ok (.iconst 0, 1) := by decide +kernel
theorem dX6_alike_52 : decode cX6_alike 52 = .ok (.istore 6, 2) := by decide +kernel
theorem dX6_alike_54 : decode cX6_alike 54 = .ok (.iload_n 3, 1) := by decide +kernel
theorem dX6_alike_55 : decode cX6_alike 55 = .ok (.ifCond .eq 50, 3) := by decide +kernel
theorem dX6_alike_58 : decode cX6_alike 58 = .ok (.iload 6, 2) := by decide +kernel
theorem dX6_alike_60 : decode cX6_alike 60 = .ok (.iconst 2, 1) := by decide +kernel
theorem dX6_alike_61 : decode cX6_alike 61 = .ok (.aload_n 0, 1) := by decide +kernel
theorem dX6_alike_62 : decode cX6_alike 62 = .ok (.iload_n 1, 1) := by decide +kernel
theorem dX6_alike_63 : decode cX6_alike 63 = .ok (.invokevirtual 125, 3) := by decide +kernel
theorem dX6_alike_66 : decode cX6_alike 66 = .ok (.imul, 1) := by decide +kernel
theorem dX6_alike_67 : decode cX6_alike 67 = .ok (.if_icmp .ge 38, 3) := by decide +kernel
theorem dX6_alike_70 : decode cX6_alike 70 = .ok (.aload_n 0, 1) := by decide +kernel
theorem dX6_alike_71 : decode cX6_alike 71 = .ok (.getfield 7, 3) := by decide +kernel
theorem dX6_alike_74 : decode cX6_alike 74 = .ok (.iload 4, 2) := by decide +kernel
theorem dX6_alike_76 : decode cX6_alike 76 = .ok (.iload 6, 2) := by decide +kernel
theorem dX6_alike_78 : decode cX6_alike 78 = .ok (.iadd, 1) := by decide +kernel
theorem dX6_alike_79 : decode cX6_alike 79 = .ok (.iaload, 1) := by decide +kernel
theorem dX6_alike_80 : decode cX6_alike 80 = .ok (.aload_n 0, 1) := by decide +kernel
theorem dX6_alike_81 : decode cX6_alike 81 = .ok (.getfield 7, 3) := by decide +kernel
theorem dX6_alike_84 : decode cX6_alike 84 = .ok (.iload 5, 2) := by decide +kernel
theorem dX6_alike_86 : decode cX6_alike 86 = .ok (.iload 6, 2) := by decide +kernel
theorem dX6_alike_88 : decode cX6_alike 88 = .ok (.iadd, 1) := by decide +kernel
theorem dX6_alike_89 : decode cX6_alike 89 = .ok (.iaload, 1) := by decide +kernel
theorem dX6_alike_90 : decode cX6_alike 90 = .ok (.if_icmp .ne 7, 3) := by decide +kernel
theorem dX6_alike_93 : decode cX6_alike 93 = .ok (.iconst 1, 1) := by decide +kernel
theorem dX6_alike_94 : decode cX6_alike 94 = .ok (.goto 4, 3) := by decide +kernel
theorem dX6_alike_97 : decode cX6_alike 97 = .ok (.iconst 0, 1) := by decide +kernel
theorem dX6_alike_98 : decode cX6_alike 98 = .ok (.istore_n 3, 1) := by decide +kernel
theorem dX6_alike_99 : decode cX6_alike 99 = .ok (.iinc 6 1, 3) := by decide +kernel
theorem dX6_alike_102 : decode cX6_alike 102 = .ok (.goto (-48), 3) := by decide +kernel
theorem dX6_alike_105 : decode cX6_alike 105 = .ok (.iload_n 3, 1) := by decide +kernel
theorem dX6_alike_106 : decode cX6_alike 106 = .ok (.ifCond .eq 7, 3) := by decide +kernel
theorem dX6_alike_109 : decode cX6_alike 109 = .ok (.iconst 1, 1) := by decide +kernel
theorem dX6_alike_110 : decode cX6_alike 110 = .ok (.goto 4, 3) := by decide +kernel
theorem dX6_alike_113 : decode cX6_alike 113 = .ok (.iconst 0, 1) := by decide +kernel
theorem dX6_alike_114 : decode cX6_alike 114 = .ok (.ireturn, 1) := by decide +kernel
set_option maxRecDepth 20000 in
theorem ggX6_weight_X6_isNode : GoodIn wsX6_weight wsX6_isNode := goodIn_r _ [6, 7, 8, 9, 5, 10, 1, 11, 12, 13, 14, 15, 16, 17, 18, 19, 20, 21, 22, 23, 24, 25, 26, 27, 28, 29, 30, 31] rfl (by decide +kernel)
set_option maxRecDepth 20000 in
theorem gX6_weight_X6_isNode : GoodIn wsX6_weight (wsV RX6 140 RX6 yX6_isNode wsX6_isNode) := goodIn_app (goodIn_of _ (by decide +kernel)) ggX6_weight_X6_isNode
theorem dX6_weight_0 : decode cX6_weight 0 = .ok (.aload_n 0, 1) := by decide +kernel
theorem dX6_weight_1 : decode cX6_weight 1 = .ok (.iload_n 1, 1) := by decide +kernel
theorem dX6_weight_2 : decode cX6_weight 2 = .ok (.invokevirtual 140, 3) := by decide +kernel
theorem dX6_weight_5 : decode cX6_weight 5 = .ok (.ifCond .eq 16, 3) := by decide +kernel
theorem dX6_weight_8 : decode cX6_weight 8 = .ok (.aload_n 0, 1) := by decide +kernel
theorem dX6_weight_9 : decode cX6_weight 9 = .ok (.getfield 7, 3) := by decide +kernel
theorem dX6_weight_12 : decode cX6_weight 12 = .ok (.sipush 128, 3) := by decide +kernel
theorem dX6_weight_15 : decode cX6_weight 15 = .ok (.iload_n 1, 1) := by decide +kernel
theorem dX6_weight_16 : decode cX6_weight 16 = .ok (.iadd, 1) := by decide +kernel
theorem dX6_weight_17 : decode cX6_weight 17 = .ok (.iaload, 1) := by decide +kernel
theorem dX6_weight_18 : decode cX6_weight 18 = .ok (.goto 4, 3) := by decide +kernel
theorem dX6_weight_21 : decode cX6_weight 21 = .ok (.iconst (-1), 1) := by decide +kernel
theorem dX6_weight_22 : decode cX6_weight 22 = .ok (.ireturn, 1) := by decide +kernel
set_option maxRecDepth 20000 in
theorem ggX6_set_X6_isNode : GoodIn wsX6_set wsX6_isNode := goodIn_r _ [6, 7, 8, 9, 5, 10, 1, 11, 12, 13, 14, 15, 16, 17, 18, 19, 20, 21, 22, 23, 24, 25, 26, 27, 28, 29, 30, 31] rfl (by decide +kernel)
set_option maxRecDepth 20000 in
theorem gX6_set_X6_isNode : GoodIn wsX6_set (wsV RX6 140 RX6 yX6_isNode wsX6_isNode) := goodIn_app (goodIn_of _ (by decide +kernel)) ggX6_set_X6_isNode
theorem dX6_set_0 : decode cX6_set 0 = .ok (.aload_n 0, 1) := by decide +kernel
theorem dX6_set_1 : decode cX6_set 1 = .ok (.iload_n 1, 1) := by decide +kernel
theorem dX6_set_2 : decode cX6_set 2 = .ok (.invokevirtual 140, 3) := by decide +kernel
theorem dX6_set_5 : decode cX6_set 5 = .ok (.ifCond .eq 7, 3) := by decide +kernel
theorem dX6_set_8 : decode cX6_set 8 = .ok (.iload_n 2, 1) := by decide +kernel
theorem dX6_set_9 : decode cX6_set 9 = .ok (.ifCond .ge 5, 3) := by decide +kernel
theorem dX6_set_12 : decode cX6_set 12 = .ok (.iconst (-1), 1) := by decide +kernel
theorem dX6_set_13 : decode cX6_set 13 = .ok (.ireturn, 1) := by decide +kernel
theorem dX6_set_14 : decode cX6_set 14 = .ok (.aload_n 0, 1) := by decide +kernel
theorem dX6_set_15 : decode cX6_set 15 = .ok (.getfield 7, 3) := by decide +kernel
theorem dX6_set_18 : decode cX6_set 18 = .ok (.sipush 128, 3) := by decide +kernel
theorem dX6_set_21 : decode cX6_set 21 = .ok (.iload_n 1, 1) := by decide +kernel
theorem dX6_set_22 : decode cX6_set 22 = .ok (.iadd, 1) := by decide +kernel
theorem dX6_set_23 : decode cX6_set 23 = .ok (.iaload, 1) := by decide +kernel
theorem dX6_set_24 : decode cX6_set 24 = .ok (.istore_n 3, 1) := by decide +kernel
theorem dX6_set_25 : decode cX6_set 25 = .ok (.aload_n 0, 1) := by decide +kernel
theorem dX6_set_26 : decode cX6_set 26 = .ok (.getfield 7, 3) := by decide +kernel
theorem dX6_set_29 : decode cX6_set 29 = .ok (.sipush 128, 3) := by decide +kernel
theorem dX6_set_32 : decode cX6_set 32 = .ok (.iload_n 1, 1) := by decide +kernel
theorem dX6_set_33 : decode cX6_set 33 = .ok (.iadd, 1) := by decide +kernel
theorem dX6_set_34 : decode cX6_set 34 = .ok (.iload_n 2, 1) := by decide +kernel
theorem dX6_set_35 : decode cX6_set 35 = .ok (.iastore, 1) := by decide +kernel
theorem dX6_set_36 : decode cX6_set 36 = .ok (.iload_n 3, 1) := by decide +kernel
theorem dX6_set_37 : decode cX6_set 37 = .ok (.ireturn, 1) := by decide +kernel
set_option maxRecDepth 20000 in
theorem ggX6_sum_X6_isNode : GoodIn wsX6_sum wsX6_isNode := goodIn_r _ [7, 8, 9, 10, 6, 11, 1, 12, 13, 14, 31, 32, 33, 34, 35, 36, 37, 38, 39, 40, 41, 42, 43, 44, 45, 46, 47, 48] rfl (by decide +kernel)
set_option maxRecDepth 20000 in
theorem gX6_sum_X6_isNode : GoodIn wsX6_sum (wsV RX6 140 RX6 yX6_isNode wsX6_isNode) := goodIn_app (goodIn_of _ (by decide +kernel)) ggX6_sum_X6_isNode
set_option maxRecDepth 20000 in
theorem ggX6_sum_X6_in : GoodIn wsX6_sum wsX6_in := goodIn_r _ [14] rfl (by decide +kernel)
set_option maxRecDepth 20000 in
theorem gX6_sum_X6_in : GoodIn wsX6_sum (va_wsS RX6 41 yX6_in wsX6_in) := goodIn_app (goodIn_of _ (by decide +kernel)) ggX6_sum_X6_in
set_option maxRecDepth 20000 in
theorem ggX6_sum_X6_many : GoodIn wsX6_sum wsX6_many := goodIn_r _ [11, 1, 31, 32, 33, 34, 35, 36, 37, 38, 39, 40, 41, 42, 43, 44, 45, 46, 47, 48] rfl (by decide +kernel)
set_option maxRecDepth 20000 in
theorem gX6_sum_X6_many : GoodIn wsX6_sum (wsV RX6 89 RX6 yX6_many wsX6_many) := goodIn_app (goodIn_of _ (by decide +kernel)) ggX6_sum_X6_many
set_option maxRecDepth 20000 in
theorem ggX6_sum_X6_isAbove : GoodIn wsX6_sum wsX6_isAbove := goodIn_r _ [18, 19, 20, 21, 6, 22, 23, 24, 25, 26, 1, 27, 28, 29, 30, 31, 32, 33, 34, 35, 36, 37, 38, 39, 40, 41, 42, 43, 44, 45, 46, 47, 48] rfl (by decide +kernel)
set_option maxRecDepth 20000 in
theorem gX6_sum_X6_isAbove : GoodIn wsX6_sum (wsV RX6 161 RX6 yX6_isAbove wsX6_isAbove) := goodIn_app (goodIn_of _ (by decide +kernel)) ggX6_sum_X6_isAbove
theorem dX6_sum_0 : decode cX6_sum 0 = .ok (.aload_n 0, 1) := by decide +kernel
theorem dX6_sum_1 : decode cX6_sum 1 = .ok (.iload_n 1, 1) := by decide +kernel
theorem dX6_sum_2 : decode cX6_sum 2 = .ok (.invokevirtual 140, 3) := by decide +kernel
theorem dX6_sum_5 : decode cX6_sum 5 = .ok (.ifCond .eq 13, 3) := by decide +kernel
theorem dX6_sum_8 : decode cX6_sum 8 = .ok (.iload_n 2, 1) := by decide +kernel
theorem dX6_sum_9 : decode cX6_sum 9 = .ok (.i2l, 1) := by decide +kernel
theorem dX6_sum_10 : decode cX6_sum 10 = .ok (.lconst 0, 1) := by decide +kernel
theorem dX6_sum_11 : decode cX6_sum 11 = .ok (.lconst 1, 1) := by decide +kernel
theorem dX6_sum_12 : decode cX6_sum 12 = .ok (.invokestatic 41, 3) := by decide +kernel
theorem dX6_sum_15 : decode cX6_sum 15 = .ok (.ifCond .ne 5, 3) := by decide +kernel
theorem dX6_sum_18 : decode cX6_sum 18 = .ok (.iconst (-1), 1) := by decide +kernel
theorem dX6_sum_19 : decode cX6_sum 19 = .ok (.ireturn, 1) := by decide +kernel
theorem dX6_sum_20 : decode cX6_sum 20 = .ok (.lconst 0, 1) := by decide +kernel
theorem dX6_sum_21 : decode cX6_sum 21 = .ok (.lstore_n 3, 1) := by decide +kernel
theorem dX6_sum_22 : decode cX6_sum 22 = .ok (.iconst 0, 1) := by decide +kernel
theorem dX6_sum_23 : decode cX6_sum 23 = .ok (.istore 5, 2) := by decide +kernel
theorem dX6_sum_25 : decode cX6_sum 25 = .ok (.iload 5, 2) := by decide +kernel
theorem dX6_sum_27 : decode cX6_sum 27 = .ok (.aload_n 0, 1) := by decide +kernel
theorem dX6_sum_28 : decode cX6_sum 28 = .ok (.invokevirtual 89, 3) := by decide +kernel
theorem dX6_sum_31 : decode cX6_sum 31 = .ok (.if_icmp .ge 56, 3) := by decide +kernel
theorem dX6_sum_34 : decode cX6_sum 34 = .ok (.iload_n 2, 1) := by decide +kernel
theorem dX6_sum_35 : decode cX6_sum 35 = .ok (.ifCond .ne 13, 3) := by decide +kernel
theorem dX6_sum_38 : decode cX6_sum 38 = .ok (.aload_n 0, 1) := by decide +kernel
theorem dX6_sum_39 : decode cX6_sum 39 = .ok (.iload_n 1, 1) := by decide +kernel
theorem dX6_sum_40 : decode cX6_sum 40 = .ok (.iload 5, 2) := by decide +kernel
theorem dX6_sum_42 : decode cX6_sum 42 = .ok (.invokevirtual 161, 3) := by decide +kernel
theorem dX6_sum_45 : decode cX6_sum 45 = .ok (.goto 10, 3) := by decide +kernel
theorem dX6_sum_48 : decode cX6_sum 48 = .ok (.aload_n 0, 1) := by decide +kernel
theorem dX6_sum_49 : decode cX6_sum 49 = .ok (.iload 5, 2) := by decide +kernel
theorem dX6_sum_51 : decode cX6_sum 51 = .ok (.iload_n 1, 1) := by decide +kernel
theorem dX6_sum_52 : decode cX6_sum 52 = .ok (.invokevirtual 161, 3) := by decide +kernel
theorem dX6_sum_55 : decode cX6_sum 55 = .ok (.istore 6, 2) := by decide +kernel
theorem dX6_sum_57 : decode cX6_sum 57 = .ok (.lload_n 3, 1) := by decide +kernel
theorem dX6_sum_58 : decode cX6_sum 58 = .ok (.iload 6, 2) := by decide +kernel
theorem dX6_sum_60 : decode cX6_sum 60 = .ok (.ifCond .eq 18, 3) := by decide +kernel
theorem dX6_sum_63 : decode cX6_sum 63 = .ok (.aload_n 0, 1) := by decide +kernel
theorem dX6_sum_64 : decode cX6_sum 64 = .ok (.getfield 7, 3) := by decide +kernel
theorem dX6_sum_67 : decode cX6_sum 67 = .ok (.sipush 128, 3) := by decide +kernel
theorem dX6_sum_70 : decode cX6_sum 70 = .ok (.iload 5, 2) := by decide +kernel
theorem dX6_sum_72 : decode cX6_sum 72 = .ok (.iadd, 1) := by decide +kernel
theorem dX6_sum_73 : decode cX6_sum 73 = .ok (.iaload, 1) := by decide +kernel
theorem dX6_sum_74 : decode cX6_sum 74 = .ok (.i2l, 1) := by decide +kernel
theorem dX6_sum_75 : decode cX6_sum 75 = .ok (.goto 4, 3) := by decide +kernel
theorem dX6_sum_78 : decode cX6_sum 78 = .ok (.lconst 0, 1) := by decide +kernel
theorem dX6_sum_79 : decode cX6_sum 79 = .ok (.ladd, 1) := by decide +kernel
theorem dX6_sum_80 : decode cX6_sum 80 = .ok (.lstore_n 3, 1) := by decide +kernel
theorem dX6_sum_81 : decode cX6_sum 81 = .ok (.iinc 5 1, 3) := by decide +kernel
theorem dX6_sum_84 : decode cX6_sum 84 = .ok (.goto (-59), 3) := by decide +kernel
theorem dX6_sum_87 : decode cX6_sum 87 = .ok (.lload_n 3, 1) := by decide +kernel
theorem dX6_sum_88 : decode cX6_sum 88 = .ok (.ldc2_w 167, 3) := by decide +kernel
theorem dX6_sum_91 : decode cX6_sum 91 = .ok (.lcmp, 1) := by decide +kernel
theorem dX6_sum_92 : decode cX6_sum 92 = .ok (.ifCond .le 8, 3) := by decide +kernel
theorem dX6_sum_95 : decode cX6_sum 95 = .ok (.bipush (-5), 2) := by decide +kernel
theorem dX6_sum_97 : decode cX6_sum 97 = .ok (.goto 5, 3) := by decide +kernel
theorem dX6_sum_100 : decode cX6_sum 100 = .ok (.lload_n 3, 1) := by decide +kernel
theorem dX6_sum_101 : decode cX6_sum 101 = .ok (.l2i, 1) := by decide +kernel
theorem dX6_sum_102 : decode cX6_sum 102 = .ok (.ireturn, 1) := by decide +kernel
set_option maxRecDepth 20000 in
theorem ggX6_heaviest_X6_isNode : GoodIn wsX6_heaviest wsX6_isNode := goodIn_r _ [6, 7, 8, 9, 5, 10, 1, 11, 12, 13, 26, 27, 28, 29, 30, 31, 32, 33, 34, 35, 36, 37, 38, 39, 40, 41, 42, 43] rfl (by decide +kernel)
set_option maxRecDepth 20000 in
theorem gX6_heaviest_X6_isNode : GoodIn wsX6_heaviest (wsV RX6 140 RX6 yX6_isNode wsX6_isNode) := goodIn_app (goodIn_of _ (by decide +kernel)) ggX6_heaviest_X6_isNode
set_option maxRecDepth 20000 in
theorem ggX6_heaviest_X6_sizeOf : GoodIn wsX6_heaviest wsX6_sizeOf := goodIn_r _ [17, 18, 19, 20, 5, 21, 1, 22, 23, 24, 25, 26, 27, 28, 29, 30, 31, 32, 33, 34, 35, 36, 37, 38, 39, 40, 41, 42, 43] rfl (by decide +kernel)
set_option maxRecDepth 20000 in
theorem gX6_heaviest_X6_sizeOf : GoodIn wsX6_heaviest (wsV RX6 125 RX6 yX6_sizeOf wsX6_sizeOf) := goodIn_app (goodIn_of _ (by decide +kernel)) ggX6_heaviest_X6_sizeOf
theorem dX6_heaviest_0 : decode cX6_heaviest 0 = .ok (.aload_n 0, 1) := by decide +kernel
theorem dX6_heaviest_1 : decode cX6_heaviest 1 = .ok (.iload_n 1, 1) := by decide +kernel
theorem dX6_heaviest_2 : decode cX6_heaviest 2 = .ok (.invokevirtual 140, 3) := by decide +kernel
theorem dX6_heaviest_5 : decode cX6_heaviest 5 = .ok (.ifCond .ne 5, 3) := by decide +kernel
theorem dX6_heaviest_8 : decode cX6_heaviest 8 = .ok (.iconst (-1), 1) := by decide +kernel
theorem dX6_heaviest_9 : decode cX6_heaviest 9 = .ok (.ireturn, 1) := by decide +kernel
theorem dX6_heaviest_10 : decode cX6_heaviest 10 = .ok (.iload_n 1, 1) := by decide +kernel
theorem dX6_heaviest_11 : decode cX6_heaviest 11 = .ok (.istore_n 2, 1) := by decide +kernel
theorem dX6_heaviest_12 : decode cX6_heaviest 12 = .ok (.iload_n 1, 1) := by decide +kernel
theorem dX6_heaviest_13 : decode cX6_heaviest 13 = .ok (.istore_n 3, 1) := by decide +kernel
theorem dX6_heaviest_14 : decode cX6_heaviest 14 = .ok (.iload_n 3, 1) := by decide +kernel
theorem dX6_heaviest_15 : decode cX6_heaviest 15 = .ok (.iload_n 1, 1) := by decide +kernel
theorem dX6_heaviest_16 : decode cX6_heaviest 16 = .ok (.aload_n 0, 1) := by decide +kernel
theorem dX6_heaviest_17 : decode cX6_heaviest 17 = .ok (.iload_n 1, 1) := by decide +kernel
theorem dX6_heaviest_18 : decode cX6_heaviest 18 = .ok (.invokevirtual 125, 3) := by decide +kernel
theorem dX6_heaviest_21 : decode cX6_heaviest 21 = .ok (.iadd, 1) := by decide +kernel
theorem dX6_heaviest_22 : decode cX6_heaviest 22 = .ok (.if_icmp .ge 38, 3) := by decide +kernel
theorem dX6_heaviest_25 : decode cX6_heaviest 25 = .ok (.aload_n 0, 1) := by decide +kernel
theorem dX6_heaviest_26 : decode cX6_heaviest 26 = .ok (.getfield 7, 3) := by decide +kernel
theorem dX6_heaviest_29 : decode cX6_heaviest 29 = .ok (.sipush 128, 3) := by decide +kernel
theorem dX6_heaviest_32 : decode cX6_heaviest 32 = .ok (.iload_n 3, 1) := by decide +kernel
theorem dX6_heaviest_33 : decode cX6_heaviest 33 = .ok (.iadd, 1) := by decide +kernel
theorem dX6_heaviest_34 : decode cX6_heaviest 34 = .ok (.iaload, 1) := by decide +kernel
theorem dX6_heaviest_35 : decode cX6_heaviest 35 = .ok (.aload_n 0, 1) := by decide +kernel
theorem dX6_heaviest_36 : decode cX6_heaviest 36 = .ok (.getfield 7, 3) := by decide +kernel
theorem dX6_heaviest_39 : decode cX6_heaviest 39 = .ok (.sipush 128, 3) := by decide +kernel
theorem dX6_heaviest_42 : decode cX6_heaviest 42 = .ok (.iload_n 2, 1) := by decide +kernel
theorem dX6_heaviest_43 : decode cX6_heaviest 43 = .ok (.iadd, 1) := by decide +kernel
theorem dX6_heaviest_44 : decode cX6_heaviest 44 = .ok (.iaload, 1) := by decide +kernel
theorem dX6_heaviest_45 : decode cX6_heaviest 45 = .ok (.if_icmp .le 7, 3) := by decide +kernel
theorem dX6_heaviest_48 : decode cX6_heaviest 48 = .ok (.iload_n 3, 1) := by decide +kernel
theorem dX6_heaviest_49 : decode cX6_heaviest 49 = .ok (.goto 4, 3) := by decide +kernel
theorem dX6_heaviest_52 : decode cX6_heaviest 52 = .ok (.iload_n 2, 1) := by decide +kernel
theorem dX6_heaviest_53 : decode cX6_heaviest 53 = .ok (.istore_n 2, 1) := by decide +kernel
theorem dX6_heaviest_54 : decode cX6_heaviest 54 = .ok (.iinc 3 1, 3) := by decide +kernel
theorem dX6_heaviest_57 : decode cX6_heaviest 57 = .ok (.goto (-43), 3) := by decide +kernel
theorem dX6_heaviest_60 : decode cX6_heaviest 60 = .ok (.iload_n 2, 1) := by decide +kernel
theorem dX6_heaviest_61 : decode cX6_heaviest 61 = .ok (.ireturn, 1) := by decide +kernel
theorem dX6_opensPlace_0 : decode cX6_opensPlace 0 = .ok (.bipush 127, 2) := by decide +kernel
theorem dX6_opensPlace_2 : decode cX6_opensPlace 2 = .ok (.istore_n 3, 1) := by decide +kernel
theorem dX6_opensPlace_3 : decode cX6_opensPlace 3 = .ok (.iload_n 3, 1) := by decide +kernel
theorem dX6_opensPlace_4 : decode cX6_opensPlace 4 = .ok (.iload_n 1, 1) := by decide +kernel
theorem dX6_opensPlace_5 : decode cX6_opensPlace 5 = .ok (.if_icmp .le 23, 3) := by decide +kernel
theorem dX6_opensPlace_8 : decode cX6_opensPlace 8 = .ok (.aload_n 0, 1) := by decide +kernel
theorem dX6_opensPlace_9 : decode cX6_opensPlace 9 = .ok (.getfield 7, 3) := by decide +kernel
theorem dX6_opensPlace_12 : decode cX6_opensPlace 12 = .ok (.iload_n 3, 1) := by decide +kernel
theorem dX6_opensPlace_13 : decode cX6_opensPlace 13 = .ok (.aload_n 0, 1) := by decide +kernel
theorem dX6_opensPlace_14 : decode cX6_opensPlace 14 = .ok (.getfield 7, 3) := by decide +kernel
theorem dX6_opensPlace_17 : decode cX6_opensPlace 17 = .ok (.iload_n 3, 1) := by decide +kernel
theorem dX6_opensPlace_18 : decode cX6_opensPlace 18 = .ok (.iconst 1, 1) := by decide +kernel
theorem dX6_opensPlace_19 : decode cX6_opensPlace 19 = .ok (.isub, 1) := by decide +kernel
theorem dX6_opensPlace_20 : decode cX6_opensPlace 20 = .ok (.iaload, 1) := by decide +kernel
theorem dX6_opensPlace_21 : decode cX6_opensPlace 21 = .ok (.iastore, 1) := by decide +kernel
theorem dX6_opensPlace_22 : decode cX6_opensPlace 22 = .ok (.iinc 3 (-1), 3) := by decide +kernel
theorem dX6_opensPlace_25 : decode cX6_opensPlace 25 = .ok (.goto (-22), 3) := by decide +kernel
theorem dX6_opensPlace_28 : decode cX6_opensPlace 28 = .ok (.aload_n 0, 1) := by decide +kernel
theorem dX6_opensPlace_29 : decode cX6_opensPlace 29 = .ok (.getfield 7, 3) := by decide +kernel
theorem dX6_opensPlace_32 : decode cX6_opensPlace 32 = .ok (.iload_n 1, 1) := by decide +kernel
theorem dX6_opensPlace_33 : decode cX6_opensPlace 33 = .ok (.iload_n 2, 1) := by decide +kernel
theorem dX6_opensPlace_34 : decode cX6_opensPlace 34 = .ok (.iastore, 1) := by decide +kernel
theorem dX6_opensPlace_35 : decode cX6_opensPlace 35 = .ok (.return_, 1) := by decide +kernel
theorem dX6_shutsPlace_0 : decode cX6_shutsPlace 0 = .ok (.iload_n 1, 1) := by decide +kernel
theorem dX6_shutsPlace_1 : decode cX6_shutsPlace 1 = .ok (.istore_n 2, 1) := by decide +kernel
theorem dX6_shutsPlace_2 : decode cX6_shutsPlace 2 = .ok (.iload_n 2, 1) := by decide +kernel
theorem dX6_shutsPlace_3 : decode cX6_shutsPlace 3 = .ok (.iconst 1, 1) := by decide +kernel
theorem dX6_shutsPlace_4 : decode cX6_shutsPlace 4 = .ok (.iadd, 1) := by decide +kernel
theorem dX6_shutsPlace_5 : decode cX6_shutsPlace 5 = .ok (.sipush 128, 3) := by decide +kernel
theorem dX6_shutsPlace_8 : decode cX6_shutsPlace 8 = .ok (.if_icmp .ge 23, 3) := by decide +kernel
theorem dX6_shutsPlace_11 : decode cX6_shutsPlace 11 = .ok (.aload_n 0, 1) := by decide +kernel
theorem dX6_shutsPlace_12 : decode cX6_shutsPlace 12 = .ok (.getfield 7, 3) := by decide +kernel
theorem dX6_shutsPlace_15 : decode cX6_shutsPlace 15 = .ok (.iload_n 2, 1) := by decide +kernel
theorem dX6_shutsPlace_16 : decode cX6_shutsPlace 16 = .ok (.aload_n 0, 1) := by decide +kernel
theorem dX6_shutsPlace_17 : decode cX6_shutsPlace 17 = .ok (.getfield 7, 3) := by decide +kernel
theorem dX6_shutsPlace_20 : decode cX6_shutsPlace 20 = .ok (.iload_n 2, 1) := by decide +kernel
theorem dX6_shutsPlace_21 : decode cX6_shutsPlace 21 = .ok (.iconst 1, 1) := by decide +kernel
theorem dX6_shutsPlace_22 : decode cX6_shutsPlace 22 = .ok (.iadd, 1) := by decide +kernel
theorem dX6_shutsPlace_23 : decode cX6_shutsPlace 23 = .ok (.iaload, 1) := by decide +kernel
theorem dX6_shutsPlace_24 : decode cX6_shutsPlace 24 = .ok (.iastore, 1) := by decide +kernel
theorem dX6_shutsPlace_25 : decode cX6_shutsPlace 25 = .ok (.iinc 2 1, 3) := by decide +kernel
theorem dX6_shutsPlace_28 : decode cX6_shutsPlace 28 = .ok (.goto (-26), 3) := by decide +kernel
theorem dX6_shutsPlace_31 : decode cX6_shutsPlace 31 = .ok (.return_, 1) := by decide +kernel
set_option maxRecDepth 20000 in
theorem ggX6_comesIn_X6_opensAt : GoodIn wsX6_comesIn wsX6_opensAt := goodIn_r _ [6, 7, 8, 9, 5, 10, 1, 15, 16, 17, 18, 19, 20, 21, 22, 23, 24, 25, 26, 27, 28, 29, 30, 31, 32] rfl (by decide +kernel)
set_option maxRecDepth 20000 in
theorem gX6_comesIn_X6_opensAt : GoodIn wsX6_comesIn (wsV RX6 137 RX6 yX6_opensAt wsX6_opensAt) := goodIn_app (goodIn_of _ (by decide +kernel)) ggX6_comesIn_X6_opensAt
set_option maxRecDepth 20000 in
theorem ggX6_comesIn_X6_opensPlace : GoodIn wsX6_comesIn wsX6_opensPlace := goodIn_r _ [14, 1, 15, 16, 17, 18, 19, 20, 21, 22, 23, 24, 25, 26, 27, 28, 29, 30, 31, 32] rfl (by decide +kernel)
set_option maxRecDepth 20000 in
theorem gX6_comesIn_X6_opensPlace : GoodIn wsX6_comesIn (wsV RX6 169 RX6 yX6_opensPlace wsX6_opensPlace) := goodIn_app (goodIn_of _ (by decide +kernel)) ggX6_comesIn_X6_opensPlace
theorem dX6_comesIn_0 : decode cX6_comesIn 0 = .ok (.aload_n 0, 1) := by decide +kernel
theorem dX6_comesIn_1 : decode cX6_comesIn 1 = .ok (.iload_n 1, 1) := by decide +kernel
theorem dX6_comesIn_2 : decode cX6_comesIn 2 = .ok (.invokevirtual 137, 3) := by decide +kernel
theorem dX6_comesIn_5 : decode cX6_comesIn 5 = .ok (.istore 4, 2) := by decide +kernel
theorem dX6_comesIn_7 : decode cX6_comesIn 7 = .ok (.aload_n 0, 1) := by decide +kernel
theorem dX6_comesIn_8 : decode cX6_comesIn 8 = .ok (.iload_n 2, 1) := by decide +kernel
theorem dX6_comesIn_9 : decode cX6_comesIn 9 = .ok (.iconst 0, 1) := by decide +kernel
theorem dX6_comesIn_10 : decode cX6_comesIn 10 = .ok (.invokevirtual 169, 3) := by decide +kernel
theorem dX6_comesIn_13 : decode cX6_comesIn 13 = .ok (.aload_n 0, 1) := by decide +kernel
theorem dX6_comesIn_14 : decode cX6_comesIn 14 = .ok (.iload_n 1, 1) := by decide +kernel
theorem dX6_comesIn_15 : decode cX6_comesIn 15 = .ok (.iconst 1, 1) := by decide +kernel
theorem dX6_comesIn_16 : decode cX6_comesIn 16 = .ok (.invokevirtual 169, 3) := by decide +kernel
theorem dX6_comesIn_19 : decode cX6_comesIn 19 = .ok (.bipush 63, 2) := by decide +kernel
theorem dX6_comesIn_21 : decode cX6_comesIn 21 = .ok (.istore 5, 2) := by decide +kernel
theorem dX6_comesIn_23 : decode cX6_comesIn 23 = .ok (.iload 5, 2) := by decide +kernel
theorem dX6_comesIn_25 : decode cX6_comesIn 25 = .ok (.iload 4, 2) := by decide +kernel
theorem dX6_comesIn_27 : decode cX6_comesIn 27 = .ok (.if_icmp .le 33, 3) := by decide +kernel
theorem dX6_comesIn_30 : decode cX6_comesIn 30 = .ok (.aload_n 0, 1) := by decide +kernel
theorem dX6_comesIn_31 : decode cX6_comesIn 31 = .ok (.getfield 7, 3) := by decide +kernel
theorem dX6_comesIn_34 : decode cX6_comesIn 34 = .ok (.sipush 128, 3) := by decide +kernel
theorem dX6_comesIn_37 : decode cX6_comesIn 37 = .ok (.iload 5, 2) := by decide +kernel
theorem dX6_comesIn_39 : decode cX6_comesIn 39 = .ok (.iadd, 1) := by decide +kernel
theorem dX6_comesIn_40 : decode cX6_comesIn 40 = .ok (.aload_n 0, 1) := by decide +kernel
theorem dX6_comesIn_41 : decode cX6_comesIn 41 = .ok (.getfield 7, 3) := by decide +kernel
theorem dX6_comesIn_44 : decode cX6_comesIn 44 = .ok (.sipush 128, 3) := by decide +kernel
theorem dX6_comesIn_47 : decode cX6_comesIn 47 = .ok (.iload 5, 2) := by decide +kernel
theorem dX6_comesIn_49 : decode cX6_comesIn 49 = .ok (.iadd, 1) := by decide +kernel
theorem dX6_comesIn_50 : decode cX6_comesIn 50 = .ok (.iconst 1, 1) := by decide +kernel
theorem dX6_comesIn_51 : decode cX6_comesIn 51 = .ok (.isub, 1) := by decide +kernel
theorem dX6_comesIn_52 : decode cX6_comesIn 52 = .ok (.iaload, 1) := by decide +kernel
theorem dX6_comesIn_53 : decode cX6_comesIn 53 = .ok (.iastore, 1) := by decide +kernel
theorem dX6_comesIn_54 : decode cX6_comesIn 54 = .ok (.iinc 5 (-1), 3) := by decide +kernel
theorem dX6_comesIn_57 : decode cX6_comesIn 57 = .ok (.goto (-34), 3) := by decide +kernel
theorem dX6_comesIn_60 : decode cX6_comesIn 60 = .ok (.aload_n 0, 1) := by decide +kernel
theorem dX6_comesIn_61 : decode cX6_comesIn 61 = .ok (.getfield 7, 3) := by decide +kernel
theorem dX6_comesIn_64 : decode cX6_comesIn 64 = .ok (.sipush 128, 3) := by decide +kernel
theorem dX6_comesIn_67 : decode cX6_comesIn 67 = .ok (.iload 4, 2) := by decide +kernel
theorem dX6_comesIn_69 : decode cX6_comesIn 69 = .ok (.iadd, 1) := by decide +kernel
theorem dX6_comesIn_70 : decode cX6_comesIn 70 = .ok (.iload_n 3, 1) := by decide +kernel
theorem dX6_comesIn_71 : decode cX6_comesIn 71 = .ok (.iastore, 1) := by decide +kernel
theorem dX6_comesIn_72 : decode cX6_comesIn 72 = .ok (.aload_n 0, 1) := by decide +kernel
theorem dX6_comesIn_73 : decode cX6_comesIn 73 = .ok (.getfield 7, 3) := by decide +kernel
theorem dX6_comesIn_76 : decode cX6_comesIn 76 = .ok (.sipush 192, 3) := by decide +kernel
theorem dX6_comesIn_79 : decode cX6_comesIn 79 = .ok (.dup2, 1) := by decide +kernel
theorem dX6_comesIn_80 : decode cX6_comesIn 80 = .ok (.iaload, 1) := by decide +kernel
theorem dX6_comesIn_81 : decode cX6_comesIn 81 = .ok (.iconst 1, 1) := by decide +kernel
theorem dX6_comesIn_82 : decode cX6_comesIn 82 = .ok (.iadd, 1) := by decide +kernel
theorem dX6_comesIn_83 : decode cX6_comesIn 83 = .ok (.iastore, 1) := by decide +kernel
theorem dX6_comesIn_84 : decode cX6_comesIn 84 = .ok (.return_, 1) := by decide +kernel
set_option maxRecDepth 20000 in
theorem ggX6_goesOut_X6_openOf : GoodIn wsX6_goesOut wsX6_openOf := goodIn_r _ [6, 1, 15, 16, 17, 18, 19, 20, 21, 22, 23, 24, 25, 26, 27, 28, 29, 30, 31, 32] rfl (by decide +kernel)
set_option maxRecDepth 20000 in
theorem gX6_goesOut_X6_openOf : GoodIn wsX6_goesOut (wsV RX6 99 RX6 yX6_openOf wsX6_openOf) := goodIn_app (goodIn_of _ (by decide +kernel)) ggX6_goesOut_X6_openOf
set_option maxRecDepth 20000 in
theorem ggX6_goesOut_X6_shutOf : GoodIn wsX6_goesOut wsX6_shutOf := goodIn_r _ [10, 1, 15, 16, 17, 18, 19, 20, 21, 22, 23, 24, 25, 26, 27, 28, 29, 30, 31, 32] rfl (by decide +kernel)
set_option maxRecDepth 20000 in
theorem gX6_goesOut_X6_shutOf : GoodIn wsX6_goesOut (wsV RX6 115 RX6 yX6_shutOf wsX6_shutOf) := goodIn_app (goodIn_of _ (by decide +kernel)) ggX6_goesOut_X6_shutOf
set_option maxRecDepth 20000 in
theorem ggX6_goesOut_X6_shutsPlace : GoodIn wsX6_goesOut wsX6_shutsPlace := goodIn_r _ [14, 1, 15, 16, 17, 18, 19, 20, 21, 22, 23, 24, 25, 26, 27, 28, 29, 30, 31, 32] rfl (by decide +kernel)
set_option maxRecDepth 20000 in
theorem gX6_goesOut_X6_shutsPlace : GoodIn wsX6_goesOut (wsV RX6 173 RX6 yX6_shutsPlace wsX6_shutsPlace) := goodIn_app (goodIn_of _ (by decide +kernel)) ggX6_goesOut_X6_shutsPlace
theorem dX6_goesOut_0 : decode cX6_goesOut 0 = .ok (.aload_n 0, 1) := by decide +kernel
theorem dX6_goesOut_1 : decode cX6_goesOut 1 = .ok (.iload_n 1, 1) := by decide +kernel
theorem dX6_goesOut_2 : decode cX6_goesOut 2 = .ok (.invokevirtual 99, 3) := by decide +kernel
theorem dX6_goesOut_5 : decode cX6_goesOut 5 = .ok (.istore_n 2, 1) := by decide +kernel
theorem dX6_goesOut_6 : decode cX6_goesOut 6 = .ok (.aload_n 0, 1) := by decide +kernel
theorem dX6_goesOut_7 : decode cX6_goesOut 7 = .ok (.aload_n 0, 1) := by decide +kernel
theorem dX6_goesOut_8 : decode cX6_goesOut 8 = .ok (.iload_n 2, 1) := by decide +kernel
theorem dX6_goesOut_9 : decode cX6_goesOut 9 = .ok (.invokevirtual 115, 3) := by decide +kernel
theorem dX6_goesOut_12 : decode cX6_goesOut 12 = .ok (.invokevirtual 173, 3) := by decide +kernel
theorem dX6_goesOut_15 : decode cX6_goesOut 15 = .ok (.aload_n 0, 1) := by decide +kernel
theorem dX6_goesOut_16 : decode cX6_goesOut 16 = .ok (.iload_n 2, 1) := by decide +kernel
theorem dX6_goesOut_17 : decode cX6_goesOut 17 = .ok (.invokevirtual 173, 3) := by decide +kernel
theorem dX6_goesOut_20 : decode cX6_goesOut 20 = .ok (.iload_n 1, 1) := by decide +kernel
theorem dX6_goesOut_21 : decode cX6_goesOut 21 = .ok (.istore_n 3, 1) := by decide +kernel
theorem dX6_goesOut_22 : decode cX6_goesOut 22 = .ok (.iload_n 3, 1) := by decide +kernel
theorem dX6_goesOut_23 : decode cX6_goesOut 23 = .ok (.iconst 1, 1) := by decide +kernel
theorem dX6_goesOut_24 : decode cX6_goesOut 24 = .ok (.iadd, 1) := by decide +kernel
theorem dX6_goesOut_25 : decode cX6_goesOut 25 = .ok (.bipush 64, 2) := by decide +kernel
theorem dX6_goesOut_27 : decode cX6_goesOut 27 = .ok (.if_icmp .ge 31, 3) := by decide +kernel
theorem dX6_goesOut_30 : decode cX6_goesOut 30 = .ok (.aload_n 0, 1) := by decide +kernel
theorem dX6_goesOut_31 : decode cX6_goesOut 31 = .ok (.getfield 7, 3) := by decide +kernel
theorem dX6_goesOut_34 : decode cX6_goesOut 34 = .ok (.sipush 128, 3) := by decide +kernel
theorem dX6_goesOut_37 : decode cX6_goesOut 37 = .ok (.iload_n 3, 1) := by decide +kernel
theorem dX6_goesOut_38 : decode cX6_goesOut 38 = .ok (.iadd, 1) := by decide +kernel
theorem dX6_goesOut_39 : decode cX6_goesOut 39 = .ok (.aload_n 0, 1) := by decide +kernel
theorem dX6_goesOut_40 : decode cX6_goesOut 40 = .ok (.getfield 7, 3) := by decide +kernel
theorem dX6_goesOut_43 : decode cX6_goesOut 43 = .ok (.sipush 128, 3) := by decide +kernel
theorem dX6_goesOut_46 : decode cX6_goesOut 46 = .ok (.iload_n 3, 1) := by decide +kernel
theorem dX6_goesOut_47 : decode cX6_goesOut 47 = .ok (.iadd, 1) := by decide +kernel
theorem dX6_goesOut_48 : decode cX6_goesOut 48 = .ok (.iconst 1, 1) := by decide +kernel
theorem dX6_goesOut_49 : decode cX6_goesOut 49 = .ok (.iadd, 1) := by decide +kernel
theorem dX6_goesOut_50 : decode cX6_goesOut 50 = .ok (.iaload, 1) := by decide +kernel
theorem dX6_goesOut_51 : decode cX6_goesOut 51 = .ok (.iastore, 1) := by decide +kernel
theorem dX6_goesOut_52 : decode cX6_goesOut 52 = .ok (.iinc 3 1, 3) := by decide +kernel
theorem dX6_goesOut_55 : decode cX6_goesOut 55 = .ok (.goto (-33), 3) := by decide +kernel
theorem dX6_goesOut_58 : decode cX6_goesOut 58 = .ok (.aload_n 0, 1) := by decide +kernel
theorem dX6_goesOut_59 : decode cX6_goesOut 59 = .ok (.getfield 7, 3) := by decide +kernel
theorem dX6_goesOut_62 : decode cX6_goesOut 62 = .ok (.sipush 192, 3) := by decide +kernel
theorem dX6_goesOut_65 : decode cX6_goesOut 65 = .ok (.dup2, 1) := by decide +kernel
theorem dX6_goesOut_66 : decode cX6_goesOut 66 = .ok (.iaload, 1) := by decide +kernel
theorem dX6_goesOut_67 : decode cX6_goesOut 67 = .ok (.iconst 1, 1) := by decide +kernel
theorem dX6_goesOut_68 : decode cX6_goesOut 68 = .ok (.isub, 1) := by decide +kernel
theorem dX6_goesOut_69 : decode cX6_goesOut 69 = .ok (.iastore, 1) := by decide +kernel
theorem dX6_goesOut_70 : decode cX6_goesOut 70 = .ok (.return_, 1) := by decide +kernel
set_option maxRecDepth 20000 in
theorem ggX6_edgeOf_X6_childOf : GoodIn wsX6_edgeOf wsX6_childOf := goodIn_r _ [5, 6, 7, 8, 4, 9, 10, 11, 12, 13, 14, 15, 16, 17, 18, 19, 20, 21, 22, 23, 24, 25, 26, 27, 28, 29, 30, 31, 32, 33, 34, 35, 36, 37, 38, 39, 40, 41, 42, 43, 44] rfl (by decide +kernel)
set_option maxRecDepth 20000 in
theorem gX6_edgeOf_X6_childOf : GoodIn wsX6_edgeOf (wsV RX6 134 RX6 yX6_childOf wsX6_childOf) := goodIn_app (goodIn_of _ (by decide +kernel)) ggX6_edgeOf_X6_childOf
set_option maxRecDepth 20000 in
theorem ggX6_edgeOf_X6_openOf : GoodIn wsX6_edgeOf wsX6_openOf := goodIn_r _ [13, 14, 27, 28, 29, 30, 31, 32, 33, 34, 35, 36, 37, 38, 39, 40, 41, 42, 43, 44] rfl (by decide +kernel)
set_option maxRecDepth 20000 in
theorem gX6_edgeOf_X6_openOf : GoodIn wsX6_edgeOf (wsV RX6 99 RX6 yX6_openOf wsX6_openOf) := goodIn_app (goodIn_of _ (by decide +kernel)) ggX6_edgeOf_X6_openOf
set_option maxRecDepth 20000 in
theorem ggX6_edgeOf_X6_shutOf : GoodIn wsX6_edgeOf wsX6_shutOf := goodIn_r _ [18, 14, 27, 28, 29, 30, 31, 32, 33, 34, 35, 36, 37, 38, 39, 40, 41, 42, 43, 44] rfl (by decide +kernel)
set_option maxRecDepth 20000 in
theorem gX6_edgeOf_X6_shutOf : GoodIn wsX6_edgeOf (wsV RX6 115 RX6 yX6_shutOf wsX6_shutOf) := goodIn_app (goodIn_of _ (by decide +kernel)) ggX6_edgeOf_X6_shutOf
theorem dX6_edgeOf_0 : decode cX6_edgeOf 0 = .ok (.aload_n 0, 1) := by decide +kernel
theorem dX6_edgeOf_1 : decode cX6_edgeOf 1 = .ok (.iload_n 1, 1) := by decide +kernel
theorem dX6_edgeOf_2 : decode cX6_edgeOf 2 = .ok (.iload_n 2, 1) := by decide +kernel
theorem dX6_edgeOf_3 : decode cX6_edgeOf 3 = .ok (.invokevirtual 134, 3) := by decide +kernel
theorem dX6_edgeOf_6 : decode cX6_edgeOf 6 = .ok (.istore_n 3, 1) := by decide +kernel
theorem dX6_edgeOf_7 : decode cX6_edgeOf 7 = .ok (.iload_n 3, 1) := by decide +kernel
theorem dX6_edgeOf_8 : decode cX6_edgeOf 8 = .ok (.bipush (-4), 2) := by decide +kernel
theorem dX6_edgeOf_10 : decode cX6_edgeOf 10 = .ok (.if_icmp .ne 15, 3) := by decide +kernel
theorem dX6_edgeOf_13 : decode cX6_edgeOf 13 = .ok (.aload_n 0, 1) := by decide +kernel
theorem dX6_edgeOf_14 : decode cX6_edgeOf 14 = .ok (.aload_n 0, 1) := by decide +kernel
theorem dX6_edgeOf_15 : decode cX6_edgeOf 15 = .ok (.iload_n 1, 1) := by decide +kernel
theorem dX6_edgeOf_16 : decode cX6_edgeOf 16 = .ok (.invokevirtual 99, 3) := by decide +kernel
theorem dX6_edgeOf_19 : decode cX6_edgeOf 19 = .ok (.invokevirtual 115, 3) := by decide +kernel
theorem dX6_edgeOf_22 : decode cX6_edgeOf 22 = .ok (.goto 8, 3) := by decide +kernel
theorem dX6_edgeOf_25 : decode cX6_edgeOf 25 = .ok (.aload_n 0, 1) := by decide +kernel
theorem dX6_edgeOf_26 : decode cX6_edgeOf 26 = .ok (.iload_n 3, 1) := by decide +kernel
theorem dX6_edgeOf_27 : decode cX6_edgeOf 27 = .ok (.invokevirtual 99, 3) := by decide +kernel
theorem dX6_edgeOf_30 : decode cX6_edgeOf 30 = .ok (.ireturn, 1) := by decide +kernel
set_option maxRecDepth 20000 in
theorem ggX6_plant_X6_many : GoodIn wsX6_plant wsX6_many := goodIn_r _ [6, 1, 7, 8, 9, 10, 11, 12, 13, 14, 15, 16, 17, 18, 19, 20, 21, 22, 23, 24] rfl (by decide +kernel)
set_option maxRecDepth 20000 in
theorem gX6_plant_X6_many : GoodIn wsX6_plant (wsV RX6 89 RX6 yX6_many wsX6_many) := goodIn_app (goodIn_of _ (by decide +kernel)) ggX6_plant_X6_many
theorem dX6_plant_0 : decode cX6_plant 0 = .ok (.iload_n 1, 1) := by decide +kernel
theorem dX6_plant_1 : decode cX6_plant 1 = .ok (.ifCond .ge 5, 3) := by decide +kernel
theorem dX6_plant_4 : decode cX6_plant 4 = .ok (.iconst (-1), 1) := by decide +kernel
theorem dX6_plant_5 : decode cX6_plant 5 = .ok (.ireturn, 1) := by decide +kernel
theorem dX6_plant_6 : decode cX6_plant 6 = .ok (.aload_n 0, 1) := by decide +kernel
theorem dX6_plant_7 : decode cX6_plant 7 = .ok (.invokevirtual 89, 3) := by decide +kernel
theorem dX6_plant_10 : decode cX6_plant 10 = .ok (.ifCond .le 6, 3) := by decide +kernel
theorem dX6_plant_13 : decode cX6_plant 13 = .ok (.bipush (-2), 2) := by decide +kernel
theorem dX6_plant_15 : decode cX6_plant 15 = .ok (.ireturn, 1) := by decide +kernel
theorem dX6_plant_16 : decode cX6_plant 16 = .ok (.aload_n 0, 1) := by decide +kernel
theorem dX6_plant_17 : decode cX6_plant 17 = .ok (.getfield 7, 3) := by decide +kernel
theorem dX6_plant_20 : decode cX6_plant 20 = .ok (.iconst 0, 1) := by decide +kernel
theorem dX6_plant_21 : decode cX6_plant 21 = .ok (.iconst 1, 1) := by decide +kernel
theorem dX6_plant_22 : decode cX6_plant 22 = .ok (.iastore, 1) := by decide +kernel
theorem dX6_plant_23 : decode cX6_plant 23 = .ok (.aload_n 0, 1) := by decide +kernel
theorem dX6_plant_24 : decode cX6_plant 24 = .ok (.getfield 7, 3) := by decide +kernel
theorem dX6_plant_27 : decode cX6_plant 27 = .ok (.iconst 1, 1) := by decide +kernel
theorem dX6_plant_28 : decode cX6_plant 28 = .ok (.iconst 0, 1) := by decide +kernel
theorem dX6_plant_29 : decode cX6_plant 29 = .ok (.iastore, 1) := by decide +kernel
theorem dX6_plant_30 : decode cX6_plant 30 = .ok (.aload_n 0, 1) := by decide +kernel
theorem dX6_plant_31 : decode cX6_plant 31 = .ok (.getfield 7, 3) := by decide +kernel
theorem dX6_plant_34 : decode cX6_plant 34 = .ok (.sipush 128, 3) := by decide +kernel
theorem dX6_plant_37 : decode cX6_plant 37 = .ok (.iload_n 1, 1) := by decide +kernel
theorem dX6_plant_38 : decode cX6_plant 38 = .ok (.iastore, 1) := by decide +kernel
theorem dX6_plant_39 : decode cX6_plant 39 = .ok (.aload_n 0, 1) := by decide +kernel
theorem dX6_plant_40 : decode cX6_plant 40 = .ok (.getfield 7, 3) := by decide +kernel
theorem dX6_plant_43 : decode cX6_plant 43 = .ok (.sipush 192, 3) := by decide +kernel
theorem dX6_plant_46 : decode cX6_plant 46 = .ok (.iconst 1, 1) := by decide +kernel
theorem dX6_plant_47 : decode cX6_plant 47 = .ok (.iastore, 1) := by decide +kernel
theorem dX6_plant_48 : decode cX6_plant 48 = .ok (.iconst 0, 1) := by decide +kernel
theorem dX6_plant_49 : decode cX6_plant 49 = .ok (.ireturn, 1) := by decide +kernel
set_option maxRecDepth 20000 in
theorem ggX6_leafs_X6_edgeOf : GoodIn wsX6_leafs wsX6_edgeOf := goodIn_r _ [5, 6, 7, 8, 4, 9, 10, 11, 12, 13, 14, 15, 16, 17, 18, 19, 20, 21, 22, 23, 24, 25, 26, 27, 28, 29, 30, 43, 44, 45, 46, 47, 48, 49, 50, 51, 52, 53, 54, 55, 56, 57, 58, 59, 60] rfl (by decide +kernel)
set_option maxRecDepth 20000 in
theorem gX6_leafs_X6_edgeOf : GoodIn wsX6_leafs (wsV RX6 176 RX6 yX6_edgeOf wsX6_edgeOf) := goodIn_app (goodIn_of _ (by decide +kernel)) ggX6_leafs_X6_edgeOf
set_option maxRecDepth 20000 in
theorem ggX6_leafs_X6_comesIn : GoodIn wsX6_leafs wsX6_comesIn := goodIn_r _ [34, 18, 35, 36, 37, 4, 38, 27, 28, 29, 30, 39, 40, 41, 42, 43, 44, 45, 46, 47, 48, 49, 50, 51, 52, 53, 54, 55, 56, 57, 58, 59, 60] rfl (by decide +kernel)
set_option maxRecDepth 20000 in
theorem gX6_leafs_X6_comesIn : GoodIn wsX6_leafs (wsV RX6 179 RX6 yX6_comesIn wsX6_comesIn) := goodIn_app (goodIn_of _ (by decide +kernel)) ggX6_leafs_X6_comesIn
set_option maxRecDepth 20000 in
theorem ggX6_leafs_X6_opensAt : GoodIn wsX6_leafs wsX6_opensAt := goodIn_r _ [38, 27, 28, 29, 4, 30, 18, 43, 44, 45, 46, 47, 48, 49, 50, 51, 52, 53, 54, 55, 56, 57, 58, 59, 60] rfl (by decide +kernel)
set_option maxRecDepth 20000 in
theorem gX6_leafs_X6_opensAt : GoodIn wsX6_leafs (wsV RX6 137 RX6 yX6_opensAt wsX6_opensAt) := goodIn_app (goodIn_of _ (by decide +kernel)) ggX6_leafs_X6_opensAt
theorem dX6_leafs_0 : decode cX6_leafs 0 = .ok (.aload_n 0, 1) := by decide +kernel
