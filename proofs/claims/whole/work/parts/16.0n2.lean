theorem dX6_leafs_1 : decode cX6_leafs 1 = .ok (.iload_n 1, 1) := by decide +kernel
theorem dX6_leafs_2 : decode cX6_leafs 2 = .ok (.iload_n 2, 1) := by decide +kernel
theorem dX6_leafs_3 : decode cX6_leafs 3 = .ok (.invokevirtual 176, 3) := by decide +kernel
theorem dX6_leafs_6 : decode cX6_leafs 6 = .ok (.istore 4, 2) := by decide +kernel
theorem dX6_leafs_8 : decode cX6_leafs 8 = .ok (.aload_n 0, 1) := by decide +kernel
theorem dX6_leafs_9 : decode cX6_leafs 9 = .ok (.iload 4, 2) := by decide +kernel
theorem dX6_leafs_11 : decode cX6_leafs 11 = .ok (.iload 4, 2) := by decide +kernel
theorem dX6_leafs_13 : decode cX6_leafs 13 = .ok (.iload_n 3, 1) := by decide +kernel
theorem dX6_leafs_14 : decode cX6_leafs 14 = .ok (.invokevirtual 179, 3) := by decide +kernel
theorem dX6_leafs_17 : decode cX6_leafs 17 = .ok (.aload_n 0, 1) := by decide +kernel
theorem dX6_leafs_18 : decode cX6_leafs 18 = .ok (.iload 4, 2) := by decide +kernel
theorem dX6_leafs_20 : decode cX6_leafs 20 = .ok (.invokevirtual 137, 3) := by decide +kernel
theorem dX6_leafs_23 : decode cX6_leafs 23 = .ok (.ireturn, 1) := by decide +kernel
set_option maxRecDepth 20000 in
theorem ggX6_leaf_X6_isNode : GoodIn wsX6_leaf wsX6_isNode := goodIn_r _ [5, 6, 7, 8, 4, 9, 10, 11, 12, 13, 62, 63, 64, 65, 66, 67, 68, 69, 70, 71, 72, 73, 74, 75, 76, 77, 78, 79] rfl (by decide +kernel)
set_option maxRecDepth 20000 in
theorem gX6_leaf_X6_isNode : GoodIn wsX6_leaf (wsV RX6 140 RX6 yX6_isNode wsX6_isNode) := goodIn_app (goodIn_of _ (by decide +kernel)) ggX6_leaf_X6_isNode
set_option maxRecDepth 20000 in
theorem ggX6_leaf_X6_childrenOf : GoodIn wsX6_leaf wsX6_childrenOf := goodIn_r _ [17, 18, 19, 20, 4, 21, 22, 23, 24, 25, 10, 26, 27, 28, 29, 30, 31, 32, 33, 34, 35, 36, 37, 62, 63, 64, 65, 66, 67, 68, 69, 70, 71, 72, 73, 74, 75, 76, 77, 78, 79] rfl (by decide +kernel)
set_option maxRecDepth 20000 in
theorem gX6_leaf_X6_childrenOf : GoodIn wsX6_leaf (wsV RX6 146 RX6 yX6_childrenOf wsX6_childrenOf) := goodIn_app (goodIn_of _ (by decide +kernel)) ggX6_leaf_X6_childrenOf
set_option maxRecDepth 20000 in
theorem ggX6_leaf_X6_in : GoodIn wsX6_leaf wsX6_in := goodIn_r _ [13] rfl (by decide +kernel)
set_option maxRecDepth 20000 in
theorem gX6_leaf_X6_in : GoodIn wsX6_leaf (va_wsS RX6 41 yX6_in wsX6_in) := goodIn_app (goodIn_of _ (by decide +kernel)) ggX6_leaf_X6_in
set_option maxRecDepth 20000 in
theorem ggX6_leaf_X6_many : GoodIn wsX6_leaf wsX6_many := goodIn_r _ [9, 10, 62, 63, 64, 65, 66, 67, 68, 69, 70, 71, 72, 73, 74, 75, 76, 77, 78, 79] rfl (by decide +kernel)
set_option maxRecDepth 20000 in
theorem gX6_leaf_X6_many : GoodIn wsX6_leaf (wsV RX6 89 RX6 yX6_many wsX6_many) := goodIn_app (goodIn_of _ (by decide +kernel)) ggX6_leaf_X6_many
set_option maxRecDepth 20000 in
theorem ggX6_leaf_X6_leafs : GoodIn wsX6_leaf wsX6_leafs := goodIn_r _ [41, 42, 43, 44, 4, 45, 46, 47, 48, 49, 18, 19, 20, 21, 22, 23, 24, 25, 10, 26, 27, 28, 29, 30, 31, 32, 33, 34, 35, 36, 37, 50, 51, 52, 53, 54, 55, 56, 57, 58, 59, 60, 61, 62, 63, 64, 65, 66, 67, 68, 69, 70, 71, 72, 73, 74, 75, 76, 77, 78, 79] rfl (by decide +kernel)
set_option maxRecDepth 20000 in
theorem gX6_leaf_X6_leafs : GoodIn wsX6_leaf (wsV RX6 183 RX6 yX6_leafs wsX6_leafs) := goodIn_app (goodIn_of _ (by decide +kernel)) ggX6_leaf_X6_leafs
theorem dX6_leaf_0 : decode cX6_leaf 0 = .ok (.aload_n 0, 1) := by decide +kernel
theorem dX6_leaf_1 : decode cX6_leaf 1 = .ok (.iload_n 1, 1) := by decide +kernel
theorem dX6_leaf_2 : decode cX6_leaf 2 = .ok (.invokevirtual 140, 3) := by decide +kernel
theorem dX6_leaf_5 : decode cX6_leaf 5 = .ok (.ifCond .eq 22, 3) := by decide +kernel
theorem dX6_leaf_8 : decode cX6_leaf 8 = .ok (.iload_n 2, 1) := by decide +kernel
theorem dX6_leaf_9 : decode cX6_leaf 9 = .ok (.i2l, 1) := by decide +kernel
theorem dX6_leaf_10 : decode cX6_leaf 10 = .ok (.lconst 0, 1) := by decide +kernel
theorem dX6_leaf_11 : decode cX6_leaf 11 = .ok (.aload_n 0, 1) := by decide +kernel
theorem dX6_leaf_12 : decode cX6_leaf 12 = .ok (.iload_n 1, 1) := by decide +kernel
theorem dX6_leaf_13 : decode cX6_leaf 13 = .ok (.invokevirtual 146, 3) := by decide +kernel
theorem dX6_leaf_16 : decode cX6_leaf 16 = .ok (.i2l, 1) := by decide +kernel
theorem dX6_leaf_17 : decode cX6_leaf 17 = .ok (.invokestatic 41, 3) := by decide +kernel
theorem dX6_leaf_20 : decode cX6_leaf 20 = .ok (.ifCond .eq 7, 3) := by decide +kernel
theorem dX6_leaf_23 : decode cX6_leaf 23 = .ok (.iload_n 3, 1) := by decide +kernel
theorem dX6_leaf_24 : decode cX6_leaf 24 = .ok (.ifCond .ge 5, 3) := by decide +kernel
theorem dX6_leaf_27 : decode cX6_leaf 27 = .ok (.iconst (-1), 1) := by decide +kernel
theorem dX6_leaf_28 : decode cX6_leaf 28 = .ok (.ireturn, 1) := by decide +kernel
theorem dX6_leaf_29 : decode cX6_leaf 29 = .ok (.aload_n 0, 1) := by decide +kernel
theorem dX6_leaf_30 : decode cX6_leaf 30 = .ok (.invokevirtual 89, 3) := by decide +kernel
theorem dX6_leaf_33 : decode cX6_leaf 33 = .ok (.bipush 64, 2) := by decide +kernel
theorem dX6_leaf_35 : decode cX6_leaf 35 = .ok (.if_icmp .ne 8, 3) := by decide +kernel
theorem dX6_leaf_38 : decode cX6_leaf 38 = .ok (.bipush (-3), 2) := by decide +kernel
theorem dX6_leaf_40 : decode cX6_leaf 40 = .ok (.goto 10, 3) := by decide +kernel
theorem dX6_leaf_43 : decode cX6_leaf 43 = .ok (.aload_n 0, 1) := by decide +kernel
theorem dX6_leaf_44 : decode cX6_leaf 44 = .ok (.iload_n 1, 1) := by decide +kernel
theorem dX6_leaf_45 : decode cX6_leaf 45 = .ok (.iload_n 2, 1) := by decide +kernel
theorem dX6_leaf_46 : decode cX6_leaf 46 = .ok (.iload_n 3, 1) := by decide +kernel
theorem dX6_leaf_47 : decode cX6_leaf 47 = .ok (.invokevirtual 183, 3) := by decide +kernel
theorem dX6_leaf_50 : decode cX6_leaf 50 = .ok (.ireturn, 1) := by decide +kernel
set_option maxRecDepth 20000 in
theorem ggX6_prune_X6_isNode : GoodIn wsX6_prune wsX6_isNode := goodIn_r _ [5, 6, 7, 8, 4, 9, 10, 11, 12, 13, 34, 35, 36, 37, 38, 39, 40, 41, 42, 43, 44, 45, 46, 47, 48, 49, 50, 51] rfl (by decide +kernel)
set_option maxRecDepth 20000 in
theorem gX6_prune_X6_isNode : GoodIn wsX6_prune (wsV RX6 140 RX6 yX6_isNode wsX6_isNode) := goodIn_app (goodIn_of _ (by decide +kernel)) ggX6_prune_X6_isNode
set_option maxRecDepth 20000 in
theorem ggX6_prune_X6_sizeOf : GoodIn wsX6_prune wsX6_sizeOf := goodIn_r _ [17, 18, 19, 20, 4, 21, 10, 22, 23, 24, 25, 34, 35, 36, 37, 38, 39, 40, 41, 42, 43, 44, 45, 46, 47, 48, 49, 50, 51] rfl (by decide +kernel)
set_option maxRecDepth 20000 in
theorem gX6_prune_X6_sizeOf : GoodIn wsX6_prune (wsV RX6 125 RX6 yX6_sizeOf wsX6_sizeOf) := goodIn_app (goodIn_of _ (by decide +kernel)) ggX6_prune_X6_sizeOf
set_option maxRecDepth 20000 in
theorem ggX6_prune_X6_goesOut : GoodIn wsX6_prune wsX6_goesOut := goodIn_r _ [29, 10, 18, 19, 20, 4, 21, 22, 23, 24, 25, 30, 31, 32, 33, 34, 35, 36, 37, 38, 39, 40, 41, 42, 43, 44, 45, 46, 47, 48, 49, 50, 51] rfl (by decide +kernel)
set_option maxRecDepth 20000 in
theorem gX6_prune_X6_goesOut : GoodIn wsX6_prune (wsV RX6 187 RX6 yX6_goesOut wsX6_goesOut) := goodIn_app (goodIn_of _ (by decide +kernel)) ggX6_prune_X6_goesOut
set_option maxRecDepth 20000 in
theorem ggX6_prune_X6_many : GoodIn wsX6_prune wsX6_many := goodIn_r _ [9, 10, 34, 35, 36, 37, 38, 39, 40, 41, 42, 43, 44, 45, 46, 47, 48, 49, 50, 51] rfl (by decide +kernel)
set_option maxRecDepth 20000 in
theorem gX6_prune_X6_many : GoodIn wsX6_prune (wsV RX6 89 RX6 yX6_many wsX6_many) := goodIn_app (goodIn_of _ (by decide +kernel)) ggX6_prune_X6_many
theorem dX6_prune_0 : decode cX6_prune 0 = .ok (.aload_n 0, 1) := by decide +kernel
theorem dX6_prune_1 : decode cX6_prune 1 = .ok (.iload_n 1, 1) := by decide +kernel
theorem dX6_prune_2 : decode cX6_prune 2 = .ok (.invokevirtual 140, 3) := by decide +kernel
theorem dX6_prune_5 : decode cX6_prune 5 = .ok (.ifCond .ne 5, 3) := by decide +kernel
theorem dX6_prune_8 : decode cX6_prune 8 = .ok (.iconst (-1), 1) := by decide +kernel
theorem dX6_prune_9 : decode cX6_prune 9 = .ok (.ireturn, 1) := by decide +kernel
theorem dX6_prune_10 : decode cX6_prune 10 = .ok (.aload_n 0, 1) := by decide +kernel
theorem dX6_prune_11 : decode cX6_prune 11 = .ok (.iload_n 1, 1) := by decide +kernel
theorem dX6_prune_12 : decode cX6_prune 12 = .ok (.invokevirtual 125, 3) := by decide +kernel
theorem dX6_prune_15 : decode cX6_prune 15 = .ok (.iconst 1, 1) := by decide +kernel
theorem dX6_prune_16 : decode cX6_prune 16 = .ok (.if_icmp .le 6, 3) := by decide +kernel
theorem dX6_prune_19 : decode cX6_prune 19 = .ok (.bipush (-2), 2) := by decide +kernel
theorem dX6_prune_21 : decode cX6_prune 21 = .ok (.ireturn, 1) := by decide +kernel
theorem dX6_prune_22 : decode cX6_prune 22 = .ok (.aload_n 0, 1) := by decide +kernel
theorem dX6_prune_23 : decode cX6_prune 23 = .ok (.iload_n 1, 1) := by decide +kernel
theorem dX6_prune_24 : decode cX6_prune 24 = .ok (.invokevirtual 187, 3) := by decide +kernel
theorem dX6_prune_27 : decode cX6_prune 27 = .ok (.aload_n 0, 1) := by decide +kernel
theorem dX6_prune_28 : decode cX6_prune 28 = .ok (.invokevirtual 89, 3) := by decide +kernel
theorem dX6_prune_31 : decode cX6_prune 31 = .ok (.ireturn, 1) := by decide +kernel
set_option maxRecDepth 20000 in
theorem ggX6_fell_X6_isNode : GoodIn wsX6_fell wsX6_isNode := goodIn_r _ [5, 6, 7, 8, 4, 9, 10, 11, 12, 13, 34, 35, 36, 37, 38, 39, 40, 41, 42, 43, 44, 45, 46, 47, 48, 49, 50, 51] rfl (by decide +kernel)
set_option maxRecDepth 20000 in
theorem gX6_fell_X6_isNode : GoodIn wsX6_fell (wsV RX6 140 RX6 yX6_isNode wsX6_isNode) := goodIn_app (goodIn_of _ (by decide +kernel)) ggX6_fell_X6_isNode
set_option maxRecDepth 20000 in
theorem ggX6_fell_X6_sizeOf : GoodIn wsX6_fell wsX6_sizeOf := goodIn_r _ [17, 18, 19, 20, 4, 21, 10, 22, 23, 24, 25, 34, 35, 36, 37, 38, 39, 40, 41, 42, 43, 44, 45, 46, 47, 48, 49, 50, 51] rfl (by decide +kernel)
set_option maxRecDepth 20000 in
theorem gX6_fell_X6_sizeOf : GoodIn wsX6_fell (wsV RX6 125 RX6 yX6_sizeOf wsX6_sizeOf) := goodIn_app (goodIn_of _ (by decide +kernel)) ggX6_fell_X6_sizeOf
set_option maxRecDepth 20000 in
theorem ggX6_fell_X6_goesOut : GoodIn wsX6_fell wsX6_goesOut := goodIn_r _ [29, 10, 18, 19, 20, 4, 21, 22, 23, 24, 25, 30, 31, 32, 33, 34, 35, 36, 37, 38, 39, 40, 41, 42, 43, 44, 45, 46, 47, 48, 49, 50, 51] rfl (by decide +kernel)
set_option maxRecDepth 20000 in
theorem gX6_fell_X6_goesOut : GoodIn wsX6_fell (wsV RX6 187 RX6 yX6_goesOut wsX6_goesOut) := goodIn_app (goodIn_of _ (by decide +kernel)) ggX6_fell_X6_goesOut
theorem dX6_fell_0 : decode cX6_fell 0 = .ok (.aload_n 0, 1) := by decide +kernel
theorem dX6_fell_1 : decode cX6_fell 1 = .ok (.iload_n 1, 1) := by decide +kernel
theorem dX6_fell_2 : decode cX6_fell 2 = .ok (.invokevirtual 140, 3) := by decide +kernel
theorem dX6_fell_5 : decode cX6_fell 5 = .ok (.ifCond .ne 5, 3) := by decide +kernel
theorem dX6_fell_8 : decode cX6_fell 8 = .ok (.iconst (-1), 1) := by decide +kernel
theorem dX6_fell_9 : decode cX6_fell 9 = .ok (.ireturn, 1) := by decide +kernel
theorem dX6_fell_10 : decode cX6_fell 10 = .ok (.aload_n 0, 1) := by decide +kernel
theorem dX6_fell_11 : decode cX6_fell 11 = .ok (.iload_n 1, 1) := by decide +kernel
theorem dX6_fell_12 : decode cX6_fell 12 = .ok (.invokevirtual 125, 3) := by decide +kernel
theorem dX6_fell_15 : decode cX6_fell 15 = .ok (.istore_n 2, 1) := by decide +kernel
theorem dX6_fell_16 : decode cX6_fell 16 = .ok (.iload_n 2, 1) := by decide +kernel
theorem dX6_fell_17 : decode cX6_fell 17 = .ok (.iconst 1, 1) := by decide +kernel
theorem dX6_fell_18 : decode cX6_fell 18 = .ok (.isub, 1) := by decide +kernel
theorem dX6_fell_19 : decode cX6_fell 19 = .ok (.istore_n 3, 1) := by decide +kernel
theorem dX6_fell_20 : decode cX6_fell 20 = .ok (.iload_n 3, 1) := by decide +kernel
theorem dX6_fell_21 : decode cX6_fell 21 = .ok (.ifCond .lt 16, 3) := by decide +kernel
theorem dX6_fell_24 : decode cX6_fell 24 = .ok (.aload_n 0, 1) := by decide +kernel
theorem dX6_fell_25 : decode cX6_fell 25 = .ok (.iload_n 1, 1) := by decide +kernel
theorem dX6_fell_26 : decode cX6_fell 26 = .ok (.iload_n 3, 1) := by decide +kernel
theorem dX6_fell_27 : decode cX6_fell 27 = .ok (.iadd, 1) := by decide +kernel
theorem dX6_fell_28 : decode cX6_fell 28 = .ok (.invokevirtual 187, 3) := by decide +kernel
theorem dX6_fell_31 : decode cX6_fell 31 = .ok (.iinc 3 (-1), 3) := by decide +kernel
theorem dX6_fell_34 : decode cX6_fell 34 = .ok (.goto (-14), 3) := by decide +kernel
theorem dX6_fell_37 : decode cX6_fell 37 = .ok (.iload_n 2, 1) := by decide +kernel
theorem dX6_fell_38 : decode cX6_fell 38 = .ok (.ireturn, 1) := by decide +kernel
set_option maxRecDepth 20000 in
theorem ggX6_wrap_X6_isNode : GoodIn wsX6_wrap wsX6_isNode := goodIn_r _ [5, 6, 7, 8, 4, 9, 10, 11, 12, 13, 58, 59, 60, 61, 62, 63, 64, 65, 66, 67, 68, 69, 70, 71, 72, 73, 74, 75] rfl (by decide +kernel)
set_option maxRecDepth 20000 in
theorem gX6_wrap_X6_isNode : GoodIn wsX6_wrap (wsV RX6 140 RX6 yX6_isNode wsX6_isNode) := goodIn_app (goodIn_of _ (by decide +kernel)) ggX6_wrap_X6_isNode
set_option maxRecDepth 20000 in
theorem ggX6_wrap_X6_childrenOf : GoodIn wsX6_wrap wsX6_childrenOf := goodIn_r _ [17, 18, 19, 20, 4, 21, 22, 23, 24, 25, 10, 26, 27, 28, 29, 30, 31, 32, 33, 34, 35, 36, 37, 58, 59, 60, 61, 62, 63, 64, 65, 66, 67, 68, 69, 70, 71, 72, 73, 74, 75] rfl (by decide +kernel)
set_option maxRecDepth 20000 in
theorem gX6_wrap_X6_childrenOf : GoodIn wsX6_wrap (wsV RX6 146 RX6 yX6_childrenOf wsX6_childrenOf) := goodIn_app (goodIn_of _ (by decide +kernel)) ggX6_wrap_X6_childrenOf
set_option maxRecDepth 20000 in
theorem ggX6_wrap_X6_many : GoodIn wsX6_wrap wsX6_many := goodIn_r _ [9, 10, 58, 59, 60, 61, 62, 63, 64, 65, 66, 67, 68, 69, 70, 71, 72, 73, 74, 75] rfl (by decide +kernel)
set_option maxRecDepth 20000 in
theorem gX6_wrap_X6_many : GoodIn wsX6_wrap (wsV RX6 89 RX6 yX6_many wsX6_many) := goodIn_app (goodIn_of _ (by decide +kernel)) ggX6_wrap_X6_many
set_option maxRecDepth 20000 in
theorem ggX6_wrap_X6_edgeOf : GoodIn wsX6_wrap wsX6_edgeOf := goodIn_r _ [41, 42, 43, 44, 4, 45, 18, 19, 20, 21, 22, 23, 24, 25, 10, 26, 27, 28, 29, 30, 31, 32, 33, 34, 35, 36, 37, 58, 59, 60, 61, 62, 63, 64, 65, 66, 67, 68, 69, 70, 71, 72, 73, 74, 75] rfl (by decide +kernel)
set_option maxRecDepth 20000 in
theorem gX6_wrap_X6_edgeOf : GoodIn wsX6_wrap (wsV RX6 176 RX6 yX6_edgeOf wsX6_edgeOf) := goodIn_app (goodIn_of _ (by decide +kernel)) ggX6_wrap_X6_edgeOf
set_option maxRecDepth 20000 in
theorem ggX6_wrap_X6_comesIn : GoodIn wsX6_wrap wsX6_comesIn := goodIn_r _ [49, 10, 50, 51, 52, 4, 53, 34, 35, 36, 37, 54, 55, 56, 57, 58, 59, 60, 61, 62, 63, 64, 65, 66, 67, 68, 69, 70, 71, 72, 73, 74, 75] rfl (by decide +kernel)
set_option maxRecDepth 20000 in
theorem gX6_wrap_X6_comesIn : GoodIn wsX6_wrap (wsV RX6 179 RX6 yX6_comesIn wsX6_comesIn) := goodIn_app (goodIn_of _ (by decide +kernel)) ggX6_wrap_X6_comesIn
set_option maxRecDepth 20000 in
theorem ggX6_wrap_X6_opensAt : GoodIn wsX6_wrap wsX6_opensAt := goodIn_r _ [53, 34, 35, 36, 4, 37, 10, 58, 59, 60, 61, 62, 63, 64, 65, 66, 67, 68, 69, 70, 71, 72, 73, 74, 75] rfl (by decide +kernel)
set_option maxRecDepth 20000 in
theorem gX6_wrap_X6_opensAt : GoodIn wsX6_wrap (wsV RX6 137 RX6 yX6_opensAt wsX6_opensAt) := goodIn_app (goodIn_of _ (by decide +kernel)) ggX6_wrap_X6_opensAt
theorem dX6_wrap_0 : decode cX6_wrap 0 = .ok (.aload_n 0, 1) := by decide +kernel
theorem dX6_wrap_1 : decode cX6_wrap 1 = .ok (.iload_n 1, 1) := by decide +kernel
theorem dX6_wrap_2 : decode cX6_wrap 2 = .ok (.invokevirtual 140, 3) := by decide +kernel
theorem dX6_wrap_5 : decode cX6_wrap 5 = .ok (.ifCond .eq 31, 3) := by decide +kernel
theorem dX6_wrap_8 : decode cX6_wrap 8 = .ok (.iload_n 2, 1) := by decide +kernel
theorem dX6_wrap_9 : decode cX6_wrap 9 = .ok (.ifCond .lt 27, 3) := by decide +kernel
theorem dX6_wrap_12 : decode cX6_wrap 12 = .ok (.iload_n 3, 1) := by decide +kernel
theorem dX6_wrap_13 : decode cX6_wrap 13 = .ok (.ifCond .lt 23, 3) := by decide +kernel
theorem dX6_wrap_16 : decode cX6_wrap 16 = .ok (.iload_n 2, 1) := by decide +kernel
theorem dX6_wrap_17 : decode cX6_wrap 17 = .ok (.i2l, 1) := by decide +kernel
theorem dX6_wrap_18 : decode cX6_wrap 18 = .ok (.iload_n 3, 1) := by decide +kernel
theorem dX6_wrap_19 : decode cX6_wrap 19 = .ok (.i2l, 1) := by decide +kernel
theorem dX6_wrap_20 : decode cX6_wrap 20 = .ok (.ladd, 1) := by decide +kernel
theorem dX6_wrap_21 : decode cX6_wrap 21 = .ok (.aload_n 0, 1) := by decide +kernel
theorem dX6_wrap_22 : decode cX6_wrap 22 = .ok (.iload_n 1, 1) := by decide +kernel
theorem dX6_wrap_23 : decode cX6_wrap 23 = .ok (.invokevirtual 146, 3) := by decide +kernel
theorem dX6_wrap_26 : decode cX6_wrap 26 = .ok (.i2l, 1) := by decide +kernel
theorem dX6_wrap_27 : decode cX6_wrap 27 = .ok (.lcmp, 1) := by decide +kernel
theorem dX6_wrap_28 : decode cX6_wrap 28 = .ok (.ifCond .gt 8, 3) := by decide +kernel
theorem dX6_wrap_31 : decode cX6_wrap 31 = .ok (.iload 4, 2) := by decide +kernel
theorem dX6_wrap_33 : decode cX6_wrap 33 = .ok (.ifCond .ge 5, 3) := by decide +kernel
theorem dX6_wrap_36 : decode cX6_wrap 36 = .ok (.iconst (-1), 1) := by decide +kernel
theorem dX6_wrap_37 : decode cX6_wrap 37 = .ok (.ireturn, 1) := by decide +kernel
theorem dX6_wrap_38 : decode cX6_wrap 38 = .ok (.aload_n 0, 1) := by decide +kernel
theorem dX6_wrap_39 : decode cX6_wrap 39 = .ok (.invokevirtual 89, 3) := by decide +kernel
theorem dX6_wrap_42 : decode cX6_wrap 42 = .ok (.bipush 64, 2) := by decide +kernel
theorem dX6_wrap_44 : decode cX6_wrap 44 = .ok (.if_icmp .ne 6, 3) := by decide +kernel
theorem dX6_wrap_47 : decode cX6_wrap 47 = .ok (.bipush (-3), 2) := by decide +kernel
theorem dX6_wrap_49 : decode cX6_wrap 49 = .ok (.ireturn, 1) := by decide +kernel
theorem dX6_wrap_50 : decode cX6_wrap 50 = .ok (.aload_n 0, 1) := by decide +kernel
theorem dX6_wrap_51 : decode cX6_wrap 51 = .ok (.iload_n 1, 1) := by decide +kernel
theorem dX6_wrap_52 : decode cX6_wrap 52 = .ok (.iload_n 2, 1) := by decide +kernel
theorem dX6_wrap_53 : decode cX6_wrap 53 = .ok (.invokevirtual 176, 3) := by decide +kernel
theorem dX6_wrap_56 : decode cX6_wrap 56 = .ok (.istore 5, 2) := by decide +kernel
theorem dX6_wrap_58 : decode cX6_wrap 58 = .ok (.aload_n 0, 1) := by decide +kernel
theorem dX6_wrap_59 : decode cX6_wrap 59 = .ok (.iload 5, 2) := by decide +kernel
theorem dX6_wrap_61 : decode cX6_wrap 61 = .ok (.aload_n 0, 1) := by decide +kernel
theorem dX6_wrap_62 : decode cX6_wrap 62 = .ok (.iload_n 1, 1) := by decide +kernel
theorem dX6_wrap_63 : decode cX6_wrap 63 = .ok (.iload_n 2, 1) := by decide +kernel
theorem dX6_wrap_64 : decode cX6_wrap 64 = .ok (.iload_n 3, 1) := by decide +kernel
theorem dX6_wrap_65 : decode cX6_wrap 65 = .ok (.iadd, 1) := by decide +kernel
theorem dX6_wrap_66 : decode cX6_wrap 66 = .ok (.invokevirtual 176, 3) := by decide +kernel
theorem dX6_wrap_69 : decode cX6_wrap 69 = .ok (.iload 4, 2) := by decide +kernel
theorem dX6_wrap_71 : decode cX6_wrap 71 = .ok (.invokevirtual 179, 3) := by decide +kernel
theorem dX6_wrap_74 : decode cX6_wrap 74 = .ok (.aload_n 0, 1) := by decide +kernel
theorem dX6_wrap_75 : decode cX6_wrap 75 = .ok (.iload 5, 2) := by decide +kernel
theorem dX6_wrap_77 : decode cX6_wrap 77 = .ok (.invokevirtual 137, 3) := by decide +kernel
theorem dX6_wrap_80 : decode cX6_wrap 80 = .ok (.ireturn, 1) := by decide +kernel
set_option maxRecDepth 20000 in
theorem ggX6_melt_X6_isNode : GoodIn wsX6_melt wsX6_isNode := goodIn_r _ [5, 6, 7, 8, 4, 9, 10, 11, 12, 13, 46, 47, 48, 49, 50, 51, 52, 53, 54, 55, 56, 57, 58, 59, 60, 61, 62, 63] rfl (by decide +kernel)
set_option maxRecDepth 20000 in
theorem gX6_melt_X6_isNode : GoodIn wsX6_melt (wsV RX6 140 RX6 yX6_isNode wsX6_isNode) := goodIn_app (goodIn_of _ (by decide +kernel)) ggX6_melt_X6_isNode
set_option maxRecDepth 20000 in
theorem ggX6_melt_X6_childrenOf : GoodIn wsX6_melt wsX6_childrenOf := goodIn_r _ [17, 18, 19, 20, 4, 21, 22, 23, 24, 25, 10, 26, 27, 28, 29, 30, 31, 32, 33, 34, 35, 36, 37, 46, 47, 48, 49, 50, 51, 52, 53, 54, 55, 56, 57, 58, 59, 60, 61, 62, 63] rfl (by decide +kernel)
set_option maxRecDepth 20000 in
theorem gX6_melt_X6_childrenOf : GoodIn wsX6_melt (wsV RX6 146 RX6 yX6_childrenOf wsX6_childrenOf) := goodIn_app (goodIn_of _ (by decide +kernel)) ggX6_melt_X6_childrenOf
set_option maxRecDepth 20000 in
theorem ggX6_melt_X6_goesOut : GoodIn wsX6_melt wsX6_goesOut := goodIn_r _ [41, 10, 22, 23, 24, 4, 25, 26, 27, 28, 29, 42, 43, 44, 45, 46, 47, 48, 49, 50, 51, 52, 53, 54, 55, 56, 57, 58, 59, 60, 61, 62, 63] rfl (by decide +kernel)
set_option maxRecDepth 20000 in
theorem gX6_melt_X6_goesOut : GoodIn wsX6_melt (wsV RX6 187 RX6 yX6_goesOut wsX6_goesOut) := goodIn_app (goodIn_of _ (by decide +kernel)) ggX6_melt_X6_goesOut
set_option maxRecDepth 20000 in
theorem ggX6_melt_X6_many : GoodIn wsX6_melt wsX6_many := goodIn_r _ [9, 10, 46, 47, 48, 49, 50, 51, 52, 53, 54, 55, 56, 57, 58, 59, 60, 61, 62, 63] rfl (by decide +kernel)
set_option maxRecDepth 20000 in
theorem gX6_melt_X6_many : GoodIn wsX6_melt (wsV RX6 89 RX6 yX6_many wsX6_many) := goodIn_app (goodIn_of _ (by decide +kernel)) ggX6_melt_X6_many
theorem dX6_melt_0 : decode cX6_melt 0 = .ok (.aload_n 0, 1) := by decide +kernel
theorem dX6_melt_1 : decode cX6_melt 1 = .ok (.iload_n 1, 1) := by decide +kernel
theorem dX6_melt_2 : decode cX6_melt 2 = .ok (.invokevirtual 140, 3) := by decide +kernel
theorem dX6_melt_5 : decode cX6_melt 5 = .ok (.ifCond .ne 5, 3) := by decide +kernel
theorem dX6_melt_8 : decode cX6_melt 8 = .ok (.iconst (-1), 1) := by decide +kernel
theorem dX6_melt_9 : decode cX6_melt 9 = .ok (.ireturn, 1) := by decide +kernel
theorem dX6_melt_10 : decode cX6_melt 10 = .ok (.iload_n 1, 1) := by decide +kernel
theorem dX6_melt_11 : decode cX6_melt 11 = .ok (.ifCond .ne 15, 3) := by decide +kernel
theorem dX6_melt_14 : decode cX6_melt 14 = .ok (.aload_n 0, 1) := by decide +kernel
theorem dX6_melt_15 : decode cX6_melt 15 = .ok (.iconst 0, 1) := by decide +kernel
theorem dX6_melt_16 : decode cX6_melt 16 = .ok (.invokevirtual 146, 3) := by decide +kernel
theorem dX6_melt_19 : decode cX6_melt 19 = .ok (.iconst 1, 1) := by decide +kernel
theorem dX6_melt_20 : decode cX6_melt 20 = .ok (.if_icmp .eq 6, 3) := by decide +kernel
theorem dX6_melt_23 : decode cX6_melt 23 = .ok (.bipush (-2), 2) := by decide +kernel
theorem dX6_melt_25 : decode cX6_melt 25 = .ok (.ireturn, 1) := by decide +kernel
theorem dX6_melt_26 : decode cX6_melt 26 = .ok (.aload_n 0, 1) := by decide +kernel
theorem dX6_melt_27 : decode cX6_melt 27 = .ok (.iload_n 1, 1) := by decide +kernel
theorem dX6_melt_28 : decode cX6_melt 28 = .ok (.invokevirtual 187, 3) := by decide +kernel
theorem dX6_melt_31 : decode cX6_melt 31 = .ok (.aload_n 0, 1) := by decide +kernel
theorem dX6_melt_32 : decode cX6_melt 32 = .ok (.invokevirtual 89, 3) := by decide +kernel
theorem dX6_melt_35 : decode cX6_melt 35 = .ok (.ireturn, 1) := by decide +kernel
set_option maxRecDepth 20000 in
theorem ggX6_graft_X6_isNode : GoodIn wsX6_graft wsX6_isNode := goodIn_r _ [8, 9, 10, 11, 7, 12, 2, 13, 14, 15, 72, 73, 74, 75, 76, 77, 78, 79, 80, 81, 82, 83, 84, 85, 86, 87, 88, 89] rfl (by decide +kernel)
set_option maxRecDepth 20000 in
theorem gX6_graft_X6_isNode : GoodIn wsX6_graft (wsV RX6 140 RX6 yX6_isNode wsX6_isNode) := goodIn_app (goodIn_of _ (by decide +kernel)) ggX6_graft_X6_isNode
set_option maxRecDepth 20000 in
theorem ggX6_graft_X6_isAbove : GoodIn wsX6_graft wsX6_isAbove := goodIn_r _ [19, 20, 21, 22, 7, 23, 24, 25, 26, 27, 2, 28, 29, 30, 31, 72, 73, 74, 75, 76, 77, 78, 79, 80, 81, 82, 83, 84, 85, 86, 87, 88, 89] rfl (by decide +kernel)
set_option maxRecDepth 20000 in
theorem gX6_graft_X6_isAbove : GoodIn wsX6_graft (wsV RX6 161 RX6 yX6_isAbove wsX6_isAbove) := goodIn_app (goodIn_of _ (by decide +kernel)) ggX6_graft_X6_isAbove
set_option maxRecDepth 20000 in
theorem ggX6_graft_X6_sizeOf : GoodIn wsX6_graft wsX6_sizeOf := goodIn_r _ [23, 24, 25, 26, 7, 27, 2, 28, 29, 30, 31, 72, 73, 74, 75, 76, 77, 78, 79, 80, 81, 82, 83, 84, 85, 86, 87, 88, 89] rfl (by decide +kernel)
set_option maxRecDepth 20000 in
theorem gX6_graft_X6_sizeOf : GoodIn wsX6_graft (wsV RX6 125 RX6 yX6_sizeOf wsX6_sizeOf) := goodIn_app (goodIn_of _ (by decide +kernel)) ggX6_graft_X6_sizeOf
set_option maxRecDepth 20000 in
theorem ggX6_graft_X6_childrenOf : GoodIn wsX6_graft wsX6_childrenOf := goodIn_r _ [35, 20, 21, 22, 7, 23, 24, 25, 26, 27, 2, 28, 29, 30, 31, 36, 37, 38, 39, 40, 41, 42, 43, 72, 73, 74, 75, 76, 77, 78, 79, 80, 81, 82, 83, 84, 85, 86, 87, 88, 89] rfl (by decide +kernel)
set_option maxRecDepth 20000 in
theorem gX6_graft_X6_childrenOf : GoodIn wsX6_graft (wsV RX6 146 RX6 yX6_childrenOf wsX6_childrenOf) := goodIn_app (goodIn_of _ (by decide +kernel)) ggX6_graft_X6_childrenOf
set_option maxRecDepth 20000 in
theorem ggX6_graft_X6_upFrom : GoodIn wsX6_graft wsX6_upFrom := goodIn_r _ [47, 36, 37, 38, 7, 39, 24, 25, 26, 27, 2, 40, 41, 42, 43, 72, 73, 74, 75, 76, 77, 78, 79, 80, 81, 82, 83, 84, 85, 86, 87, 88, 89] rfl (by decide +kernel)
set_option maxRecDepth 20000 in
theorem gX6_graft_X6_upFrom : GoodIn wsX6_graft (wsV RX6 128 RX6 yX6_upFrom wsX6_upFrom) := goodIn_app (goodIn_of _ (by decide +kernel)) ggX6_graft_X6_upFrom
set_option maxRecDepth 20000 in
theorem ggX6_graft_X6_in : GoodIn wsX6_graft wsX6_in := goodIn_r _ [15] rfl (by decide +kernel)
set_option maxRecDepth 20000 in
theorem gX6_graft_X6_in : GoodIn wsX6_graft (va_wsS RX6 41 yX6_in wsX6_in) := goodIn_app (goodIn_of _ (by decide +kernel)) ggX6_graft_X6_in
set_option maxRecDepth 20000 in
theorem ggX6_graft_X6_openOf : GoodIn wsX6_graft wsX6_openOf := goodIn_r _ [27, 2, 72, 73, 74, 75, 76, 77, 78, 79, 80, 81, 82, 83, 84, 85, 86, 87, 88, 89] rfl (by decide +kernel)
set_option maxRecDepth 20000 in
theorem gX6_graft_X6_openOf : GoodIn wsX6_graft (wsV RX6 99 RX6 yX6_openOf wsX6_openOf) := goodIn_app (goodIn_of _ (by decide +kernel)) ggX6_graft_X6_openOf
set_option maxRecDepth 20000 in
theorem ggX6_graft_X6_goesOut : GoodIn wsX6_graft wsX6_goesOut := goodIn_r _ [51, 2, 24, 25, 26, 7, 27, 28, 29, 30, 31, 52, 53, 54, 55, 72, 73, 74, 75, 76, 77, 78, 79, 80, 81, 82, 83, 84, 85, 86, 87, 88, 89] rfl (by decide +kernel)
set_option maxRecDepth 20000 in
theorem gX6_graft_X6_goesOut : GoodIn wsX6_graft (wsV RX6 187 RX6 yX6_goesOut wsX6_goesOut) := goodIn_app (goodIn_of _ (by decide +kernel)) ggX6_graft_X6_goesOut
set_option maxRecDepth 20000 in
theorem ggX6_graft_X6_edgeOf : GoodIn wsX6_graft wsX6_edgeOf := goodIn_r _ [59, 60, 61, 62, 7, 63, 20, 21, 22, 23, 24, 25, 26, 27, 2, 28, 29, 30, 31, 36, 37, 38, 39, 40, 41, 42, 43, 72, 73, 74, 75, 76, 77, 78, 79, 80, 81, 82, 83, 84, 85, 86, 87, 88, 89] rfl (by decide +kernel)
set_option maxRecDepth 20000 in
theorem gX6_graft_X6_edgeOf : GoodIn wsX6_graft (wsV RX6 176 RX6 yX6_edgeOf wsX6_edgeOf) := goodIn_app (goodIn_of _ (by decide +kernel)) ggX6_graft_X6_edgeOf
set_option maxRecDepth 20000 in
theorem ggX6_graft_X6_opensAt : GoodIn wsX6_graft wsX6_opensAt := goodIn_r _ [67, 40, 41, 42, 7, 43, 2, 72, 73, 74, 75, 76, 77, 78, 79, 80, 81, 82, 83, 84, 85, 86, 87, 88, 89] rfl (by decide +kernel)
set_option maxRecDepth 20000 in
theorem gX6_graft_X6_opensAt : GoodIn wsX6_graft (wsV RX6 137 RX6 yX6_opensAt wsX6_opensAt) := goodIn_app (goodIn_of _ (by decide +kernel)) ggX6_graft_X6_opensAt
set_option maxRecDepth 20000 in
theorem ggX6_graft_X6_opensPlace : GoodIn wsX6_graft wsX6_opensPlace := goodIn_r _ [71, 2, 72, 73, 74, 75, 76, 77, 78, 79, 80, 81, 82, 83, 84, 85, 86, 87, 88, 89] rfl (by decide +kernel)
set_option maxRecDepth 20000 in
theorem gX6_graft_X6_opensPlace : GoodIn wsX6_graft (wsV RX6 169 RX6 yX6_opensPlace wsX6_opensPlace) := goodIn_app (goodIn_of _ (by decide +kernel)) ggX6_graft_X6_opensPlace
theorem dX6_graft_0 : decode cX6_graft 0 = .ok (.aload_n 0, 1) := by decide +kernel
theorem dX6_graft_1 : decode cX6_graft 1 = .ok (.iload_n 1, 1) := by decide +kernel
theorem dX6_graft_2 : decode cX6_graft 2 = .ok (.invokevirtual 140, 3) := by decide +kernel
theorem dX6_graft_5 : decode cX6_graft 5 = .ok (.ifCond .eq 11, 3) := by decide +kernel
theorem dX6_graft_8 : decode cX6_graft 8 = .ok (.aload_n 0, 1) := by decide +kernel
theorem dX6_graft_9 : decode cX6_graft 9 = .ok (.iload_n 2, 1) := by decide +kernel
theorem dX6_graft_10 : decode cX6_graft 10 = .ok (.invokevirtual 140, 3) := by decide +kernel
theorem dX6_graft_13 : decode cX6_graft 13 = .ok (.ifCond .ne 5, 3) := by decide +kernel
theorem dX6_graft_16 : decode cX6_graft 16 = .ok (.iconst (-1), 1) := by decide +kernel
theorem dX6_graft_17 : decode cX6_graft 17 = .ok (.ireturn, 1) := by decide +kernel
theorem dX6_graft_18 : decode cX6_graft 18 = .ok (.iload_n 1, 1) := by decide +kernel
theorem dX6_graft_19 : decode cX6_graft 19 = .ok (.ifCond .eq 12, 3) := by decide +kernel
theorem dX6_graft_22 : decode cX6_graft 22 = .ok (.aload_n 0, 1) := by decide +kernel
theorem dX6_graft_23 : decode cX6_graft 23 = .ok (.iload_n 1, 1) := by decide +kernel
theorem dX6_graft_24 : decode cX6_graft 24 = .ok (.iload_n 2, 1) := by decide +kernel
theorem dX6_graft_25 : decode cX6_graft 25 = .ok (.invokevirtual 161, 3) := by decide +kernel
theorem dX6_graft_28 : decode cX6_graft 28 = .ok (.ifCond .eq 6, 3) := by decide +kernel
theorem dX6_graft_31 : decode cX6_graft 31 = .ok (.bipush (-2), 2) := by decide +kernel
theorem dX6_graft_33 : decode cX6_graft 33 = .ok (.ireturn, 1) := by decide +kernel
theorem dX6_graft_34 : decode cX6_graft 34 = .ok (.aload_n 0, 1) := by decide +kernel
theorem dX6_graft_35 : decode cX6_graft 35 = .ok (.iload_n 1, 1) := by decide +kernel
theorem dX6_graft_36 : decode cX6_graft 36 = .ok (.invokevirtual 125, 3) := by decide +kernel
theorem dX6_graft_39 : decode cX6_graft 39 = .ok (.istore 4, 2) := by decide +kernel
theorem dX6_graft_41 : decode cX6_graft 41 = .ok (.aload_n 0, 1) := by decide +kernel
theorem dX6_graft_42 : decode cX6_graft 42 = .ok (.iload_n 2, 1) := by decide +kernel
theorem dX6_graft_43 : decode cX6_graft 43 = .ok (.invokevirtual 146, 3) := by decide +kernel
theorem dX6_graft_46 : decode cX6_graft 46 = .ok (.aload_n 0, 1) := by decide +kernel
theorem dX6_graft_47 : decode cX6_graft 47 = .ok (.iload_n 1, 1) := by decide +kernel
theorem dX6_graft_48 : decode cX6_graft 48 = .ok (.iconst 1, 1) := by decide +kernel
theorem dX6_graft_49 : decode cX6_graft 49 = .ok (.invokevirtual 128, 3) := by decide +kernel
theorem dX6_graft_52 : decode cX6_graft 52 = .ok (.iload_n 2, 1) := by decide +kernel
theorem dX6_graft_53 : decode cX6_graft 53 = .ok (.if_icmp .ne 7, 3) := by decide +kernel
theorem dX6_graft_56 : decode cX6_graft 56 = .ok (.iconst 1, 1) := by decide +kernel
theorem dX6_graft_57 : decode cX6_graft 57 = .ok (.goto 4, 3) := by decide +kernel
theorem dX6_graft_60 : decode cX6_graft 60 = .ok (.iconst 0, 1) := by decide +kernel
theorem dX6_graft_61 : decode cX6_graft 61 = .ok (.isub, 1) := by decide +kernel
theorem dX6_graft_62 : decode cX6_graft 62 = .ok (.istore 5, 2) := by decide +kernel
theorem dX6_graft_64 : decode cX6_graft 64 = .ok (.iload_n 3, 1) := by decide +kernel
theorem dX6_graft_65 : decode cX6_graft 65 = .ok (.i2l, 1) := by decide +kernel
theorem dX6_graft_66 : decode cX6_graft 66 = .ok (.lconst 0, 1) := by decide +kernel
theorem dX6_graft_67 : decode cX6_graft 67 = .ok (.iload 5, 2) := by decide +kernel
theorem dX6_graft_69 : decode cX6_graft 69 = .ok (.i2l, 1) := by decide +kernel
theorem dX6_graft_70 : decode cX6_graft 70 = .ok (.invokestatic 41, 3) := by decide +kernel
theorem dX6_graft_73 : decode cX6_graft 73 = .ok (.ifCond .ne 5, 3) := by decide +kernel
theorem dX6_graft_76 : decode cX6_graft 76 = .ok (.iconst (-1), 1) := by decide +kernel
theorem dX6_graft_77 : decode cX6_graft 77 = .ok (.ireturn, 1) := by decide +kernel
theorem dX6_graft_78 : decode cX6_graft 78 = .ok (.aload_n 0, 1) := by decide +kernel
theorem dX6_graft_79 : decode cX6_graft 79 = .ok (.iload_n 1, 1) := by decide +kernel
theorem dX6_graft_80 : decode cX6_graft 80 = .ok (.invokevirtual 99, 3) := by decide +kernel
theorem dX6_graft_83 : decode cX6_graft 83 = .ok (.istore 6, 2) := by decide +kernel
theorem dX6_graft_85 : decode cX6_graft 85 = .ok (.iconst 0, 1) := by decide +kernel
theorem dX6_graft_86 : decode cX6_graft 86 = .ok (.istore 7, 2) := by decide +kernel
theorem dX6_graft_88 : decode cX6_graft 88 = .ok (.iload 7, 2) := by decide +kernel
theorem dX6_graft_90 : decode cX6_graft 90 = .ok (.iconst 2, 1) := by decide +kernel
theorem dX6_graft_91 : decode cX6_graft 91 = .ok (.iload 4, 2) := by decide +kernel
theorem dX6_graft_93 : decode cX6_graft 93 = .ok (.imul, 1) := by decide +kernel
theorem dX6_graft_94 : decode cX6_graft 94 = .ok (.if_icmp .ge 26, 3) := by decide +kernel
theorem dX6_graft_97 : decode cX6_graft 97 = .ok (.aload_n 0, 1) := by decide +kernel
theorem dX6_graft_98 : decode cX6_graft 98 = .ok (.getfield 19, 3) := by decide +kernel
theorem dX6_graft_101 : decode cX6_graft 101 = .ok (.iload 7, 2) := by decide +kernel
theorem dX6_graft_103 : decode cX6_graft 103 = .ok (.aload_n 0, 1) := by decide +kernel
theorem dX6_graft_104 : decode cX6_graft 104 = .ok (.getfield 7, 3) := by decide +kernel
theorem dX6_graft_107 : decode cX6_graft 107 = .ok (.iload 6, 2) := by decide +kernel
theorem dX6_graft_109 : decode cX6_graft 109 = .ok (.iload 7, 2) := by decide +kernel
theorem dX6_graft_111 : decode cX6_graft 111 = .ok (.iadd, 1) := by decide +kernel
theorem dX6_graft_112 : decode cX6_graft 112 = .ok (.iaload, 1) := by decide +kernel
theorem dX6_graft_113 : decode cX6_graft 113 = .ok (.iastore, 1) := by decide +kernel
theorem dX6_graft_114 : decode cX6_graft 114 = .ok (.iinc 7 1, 3) := by decide +kernel
theorem dX6_graft_117 : decode cX6_graft 117 = .ok (.goto (-29), 3) := by decide +kernel
theorem dX6_graft_120 : decode cX6_graft 120 = .ok (.iconst 0, 1) := by decide +kernel
theorem dX6_graft_121 : decode cX6_graft 121 = .ok (.istore 7, 2) := by decide +kernel
theorem dX6_graft_123 : decode cX6_graft 123 = .ok (.iload 7, 2) := by decide +kernel
theorem dX6_graft_125 : decode cX6_graft 125 = .ok (.iload 4, 2) := by decide +kernel
theorem dX6_graft_127 : decode cX6_graft 127 = .ok (.if_icmp .ge 29, 3) := by decide +kernel
theorem dX6_graft_130 : decode cX6_graft 130 = .ok (.aload_n 0, 1) := by decide +kernel
theorem dX6_graft_131 : decode cX6_graft 131 = .ok (.getfield 22, 3) := by decide +kernel
theorem dX6_graft_134 : decode cX6_graft 134 = .ok (.iload 7, 2) := by decide +kernel
theorem dX6_graft_136 : decode cX6_graft 136 = .ok (.aload_n 0, 1) := by decide +kernel
theorem dX6_graft_137 : decode cX6_graft 137 = .ok (.getfield 7, 3) := by decide +kernel
theorem dX6_graft_140 : decode cX6_graft 140 = .ok (.sipush 128, 3) := by decide +kernel
theorem dX6_graft_143 : decode cX6_graft 143 = .ok (.iload_n 1, 1) := by decide +kernel
theorem dX6_graft_144 : decode cX6_graft 144 = .ok (.iadd, 1) := by decide +kernel
theorem dX6_graft_145 : decode cX6_graft 145 = .ok (.iload 7, 2) := by decide +kernel
theorem dX6_graft_147 : decode cX6_graft 147 = .ok (.iadd, 1) := by decide +kernel
theorem dX6_graft_148 : decode cX6_graft 148 = .ok (.iaload, 1) := by decide +kernel
theorem dX6_graft_149 : decode cX6_graft 149 = .ok (.iastore, 1) := by decide +kernel
theorem dX6_graft_150 : decode cX6_graft 150 = .ok (.iinc 7 1, 3) := by decide +kernel
theorem dX6_graft_153 : decode cX6_graft 153 = .ok (.goto (-30), 3) := by decide +kernel
theorem dX6_graft_156 : decode cX6_graft 156 = .ok (.iload 4, 2) := by decide +kernel
theorem dX6_graft_158 : decode cX6_graft 158 = .ok (.iconst 1, 1) := by decide +kernel
theorem dX6_graft_159 : decode cX6_graft 159 = .ok (.isub, 1) := by decide +kernel
theorem dX6_graft_160 : decode cX6_graft 160 = .ok (.istore 7, 2) := by decide +kernel
theorem dX6_graft_162 : decode cX6_graft 162 = .ok (.iload 7, 2) := by decide +kernel
theorem dX6_graft_164 : decode cX6_graft 164 = .ok (.ifCond .lt 17, 3) := by decide +kernel
theorem dX6_graft_167 : decode cX6_graft 167 = .ok (.aload_n 0, 1) := by decide +kernel
theorem dX6_graft_168 : decode cX6_graft 168 = .ok (.iload_n 1, 1) := by decide +kernel
theorem dX6_graft_169 : decode cX6_graft 169 = .ok (.iload 7, 2) := by decide +kernel
theorem dX6_graft_171 : decode cX6_graft 171 = .ok (.iadd, 1) := by decide +kernel
theorem dX6_graft_172 : decode cX6_graft 172 = .ok (.invokevirtual 187, 3) := by decide +kernel
theorem dX6_graft_175 : decode cX6_graft 175 = .ok (.iinc 7 (-1), 3) := by decide +kernel
theorem dX6_graft_178 : decode cX6_graft 178 = .ok (.goto (-16), 3) := by decide +kernel
theorem dX6_graft_181 : decode cX6_graft 181 = .ok (.aload_n 0, 1) := by decide +kernel
theorem dX6_graft_182 : decode cX6_graft 182 = .ok (.iload_n 2, 1) := by decide +kernel
theorem dX6_graft_183 : decode cX6_graft 183 = .ok (.iload_n 1, 1) := by decide +kernel
theorem dX6_graft_184 : decode cX6_graft 184 = .ok (.if_icmp .le 10, 3) := by decide +kernel
theorem dX6_graft_187 : decode cX6_graft 187 = .ok (.iload_n 2, 1) := by decide +kernel
theorem dX6_graft_188 : decode cX6_graft 188 = .ok (.iload 4, 2) := by decide +kernel
theorem dX6_graft_190 : decode cX6_graft 190 = .ok (.isub, 1) := by decide +kernel
theorem dX6_graft_191 : decode cX6_graft 191 = .ok (.goto 4, 3) := by decide +kernel
theorem dX6_graft_194 : decode cX6_graft 194 = .ok (.iload_n 2, 1) := by decide +kernel
theorem dX6_graft_195 : decode cX6_graft 195 = .ok (.iload_n 3, 1) := by decide +kernel
theorem dX6_graft_196 : decode cX6_graft 196 = .ok (.invokevirtual 176, 3) := by decide +kernel
theorem dX6_graft_199 : decode cX6_graft 199 = .ok (.istore 7, 2) := by decide +kernel
theorem dX6_graft_201 : decode cX6_graft 201 = .ok (.aload_n 0, 1) := by decide +kernel
theorem dX6_graft_202 : decode cX6_graft 202 = .ok (.iload 7, 2) := by decide +kernel
theorem dX6_graft_204 : decode cX6_graft 204 = .ok (.invokevirtual 137, 3) := by decide +kernel
theorem dX6_graft_207 : decode cX6_graft 207 = .ok (.istore 8, 2) := by decide +kernel
theorem dX6_graft_209 : decode cX6_graft 209 = .ok (.iconst 0, 1) := by decide +kernel
theorem dX6_graft_210 : decode cX6_graft 210 = .ok (.istore 9, 2) := by decide +kernel
theorem dX6_graft_212 : decode cX6_graft 212 = .ok (.iload 9, 2) := by decide +kernel
theorem dX6_graft_214 : decode cX6_graft 214 = .ok (.iconst 2, 1) := by decide +kernel
theorem dX6_graft_215 : decode cX6_graft 215 = .ok (.iload 4, 2) := by decide +kernel
theorem dX6_graft_217 : decode cX6_graft 217 = .ok (.imul, 1) := by decide +kernel
theorem dX6_graft_218 : decode cX6_graft 218 = .ok (.if_icmp .ge 25, 3) := by decide +kernel
theorem dX6_graft_221 : decode cX6_graft 221 = .ok (.aload_n 0, 1) := by decide +kernel
theorem dX6_graft_222 : decode cX6_graft 222 = .ok (.iload 7, 2) := by decide +kernel
theorem dX6_graft_224 : decode cX6_graft 224 = .ok (.iload 9, 2) := by decide +kernel
theorem dX6_graft_226 : decode cX6_graft 226 = .ok (.iadd, 1) := by decide +kernel
theorem dX6_graft_227 : decode cX6_graft 227 = .ok (.aload_n 0, 1) := by decide +kernel
theorem dX6_graft_228 : decode cX6_graft 228 = .ok (.getfield 19, 3) := by decide +kernel
theorem dX6_graft_231 : decode cX6_graft 231 = .ok (.iload 9, 2) := by decide +kernel
theorem dX6_graft_233 : decode cX6_graft 233 = .ok (.iaload, 1) := by decide +kernel
theorem dX6_graft_234 : decode cX6_graft 234 = .ok (.invokevirtual 169, 3) := by decide +kernel
theorem dX6_graft_237 : decode cX6_graft 237 = .ok (.iinc 9 1, 3) := by decide +kernel
theorem dX6_graft_240 : decode cX6_graft 240 = .ok (.goto (-28), 3) := by decide +kernel
theorem dX6_graft_243 : decode cX6_graft 243 = .ok (.bipush 63, 2) := by decide +kernel
theorem dX6_graft_245 : decode cX6_graft 245 = .ok (.istore 9, 2) := by decide +kernel
theorem dX6_graft_247 : decode cX6_graft 247 = .ok (.iload 9, 2) := by decide +kernel
theorem dX6_graft_249 : decode cX6_graft 249 = .ok (.iload 8, 2) := by decide +kernel
theorem dX6_graft_251 : decode cX6_graft 251 = .ok (.iload 4, 2) := by decide +kernel
theorem dX6_graft_253 : decode cX6_graft 253 = .ok (.iadd, 1) := by decide +kernel
theorem dX6_graft_254 : decode cX6_graft 254 = .ok (.if_icmp .lt 34, 3) := by decide +kernel
theorem dX6_graft_257 : decode cX6_graft 257 = .ok (.aload_n 0, 1) := by decide +kernel
theorem dX6_graft_258 : decode cX6_graft 258 = .ok (.getfield 7, 3) := by decide +kernel
theorem dX6_graft_261 : decode cX6_graft 261 = .ok (.sipush 128, 3) := by decide +kernel
theorem dX6_graft_264 : decode cX6_graft 264 = .ok (.iload 9, 2) := by decide +kernel
theorem dX6_graft_266 : decode cX6_graft 266 = .ok (.iadd, 1) := by decide +kernel
theorem dX6_graft_267 : decode cX6_graft 267 = .ok (.aload_n 0, 1) := by decide +kernel
theorem dX6_graft_268 : decode cX6_graft 268 = .ok (.getfield 7, 3) := by decide +kernel
theorem dX6_graft_271 : decode cX6_graft 271 = .ok (.sipush 128, 3) := by decide +kernel
theorem dX6_graft_274 : decode cX6_graft 274 = .ok (.iload 9, 2) := by decide +kernel
theorem dX6_graft_276 : decode cX6_graft 276 = .ok (.iadd, 1) := by decide +kernel
theorem dX6_graft_277 : decode cX6_graft 277 = .ok (.iload 4, 2) := by decide +kernel
theorem dX6_graft_279 : decode cX6_graft 279 = .ok (.isub, 1) := by decide +kernel
theorem dX6_graft_280 : decode cX6_graft 280 = .ok (.iaload, 1) := by decide +kernel
theorem dX6_graft_281 : decode cX6_graft 281 = .ok (.iastore, 1) := by decide +kernel
theorem dX6_graft_282 : decode cX6_graft 282 = .ok (.iinc 9 (-1), 3) := by decide +kernel
theorem dX6_graft_285 : decode cX6_graft 285 = .ok (.goto (-38), 3) := by decide +kernel
theorem dX6_graft_288 : decode cX6_graft 288 = .ok (.iconst 0, 1) := by decide +kernel
theorem dX6_graft_289 : decode cX6_graft 289 = .ok (.istore 9, 2) := by decide +kernel
theorem dX6_graft_291 : decode cX6_graft 291 = .ok (.iload 9, 2) := by decide +kernel
theorem dX6_graft_293 : decode cX6_graft 293 = .ok (.iload 4, 2) := by decide +kernel
theorem dX6_graft_295 : decode cX6_graft 295 = .ok (.if_icmp .ge 30, 3) := by decide +kernel
theorem dX6_graft_298 : decode cX6_graft 298 = .ok (.aload_n 0, 1) := by decide +kernel
theorem dX6_graft_299 : decode cX6_graft 299 = .ok (.getfield 7, 3) := by decide +kernel
theorem dX6_graft_302 : decode cX6_graft 302 = .ok (.sipush 128, 3) := by decide +kernel
theorem dX6_graft_305 : decode cX6_graft 305 = .ok (.iload 8, 2) := by decide +kernel
theorem dX6_graft_307 : decode cX6_graft 307 = .ok (.iadd, 1) := by decide +kernel
theorem dX6_graft_308 : decode cX6_graft 308 = .ok (.iload 9, 2) := by decide +kernel
theorem dX6_graft_310 : decode cX6_graft 310 = .ok (.iadd, 1) := by decide +kernel
theorem dX6_graft_311 : decode cX6_graft 311 = .ok (.aload_n 0, 1) := by decide +kernel
theorem dX6_graft_312 : decode cX6_graft 312 = .ok (.getfield 22, 3) := by decide +kernel
theorem dX6_graft_315 : decode cX6_graft 315 = .ok (.iload 9, 2) := by decide +kernel
theorem dX6_graft_317 : decode cX6_graft 317 = .ok (.iaload, 1) := by decide +kernel
theorem dX6_graft_318 : decode cX6_graft 318 = .ok (.iastore, 1) := by decide +kernel
theorem dX6_graft_319 : decode cX6_graft 319 = .ok (.iinc 9 1, 3) := by decide +kernel
theorem dX6_graft_322 : decode cX6_graft 322 = .ok (.goto (-31), 3) := by decide +kernel
theorem dX6_graft_325 : decode cX6_graft 325 = .ok (.aload_n 0, 1) := by decide +kernel
theorem dX6_graft_326 : decode cX6_graft 326 = .ok (.getfield 7, 3) := by decide +kernel
theorem dX6_graft_329 : decode cX6_graft 329 = .ok (.sipush 192, 3) := by decide +kernel
theorem dX6_graft_332 : decode cX6_graft 332 = .ok (.dup2, 1) := by decide +kernel
theorem dX6_graft_333 : decode cX6_graft 333 = .ok (.iaload, 1) := by decide +kernel
theorem dX6_graft_334 : decode cX6_graft 334 = .ok (.iload 4, 2) := by decide +kernel
theorem dX6_graft_336 : decode cX6_graft 336 = .ok (.iadd, 1) := by decide +kernel
theorem dX6_graft_337 : decode cX6_graft 337 = .ok (.iastore, 1) := by decide +kernel
theorem dX6_graft_338 : decode cX6_graft 338 = .ok (.iload 8, 2) := by decide +kernel
theorem dX6_graft_340 : decode cX6_graft 340 = .ok (.ireturn, 1) := by decide +kernel
set_option maxRecDepth 20000 in
theorem ggX6_grow_X6_in : GoodIn wsX6_grow wsX6_in := goodIn_r _ [7] rfl (by decide +kernel)
set_option maxRecDepth 20000 in
theorem gX6_grow_X6_in : GoodIn wsX6_grow (va_wsS RX6 41 yX6_in wsX6_in) := goodIn_app (goodIn_of _ (by decide +kernel)) ggX6_grow_X6_in
set_option maxRecDepth 20000 in
theorem ggX6_grow_X6_plant : GoodIn wsX6_grow wsX6_plant := goodIn_r _ [11, 2, 12, 13, 14, 6, 15, 76, 77, 78, 79, 80, 81, 82, 83, 84, 85, 86, 87, 88, 89, 90, 91, 92, 93] rfl (by decide +kernel)
set_option maxRecDepth 20000 in
theorem gX6_grow_X6_plant : GoodIn wsX6_grow (wsV RX6 192 RX6 yX6_plant wsX6_plant) := goodIn_app (goodIn_of _ (by decide +kernel)) ggX6_grow_X6_plant
set_option maxRecDepth 20000 in
theorem ggX6_grow_X6_many : GoodIn wsX6_grow wsX6_many := goodIn_r _ [15, 2, 76, 77, 78, 79, 80, 81, 82, 83, 84, 85, 86, 87, 88, 89, 90, 91, 92, 93] rfl (by decide +kernel)
set_option maxRecDepth 20000 in
theorem gX6_grow_X6_many : GoodIn wsX6_grow (wsV RX6 89 RX6 yX6_many wsX6_many) := goodIn_app (goodIn_of _ (by decide +kernel)) ggX6_grow_X6_many
set_option maxRecDepth 20000 in
theorem ggX6_grow_X6_childrenOf : GoodIn wsX6_grow wsX6_childrenOf := goodIn_r _ [19, 20, 21, 22, 6, 23, 24, 25, 26, 27, 2, 28, 29, 30, 31, 32, 33, 34, 35, 36, 37, 38, 39, 76, 77, 78, 79, 80, 81, 82, 83, 84, 85, 86, 87, 88, 89, 90, 91, 92, 93] rfl (by decide +kernel)
set_option maxRecDepth 20000 in
theorem gX6_grow_X6_childrenOf : GoodIn wsX6_grow (wsV RX6 146 RX6 yX6_childrenOf wsX6_childrenOf) := goodIn_app (goodIn_of _ (by decide +kernel)) ggX6_grow_X6_childrenOf
set_option maxRecDepth 20000 in
theorem ggX6_grow_X6_leafs : GoodIn wsX6_grow wsX6_leafs := goodIn_r _ [43, 44, 45, 46, 6, 47, 48, 49, 50, 51, 20, 21, 22, 23, 24, 25, 26, 27, 2, 28, 29, 30, 31, 32, 33, 34, 35, 36, 37, 38, 39, 52, 53, 54, 55, 56, 57, 58, 59, 60, 61, 62, 63, 76, 77, 78, 79, 80, 81, 82, 83, 84, 85, 86, 87, 88, 89, 90, 91, 92, 93] rfl (by decide +kernel)
set_option maxRecDepth 20000 in
theorem gX6_grow_X6_leafs : GoodIn wsX6_grow (wsV RX6 183 RX6 yX6_leafs wsX6_leafs) := goodIn_app (goodIn_of _ (by decide +kernel)) ggX6_grow_X6_leafs
set_option maxRecDepth 20000 in
theorem ggX6_grow_X6_size : GoodIn wsX6_grow wsX6_size := goodIn_r _ [67, 68, 69, 70, 6, 71, 2, 72, 73, 74, 75, 36, 37, 38, 39, 12, 13, 14, 15, 76, 77, 78, 79, 80, 81, 82, 83, 84, 85, 86, 87, 88, 89, 90, 91, 92, 93] rfl (by decide +kernel)
set_option maxRecDepth 20000 in
theorem gX6_grow_X6_size : GoodIn wsX6_grow (wsV RX6 196 RX6 yX6_size wsX6_size) := goodIn_app (goodIn_of _ (by decide +kernel)) ggX6_grow_X6_size
theorem dX6_grow_0 : decode cX6_grow 0 = .ok (.iload_n 2, 1) := by decide +kernel
theorem dX6_grow_1 : decode cX6_grow 1 = .ok (.i2l, 1) := by decide +kernel
theorem dX6_grow_2 : decode cX6_grow 2 = .ok (.lconst 1, 1) := by decide +kernel
theorem dX6_grow_3 : decode cX6_grow 3 = .ok (.ldc2_w 190, 3) := by decide +kernel
theorem dX6_grow_6 : decode cX6_grow 6 = .ok (.invokestatic 41, 3) := by decide +kernel
theorem dX6_grow_9 : decode cX6_grow 9 = .ok (.ifCond .ne 5, 3) := by decide +kernel
theorem dX6_grow_12 : decode cX6_grow 12 = .ok (.iconst (-1), 1) := by decide +kernel
theorem dX6_grow_13 : decode cX6_grow 13 = .ok (.ireturn, 1) := by decide +kernel
theorem dX6_grow_14 : decode cX6_grow 14 = .ok (.aload_n 0, 1) := by decide +kernel
theorem dX6_grow_15 : decode cX6_grow 15 = .ok (.getfield 7, 3) := by decide +kernel
theorem dX6_grow_18 : decode cX6_grow 18 = .ok (.sipush 192, 3) := by decide +kernel
theorem dX6_grow_21 : decode cX6_grow 21 = .ok (.iconst 0, 1) := by decide +kernel
theorem dX6_grow_22 : decode cX6_grow 22 = .ok (.iastore, 1) := by decide +kernel
theorem dX6_grow_23 : decode cX6_grow 23 = .ok (.aload_n 0, 1) := by decide +kernel
theorem dX6_grow_24 : decode cX6_grow 24 = .ok (.iconst 0, 1) := by decide +kernel
theorem dX6_grow_25 : decode cX6_grow 25 = .ok (.invokevirtual 192, 3) := by decide +kernel
theorem dX6_grow_28 : decode cX6_grow 28 = .ok (.pop, 1) := by decide +kernel
theorem dX6_grow_29 : decode cX6_grow 29 = .ok (.iload_n 1, 1) := by decide +kernel
theorem dX6_grow_30 : decode cX6_grow 30 = .ok (.istore_n 3, 1) := by decide +kernel
theorem dX6_grow_31 : decode cX6_grow 31 = .ok (.iconst 1, 1) := by decide +kernel
theorem dX6_grow_32 : decode cX6_grow 32 = .ok (.istore 4, 2) := by decide +kernel
theorem dX6_grow_34 : decode cX6_grow 34 = .ok (.iload 4, 2) := by decide +kernel
theorem dX6_grow_36 : decode cX6_grow 36 = .ok (.iload_n 2, 1) := by decide +kernel
theorem dX6_grow_37 : decode cX6_grow 37 = .ok (.if_icmp .ge 47, 3) := by decide +kernel
theorem dX6_grow_40 : decode cX6_grow 40 = .ok (.iload_n 3, 1) := by decide +kernel
theorem dX6_grow_41 : decode cX6_grow 41 = .ok (.ldc 195, 2) := by decide +kernel
theorem dX6_grow_43 : decode cX6_grow 43 = .ok (.imul, 1) := by decide +kernel
theorem dX6_grow_44 : decode cX6_grow 44 = .ok (.sipush 12345, 3) := by decide +kernel
theorem dX6_grow_47 : decode cX6_grow 47 = .ok (.iadd, 1) := by decide +kernel
theorem dX6_grow_48 : decode cX6_grow 48 = .ok (.istore_n 3, 1) := by decide +kernel
theorem dX6_grow_49 : decode cX6_grow 49 = .ok (.iload_n 3, 1) := by decide +kernel
theorem dX6_grow_50 : decode cX6_grow 50 = .ok (.bipush 16, 2) := by decide +kernel
theorem dX6_grow_52 : decode cX6_grow 52 = .ok (.ishr, 1) := by decide +kernel
theorem dX6_grow_53 : decode cX6_grow 53 = .ok (.sipush 32767, 3) := by decide +kernel
theorem dX6_grow_56 : decode cX6_grow 56 = .ok (.iand, 1) := by decide +kernel
theorem dX6_grow_57 : decode cX6_grow 57 = .ok (.aload_n 0, 1) := by decide +kernel
theorem dX6_grow_58 : decode cX6_grow 58 = .ok (.invokevirtual 89, 3) := by decide +kernel
theorem dX6_grow_61 : decode cX6_grow 61 = .ok (.irem, 1) := by decide +kernel
theorem dX6_grow_62 : decode cX6_grow 62 = .ok (.istore 5, 2) := by decide +kernel
theorem dX6_grow_64 : decode cX6_grow 64 = .ok (.aload_n 0, 1) := by decide +kernel
theorem dX6_grow_65 : decode cX6_grow 65 = .ok (.iload 5, 2) := by decide +kernel
theorem dX6_grow_67 : decode cX6_grow 67 = .ok (.aload_n 0, 1) := by decide +kernel
theorem dX6_grow_68 : decode cX6_grow 68 = .ok (.iload 5, 2) := by decide +kernel
theorem dX6_grow_70 : decode cX6_grow 70 = .ok (.invokevirtual 146, 3) := by decide +kernel
theorem dX6_grow_73 : decode cX6_grow 73 = .ok (.iconst 0, 1) := by decide +kernel
theorem dX6_grow_74 : decode cX6_grow 74 = .ok (.invokevirtual 183, 3) := by decide +kernel
theorem dX6_grow_77 : decode cX6_grow 77 = .ok (.pop, 1) := by decide +kernel
theorem dX6_grow_78 : decode cX6_grow 78 = .ok (.iinc 4 1, 3) := by decide +kernel
theorem dX6_grow_81 : decode cX6_grow 81 = .ok (.goto (-47), 3) := by decide +kernel
theorem dX6_grow_84 : decode cX6_grow 84 = .ok (.aload_n 0, 1) := by decide +kernel
theorem dX6_grow_85 : decode cX6_grow 85 = .ok (.iconst 2, 1) := by decide +kernel
theorem dX6_grow_86 : decode cX6_grow 86 = .ok (.invokevirtual 196, 3) := by decide +kernel
theorem dX6_grow_89 : decode cX6_grow 89 = .ok (.ireturn, 1) := by decide +kernel
set_option maxRecDepth 20000 in
theorem ggX6_keep_X6_in : GoodIn wsX6_keep wsX6_in := goodIn_r _ [6] rfl (by decide +kernel)
set_option maxRecDepth 20000 in
theorem gX6_keep_X6_in : GoodIn wsX6_keep (va_wsS RX6 41 yX6_in wsX6_in) := goodIn_app (goodIn_of _ (by decide +kernel)) ggX6_keep_X6_in
theorem dX6_keep_0 : decode cX6_keep 0 = .ok (.iload_n 1, 1) := by decide +kernel
theorem dX6_keep_1 : decode cX6_keep 1 = .ok (.i2l, 1) := by decide +kernel
theorem dX6_keep_2 : decode cX6_keep 2 = .ok (.lconst 0, 1) := by decide +kernel
theorem dX6_keep_3 : decode cX6_keep 3 = .ok (.lconst 1, 1) := by decide +kernel
theorem dX6_keep_4 : decode cX6_keep 4 = .ok (.invokestatic 41, 3) := by decide +kernel
theorem dX6_keep_7 : decode cX6_keep 7 = .ok (.ifCond .ne 5, 3) := by decide +kernel
theorem dX6_keep_10 : decode cX6_keep 10 = .ok (.iconst (-1), 1) := by decide +kernel
theorem dX6_keep_11 : decode cX6_keep 11 = .ok (.ireturn, 1) := by decide +kernel
theorem dX6_keep_12 : decode cX6_keep 12 = .ok (.aload_n 0, 1) := by decide +kernel
theorem dX6_keep_13 : decode cX6_keep 13 = .ok (.getfield 25, 3) := by decide +kernel
theorem dX6_keep_16 : decode cX6_keep 16 = .ok (.iload_n 1, 1) := by decide +kernel
theorem dX6_keep_17 : decode cX6_keep 17 = .ok (.baload, 1) := by decide +kernel
theorem dX6_keep_18 : decode cX6_keep 18 = .ok (.ifCond .eq 7, 3) := by decide +kernel
theorem dX6_keep_21 : decode cX6_keep 21 = .ok (.iconst 1, 1) := by decide +kernel
theorem dX6_keep_22 : decode cX6_keep 22 = .ok (.goto 4, 3) := by decide +kernel
theorem dX6_keep_25 : decode cX6_keep 25 = .ok (.iconst 0, 1) := by decide +kernel
theorem dX6_keep_26 : decode cX6_keep 26 = .ok (.istore_n 2, 1) := by decide +kernel
theorem dX6_keep_27 : decode cX6_keep 27 = .ok (.iconst 0, 1) := by decide +kernel
theorem dX6_keep_28 : decode cX6_keep 28 = .ok (.istore_n 3, 1) := by decide +kernel
theorem dX6_keep_29 : decode cX6_keep 29 = .ok (.iload_n 3, 1) := by decide +kernel
theorem dX6_keep_30 : decode cX6_keep 30 = .ok (.sipush 193, 3) := by decide +kernel
theorem dX6_keep_33 : decode cX6_keep 33 = .ok (.if_icmp .ge 31, 3) := by decide +kernel
theorem dX6_keep_36 : decode cX6_keep 36 = .ok (.aload_n 0, 1) := by decide +kernel
theorem dX6_keep_37 : decode cX6_keep 37 = .ok (.getfield 7, 3) := by decide +kernel
theorem dX6_keep_40 : decode cX6_keep 40 = .ok (.sipush 193, 3) := by decide +kernel
theorem dX6_keep_43 : decode cX6_keep 43 = .ok (.iload_n 1, 1) := by decide +kernel
theorem dX6_keep_44 : decode cX6_keep 44 = .ok (.imul, 1) := by decide +kernel
theorem dX6_keep_45 : decode cX6_keep 45 = .ok (.sipush 193, 3) := by decide +kernel
theorem dX6_keep_48 : decode cX6_keep 48 = .ok (.iadd, 1) := by decide +kernel
theorem dX6_keep_49 : decode cX6_keep 49 = .ok (.iload_n 3, 1) := by decide +kernel
theorem dX6_keep_50 : decode cX6_keep 50 = .ok (.iadd, 1) := by decide +kernel
theorem dX6_keep_51 : decode cX6_keep 51 = .ok (.aload_n 0, 1) := by decide +kernel
theorem dX6_keep_52 : decode cX6_keep 52 = .ok (.getfield 7, 3) := by decide +kernel
theorem dX6_keep_55 : decode cX6_keep 55 = .ok (.iload_n 3, 1) := by decide +kernel
theorem dX6_keep_56 : decode cX6_keep 56 = .ok (.iaload, 1) := by decide +kernel
theorem dX6_keep_57 : decode cX6_keep 57 = .ok (.iastore, 1) := by decide +kernel
theorem dX6_keep_58 : decode cX6_keep 58 = .ok (.iinc 3 1, 3) := by decide +kernel
theorem dX6_keep_61 : decode cX6_keep 61 = .ok (.goto (-32), 3) := by decide +kernel
theorem dX6_keep_64 : decode cX6_keep 64 = .ok (.aload_n 0, 1) := by decide +kernel
theorem dX6_keep_65 : decode cX6_keep 65 = .ok (.getfield 25, 3) := by decide +kernel
theorem dX6_keep_68 : decode cX6_keep 68 = .ok (.iload_n 1, 1) := by decide +kernel
theorem dX6_keep_69 : decode cX6_keep 69 = .ok (.iconst 1, 1) := by decide +kernel
theorem dX6_keep_70 : decode cX6_keep 70 = .ok (.bastore, 1) := by decide +kernel
theorem dX6_keep_71 : decode cX6_keep 71 = .ok (.iload_n 2, 1) := by decide +kernel
theorem dX6_keep_72 : decode cX6_keep 72 = .ok (.ireturn, 1) := by decide +kernel
set_option maxRecDepth 20000 in
theorem ggX6_back_X6_in : GoodIn wsX6_back wsX6_in := goodIn_r _ [6] rfl (by decide +kernel)
set_option maxRecDepth 20000 in
theorem gX6_back_X6_in : GoodIn wsX6_back (va_wsS RX6 41 yX6_in wsX6_in) := goodIn_app (goodIn_of _ (by decide +kernel)) ggX6_back_X6_in
set_option maxRecDepth 20000 in
theorem ggX6_back_X6_many : GoodIn wsX6_back wsX6_many := goodIn_r _ [10, 2, 11, 12, 13, 14, 15, 16, 17, 18, 19, 20, 21, 22, 23, 24, 25, 26, 27, 28] rfl (by decide +kernel)
set_option maxRecDepth 20000 in
theorem gX6_back_X6_many : GoodIn wsX6_back (wsV RX6 89 RX6 yX6_many wsX6_many) := goodIn_app (goodIn_of _ (by decide +kernel)) ggX6_back_X6_many
theorem dX6_back_0 : decode cX6_back 0 = .ok (.iload_n 1, 1) := by decide +kernel
theorem dX6_back_1 : decode cX6_back 1 = .ok (.i2l, 1) := by decide +kernel
theorem dX6_back_2 : decode cX6_back 2 = .ok (.lconst 0, 1) := by decide +kernel
theorem dX6_back_3 : decode cX6_back 3 = .ok (.lconst 1, 1) := by decide +kernel
theorem dX6_back_4 : decode cX6_back 4 = .ok (.invokestatic 41, 3) := by decide +kernel
theorem dX6_back_7 : decode cX6_back 7 = .ok (.ifCond .ne 5, 3) := by decide +kernel
theorem dX6_back_10 : decode cX6_back 10 = .ok (.iconst (-1), 1) := by decide +kernel
theorem dX6_back_11 : decode cX6_back 11 = .ok (.ireturn, 1) := by decide +kernel
theorem dX6_back_12 : decode cX6_back 12 = .ok (.aload_n 0, 1) := by decide +kernel
theorem dX6_back_13 : decode cX6_back 13 = .ok (.getfield 25, 3) := by decide +kernel
theorem dX6_back_16 : decode cX6_back 16 = .ok (.iload_n 1, 1) := by decide +kernel
theorem dX6_back_17 : decode cX6_back 17 = .ok (.baload, 1) := by decide +kernel
theorem dX6_back_18 : decode cX6_back 18 = .ok (.ifCond .ne 6, 3) := by decide +kernel
theorem dX6_back_21 : decode cX6_back 21 = .ok (.bipush (-2), 2) := by decide +kernel
theorem dX6_back_23 : decode cX6_back 23 = .ok (.ireturn, 1) := by decide +kernel
theorem dX6_back_24 : decode cX6_back 24 = .ok (.iconst 0, 1) := by decide +kernel
theorem dX6_back_25 : decode cX6_back 25 = .ok (.istore_n 2, 1) := by decide +kernel
theorem dX6_back_26 : decode cX6_back 26 = .ok (.iload_n 2, 1) := by decide +kernel
theorem dX6_back_27 : decode cX6_back 27 = .ok (.sipush 193, 3) := by decide +kernel
theorem dX6_back_30 : decode cX6_back 30 = .ok (.if_icmp .ge 31, 3) := by decide +kernel
theorem dX6_back_33 : decode cX6_back 33 = .ok (.aload_n 0, 1) := by decide +kernel
theorem dX6_back_34 : decode cX6_back 34 = .ok (.getfield 7, 3) := by decide +kernel
theorem dX6_back_37 : decode cX6_back 37 = .ok (.iload_n 2, 1) := by decide +kernel
theorem dX6_back_38 : decode cX6_back 38 = .ok (.aload_n 0, 1) := by decide +kernel
theorem dX6_back_39 : decode cX6_back 39 = .ok (.getfield 7, 3) := by decide +kernel
theorem dX6_back_42 : decode cX6_back 42 = .ok (.sipush 193, 3) := by decide +kernel
theorem dX6_back_45 : decode cX6_back 45 = .ok (.iload_n 1, 1) := by decide +kernel
theorem dX6_back_46 : decode cX6_back 46 = .ok (.imul, 1) := by decide +kernel
theorem dX6_back_47 : decode cX6_back 47 = .ok (.sipush 193, 3) := by decide +kernel
theorem dX6_back_50 : decode cX6_back 50 = .ok (.iadd, 1) := by decide +kernel
theorem dX6_back_51 : decode cX6_back 51 = .ok (.iload_n 2, 1) := by decide +kernel
theorem dX6_back_52 : decode cX6_back 52 = .ok (.iadd, 1) := by decide +kernel
theorem dX6_back_53 : decode cX6_back 53 = .ok (.iaload, 1) := by decide +kernel
theorem dX6_back_54 : decode cX6_back 54 = .ok (.iastore, 1) := by decide +kernel
theorem dX6_back_55 : decode cX6_back 55 = .ok (.iinc 2 1, 3) := by decide +kernel
theorem dX6_back_58 : decode cX6_back 58 = .ok (.goto (-32), 3) := by decide +kernel
theorem dX6_back_61 : decode cX6_back 61 = .ok (.aload_n 0, 1) := by decide +kernel
theorem dX6_back_62 : decode cX6_back 62 = .ok (.invokevirtual 89, 3) := by decide +kernel
theorem dX6_back_65 : decode cX6_back 65 = .ok (.ireturn, 1) := by decide +kernel
set_option maxRecDepth 20000 in
theorem ggX6_sheet_X6_in : GoodIn wsX6_sheet wsX6_in := goodIn_r _ [9] rfl (by decide +kernel)
set_option maxRecDepth 20000 in
theorem gX6_sheet_X6_in : GoodIn wsX6_sheet (va_wsS RX6 41 yX6_in wsX6_in) := goodIn_app (goodIn_of _ (by decide +kernel)) ggX6_sheet_X6_in
theorem dX6_sheet_0 : decode cX6_sheet 0 = .ok (.iload_n 1, 1) := by decide +kernel
theorem dX6_sheet_1 : decode cX6_sheet 1 = .ok (.i2l, 1) := by decide +kernel
theorem dX6_sheet_2 : decode cX6_sheet 2 = .ok (.lconst 0, 1) := by decide +kernel
theorem dX6_sheet_3 : decode cX6_sheet 3 = .ok (.ldc2_w 118, 3) := by decide +kernel
theorem dX6_sheet_6 : decode cX6_sheet 6 = .ok (.invokestatic 41, 3) := by decide +kernel
theorem dX6_sheet_9 : decode cX6_sheet 9 = .ok (.ifCond .eq 21, 3) := by decide +kernel
theorem dX6_sheet_12 : decode cX6_sheet 12 = .ok (.iload_n 2, 1) := by decide +kernel
theorem dX6_sheet_13 : decode cX6_sheet 13 = .ok (.i2l, 1) := by decide +kernel
theorem dX6_sheet_14 : decode cX6_sheet 14 = .ok (.lconst 0, 1) := by decide +kernel
theorem dX6_sheet_15 : decode cX6_sheet 15 = .ok (.ldc2_w 109, 3) := by decide +kernel
theorem dX6_sheet_18 : decode cX6_sheet 18 = .ok (.invokestatic 41, 3) := by decide +kernel
theorem dX6_sheet_21 : decode cX6_sheet 21 = .ok (.ifCond .eq 9, 3) := by decide +kernel
theorem dX6_sheet_24 : decode cX6_sheet 24 = .ok (.iload_n 3, 1) := by decide +kernel
theorem dX6_sheet_25 : decode cX6_sheet 25 = .ok (.bipush 40, 2) := by decide +kernel
theorem dX6_sheet_27 : decode cX6_sheet 27 = .ok (.if_icmp .le 5, 3) := by decide +kernel
theorem dX6_sheet_30 : decode cX6_sheet 30 = .ok (.iconst (-1), 1) := by decide +kernel
theorem dX6_sheet_31 : decode cX6_sheet 31 = .ok (.ireturn, 1) := by decide +kernel
theorem dX6_sheet_32 : decode cX6_sheet 32 = .ok (.iload_n 3, 1) := by decide +kernel
theorem dX6_sheet_33 : decode cX6_sheet 33 = .ok (.ifCond .ge 6, 3) := by decide +kernel
theorem dX6_sheet_36 : decode cX6_sheet 36 = .ok (.bipush (-14), 2) := by decide +kernel
theorem dX6_sheet_38 : decode cX6_sheet 38 = .ok (.ireturn, 1) := by decide +kernel
theorem dX6_sheet_39 : decode cX6_sheet 39 = .ok (.aload_n 0, 1) := by decide +kernel
theorem dX6_sheet_40 : decode cX6_sheet 40 = .ok (.getfield 29, 3) := by decide +kernel
theorem dX6_sheet_43 : decode cX6_sheet 43 = .ok (.iload_n 1, 1) := by decide +kernel
theorem dX6_sheet_44 : decode cX6_sheet 44 = .ok (.iload_n 2, 1) := by decide +kernel
theorem dX6_sheet_45 : decode cX6_sheet 45 = .ok (.iastore, 1) := by decide +kernel
theorem dX6_sheet_46 : decode cX6_sheet 46 = .ok (.aload_n 0, 1) := by decide +kernel
theorem dX6_sheet_47 : decode cX6_sheet 47 = .ok (.getfield 32, 3) := by decide +kernel
theorem dX6_sheet_50 : decode cX6_sheet 50 = .ok (.iload_n 1, 1) := by decide +kernel
theorem dX6_sheet_51 : decode cX6_sheet 51 = .ok (.iload_n 3, 1) := by decide +kernel
theorem dX6_sheet_52 : decode cX6_sheet 52 = .ok (.iastore, 1) := by decide +kernel
theorem dX6_sheet_53 : decode cX6_sheet 53 = .ok (.iconst 0, 1) := by decide +kernel
theorem dX6_sheet_54 : decode cX6_sheet 54 = .ok (.istore 4, 2) := by decide +kernel
theorem dX6_sheet_56 : decode cX6_sheet 56 = .ok (.iload 4, 2) := by decide +kernel
theorem dX6_sheet_58 : decode cX6_sheet 58 = .ok (.bipush 40, 2) := by decide +kernel
theorem dX6_sheet_60 : decode cX6_sheet 60 = .ok (.if_icmp .ge 22, 3) := by decide +kernel
theorem dX6_sheet_63 : decode cX6_sheet 63 = .ok (.aload_n 0, 1) := by decide +kernel
theorem dX6_sheet_64 : decode cX6_sheet 64 = .ok (.getfield 35, 3) := by decide +kernel
theorem dX6_sheet_67 : decode cX6_sheet 67 = .ok (.bipush 40, 2) := by decide +kernel
theorem dX6_sheet_69 : decode cX6_sheet 69 = .ok (.iload_n 1, 1) := by decide +kernel
theorem dX6_sheet_70 : decode cX6_sheet 70 = .ok (.imul, 1) := by decide +kernel
theorem dX6_sheet_71 : decode cX6_sheet 71 = .ok (.iload 4, 2) := by decide +kernel
theorem dX6_sheet_73 : decode cX6_sheet 73 = .ok (.iadd, 1) := by decide +kernel
theorem dX6_sheet_74 : decode cX6_sheet 74 = .ok (.lconst 0, 1) := by decide +kernel
theorem dX6_sheet_75 : decode cX6_sheet 75 = .ok (.lastore, 1) := by decide +kernel
theorem dX6_sheet_76 : decode cX6_sheet 76 = .ok (.iinc 4 1, 3) := by decide +kernel
theorem dX6_sheet_79 : decode cX6_sheet 79 = .ok (.goto (-23), 3) := by decide +kernel
theorem dX6_sheet_82 : decode cX6_sheet 82 = .ok (.iconst 1, 1) := by decide +kernel
theorem dX6_sheet_83 : decode cX6_sheet 83 = .ok (.ireturn, 1) := by decide +kernel
theorem dX6_narrowed_0 : decode cX6_narrowed 0 = .ok (.iload_n 0, 1) := by decide +kernel
theorem dX6_narrowed_1 : decode cX6_narrowed 1 = .ok (.ifCond .ne 13, 3) := by decide +kernel
theorem dX6_narrowed_4 : decode cX6_narrowed 4 = .ok (.lload_n 1, 1) := by decide +kernel
theorem dX6_narrowed_5 : decode cX6_narrowed 5 = .ok (.bipush 56, 2) := by decide +kernel
theorem dX6_narrowed_7 : decode cX6_narrowed 7 = .ok (.lshl, 1) := by decide +kernel
theorem dX6_narrowed_8 : decode cX6_narrowed 8 = .ok (.bipush 56, 2) := by decide +kernel
theorem dX6_narrowed_10 : decode cX6_narrowed 10 = .ok (.lshr, 1) := by decide +kernel
theorem dX6_narrowed_11 : decode cX6_narrowed 11 = .ok (.goto 19, 3) := by decide +kernel
theorem dX6_narrowed_14 : decode cX6_narrowed 14 = .ok (.iload_n 0, 1) := by decide +kernel
theorem dX6_narrowed_15 : decode cX6_narrowed 15 = .ok (.iconst 1, 1) := by decide +kernel
theorem dX6_narrowed_16 : decode cX6_narrowed 16 = .ok (.if_icmp .ne 13, 3) := by decide +kernel
theorem dX6_narrowed_19 : decode cX6_narrowed 19 = .ok (.lload_n 1, 1) := by decide +kernel
theorem dX6_narrowed_20 : decode cX6_narrowed 20 = .ok (.bipush 32, 2) := by decide +kernel
theorem dX6_narrowed_22 : decode cX6_narrowed 22 = .ok (.lshl, 1) := by decide +kernel
theorem dX6_narrowed_23 : decode cX6_narrowed 23 = .ok (.bipush 32, 2) := by decide +kernel
theorem dX6_narrowed_25 : decode cX6_narrowed 25 = .ok (.lshr, 1) := by decide +kernel
theorem dX6_narrowed_26 : decode cX6_narrowed 26 = .ok (.goto 4, 3) := by decide +kernel
theorem dX6_narrowed_29 : decode cX6_narrowed 29 = .ok (.lload_n 1, 1) := by decide +kernel
theorem dX6_narrowed_30 : decode cX6_narrowed 30 = .ok (.lreturn, 1) := by decide +kernel
set_option maxRecDepth 20000 in
theorem ggX6_lay_X6_in : GoodIn wsX6_lay wsX6_in := goodIn_r _ [8] rfl (by decide +kernel)
set_option maxRecDepth 20000 in
theorem gX6_lay_X6_in : GoodIn wsX6_lay (va_wsS RX6 41 yX6_in wsX6_in) := goodIn_app (goodIn_of _ (by decide +kernel)) ggX6_lay_X6_in
set_option maxRecDepth 20000 in
theorem ggX6_lay_X6_narrowed : GoodIn wsX6_lay wsX6_narrowed := goodIn_r _ [11] rfl (by decide +kernel)
set_option maxRecDepth 20000 in
theorem gX6_lay_X6_narrowed : GoodIn wsX6_lay (va_wsS RX6 199 yX6_narrowed wsX6_narrowed) := goodIn_app (goodIn_of _ (by decide +kernel)) ggX6_lay_X6_narrowed
theorem dX6_lay_0 : decode cX6_lay 0 = .ok (.iload_n 1, 1) := by decide +kernel
theorem dX6_lay_1 : decode cX6_lay 1 = .ok (.i2l, 1) := by decide +kernel
theorem dX6_lay_2 : decode cX6_lay 2 = .ok (.lconst 0, 1) := by decide +kernel
theorem dX6_lay_3 : decode cX6_lay 3 = .ok (.ldc2_w 118, 3) := by decide +kernel
theorem dX6_lay_6 : decode cX6_lay 6 = .ok (.invokestatic 41, 3) := by decide +kernel
theorem dX6_lay_9 : decode cX6_lay 9 = .ok (.ifCond .ne 5, 3) := by decide +kernel
theorem dX6_lay_12 : decode cX6_lay 12 = .ok (.iconst (-1), 1) := by decide +kernel
theorem dX6_lay_13 : decode cX6_lay 13 = .ok (.ireturn, 1) := by decide +kernel
theorem dX6_lay_14 : decode cX6_lay 14 = .ok (.aload_n 0, 1) := by decide +kernel
theorem dX6_lay_15 : decode cX6_lay 15 = .ok (.getfield 29, 3) := by decide +kernel
theorem dX6_lay_18 : decode cX6_lay 18 = .ok (.iload_n 1, 1) := by decide +kernel
theorem dX6_lay_19 : decode cX6_lay 19 = .ok (.iaload, 1) := by decide +kernel
theorem dX6_lay_20 : decode cX6_lay 20 = .ok (.bipush (-4), 2) := by decide +kernel
theorem dX6_lay_22 : decode cX6_lay 22 = .ok (.if_icmp .ne 6, 3) := by decide +kernel
theorem dX6_lay_25 : decode cX6_lay 25 = .ok (.bipush (-11), 2) := by decide +kernel
theorem dX6_lay_27 : decode cX6_lay 27 = .ok (.ireturn, 1) := by decide +kernel
theorem dX6_lay_28 : decode cX6_lay 28 = .ok (.iload_n 2, 1) := by decide +kernel
theorem dX6_lay_29 : decode cX6_lay 29 = .ok (.i2l, 1) := by decide +kernel
theorem dX6_lay_30 : decode cX6_lay 30 = .ok (.lconst 0, 1) := by decide +kernel
theorem dX6_lay_31 : decode cX6_lay 31 = .ok (.aload_n 0, 1) := by decide +kernel
theorem dX6_lay_32 : decode cX6_lay 32 = .ok (.getfield 32, 3) := by decide +kernel
theorem dX6_lay_35 : decode cX6_lay 35 = .ok (.iload_n 1, 1) := by decide +kernel
theorem dX6_lay_36 : decode cX6_lay 36 = .ok (.iaload, 1) := by decide +kernel
theorem dX6_lay_37 : decode cX6_lay 37 = .ok (.iconst 1, 1) := by decide +kernel
theorem dX6_lay_38 : decode cX6_lay 38 = .ok (.isub, 1) := by decide +kernel
theorem dX6_lay_39 : decode cX6_lay 39 = .ok (.i2l, 1) := by decide +kernel
theorem dX6_lay_40 : decode cX6_lay 40 = .ok (.invokestatic 41, 3) := by decide +kernel
theorem dX6_lay_43 : decode cX6_lay 43 = .ok (.ifCond .ne 6, 3) := by decide +kernel
theorem dX6_lay_46 : decode cX6_lay 46 = .ok (.bipush (-12), 2) := by decide +kernel
theorem dX6_lay_48 : decode cX6_lay 48 = .ok (.ireturn, 1) := by decide +kernel
theorem dX6_lay_49 : decode cX6_lay 49 = .ok (.aload_n 0, 1) := by decide +kernel
theorem dX6_lay_50 : decode cX6_lay 50 = .ok (.getfield 35, 3) := by decide +kernel
theorem dX6_lay_53 : decode cX6_lay 53 = .ok (.bipush 40, 2) := by decide +kernel
theorem dX6_lay_55 : decode cX6_lay 55 = .ok (.iload_n 1, 1) := by decide +kernel
theorem dX6_lay_56 : decode cX6_lay 56 = .ok (.imul, 1) := by decide +kernel
theorem dX6_lay_57 : decode cX6_lay 57 = .ok (.iload_n 2, 1) := by decide +kernel
theorem dX6_lay_58 : decode cX6_lay 58 = .ok (.iadd, 1) := by decide +kernel
theorem dX6_lay_59 : decode cX6_lay 59 = .ok (.aload_n 0, 1) := by decide +kernel
theorem dX6_lay_60 : decode cX6_lay 60 = .ok (.getfield 29, 3) := by decide +kernel
theorem dX6_lay_63 : decode cX6_lay 63 = .ok (.iload_n 1, 1) := by decide +kernel
theorem dX6_lay_64 : decode cX6_lay 64 = .ok (.iaload, 1) := by decide +kernel
theorem dX6_lay_65 : decode cX6_lay 65 = .ok (.lload_n 3, 1) := by decide +kernel
theorem dX6_lay_66 : decode cX6_lay 66 = .ok (.invokestatic 199, 3) := by decide +kernel
theorem dX6_lay_69 : decode cX6_lay 69 = .ok (.lastore, 1) := by decide +kernel
theorem dX6_lay_70 : decode cX6_lay 70 = .ok (.iconst 1, 1) := by decide +kernel
theorem dX6_lay_71 : decode cX6_lay 71 = .ok (.ireturn, 1) := by decide +kernel
set_option maxRecDepth 20000 in
theorem ggX6_look_X6_in : GoodIn wsX6_look wsX6_in := goodIn_r _ [8] rfl (by decide +kernel)
set_option maxRecDepth 20000 in
theorem gX6_look_X6_in : GoodIn wsX6_look (va_wsS RX6 41 yX6_in wsX6_in) := goodIn_app (goodIn_of _ (by decide +kernel)) ggX6_look_X6_in
theorem dX6_look_0 : decode cX6_look 0 = .ok (.iload_n 1, 1) := by decide +kernel
theorem dX6_look_1 : decode cX6_look 1 = .ok (.i2l, 1) := by decide +kernel
theorem dX6_look_2 : decode cX6_look 2 = .ok (.lconst 0, 1) := by decide +kernel
theorem dX6_look_3 : decode cX6_look 3 = .ok (.ldc2_w 118, 3) := by decide +kernel
theorem dX6_look_6 : decode cX6_look 6 = .ok (.invokestatic 41, 3) := by decide +kernel
theorem dX6_look_9 : decode cX6_look 9 = .ok (.ifCond .eq 46, 3) := by decide +kernel
theorem dX6_look_12 : decode cX6_look 12 = .ok (.aload_n 0, 1) := by decide +kernel
theorem dX6_look_13 : decode cX6_look 13 = .ok (.getfield 29, 3) := by decide +kernel
theorem dX6_look_16 : decode cX6_look 16 = .ok (.iload_n 1, 1) := by decide +kernel
theorem dX6_look_17 : decode cX6_look 17 = .ok (.iaload, 1) := by decide +kernel
theorem dX6_look_18 : decode cX6_look 18 = .ok (.bipush (-4), 2) := by decide +kernel
theorem dX6_look_20 : decode cX6_look 20 = .ok (.if_icmp .eq 35, 3) := by decide +kernel
theorem dX6_look_23 : decode cX6_look 23 = .ok (.iload_n 2, 1) := by decide +kernel
theorem dX6_look_24 : decode cX6_look 24 = .ok (.i2l, 1) := by decide +kernel
theorem dX6_look_25 : decode cX6_look 25 = .ok (.lconst 0, 1) := by decide +kernel
theorem dX6_look_26 : decode cX6_look 26 = .ok (.aload_n 0, 1) := by decide +kernel
theorem dX6_look_27 : decode cX6_look 27 = .ok (.getfield 32, 3) := by decide +kernel
theorem dX6_look_30 : decode cX6_look 30 = .ok (.iload_n 1, 1) := by decide +kernel
theorem dX6_look_31 : decode cX6_look 31 = .ok (.iaload, 1) := by decide +kernel
theorem dX6_look_32 : decode cX6_look 32 = .ok (.iconst 1, 1) := by decide +kernel
theorem dX6_look_33 : decode cX6_look 33 = .ok (.isub, 1) := by decide +kernel
theorem dX6_look_34 : decode cX6_look 34 = .ok (.i2l, 1) := by decide +kernel
theorem dX6_look_35 : decode cX6_look 35 = .ok (.invokestatic 41, 3) := by decide +kernel
theorem dX6_look_38 : decode cX6_look 38 = .ok (.ifCond .eq 17, 3) := by decide +kernel
theorem dX6_look_41 : decode cX6_look 41 = .ok (.aload_n 0, 1) := by decide +kernel
theorem dX6_look_42 : decode cX6_look 42 = .ok (.getfield 35, 3) := by decide +kernel
theorem dX6_look_45 : decode cX6_look 45 = .ok (.bipush 40, 2) := by decide +kernel
theorem dX6_look_47 : decode cX6_look 47 = .ok (.iload_n 1, 1) := by decide +kernel
theorem dX6_look_48 : decode cX6_look 48 = .ok (.imul, 1) := by decide +kernel
theorem dX6_look_49 : decode cX6_look 49 = .ok (.iload_n 2, 1) := by decide +kernel
theorem dX6_look_50 : decode cX6_look 50 = .ok (.iadd, 1) := by decide +kernel
theorem dX6_look_51 : decode cX6_look 51 = .ok (.laload, 1) := by decide +kernel
theorem dX6_look_52 : decode cX6_look 52 = .ok (.goto 4, 3) := by decide +kernel
theorem dX6_look_55 : decode cX6_look 55 = .ok (.lconst 0, 1) := by decide +kernel
theorem dX6_look_56 : decode cX6_look 56 = .ok (.lreturn, 1) := by decide +kernel
theorem dX6_wide_0 : decode cX6_wide 0 = .ok (.iload_n 0, 1) := by decide +kernel
theorem dX6_wide_1 : decode cX6_wide 1 = .ok (.ifCond .ne 8, 3) := by decide +kernel
theorem dX6_wide_4 : decode cX6_wide 4 = .ok (.bipush 8, 2) := by decide +kernel
theorem dX6_wide_6 : decode cX6_wide 6 = .ok (.goto 15, 3) := by decide +kernel
theorem dX6_wide_9 : decode cX6_wide 9 = .ok (.iload_n 0, 1) := by decide +kernel
theorem dX6_wide_10 : decode cX6_wide 10 = .ok (.iconst 1, 1) := by decide +kernel
theorem dX6_wide_11 : decode cX6_wide 11 = .ok (.if_icmp .ne 8, 3) := by decide +kernel
theorem dX6_wide_14 : decode cX6_wide 14 = .ok (.bipush 32, 2) := by decide +kernel
theorem dX6_wide_16 : decode cX6_wide 16 = .ok (.goto 5, 3) := by decide +kernel
theorem dX6_wide_19 : decode cX6_wide 19 = .ok (.bipush 64, 2) := by decide +kernel
theorem dX6_wide_21 : decode cX6_wide 21 = .ok (.ireturn, 1) := by decide +kernel
set_option maxRecDepth 20000 in
theorem ggX6_foundAt_X6_wide : GoodIn wsX6_foundAt wsX6_wide := goodIn_r _ [6] rfl (by decide +kernel)
set_option maxRecDepth 20000 in
theorem gX6_foundAt_X6_wide : GoodIn wsX6_foundAt (va_wsS RX6 203 yX6_wide wsX6_wide) := goodIn_app (goodIn_of _ (by decide +kernel)) ggX6_foundAt_X6_wide
theorem dX6_foundAt_0 : decode cX6_foundAt 0 = .ok (.aload_n 0, 1) := by decide +kernel
theorem dX6_foundAt_1 : decode cX6_foundAt 1 = .ok (.getfield 29, 3) := by decide +kernel
theorem dX6_foundAt_4 : decode cX6_foundAt 4 = .ok (.iload_n 1, 1) := by decide +kernel
theorem dX6_foundAt_5 : decode cX6_foundAt 5 = .ok (.iaload, 1) := by decide +kernel
theorem dX6_foundAt_6 : decode cX6_foundAt 6 = .ok (.bipush (-4), 2) := by decide +kernel
theorem dX6_foundAt_8 : decode cX6_foundAt 8 = .ok (.if_icmp .ne 7, 3) := by decide +kernel
theorem dX6_foundAt_11 : decode cX6_foundAt 11 = .ok (.iconst 1, 1) := by decide +kernel
theorem dX6_foundAt_12 : decode cX6_foundAt 12 = .ok (.goto 40, 3) := by decide +kernel
theorem dX6_foundAt_15 : decode cX6_foundAt 15 = .ok (.aload_n 0, 1) := by decide +kernel
theorem dX6_foundAt_16 : decode cX6_foundAt 16 = .ok (.getfield 29, 3) := by decide +kernel
theorem dX6_foundAt_19 : decode cX6_foundAt 19 = .ok (.iload_n 1, 1) := by decide +kernel
theorem dX6_foundAt_20 : decode cX6_foundAt 20 = .ok (.iaload, 1) := by decide +kernel
theorem dX6_foundAt_21 : decode cX6_foundAt 21 = .ok (.iload_n 2, 1) := by decide +kernel
theorem dX6_foundAt_22 : decode cX6_foundAt 22 = .ok (.if_icmp .eq 7, 3) := by decide +kernel
theorem dX6_foundAt_25 : decode cX6_foundAt 25 = .ok (.iconst 3, 1) := by decide +kernel
theorem dX6_foundAt_26 : decode cX6_foundAt 26 = .ok (.goto 26, 3) := by decide +kernel
theorem dX6_foundAt_29 : decode cX6_foundAt 29 = .ok (.lload_n 3, 1) := by decide +kernel
theorem dX6_foundAt_30 : decode cX6_foundAt 30 = .ok (.iload_n 2, 1) := by decide +kernel
theorem dX6_foundAt_31 : decode cX6_foundAt 31 = .ok (.invokestatic 203, 3) := by decide +kernel
theorem dX6_foundAt_34 : decode cX6_foundAt 34 = .ok (.i2l, 1) := by decide +kernel
theorem dX6_foundAt_35 : decode cX6_foundAt 35 = .ok (.ldiv, 1) := by decide +kernel
theorem dX6_foundAt_36 : decode cX6_foundAt 36 = .ok (.aload_n 0, 1) := by decide +kernel
theorem dX6_foundAt_37 : decode cX6_foundAt 37 = .ok (.getfield 32, 3) := by decide +kernel
theorem dX6_foundAt_40 : decode cX6_foundAt 40 = .ok (.iload_n 1, 1) := by decide +kernel
theorem dX6_foundAt_41 : decode cX6_foundAt 41 = .ok (.iaload, 1) := by decide +kernel
theorem dX6_foundAt_42 : decode cX6_foundAt 42 = .ok (.i2l, 1) := by decide +kernel
theorem dX6_foundAt_43 : decode cX6_foundAt 43 = .ok (.lcmp, 1) := by decide +kernel
theorem dX6_foundAt_44 : decode cX6_foundAt 44 = .ok (.ifCond .lt 7, 3) := by decide +kernel
theorem dX6_foundAt_47 : decode cX6_foundAt 47 = .ok (.iconst 2, 1) := by decide +kernel
theorem dX6_foundAt_48 : decode cX6_foundAt 48 = .ok (.goto 4, 3) := by decide +kernel
theorem dX6_foundAt_51 : decode cX6_foundAt 51 = .ok (.iconst 0, 1) := by decide +kernel
theorem dX6_foundAt_52 : decode cX6_foundAt 52 = .ok (.ireturn, 1) := by decide +kernel
theorem dX6_isRow_0 : decode cX6_isRow 0 = .ok (.iconst 0, 1) := by decide +kernel
theorem dX6_isRow_1 : decode cX6_isRow 1 = .ok (.istore_n 2, 1) := by decide +kernel
theorem dX6_isRow_2 : decode cX6_isRow 2 = .ok (.iload_n 1, 1) := by decide +kernel
theorem dX6_isRow_3 : decode cX6_isRow 3 = .ok (.iconst 2, 1) := by decide +kernel
theorem dX6_isRow_4 : decode cX6_isRow 4 = .ok (.irem, 1) := by decide +kernel
theorem dX6_isRow_5 : decode cX6_isRow 5 = .ok (.ifCond .ne 7, 3) := by decide +kernel
theorem dX6_isRow_8 : decode cX6_isRow 8 = .ok (.iconst 1, 1) := by decide +kernel
theorem dX6_isRow_9 : decode cX6_isRow 9 = .ok (.goto 4, 3) := by decide +kernel
theorem dX6_isRow_12 : decode cX6_isRow 12 = .ok (.iconst 0, 1) := by decide +kernel
theorem dX6_isRow_13 : decode cX6_isRow 13 = .ok (.istore_n 3, 1) := by decide +kernel
theorem dX6_isRow_14 : decode cX6_isRow 14 = .ok (.iconst 0, 1) := by decide +kernel
theorem dX6_isRow_15 : decode cX6_isRow 15 = .ok (.istore 4, 2) := by decide +kernel
theorem dX6_isRow_17 : decode cX6_isRow 17 = .ok (.iload 4, 2) := by decide +kernel
theorem dX6_isRow_19 : decode cX6_isRow 19 = .ok (.iload_n 1, 1) := by decide +kernel
theorem dX6_isRow_20 : decode cX6_isRow 20 = .ok (.if_icmp .ge 54, 3) := by decide +kernel
theorem dX6_isRow_23 : decode cX6_isRow 23 = .ok (.iload_n 2, 1) := by decide +kernel
theorem dX6_isRow_24 : decode cX6_isRow 24 = .ok (.aload_n 0, 1) := by decide +kernel
theorem dX6_isRow_25 : decode cX6_isRow 25 = .ok (.getfield 13, 3) := by decide +kernel
theorem dX6_isRow_28 : decode cX6_isRow 28 = .ok (.iload 4, 2) := by decide +kernel
theorem dX6_isRow_30 : decode cX6_isRow 30 = .ok (.iaload, 1) := by decide +kernel
theorem dX6_isRow_31 : decode cX6_isRow 31 = .ok (.iconst 1, 1) := by decide +kernel
theorem dX6_isRow_32 : decode cX6_isRow 32 = .ok (.if_icmp .ne 7, 3) := by decide +kernel
theorem dX6_isRow_35 : decode cX6_isRow 35 = .ok (.iconst 1, 1) := by decide +kernel
theorem dX6_isRow_36 : decode cX6_isRow 36 = .ok (.goto 4, 3) := by decide +kernel
theorem dX6_isRow_39 : decode cX6_isRow 39 = .ok (.iconst (-1), 1) := by decide +kernel
theorem dX6_isRow_40 : decode cX6_isRow 40 = .ok (.iadd, 1) := by decide +kernel
theorem dX6_isRow_41 : decode cX6_isRow 41 = .ok (.istore_n 2, 1) := by decide +kernel
theorem dX6_isRow_42 : decode cX6_isRow 42 = .ok (.iload_n 3, 1) := by decide +kernel
theorem dX6_isRow_43 : decode cX6_isRow 43 = .ok (.ifCond .eq 23, 3) := by decide +kernel
theorem dX6_isRow_46 : decode cX6_isRow 46 = .ok (.iload_n 2, 1) := by decide +kernel
theorem dX6_isRow_47 : decode cX6_isRow 47 = .ok (.ifCond .gt 15, 3) := by decide +kernel
theorem dX6_isRow_50 : decode cX6_isRow 50 = .ok (.iload_n 2, 1) := by decide +kernel
theorem dX6_isRow_51 : decode cX6_isRow 51 = .ok (.ifCond .ne 15, 3) := by decide +kernel
theorem dX6_isRow_54 : decode cX6_isRow 54 = .ok (.iload 4, 2) := by decide +kernel
theorem dX6_isRow_56 : decode cX6_isRow 56 = .ok (.iload_n 1, 1) := by decide +kernel
theorem dX6_isRow_57 : decode cX6_isRow 57 = .ok (.iconst 1, 1) := by decide +kernel
theorem dX6_isRow_58 : decode cX6_isRow 58 = .ok (.isub, 1) := by decide +kernel
theorem dX6_isRow_59 : decode cX6_isRow 59 = .ok (.if_icmp .ne 7, 3) := by decide +kernel
theorem dX6_isRow_62 : decode cX6_isRow 62 = .ok (.iconst 1, 1) := by decide +kernel
theorem dX6_isRow_63 : decode cX6_isRow 63 = .ok (.goto 4, 3) := by decide +kernel
theorem dX6_isRow_66 : decode cX6_isRow 66 = .ok (.iconst 0, 1) := by decide +kernel
theorem dX6_isRow_67 : decode cX6_isRow 67 = .ok (.istore_n 3, 1) := by decide +kernel
theorem dX6_isRow_68 : decode cX6_isRow 68 = .ok (.iinc 4 1, 3) := by decide +kernel
theorem dX6_isRow_71 : decode cX6_isRow 71 = .ok (.goto (-54), 3) := by decide +kernel
theorem dX6_isRow_74 : decode cX6_isRow 74 = .ok (.iload_n 3, 1) := by decide +kernel
theorem dX6_isRow_75 : decode cX6_isRow 75 = .ok (.ifCond .eq 11, 3) := by decide +kernel
theorem dX6_isRow_78 : decode cX6_isRow 78 = .ok (.iload_n 2, 1) := by decide +kernel
theorem dX6_isRow_79 : decode cX6_isRow 79 = .ok (.ifCond .ne 7, 3) := by decide +kernel
theorem dX6_isRow_82 : decode cX6_isRow 82 = .ok (.iconst 1, 1) := by decide +kernel
theorem dX6_isRow_83 : decode cX6_isRow 83 = .ok (.goto 4, 3) := by decide +kernel
theorem dX6_isRow_86 : decode cX6_isRow 86 = .ok (.iconst 0, 1) := by decide +kernel
theorem dX6_isRow_87 : decode cX6_isRow 87 = .ok (.ireturn, 1) := by decide +kernel
set_option maxRecDepth 20000 in
theorem ggX6_read_X6_in : GoodIn wsX6_read wsX6_in := goodIn_r _ [10] rfl (by decide +kernel)
set_option maxRecDepth 20000 in
theorem gX6_read_X6_in : GoodIn wsX6_read (va_wsS RX6 41 yX6_in wsX6_in) := goodIn_app (goodIn_of _ (by decide +kernel)) ggX6_read_X6_in
set_option maxRecDepth 20000 in
theorem ggX6_read_X6_foundAt : GoodIn wsX6_read wsX6_foundAt := goodIn_r _ [14, 15, 16, 17, 18, 9, 19, 28, 29, 30, 31, 32, 33, 34, 35, 36, 37, 38, 39, 40, 41, 42, 43, 44, 45] rfl (by decide +kernel)
set_option maxRecDepth 20000 in
theorem gX6_read_X6_foundAt : GoodIn wsX6_read (wsV RX6 208 RX6 yX6_foundAt wsX6_foundAt) := goodIn_app (goodIn_of _ (by decide +kernel)) ggX6_read_X6_foundAt
set_option maxRecDepth 20000 in
theorem ggX6_read_X6_wide : GoodIn wsX6_read wsX6_wide := goodIn_r _ [19] rfl (by decide +kernel)
set_option maxRecDepth 20000 in
theorem gX6_read_X6_wide : GoodIn wsX6_read (va_wsS RX6 203 yX6_wide wsX6_wide) := goodIn_app (goodIn_of _ (by decide +kernel)) ggX6_read_X6_wide
set_option maxRecDepth 20000 in
theorem ggX6_read_X6_isRow : GoodIn wsX6_read wsX6_isRow := goodIn_r _ [23, 4, 28, 29, 30, 31, 32, 33, 34, 35, 36, 37, 38, 39, 40, 41, 42, 43, 44, 45] rfl (by decide +kernel)
set_option maxRecDepth 20000 in
theorem gX6_read_X6_isRow : GoodIn wsX6_read (wsV RX6 212 RX6 yX6_isRow wsX6_isRow) := goodIn_app (goodIn_of _ (by decide +kernel)) ggX6_read_X6_isRow
set_option maxRecDepth 20000 in
theorem ggX6_read_X6_many : GoodIn wsX6_read wsX6_many := goodIn_r _ [27, 6, 28, 29, 30, 31, 32, 33, 34, 35, 36, 37, 38, 39, 40, 41, 42, 43, 44, 45] rfl (by decide +kernel)
set_option maxRecDepth 20000 in
theorem gX6_read_X6_many : GoodIn wsX6_read (wsV RX6 89 RX6 yX6_many wsX6_many) := goodIn_app (goodIn_of _ (by decide +kernel)) ggX6_read_X6_many
theorem dX6_read_0 : decode cX6_read 0 = .ok (.iload_n 1, 1) := by decide +kernel
theorem dX6_read_1 : decode cX6_read 1 = .ok (.i2l, 1) := by decide +kernel
theorem dX6_read_2 : decode cX6_read 2 = .ok (.lconst 0, 1) := by decide +kernel
theorem dX6_read_3 : decode cX6_read 3 = .ok (.ldc2_w 118, 3) := by decide +kernel
theorem dX6_read_6 : decode cX6_read 6 = .ok (.invokestatic 41, 3) := by decide +kernel
theorem dX6_read_9 : decode cX6_read 9 = .ok (.ifCond .eq 32, 3) := by decide +kernel
theorem dX6_read_12 : decode cX6_read 12 = .ok (.iload_n 2, 1) := by decide +kernel
theorem dX6_read_13 : decode cX6_read 13 = .ok (.i2l, 1) := by decide +kernel
theorem dX6_read_14 : decode cX6_read 14 = .ok (.lconst 0, 1) := by decide +kernel
theorem dX6_read_15 : decode cX6_read 15 = .ok (.ldc2_w 109, 3) := by decide +kernel
theorem dX6_read_18 : decode cX6_read 18 = .ok (.invokestatic 41, 3) := by decide +kernel
theorem dX6_read_21 : decode cX6_read 21 = .ok (.ifCond .eq 20, 3) := by decide +kernel
theorem dX6_read_24 : decode cX6_read 24 = .ok (.iload_n 3, 1) := by decide +kernel
theorem dX6_read_25 : decode cX6_read 25 = .ok (.ifCond .lt 16, 3) := by decide +kernel
theorem dX6_read_28 : decode cX6_read 28 = .ok (.iload 4, 2) := by decide +kernel
theorem dX6_read_30 : decode cX6_read 30 = .ok (.i2l, 1) := by decide +kernel
theorem dX6_read_31 : decode cX6_read 31 = .ok (.lconst 0, 1) := by decide +kernel
theorem dX6_read_32 : decode cX6_read 32 = .ok (.ldc2_w 206, 3) := by decide +kernel
theorem dX6_read_35 : decode cX6_read 35 = .ok (.invokestatic 41, 3) := by decide +kernel
theorem dX6_read_38 : decode cX6_read 38 = .ok (.ifCond .ne 5, 3) := by decide +kernel
theorem dX6_read_41 : decode cX6_read 41 = .ok (.iconst (-1), 1) := by decide +kernel
theorem dX6_read_42 : decode cX6_read 42 = .ok (.ireturn, 1) := by decide +kernel
theorem dX6_read_43 : decode cX6_read 43 = .ok (.iconst 0, 1) := by decide +kernel
theorem dX6_read_44 : decode cX6_read 44 = .ok (.istore 5, 2) := by decide +kernel
theorem dX6_read_46 : decode cX6_read 46 = .ok (.iload 5, 2) := by decide +kernel
theorem dX6_read_48 : decode cX6_read 48 = .ok (.iload 4, 2) := by decide +kernel
theorem dX6_read_50 : decode cX6_read 50 = .ok (.if_icmp .ge 77, 3) := by decide +kernel
theorem dX6_read_53 : decode cX6_read 53 = .ok (.iload_n 3, 1) := by decide +kernel
theorem dX6_read_54 : decode cX6_read 54 = .ok (.i2l, 1) := by decide +kernel
theorem dX6_read_55 : decode cX6_read 55 = .ok (.iload 5, 2) := by decide +kernel
theorem dX6_read_57 : decode cX6_read 57 = .ok (.i2l, 1) := by decide +kernel
theorem dX6_read_58 : decode cX6_read 58 = .ok (.ladd, 1) := by decide +kernel
theorem dX6_read_59 : decode cX6_read 59 = .ok (.lstore 6, 2) := by decide +kernel
theorem dX6_read_61 : decode cX6_read 61 = .ok (.aload_n 0, 1) := by decide +kernel
theorem dX6_read_62 : decode cX6_read 62 = .ok (.iload_n 1, 1) := by decide +kernel
theorem dX6_read_63 : decode cX6_read 63 = .ok (.iload_n 2, 1) := by decide +kernel
theorem dX6_read_64 : decode cX6_read 64 = .ok (.lload 6, 2) := by decide +kernel
theorem dX6_read_66 : decode cX6_read 66 = .ok (.invokevirtual 208, 3) := by decide +kernel
theorem dX6_read_69 : decode cX6_read 69 = .ok (.istore 8, 2) := by decide +kernel
theorem dX6_read_71 : decode cX6_read 71 = .ok (.iload 8, 2) := by decide +kernel
theorem dX6_read_73 : decode cX6_read 73 = .ok (.ifCond .le 9, 3) := by decide +kernel
theorem dX6_read_76 : decode cX6_read 76 = .ok (.bipush (-10), 2) := by decide +kernel
theorem dX6_read_78 : decode cX6_read 78 = .ok (.iload 8, 2) := by decide +kernel
theorem dX6_read_80 : decode cX6_read 80 = .ok (.isub, 1) := by decide +kernel
theorem dX6_read_81 : decode cX6_read 81 = .ok (.ireturn, 1) := by decide +kernel
theorem dX6_read_82 : decode cX6_read 82 = .ok (.aload_n 0, 1) := by decide +kernel
theorem dX6_read_83 : decode cX6_read 83 = .ok (.getfield 13, 3) := by decide +kernel
theorem dX6_read_86 : decode cX6_read 86 = .ok (.iload 5, 2) := by decide +kernel
theorem dX6_read_88 : decode cX6_read 88 = .ok (.aload_n 0, 1) := by decide +kernel
theorem dX6_read_89 : decode cX6_read 89 = .ok (.getfield 35, 3) := by decide +kernel
theorem dX6_read_92 : decode cX6_read 92 = .ok (.bipush 40, 2) := by decide +kernel
theorem dX6_read_94 : decode cX6_read 94 = .ok (.iload_n 1, 1) := by decide +kernel
theorem dX6_read_95 : decode cX6_read 95 = .ok (.imul, 1) := by decide +kernel
theorem dX6_read_96 : decode cX6_read 96 = .ok (.lload 6, 2) := by decide +kernel
theorem dX6_read_98 : decode cX6_read 98 = .ok (.iload_n 2, 1) := by decide +kernel
theorem dX6_read_99 : decode cX6_read 99 = .ok (.invokestatic 203, 3) := by decide +kernel
theorem dX6_read_102 : decode cX6_read 102 = .ok (.i2l, 1) := by decide +kernel
theorem dX6_read_103 : decode cX6_read 103 = .ok (.ldiv, 1) := by decide +kernel
theorem dX6_read_104 : decode cX6_read 104 = .ok (.l2i, 1) := by decide +kernel
theorem dX6_read_105 : decode cX6_read 105 = .ok (.iadd, 1) := by decide +kernel
theorem dX6_read_106 : decode cX6_read 106 = .ok (.laload, 1) := by decide +kernel
theorem dX6_read_107 : decode cX6_read 107 = .ok (.lload 6, 2) := by decide +kernel
theorem dX6_read_109 : decode cX6_read 109 = .ok (.iload_n 2, 1) := by decide +kernel
theorem dX6_read_110 : decode cX6_read 110 = .ok (.invokestatic 203, 3) := by decide +kernel
theorem dX6_read_113 : decode cX6_read 113 = .ok (.i2l, 1) := by decide +kernel
theorem dX6_read_114 : decode cX6_read 114 = .ok (.lrem, 1) := by decide +kernel
theorem dX6_read_115 : decode cX6_read 115 = .ok (.l2i, 1) := by decide +kernel
theorem dX6_read_116 : decode cX6_read 116 = .ok (.lshr, 1) := by decide +kernel
theorem dX6_read_117 : decode cX6_read 117 = .ok (.lconst 1, 1) := by decide +kernel
theorem dX6_read_118 : decode cX6_read 118 = .ok (.land, 1) := by decide +kernel
theorem dX6_read_119 : decode cX6_read 119 = .ok (.l2i, 1) := by decide +kernel
theorem dX6_read_120 : decode cX6_read 120 = .ok (.iastore, 1) := by decide +kernel
theorem dX6_read_121 : decode cX6_read 121 = .ok (.iinc 5 1, 3) := by decide +kernel
theorem dX6_read_124 : decode cX6_read 124 = .ok (.goto (-78), 3) := by decide +kernel
theorem dX6_read_127 : decode cX6_read 127 = .ok (.aload_n 0, 1) := by decide +kernel
theorem dX6_read_128 : decode cX6_read 128 = .ok (.iload 4, 2) := by decide +kernel
theorem dX6_read_130 : decode cX6_read 130 = .ok (.invokevirtual 212, 3) := by decide +kernel
theorem dX6_read_133 : decode cX6_read 133 = .ok (.ifCond .ne 6, 3) := by decide +kernel
theorem dX6_read_136 : decode cX6_read 136 = .ok (.bipush (-2), 2) := by decide +kernel
theorem dX6_read_138 : decode cX6_read 138 = .ok (.ireturn, 1) := by decide +kernel
theorem dX6_read_139 : decode cX6_read 139 = .ok (.iconst 0, 1) := by decide +kernel
theorem dX6_read_140 : decode cX6_read 140 = .ok (.istore 5, 2) := by decide +kernel
theorem dX6_read_142 : decode cX6_read 142 = .ok (.iload 5, 2) := by decide +kernel
theorem dX6_read_144 : decode cX6_read 144 = .ok (.iload 4, 2) := by decide +kernel
theorem dX6_read_146 : decode cX6_read 146 = .ok (.if_icmp .ge 23, 3) := by decide +kernel
theorem dX6_read_149 : decode cX6_read 149 = .ok (.aload_n 0, 1) := by decide +kernel
theorem dX6_read_150 : decode cX6_read 150 = .ok (.getfield 7, 3) := by decide +kernel
theorem dX6_read_153 : decode cX6_read 153 = .ok (.iload 5, 2) := by decide +kernel
theorem dX6_read_155 : decode cX6_read 155 = .ok (.aload_n 0, 1) := by decide +kernel
theorem dX6_read_156 : decode cX6_read 156 = .ok (.getfield 13, 3) := by decide +kernel
theorem dX6_read_159 : decode cX6_read 159 = .ok (.iload 5, 2) := by decide +kernel
theorem dX6_read_161 : decode cX6_read 161 = .ok (.iaload, 1) := by decide +kernel
theorem dX6_read_162 : decode cX6_read 162 = .ok (.iastore, 1) := by decide +kernel
theorem dX6_read_163 : decode cX6_read 163 = .ok (.iinc 5 1, 3) := by decide +kernel
theorem dX6_read_166 : decode cX6_read 166 = .ok (.goto (-24), 3) := by decide +kernel
theorem dX6_read_169 : decode cX6_read 169 = .ok (.iconst 0, 1) := by decide +kernel
theorem dX6_read_170 : decode cX6_read 170 = .ok (.istore 5, 2) := by decide +kernel
theorem dX6_read_172 : decode cX6_read 172 = .ok (.iload 5, 2) := by decide +kernel
theorem dX6_read_174 : decode cX6_read 174 = .ok (.bipush 64, 2) := by decide +kernel
theorem dX6_read_176 : decode cX6_read 176 = .ok (.if_icmp .ge 21, 3) := by decide +kernel
theorem dX6_read_179 : decode cX6_read 179 = .ok (.aload_n 0, 1) := by decide +kernel
theorem dX6_read_180 : decode cX6_read 180 = .ok (.getfield 7, 3) := by decide +kernel
theorem dX6_read_183 : decode cX6_read 183 = .ok (.sipush 128, 3) := by decide +kernel
theorem dX6_read_186 : decode cX6_read 186 = .ok (.iload 5, 2) := by decide +kernel
theorem dX6_read_188 : decode cX6_read 188 = .ok (.iadd, 1) := by decide +kernel
theorem dX6_read_189 : decode cX6_read 189 = .ok (.iconst 0, 1) := by decide +kernel
theorem dX6_read_190 : decode cX6_read 190 = .ok (.iastore, 1) := by decide +kernel
theorem dX6_read_191 : decode cX6_read 191 = .ok (.iinc 5 1, 3) := by decide +kernel
theorem dX6_read_194 : decode cX6_read 194 = .ok (.goto (-22), 3) := by decide +kernel
theorem dX6_read_197 : decode cX6_read 197 = .ok (.aload_n 0, 1) := by decide +kernel
theorem dX6_read_198 : decode cX6_read 198 = .ok (.getfield 7, 3) := by decide +kernel
theorem dX6_read_201 : decode cX6_read 201 = .ok (.sipush 192, 3) := by decide +kernel
theorem dX6_read_204 : decode cX6_read 204 = .ok (.iload 4, 2) := by decide +kernel
theorem dX6_read_206 : decode cX6_read 206 = .ok (.iconst 2, 1) := by decide +kernel
theorem dX6_read_207 : decode cX6_read 207 = .ok (.idiv, 1) := by decide +kernel
theorem dX6_read_208 : decode cX6_read 208 = .ok (.iastore, 1) := by decide +kernel
theorem dX6_read_209 : decode cX6_read 209 = .ok (.aload_n 0, 1) := by decide +kernel
theorem dX6_read_210 : decode cX6_read 210 = .ok (.invokevirtual 89, 3) := by decide +kernel
theorem dX6_read_213 : decode cX6_read 213 = .ok (.ireturn, 1) := by decide +kernel
set_option maxRecDepth 20000 in
theorem ggX6_stow_X6_in : GoodIn wsX6_stow wsX6_in := goodIn_r _ [10] rfl (by decide +kernel)
set_option maxRecDepth 20000 in
theorem gX6_stow_X6_in : GoodIn wsX6_stow (va_wsS RX6 41 yX6_in wsX6_in) := goodIn_app (goodIn_of _ (by decide +kernel)) ggX6_stow_X6_in
set_option maxRecDepth 20000 in
theorem ggX6_stow_X6_places : GoodIn wsX6_stow wsX6_places := goodIn_r _ [14, 5, 27, 28, 29, 30, 31, 32, 33, 34, 35, 36, 37, 38, 39, 40, 41, 42, 43, 44] rfl (by decide +kernel)
set_option maxRecDepth 20000 in
theorem gX6_stow_X6_places : GoodIn wsX6_stow (wsV RX6 93 RX6 yX6_places wsX6_places) := goodIn_app (goodIn_of _ (by decide +kernel)) ggX6_stow_X6_places
set_option maxRecDepth 20000 in
theorem ggX6_stow_X6_foundAt : GoodIn wsX6_stow wsX6_foundAt := goodIn_r _ [18, 19, 20, 21, 22, 9, 23, 27, 28, 29, 30, 31, 32, 33, 34, 35, 36, 37, 38, 39, 40, 41, 42, 43, 44] rfl (by decide +kernel)
set_option maxRecDepth 20000 in
theorem gX6_stow_X6_foundAt : GoodIn wsX6_stow (wsV RX6 208 RX6 yX6_foundAt wsX6_foundAt) := goodIn_app (goodIn_of _ (by decide +kernel)) ggX6_stow_X6_foundAt
set_option maxRecDepth 20000 in
theorem ggX6_stow_X6_wide : GoodIn wsX6_stow wsX6_wide := goodIn_r _ [23] rfl (by decide +kernel)
set_option maxRecDepth 20000 in
theorem gX6_stow_X6_wide : GoodIn wsX6_stow (va_wsS RX6 203 yX6_wide wsX6_wide) := goodIn_app (goodIn_of _ (by decide +kernel)) ggX6_stow_X6_wide
set_option maxRecDepth 20000 in
theorem ggX6_stow_X6_narrowed : GoodIn wsX6_stow wsX6_narrowed := goodIn_r _ [26] rfl (by decide +kernel)
set_option maxRecDepth 20000 in
theorem gX6_stow_X6_narrowed : GoodIn wsX6_stow (va_wsS RX6 199 yX6_narrowed wsX6_narrowed) := goodIn_app (goodIn_of _ (by decide +kernel)) ggX6_stow_X6_narrowed
theorem dX6_stow_0 : decode cX6_stow 0 = .ok (.iload_n 1, 1) := by decide +kernel
theorem dX6_stow_1 : decode cX6_stow 1 = .ok (.i2l, 1) := by decide +kernel
theorem dX6_stow_2 : decode cX6_stow 2 = .ok (.lconst 0, 1) := by decide +kernel
theorem dX6_stow_3 : decode cX6_stow 3 = .ok (.ldc2_w 118, 3) := by decide +kernel
theorem dX6_stow_6 : decode cX6_stow 6 = .ok (.invokestatic 41, 3) := by decide +kernel
theorem dX6_stow_9 : decode cX6_stow 9 = .ok (.ifCond .eq 19, 3) := by decide +kernel
theorem dX6_stow_12 : decode cX6_stow 12 = .ok (.iload_n 2, 1) := by decide +kernel
theorem dX6_stow_13 : decode cX6_stow 13 = .ok (.i2l, 1) := by decide +kernel
theorem dX6_stow_14 : decode cX6_stow 14 = .ok (.lconst 0, 1) := by decide +kernel
theorem dX6_stow_15 : decode cX6_stow 15 = .ok (.ldc2_w 109, 3) := by decide +kernel
theorem dX6_stow_18 : decode cX6_stow 18 = .ok (.invokestatic 41, 3) := by decide +kernel
theorem dX6_stow_21 : decode cX6_stow 21 = .ok (.ifCond .eq 7, 3) := by decide +kernel
theorem dX6_stow_24 : decode cX6_stow 24 = .ok (.iload_n 3, 1) := by decide +kernel
theorem dX6_stow_25 : decode cX6_stow 25 = .ok (.ifCond .ge 5, 3) := by decide +kernel
theorem dX6_stow_28 : decode cX6_stow 28 = .ok (.iconst (-1), 1) := by decide +kernel
theorem dX6_stow_29 : decode cX6_stow 29 = .ok (.ireturn, 1) := by decide +kernel
theorem dX6_stow_30 : decode cX6_stow 30 = .ok (.aload_n 0, 1) := by decide +kernel
theorem dX6_stow_31 : decode cX6_stow 31 = .ok (.iconst 0, 1) := by decide +kernel
theorem dX6_stow_32 : decode cX6_stow 32 = .ok (.putfield 215, 3) := by decide +kernel
theorem dX6_stow_35 : decode cX6_stow 35 = .ok (.iconst 0, 1) := by decide +kernel
theorem dX6_stow_36 : decode cX6_stow 36 = .ok (.istore 4, 2) := by decide +kernel
theorem dX6_stow_38 : decode cX6_stow 38 = .ok (.aload_n 0, 1) := by decide +kernel
theorem dX6_stow_39 : decode cX6_stow 39 = .ok (.getfield 215, 3) := by decide +kernel
theorem dX6_stow_42 : decode cX6_stow 42 = .ok (.ifCond .ne 123, 3) := by decide +kernel
theorem dX6_stow_45 : decode cX6_stow 45 = .ok (.iload 4, 2) := by decide +kernel
theorem dX6_stow_47 : decode cX6_stow 47 = .ok (.aload_n 0, 1) := by decide +kernel
theorem dX6_stow_48 : decode cX6_stow 48 = .ok (.invokevirtual 93, 3) := by decide +kernel
theorem dX6_stow_51 : decode cX6_stow 51 = .ok (.if_icmp .ge 114, 3) := by decide +kernel
theorem dX6_stow_54 : decode cX6_stow 54 = .ok (.iload_n 3, 1) := by decide +kernel
theorem dX6_stow_55 : decode cX6_stow 55 = .ok (.i2l, 1) := by decide +kernel
theorem dX6_stow_56 : decode cX6_stow 56 = .ok (.iload 4, 2) := by decide +kernel
theorem dX6_stow_58 : decode cX6_stow 58 = .ok (.i2l, 1) := by decide +kernel
theorem dX6_stow_59 : decode cX6_stow 59 = .ok (.ladd, 1) := by decide +kernel
theorem dX6_stow_60 : decode cX6_stow 60 = .ok (.lstore 5, 2) := by decide +kernel
theorem dX6_stow_62 : decode cX6_stow 62 = .ok (.aload_n 0, 1) := by decide +kernel
theorem dX6_stow_63 : decode cX6_stow 63 = .ok (.aload_n 0, 1) := by decide +kernel
theorem dX6_stow_64 : decode cX6_stow 64 = .ok (.iload_n 1, 1) := by decide +kernel
theorem dX6_stow_65 : decode cX6_stow 65 = .ok (.iload_n 2, 1) := by decide +kernel
theorem dX6_stow_66 : decode cX6_stow 66 = .ok (.lload 5, 2) := by decide +kernel
theorem dX6_stow_68 : decode cX6_stow 68 = .ok (.invokevirtual 208, 3) := by decide +kernel
theorem dX6_stow_71 : decode cX6_stow 71 = .ok (.putfield 215, 3) := by decide +kernel
theorem dX6_stow_74 : decode cX6_stow 74 = .ok (.aload_n 0, 1) := by decide +kernel
theorem dX6_stow_75 : decode cX6_stow 75 = .ok (.getfield 215, 3) := by decide +kernel
theorem dX6_stow_78 : decode cX6_stow 78 = .ok (.ifCond .ne 84, 3) := by decide +kernel
theorem dX6_stow_81 : decode cX6_stow 81 = .ok (.bipush 40, 2) := by decide +kernel
theorem dX6_stow_83 : decode cX6_stow 83 = .ok (.iload_n 1, 1) := by decide +kernel
theorem dX6_stow_84 : decode cX6_stow 84 = .ok (.imul, 1) := by decide +kernel
theorem dX6_stow_85 : decode cX6_stow 85 = .ok (.lload 5, 2) := by decide +kernel
theorem dX6_stow_87 : decode cX6_stow 87 = .ok (.iload_n 2, 1) := by decide +kernel
theorem dX6_stow_88 : decode cX6_stow 88 = .ok (.invokestatic 203, 3) := by decide +kernel
theorem dX6_stow_91 : decode cX6_stow 91 = .ok (.i2l, 1) := by decide +kernel
theorem dX6_stow_92 : decode cX6_stow 92 = .ok (.ldiv, 1) := by decide +kernel
theorem dX6_stow_93 : decode cX6_stow 93 = .ok (.l2i, 1) := by decide +kernel
theorem dX6_stow_94 : decode cX6_stow 94 = .ok (.iadd, 1) := by decide +kernel
theorem dX6_stow_95 : decode cX6_stow 95 = .ok (.istore 7, 2) := by decide +kernel
theorem dX6_stow_97 : decode cX6_stow 97 = .ok (.lconst 1, 1) := by decide +kernel
theorem dX6_stow_98 : decode cX6_stow 98 = .ok (.lload 5, 2) := by decide +kernel
theorem dX6_stow_100 : decode cX6_stow 100 = .ok (.iload_n 2, 1) := by decide +kernel
theorem dX6_stow_101 : decode cX6_stow 101 = .ok (.invokestatic 203, 3) := by decide +kernel
theorem dX6_stow_104 : decode cX6_stow 104 = .ok (.i2l, 1) := by decide +kernel
theorem dX6_stow_105 : decode cX6_stow 105 = .ok (.lrem, 1) := by decide +kernel
theorem dX6_stow_106 : decode cX6_stow 106 = .ok (.l2i, 1) := by decide +kernel
theorem dX6_stow_107 : decode cX6_stow 107 = .ok (.lshl, 1) := by decide +kernel
theorem dX6_stow_108 : decode cX6_stow 108 = .ok (.lstore 8, 2) := by decide +kernel
theorem dX6_stow_110 : decode cX6_stow 110 = .ok (.aload_n 0, 1) := by decide +kernel
theorem dX6_stow_111 : decode cX6_stow 111 = .ok (.getfield 35, 3) := by decide +kernel
theorem dX6_stow_114 : decode cX6_stow 114 = .ok (.iload 7, 2) := by decide +kernel
theorem dX6_stow_116 : decode cX6_stow 116 = .ok (.iload_n 2, 1) := by decide +kernel
theorem dX6_stow_117 : decode cX6_stow 117 = .ok (.aload_n 0, 1) := by decide +kernel
theorem dX6_stow_118 : decode cX6_stow 118 = .ok (.getfield 7, 3) := by decide +kernel
theorem dX6_stow_121 : decode cX6_stow 121 = .ok (.iload 4, 2) := by decide +kernel
theorem dX6_stow_123 : decode cX6_stow 123 = .ok (.iaload, 1) := by decide +kernel
theorem dX6_stow_124 : decode cX6_stow 124 = .ok (.iconst 1, 1) := by decide +kernel
theorem dX6_stow_125 : decode cX6_stow 125 = .ok (.if_icmp .ne 16, 3) := by decide +kernel
theorem dX6_stow_128 : decode cX6_stow 128 = .ok (.aload_n 0, 1) := by decide +kernel
theorem dX6_stow_129 : decode cX6_stow 129 = .ok (.getfield 35, 3) := by decide +kernel
theorem dX6_stow_132 : decode cX6_stow 132 = .ok (.iload 7, 2) := by decide +kernel
theorem dX6_stow_134 : decode cX6_stow 134 = .ok (.laload, 1) := by decide +kernel
theorem dX6_stow_135 : decode cX6_stow 135 = .ok (.lload 8, 2) := by decide +kernel
theorem dX6_stow_137 : decode cX6_stow 137 = .ok (.lor, 1) := by decide +kernel
theorem dX6_stow_138 : decode cX6_stow 138 = .ok (.goto 17, 3) := by decide +kernel
theorem dX6_stow_141 : decode cX6_stow 141 = .ok (.aload_n 0, 1) := by decide +kernel
theorem dX6_stow_142 : decode cX6_stow 142 = .ok (.getfield 35, 3) := by decide +kernel
theorem dX6_stow_145 : decode cX6_stow 145 = .ok (.iload 7, 2) := by decide +kernel
theorem dX6_stow_147 : decode cX6_stow 147 = .ok (.laload, 1) := by decide +kernel
theorem dX6_stow_148 : decode cX6_stow 148 = .ok (.lload 8, 2) := by decide +kernel
theorem dX6_stow_150 : decode cX6_stow 150 = .ok (.ldc2_w 218, 3) := by decide +kernel
theorem dX6_stow_153 : decode cX6_stow 153 = .ok (.lxor, 1) := by decide +kernel
theorem dX6_stow_154 : decode cX6_stow 154 = .ok (.land, 1) := by decide +kernel
theorem dX6_stow_155 : decode cX6_stow 155 = .ok (.invokestatic 199, 3) := by decide +kernel
theorem dX6_stow_158 : decode cX6_stow 158 = .ok (.lastore, 1) := by decide +kernel
theorem dX6_stow_159 : decode cX6_stow 159 = .ok (.iinc 4 1, 3) := by decide +kernel
theorem dX6_stow_162 : decode cX6_stow 162 = .ok (.goto (-124), 3) := by decide +kernel
theorem dX6_stow_165 : decode cX6_stow 165 = .ok (.iload 4, 2) := by decide +kernel
theorem dX6_stow_167 : decode cX6_stow 167 = .ok (.ireturn, 1) := by decide +kernel
theorem dX6_torn_0 : decode cX6_torn 0 = .ok (.aload_n 0, 1) := by decide +kernel
theorem dX6_torn_1 : decode cX6_torn 1 = .ok (.getfield 215, 3) := by decide +kernel
theorem dX6_torn_4 : decode cX6_torn 4 = .ok (.ireturn, 1) := by decide +kernel
set_option maxRecDepth 20000 in
theorem ggX6_count_X6_places : GoodIn wsX6_count wsX6_places := goodIn_r _ [10, 1, 11, 12, 13, 14, 15, 16, 17, 18, 19, 20, 21, 22, 23, 24, 25, 26, 27, 28] rfl (by decide +kernel)
set_option maxRecDepth 20000 in
theorem gX6_count_X6_places : GoodIn wsX6_count (wsV RX6 93 RX6 yX6_places wsX6_places) := goodIn_app (goodIn_of _ (by decide +kernel)) ggX6_count_X6_places
theorem dX6_count_0 : decode cX6_count 0 = .ok (.iconst 0, 1) := by decide +kernel
theorem dX6_count_1 : decode cX6_count 1 = .ok (.istore_n 2, 1) := by decide +kernel
theorem dX6_count_2 : decode cX6_count 2 = .ok (.iconst 1, 1) := by decide +kernel
theorem dX6_count_3 : decode cX6_count 3 = .ok (.istore_n 3, 1) := by decide +kernel
theorem dX6_count_4 : decode cX6_count 4 = .ok (.iload_n 3, 1) := by decide +kernel
theorem dX6_count_5 : decode cX6_count 5 = .ok (.aload_n 0, 1) := by decide +kernel
theorem dX6_count_6 : decode cX6_count 6 = .ok (.invokevirtual 93, 3) := by decide +kernel
theorem dX6_count_9 : decode cX6_count 9 = .ok (.if_icmp .ge 18, 3) := by decide +kernel
theorem dX6_count_12 : decode cX6_count 12 = .ok (.iload_n 2, 1) := by decide +kernel
theorem dX6_count_13 : decode cX6_count 13 = .ok (.aload_n 0, 1) := by decide +kernel
theorem dX6_count_14 : decode cX6_count 14 = .ok (.getfield 7, 3) := by decide +kernel
theorem dX6_count_17 : decode cX6_count 17 = .ok (.iload_n 3, 1) := by decide +kernel
theorem dX6_count_18 : decode cX6_count 18 = .ok (.iaload, 1) := by decide +kernel
theorem dX6_count_19 : decode cX6_count 19 = .ok (.iadd, 1) := by decide +kernel
theorem dX6_count_20 : decode cX6_count 20 = .ok (.istore_n 2, 1) := by decide +kernel
theorem dX6_count_21 : decode cX6_count 21 = .ok (.iinc 3 2, 3) := by decide +kernel
theorem dX6_count_24 : decode cX6_count 24 = .ok (.goto (-20), 3) := by decide +kernel
theorem dX6_count_27 : decode cX6_count 27 = .ok (.iload_n 1, 1) := by decide +kernel
theorem dX6_count_28 : decode cX6_count 28 = .ok (.tableswitch 92 0 3 #[32, 62, 67, 90], 32) := by decide +kernel
theorem dX6_count_60 : decode cX6_count 60 = .ok (.aload_n 0, 1) := by decide +kernel
theorem dX6_count_61 : decode cX6_count 61 = .ok (.getfield 25, 3) := by decide +kernel
theorem dX6_count_64 : decode cX6_count 64 = .ok (.iconst 0, 1) := by decide +kernel
theorem dX6_count_65 : decode cX6_count 65 = .ok (.baload, 1) := by decide +kernel
theorem dX6_count_66 : decode cX6_count 66 = .ok (.ifCond .eq 7, 3) := by decide +kernel
theorem dX6_count_69 : decode cX6_count 69 = .ok (.iconst 1, 1) := by decide +kernel
theorem dX6_count_70 : decode cX6_count 70 = .ok (.goto 4, 3) := by decide +kernel
theorem dX6_count_73 : decode cX6_count 73 = .ok (.iconst 0, 1) := by decide +kernel
theorem dX6_count_74 : decode cX6_count 74 = .ok (.aload_n 0, 1) := by decide +kernel
theorem dX6_count_75 : decode cX6_count 75 = .ok (.getfield 25, 3) := by decide +kernel
theorem dX6_count_78 : decode cX6_count 78 = .ok (.iconst 1, 1) := by decide +kernel
theorem dX6_count_79 : decode cX6_count 79 = .ok (.baload, 1) := by decide +kernel
theorem dX6_count_80 : decode cX6_count 80 = .ok (.ifCond .eq 7, 3) := by decide +kernel
theorem dX6_count_83 : decode cX6_count 83 = .ok (.iconst 1, 1) := by decide +kernel
theorem dX6_count_84 : decode cX6_count 84 = .ok (.goto 4, 3) := by decide +kernel
theorem dX6_count_87 : decode cX6_count 87 = .ok (.iconst 0, 1) := by decide +kernel
theorem dX6_count_88 : decode cX6_count 88 = .ok (.iadd, 1) := by decide +kernel
theorem dX6_count_89 : decode cX6_count 89 = .ok (.ireturn, 1) := by decide +kernel
theorem dX6_count_90 : decode cX6_count 90 = .ok (.aload_n 0, 1) := by decide +kernel
theorem dX6_count_91 : decode cX6_count 91 = .ok (.getfield 45, 3) := by decide +kernel
theorem dX6_count_94 : decode cX6_count 94 = .ok (.ireturn, 1) := by decide +kernel
theorem dX6_count_95 : decode cX6_count 95 = .ok (.aload_n 0, 1) := by decide +kernel
theorem dX6_count_96 : decode cX6_count 96 = .ok (.getfield 29, 3) := by decide +kernel
theorem dX6_count_99 : decode cX6_count 99 = .ok (.iconst 0, 1) := by decide +kernel
theorem dX6_count_100 : decode cX6_count 100 = .ok (.iaload, 1) := by decide +kernel
theorem dX6_count_101 : decode cX6_count 101 = .ok (.bipush (-4), 2) := by decide +kernel
theorem dX6_count_103 : decode cX6_count 103 = .ok (.if_icmp .ne 8, 3) := by decide +kernel
theorem dX6_count_106 : decode cX6_count 106 = .ok (.bipush (-4), 2) := by decide +kernel
theorem dX6_count_108 : decode cX6_count 108 = .ok (.goto 9, 3) := by decide +kernel
theorem dX6_count_111 : decode cX6_count 111 = .ok (.aload_n 0, 1) := by decide +kernel
theorem dX6_count_112 : decode cX6_count 112 = .ok (.getfield 32, 3) := by decide +kernel
theorem dX6_count_115 : decode cX6_count 115 = .ok (.iconst 0, 1) := by decide +kernel
theorem dX6_count_116 : decode cX6_count 116 = .ok (.iaload, 1) := by decide +kernel
theorem dX6_count_117 : decode cX6_count 117 = .ok (.ireturn, 1) := by decide +kernel
theorem dX6_count_118 : decode cX6_count 118 = .ok (.iload_n 2, 1) := by decide +kernel
theorem dX6_count_119 : decode cX6_count 119 = .ok (.ireturn, 1) := by decide +kernel
theorem dX6_count_120 : decode cX6_count 120 = .ok (.iconst (-1), 1) := by decide +kernel
theorem dX6_count_121 : decode cX6_count 121 = .ok (.ireturn, 1) := by decide +kernel
