theorem dX5_set_21 : decode cX5_set 21 = .ok (.getfield 199, 3) := by decide +kernel
theorem dX5_set_24 : decode cX5_set 24 = .ok (.iload_n 1, 1) := by decide +kernel
theorem dX5_set_25 : decode cX5_set 25 = .ok (.iaload, 1) := by decide +kernel
theorem dX5_set_26 : decode cX5_set 26 = .ok (.istore_n 3, 1) := by decide +kernel
theorem dX5_set_27 : decode cX5_set 27 = .ok (.aload_n 0, 1) := by decide +kernel
theorem dX5_set_28 : decode cX5_set 28 = .ok (.getfield 12, 3) := by decide +kernel
theorem dX5_set_31 : decode cX5_set 31 = .ok (.getfield 199, 3) := by decide +kernel
theorem dX5_set_34 : decode cX5_set 34 = .ok (.iload_n 1, 1) := by decide +kernel
theorem dX5_set_35 : decode cX5_set 35 = .ok (.iload_n 2, 1) := by decide +kernel
theorem dX5_set_36 : decode cX5_set 36 = .ok (.iastore, 1) := by decide +kernel
theorem dX5_set_37 : decode cX5_set 37 = .ok (.iload_n 3, 1) := by decide +kernel
theorem dX5_set_38 : decode cX5_set 38 = .ok (.ireturn, 1) := by decide +kernel
set_option maxRecDepth 20000 in
theorem ggX5_sum_X4_has : GoodIn wsX5_sum wsX4_has := goodIn_r _ [7, 8, 9, 10, 6, 11, 12, 126, 127, 128, 129, 130, 131, 132, 133, 134] rfl (by decide +kernel)
set_option maxRecDepth 20000 in
theorem gX5_sum_X4_has : GoodIn wsX5_sum (wsV RX5 135 RX4 yX4_has wsX4_has) := goodIn_app (goodIn_of _ (by decide +kernel)) ggX5_sum_X4_has
set_option maxRecDepth 20000 in
theorem ggX5_sum_X5_within : GoodIn wsX5_sum wsX5_within := goodIn_r _ [16] rfl (by decide +kernel)
set_option maxRecDepth 20000 in
theorem gX5_sum_X5_within : GoodIn wsX5_sum (va_wsS RX5 41 yX5_within wsX5_within) := goodIn_app (goodIn_of _ (by decide +kernel)) ggX5_sum_X5_within
set_option maxRecDepth 20000 in
theorem ggX5_sum_X4_weightBelow : GoodIn wsX5_sum wsX4_weightBelow := goodIn_r _ [20, 21, 22, 23, 24, 25, 26, 27, 28, 6, 29, 12, 30, 31, 32, 33, 34, 35, 36, 37, 38, 39, 40, 41, 42, 43, 44, 45, 46, 47, 48, 49, 50, 51, 52, 53, 54, 55, 56, 57, 58, 59, 60, 61, 62, 63, 64, 65, 66, 67, 68, 69, 70, 71, 72, 73, 74, 75, 76, 77, 78, 79, 80, 81, 82, 83, 84, 85, 86, 87, 88, 89, 90, 91, 92, 93, 94, 95, 96, 97, 98, 99, 100, 101, 102, 103, 126, 127, 128, 129, 130, 131, 132, 133, 134] rfl (by decide +kernel)
set_option maxRecDepth 20000 in
theorem gX5_sum_X4_weightBelow : GoodIn wsX5_sum (wsV RX5 202 RX4 yX4_weightBelow wsX4_weightBelow) := goodIn_app (goodIn_of _ (by decide +kernel)) ggX5_sum_X4_weightBelow
set_option maxRecDepth 20000 in
theorem ggX5_sum_X4_weightAbove : GoodIn wsX5_sum wsX4_weightAbove := goodIn_r _ [107, 25, 108, 4, 5, 6, 7, 8, 9, 10, 11, 12, 109, 110, 111, 112, 30, 31, 32, 33, 34, 35, 36, 37, 38, 39, 40, 41, 42, 43, 44, 45, 46, 47, 48, 49, 50, 51, 52, 53, 54, 55, 56, 57, 58, 59, 60, 61, 62, 63, 64, 65, 66, 67, 68, 69, 70, 71, 72, 113, 82, 83, 84, 114, 101, 102, 103, 89, 81, 96, 97, 98, 99, 90, 91, 92, 93, 94, 95, 115, 116, 117, 118, 126, 127, 128, 129, 130, 131, 132, 133, 134] rfl (by decide +kernel)
set_option maxRecDepth 20000 in
theorem gX5_sum_X4_weightAbove : GoodIn wsX5_sum (wsV RX5 206 RX4 yX4_weightAbove wsX4_weightAbove) := goodIn_app (goodIn_of _ (by decide +kernel)) ggX5_sum_X4_weightAbove
theorem dX5_sum_0 : decode cX5_sum 0 = .ok (.aload_n 0, 1) := by decide +kernel
theorem dX5_sum_1 : decode cX5_sum 1 = .ok (.getfield 12, 3) := by decide +kernel
theorem dX5_sum_4 : decode cX5_sum 4 = .ok (.iload_n 1, 1) := by decide +kernel
theorem dX5_sum_5 : decode cX5_sum 5 = .ok (.invokevirtual 135, 3) := by decide +kernel
theorem dX5_sum_8 : decode cX5_sum 8 = .ok (.ifCond .eq 12, 3) := by decide +kernel
theorem dX5_sum_11 : decode cX5_sum 11 = .ok (.iload_n 2, 1) := by decide +kernel
theorem dX5_sum_12 : decode cX5_sum 12 = .ok (.iconst 0, 1) := by decide +kernel
theorem dX5_sum_13 : decode cX5_sum 13 = .ok (.iconst 1, 1) := by decide +kernel
theorem dX5_sum_14 : decode cX5_sum 14 = .ok (.invokestatic 41, 3) := by decide +kernel
theorem dX5_sum_17 : decode cX5_sum 17 = .ok (.ifCond .ne 5, 3) := by decide +kernel
theorem dX5_sum_20 : decode cX5_sum 20 = .ok (.iconst (-1), 1) := by decide +kernel
theorem dX5_sum_21 : decode cX5_sum 21 = .ok (.ireturn, 1) := by decide +kernel
theorem dX5_sum_22 : decode cX5_sum 22 = .ok (.iload_n 2, 1) := by decide +kernel
theorem dX5_sum_23 : decode cX5_sum 23 = .ok (.ifCond .ne 14, 3) := by decide +kernel
theorem dX5_sum_26 : decode cX5_sum 26 = .ok (.aload_n 0, 1) := by decide +kernel
theorem dX5_sum_27 : decode cX5_sum 27 = .ok (.getfield 12, 3) := by decide +kernel
theorem dX5_sum_30 : decode cX5_sum 30 = .ok (.iload_n 1, 1) := by decide +kernel
theorem dX5_sum_31 : decode cX5_sum 31 = .ok (.invokevirtual 202, 3) := by decide +kernel
theorem dX5_sum_34 : decode cX5_sum 34 = .ok (.goto 11, 3) := by decide +kernel
theorem dX5_sum_37 : decode cX5_sum 37 = .ok (.aload_n 0, 1) := by decide +kernel
theorem dX5_sum_38 : decode cX5_sum 38 = .ok (.getfield 12, 3) := by decide +kernel
theorem dX5_sum_41 : decode cX5_sum 41 = .ok (.iload_n 1, 1) := by decide +kernel
theorem dX5_sum_42 : decode cX5_sum 42 = .ok (.invokevirtual 206, 3) := by decide +kernel
theorem dX5_sum_45 : decode cX5_sum 45 = .ok (.lstore_n 3, 1) := by decide +kernel
theorem dX5_sum_46 : decode cX5_sum 46 = .ok (.lload_n 3, 1) := by decide +kernel
theorem dX5_sum_47 : decode cX5_sum 47 = .ok (.ldc2_w 209, 3) := by decide +kernel
theorem dX5_sum_50 : decode cX5_sum 50 = .ok (.lcmp, 1) := by decide +kernel
theorem dX5_sum_51 : decode cX5_sum 51 = .ok (.ifCond .le 8, 3) := by decide +kernel
theorem dX5_sum_54 : decode cX5_sum 54 = .ok (.bipush (-5), 2) := by decide +kernel
theorem dX5_sum_56 : decode cX5_sum 56 = .ok (.goto 5, 3) := by decide +kernel
theorem dX5_sum_59 : decode cX5_sum 59 = .ok (.lload_n 3, 1) := by decide +kernel
theorem dX5_sum_60 : decode cX5_sum 60 = .ok (.l2i, 1) := by decide +kernel
theorem dX5_sum_61 : decode cX5_sum 61 = .ok (.ireturn, 1) := by decide +kernel
set_option maxRecDepth 20000 in
theorem ggX5_heaviest_X4_has : GoodIn wsX5_heaviest wsX4_has := goodIn_r _ [6, 7, 8, 9, 5, 10, 11, 106, 107, 108, 109, 110, 111, 112, 113, 114] rfl (by decide +kernel)
set_option maxRecDepth 20000 in
theorem gX5_heaviest_X4_has : GoodIn wsX5_heaviest (wsV RX5 135 RX4 yX4_has wsX4_has) := goodIn_app (goodIn_of _ (by decide +kernel)) ggX5_heaviest_X4_has
set_option maxRecDepth 20000 in
theorem ggX5_heaviest_X4_heaviestOf : GoodIn wsX5_heaviest wsX4_heaviestOf := goodIn_r _ [15, 16, 17, 18, 19, 20, 21, 22, 23, 5, 24, 11, 25, 26, 27, 28, 29, 30, 31, 32, 33, 34, 35, 36, 37, 38, 39, 40, 41, 42, 43, 44, 45, 46, 47, 48, 49, 50, 51, 52, 53, 54, 55, 56, 57, 58, 59, 60, 61, 62, 63, 64, 65, 66, 67, 68, 69, 70, 71, 72, 73, 74, 75, 76, 77, 78, 79, 80, 81, 82, 83, 84, 85, 86, 87, 88, 89, 90, 91, 92, 93, 94, 95, 96, 97, 98, 106, 107, 108, 109, 110, 111, 112, 113, 114] rfl (by decide +kernel)
set_option maxRecDepth 20000 in
theorem gX5_heaviest_X4_heaviestOf : GoodIn wsX5_heaviest (wsV RX5 211 RX4 yX4_heaviestOf wsX4_heaviestOf) := goodIn_app (goodIn_of _ (by decide +kernel)) ggX5_heaviest_X4_heaviestOf
theorem dX5_heaviest_0 : decode cX5_heaviest 0 = .ok (.aload_n 0, 1) := by decide +kernel
theorem dX5_heaviest_1 : decode cX5_heaviest 1 = .ok (.getfield 12, 3) := by decide +kernel
theorem dX5_heaviest_4 : decode cX5_heaviest 4 = .ok (.iload_n 1, 1) := by decide +kernel
theorem dX5_heaviest_5 : decode cX5_heaviest 5 = .ok (.invokevirtual 135, 3) := by decide +kernel
theorem dX5_heaviest_8 : decode cX5_heaviest 8 = .ok (.ifCond .eq 14, 3) := by decide +kernel
theorem dX5_heaviest_11 : decode cX5_heaviest 11 = .ok (.aload_n 0, 1) := by decide +kernel
theorem dX5_heaviest_12 : decode cX5_heaviest 12 = .ok (.getfield 12, 3) := by decide +kernel
theorem dX5_heaviest_15 : decode cX5_heaviest 15 = .ok (.iload_n 1, 1) := by decide +kernel
theorem dX5_heaviest_16 : decode cX5_heaviest 16 = .ok (.invokevirtual 211, 3) := by decide +kernel
theorem dX5_heaviest_19 : decode cX5_heaviest 19 = .ok (.goto 4, 3) := by decide +kernel
theorem dX5_heaviest_22 : decode cX5_heaviest 22 = .ok (.iconst (-1), 1) := by decide +kernel
theorem dX5_heaviest_23 : decode cX5_heaviest 23 = .ok (.ireturn, 1) := by decide +kernel
set_option maxRecDepth 20000 in
theorem ggX5_plant_X4_nodes : GoodIn wsX5_plant wsX4_nodes := goodIn_r _ [6, 7, 86, 87, 88, 89, 90, 91, 92, 93, 94] rfl (by decide +kernel)
set_option maxRecDepth 20000 in
theorem gX5_plant_X4_nodes : GoodIn wsX5_plant (wsV RX5 66 RX4 yX4_nodes wsX4_nodes) := goodIn_app (goodIn_of _ (by decide +kernel)) ggX5_plant_X4_nodes
set_option maxRecDepth 20000 in
theorem ggX5_plant_X4_addLeafAt : GoodIn wsX5_plant wsX4_addLeafAt := goodIn_r _ [11, 7, 12, 13, 14, 15, 16, 17, 18, 19, 20, 21, 22, 23, 24, 25, 26, 27, 28, 29, 30, 31, 32, 33, 34, 35, 36, 37, 38, 5, 39, 40, 41, 42, 43, 44, 3, 4, 6, 45, 46, 47, 48, 49, 50, 51, 52, 53, 54, 55, 56, 57, 58, 59, 60, 61, 62, 63, 64, 65, 66, 67, 68, 69, 70, 71, 72, 73, 74, 75, 76, 77, 78, 86, 87, 88, 89, 90, 91, 92, 93, 94] rfl (by decide +kernel)
set_option maxRecDepth 20000 in
theorem gX5_plant_X4_addLeafAt : GoodIn wsX5_plant (wsV RX5 214 RX4 yX4_addLeafAt wsX4_addLeafAt) := goodIn_app (goodIn_of _ (by decide +kernel)) ggX5_plant_X4_addLeafAt
theorem dX5_plant_0 : decode cX5_plant 0 = .ok (.iload_n 1, 1) := by decide +kernel
theorem dX5_plant_1 : decode cX5_plant 1 = .ok (.ifCond .ge 5, 3) := by decide +kernel
theorem dX5_plant_4 : decode cX5_plant 4 = .ok (.iconst (-1), 1) := by decide +kernel
theorem dX5_plant_5 : decode cX5_plant 5 = .ok (.ireturn, 1) := by decide +kernel
theorem dX5_plant_6 : decode cX5_plant 6 = .ok (.aload_n 0, 1) := by decide +kernel
theorem dX5_plant_7 : decode cX5_plant 7 = .ok (.getfield 12, 3) := by decide +kernel
theorem dX5_plant_10 : decode cX5_plant 10 = .ok (.invokevirtual 66, 3) := by decide +kernel
theorem dX5_plant_13 : decode cX5_plant 13 = .ok (.ifCond .le 6, 3) := by decide +kernel
theorem dX5_plant_16 : decode cX5_plant 16 = .ok (.bipush (-2), 2) := by decide +kernel
theorem dX5_plant_18 : decode cX5_plant 18 = .ok (.ireturn, 1) := by decide +kernel
theorem dX5_plant_19 : decode cX5_plant 19 = .ok (.aload_n 0, 1) := by decide +kernel
theorem dX5_plant_20 : decode cX5_plant 20 = .ok (.getfield 12, 3) := by decide +kernel
theorem dX5_plant_23 : decode cX5_plant 23 = .ok (.iconst 0, 1) := by decide +kernel
theorem dX5_plant_24 : decode cX5_plant 24 = .ok (.iload_n 1, 1) := by decide +kernel
theorem dX5_plant_25 : decode cX5_plant 25 = .ok (.invokevirtual 214, 3) := by decide +kernel
theorem dX5_plant_28 : decode cX5_plant 28 = .ok (.ireturn, 1) := by decide +kernel
set_option maxRecDepth 20000 in
theorem ggX5_leaf_X4_has : GoodIn wsX5_leaf wsX4_has := goodIn_r _ [6, 7, 8, 9, 5, 10, 11, 155, 156, 157, 158, 159, 160, 161, 162, 163] rfl (by decide +kernel)
set_option maxRecDepth 20000 in
theorem gX5_leaf_X4_has : GoodIn wsX5_leaf (wsV RX5 135 RX4 yX4_has wsX4_has) := goodIn_app (goodIn_of _ (by decide +kernel)) ggX5_leaf_X4_has
set_option maxRecDepth 20000 in
theorem ggX5_leaf_X4_childrenOf : GoodIn wsX5_leaf wsX4_childrenOf := goodIn_r _ [15, 11, 16, 17, 18, 5, 19, 20, 21, 22, 23, 24, 25, 26, 27, 28, 29, 30, 31, 32, 33, 34, 35, 36, 37, 38, 39, 40, 41, 42, 43, 44, 45, 46, 47, 48, 49, 50, 51, 52, 53, 54, 55, 56, 57, 58, 59, 60, 61, 62, 63, 64, 65, 66, 67, 68, 69, 70, 71, 72, 73, 74, 75, 76, 77, 78, 79, 80, 81, 82, 83, 84, 85, 86, 87, 88, 89, 90, 91, 92, 93, 94, 155, 156, 157, 158, 159, 160, 161, 162, 163] rfl (by decide +kernel)
set_option maxRecDepth 20000 in
theorem gX5_leaf_X4_childrenOf : GoodIn wsX5_leaf (wsV RX5 162 RX4 yX4_childrenOf wsX4_childrenOf) := goodIn_app (goodIn_of _ (by decide +kernel)) ggX5_leaf_X4_childrenOf
set_option maxRecDepth 20000 in
theorem ggX5_leaf_X5_within : GoodIn wsX5_leaf wsX5_within := goodIn_r _ [98] rfl (by decide +kernel)
set_option maxRecDepth 20000 in
theorem gX5_leaf_X5_within : GoodIn wsX5_leaf (va_wsS RX5 41 yX5_within wsX5_within) := goodIn_app (goodIn_of _ (by decide +kernel)) ggX5_leaf_X5_within
set_option maxRecDepth 20000 in
theorem ggX5_leaf_X4_nodes : GoodIn wsX5_leaf wsX4_nodes := goodIn_r _ [10, 11, 155, 156, 157, 158, 159, 160, 161, 162, 163] rfl (by decide +kernel)
set_option maxRecDepth 20000 in
theorem gX5_leaf_X4_nodes : GoodIn wsX5_leaf (wsV RX5 66 RX4 yX4_nodes wsX4_nodes) := goodIn_app (goodIn_of _ (by decide +kernel)) ggX5_leaf_X4_nodes
set_option maxRecDepth 20000 in
theorem ggX5_leaf_X4_placeForChild : GoodIn wsX5_leaf wsX4_placeForChild := goodIn_r _ [103, 11, 16, 17, 18, 5, 19, 20, 21, 22, 23, 24, 25, 26, 27, 28, 29, 30, 31, 32, 33, 34, 35, 36, 37, 38, 39, 40, 41, 42, 43, 44, 45, 46, 47, 48, 49, 50, 51, 52, 53, 54, 55, 56, 57, 58, 90, 68, 69, 70, 104, 64, 65, 66, 105, 72, 73, 74, 75, 67, 76, 77, 78, 79, 80, 81, 82, 83, 84, 85, 155, 156, 157, 158, 159, 160, 161, 162, 163] rfl (by decide +kernel)
set_option maxRecDepth 20000 in
theorem gX5_leaf_X4_placeForChild : GoodIn wsX5_leaf (wsV RX5 217 RX4 yX4_placeForChild wsX4_placeForChild) := goodIn_app (goodIn_of _ (by decide +kernel)) ggX5_leaf_X4_placeForChild
set_option maxRecDepth 20000 in
theorem ggX5_leaf_X4_addLeafAt : GoodIn wsX5_leaf wsX4_addLeafAt := goodIn_r _ [109, 11, 110, 111, 112, 113, 23, 114, 67, 68, 69, 70, 29, 32, 33, 34, 35, 36, 37, 41, 42, 43, 44, 45, 46, 47, 115, 116, 117, 5, 118, 119, 120, 121, 122, 7, 8, 9, 10, 123, 124, 125, 126, 30, 31, 127, 128, 129, 130, 131, 132, 133, 134, 135, 136, 137, 138, 139, 140, 141, 142, 143, 144, 145, 146, 147, 75, 80, 81, 82, 83, 84, 85, 155, 156, 157, 158, 159, 160, 161, 162, 163] rfl (by decide +kernel)
set_option maxRecDepth 20000 in
theorem gX5_leaf_X4_addLeafAt : GoodIn wsX5_leaf (wsV RX5 214 RX4 yX4_addLeafAt wsX4_addLeafAt) := goodIn_app (goodIn_of _ (by decide +kernel)) ggX5_leaf_X4_addLeafAt
theorem dX5_leaf_0 : decode cX5_leaf 0 = .ok (.aload_n 0, 1) := by decide +kernel
theorem dX5_leaf_1 : decode cX5_leaf 1 = .ok (.getfield 12, 3) := by decide +kernel
theorem dX5_leaf_4 : decode cX5_leaf 4 = .ok (.iload_n 1, 1) := by decide +kernel
theorem dX5_leaf_5 : decode cX5_leaf 5 = .ok (.invokevirtual 135, 3) := by decide +kernel
theorem dX5_leaf_8 : decode cX5_leaf 8 = .ok (.ifCond .eq 23, 3) := by decide +kernel
theorem dX5_leaf_11 : decode cX5_leaf 11 = .ok (.iload_n 3, 1) := by decide +kernel
theorem dX5_leaf_12 : decode cX5_leaf 12 = .ok (.ifCond .lt 19, 3) := by decide +kernel
theorem dX5_leaf_15 : decode cX5_leaf 15 = .ok (.iload_n 2, 1) := by decide +kernel
theorem dX5_leaf_16 : decode cX5_leaf 16 = .ok (.iconst 0, 1) := by decide +kernel
theorem dX5_leaf_17 : decode cX5_leaf 17 = .ok (.aload_n 0, 1) := by decide +kernel
theorem dX5_leaf_18 : decode cX5_leaf 18 = .ok (.getfield 12, 3) := by decide +kernel
theorem dX5_leaf_21 : decode cX5_leaf 21 = .ok (.iload_n 1, 1) := by decide +kernel
theorem dX5_leaf_22 : decode cX5_leaf 22 = .ok (.invokevirtual 162, 3) := by decide +kernel
theorem dX5_leaf_25 : decode cX5_leaf 25 = .ok (.invokestatic 41, 3) := by decide +kernel
theorem dX5_leaf_28 : decode cX5_leaf 28 = .ok (.ifCond .ne 5, 3) := by decide +kernel
theorem dX5_leaf_31 : decode cX5_leaf 31 = .ok (.iconst (-1), 1) := by decide +kernel
theorem dX5_leaf_32 : decode cX5_leaf 32 = .ok (.ireturn, 1) := by decide +kernel
theorem dX5_leaf_33 : decode cX5_leaf 33 = .ok (.aload_n 0, 1) := by decide +kernel
theorem dX5_leaf_34 : decode cX5_leaf 34 = .ok (.getfield 12, 3) := by decide +kernel
theorem dX5_leaf_37 : decode cX5_leaf 37 = .ok (.invokevirtual 66, 3) := by decide +kernel
theorem dX5_leaf_40 : decode cX5_leaf 40 = .ok (.bipush 64, 2) := by decide +kernel
theorem dX5_leaf_42 : decode cX5_leaf 42 = .ok (.if_icmp .lt 6, 3) := by decide +kernel
theorem dX5_leaf_45 : decode cX5_leaf 45 = .ok (.bipush (-3), 2) := by decide +kernel
theorem dX5_leaf_47 : decode cX5_leaf 47 = .ok (.ireturn, 1) := by decide +kernel
theorem dX5_leaf_48 : decode cX5_leaf 48 = .ok (.aload_n 0, 1) := by decide +kernel
theorem dX5_leaf_49 : decode cX5_leaf 49 = .ok (.getfield 12, 3) := by decide +kernel
theorem dX5_leaf_52 : decode cX5_leaf 52 = .ok (.aload_n 0, 1) := by decide +kernel
theorem dX5_leaf_53 : decode cX5_leaf 53 = .ok (.getfield 12, 3) := by decide +kernel
theorem dX5_leaf_56 : decode cX5_leaf 56 = .ok (.iload_n 1, 1) := by decide +kernel
theorem dX5_leaf_57 : decode cX5_leaf 57 = .ok (.iload_n 2, 1) := by decide +kernel
theorem dX5_leaf_58 : decode cX5_leaf 58 = .ok (.invokevirtual 217, 3) := by decide +kernel
theorem dX5_leaf_61 : decode cX5_leaf 61 = .ok (.iload_n 3, 1) := by decide +kernel
theorem dX5_leaf_62 : decode cX5_leaf 62 = .ok (.invokevirtual 214, 3) := by decide +kernel
theorem dX5_leaf_65 : decode cX5_leaf 65 = .ok (.ireturn, 1) := by decide +kernel
set_option maxRecDepth 20000 in
theorem ggX5_prune_X4_has : GoodIn wsX5_prune wsX4_has := goodIn_r _ [6, 7, 8, 9, 5, 10, 11, 135, 136, 137, 138, 139, 140, 141, 142, 143] rfl (by decide +kernel)
set_option maxRecDepth 20000 in
theorem gX5_prune_X4_has : GoodIn wsX5_prune (wsV RX5 135 RX4 yX4_has wsX4_has) := goodIn_app (goodIn_of _ (by decide +kernel)) ggX5_prune_X4_has
set_option maxRecDepth 20000 in
theorem ggX5_prune_X4_firstChildOf : GoodIn wsX5_prune wsX4_firstChildOf := goodIn_r _ [15, 11, 16, 17, 18, 5, 19, 20, 21, 22, 23, 24, 25, 26, 27, 28, 29, 30, 31, 32, 33, 34, 35, 36, 37, 38, 39, 40, 41, 42, 43, 44, 45, 46, 47, 48, 49, 50, 51, 52, 53, 54, 55, 56, 57, 58, 59, 60, 61, 62, 135, 136, 137, 138, 139, 140, 141, 142, 143] rfl (by decide +kernel)
set_option maxRecDepth 20000 in
theorem gX5_prune_X4_firstChildOf : GoodIn wsX5_prune (wsV RX5 150 RX4 yX4_firstChildOf wsX4_firstChildOf) := goodIn_app (goodIn_of _ (by decide +kernel)) ggX5_prune_X4_firstChildOf
set_option maxRecDepth 20000 in
theorem ggX5_prune_X4_removeSubtree : GoodIn wsX5_prune wsX4_removeSubtree := goodIn_r _ [66, 11, 67, 68, 69, 5, 70, 16, 17, 18, 19, 20, 21, 22, 23, 24, 25, 26, 27, 28, 29, 30, 31, 32, 33, 34, 35, 36, 37, 38, 39, 40, 41, 42, 43, 44, 45, 46, 47, 48, 49, 50, 51, 52, 53, 54, 55, 56, 57, 58, 71, 72, 73, 74, 75, 60, 61, 62, 76, 77, 78, 79, 80, 81, 82, 83, 84, 85, 86, 87, 88, 89, 90, 91, 92, 93, 94, 95, 96, 97, 98, 99, 100, 101, 102, 103, 104, 105, 106, 107, 7, 8, 9, 10, 108, 109, 110, 111, 112, 113, 114, 115, 116, 117, 118, 119, 120, 121, 122, 123, 124, 125, 126, 135, 136, 137, 138, 139, 140, 141, 142, 143] rfl (by decide +kernel)
set_option maxRecDepth 20000 in
theorem gX5_prune_X4_removeSubtree : GoodIn wsX5_prune (wsV RX5 220 RX4 yX4_removeSubtree wsX4_removeSubtree) := goodIn_app (goodIn_of _ (by decide +kernel)) ggX5_prune_X4_removeSubtree
set_option maxRecDepth 20000 in
theorem ggX5_prune_X4_nodes : GoodIn wsX5_prune wsX4_nodes := goodIn_r _ [10, 11, 135, 136, 137, 138, 139, 140, 141, 142, 143] rfl (by decide +kernel)
set_option maxRecDepth 20000 in
theorem gX5_prune_X4_nodes : GoodIn wsX5_prune (wsV RX5 66 RX4 yX4_nodes wsX4_nodes) := goodIn_app (goodIn_of _ (by decide +kernel)) ggX5_prune_X4_nodes
theorem dX5_prune_0 : decode cX5_prune 0 = .ok (.aload_n 0, 1) := by decide +kernel
theorem dX5_prune_1 : decode cX5_prune 1 = .ok (.getfield 12, 3) := by decide +kernel
theorem dX5_prune_4 : decode cX5_prune 4 = .ok (.iload_n 1, 1) := by decide +kernel
theorem dX5_prune_5 : decode cX5_prune 5 = .ok (.invokevirtual 135, 3) := by decide +kernel
theorem dX5_prune_8 : decode cX5_prune 8 = .ok (.ifCond .ne 5, 3) := by decide +kernel
theorem dX5_prune_11 : decode cX5_prune 11 = .ok (.iconst (-1), 1) := by decide +kernel
theorem dX5_prune_12 : decode cX5_prune 12 = .ok (.ireturn, 1) := by decide +kernel
theorem dX5_prune_13 : decode cX5_prune 13 = .ok (.aload_n 0, 1) := by decide +kernel
theorem dX5_prune_14 : decode cX5_prune 14 = .ok (.getfield 12, 3) := by decide +kernel
theorem dX5_prune_17 : decode cX5_prune 17 = .ok (.iload_n 1, 1) := by decide +kernel
theorem dX5_prune_18 : decode cX5_prune 18 = .ok (.invokevirtual 150, 3) := by decide +kernel
theorem dX5_prune_21 : decode cX5_prune 21 = .ok (.bipush (-4), 2) := by decide +kernel
theorem dX5_prune_23 : decode cX5_prune 23 = .ok (.if_icmp .eq 6, 3) := by decide +kernel
theorem dX5_prune_26 : decode cX5_prune 26 = .ok (.bipush (-2), 2) := by decide +kernel
theorem dX5_prune_28 : decode cX5_prune 28 = .ok (.ireturn, 1) := by decide +kernel
theorem dX5_prune_29 : decode cX5_prune 29 = .ok (.aload_n 0, 1) := by decide +kernel
theorem dX5_prune_30 : decode cX5_prune 30 = .ok (.getfield 12, 3) := by decide +kernel
theorem dX5_prune_33 : decode cX5_prune 33 = .ok (.iload_n 1, 1) := by decide +kernel
theorem dX5_prune_34 : decode cX5_prune 34 = .ok (.invokevirtual 220, 3) := by decide +kernel
theorem dX5_prune_37 : decode cX5_prune 37 = .ok (.aload_n 0, 1) := by decide +kernel
theorem dX5_prune_38 : decode cX5_prune 38 = .ok (.getfield 12, 3) := by decide +kernel
theorem dX5_prune_41 : decode cX5_prune 41 = .ok (.invokevirtual 66, 3) := by decide +kernel
theorem dX5_prune_44 : decode cX5_prune 44 = .ok (.ireturn, 1) := by decide +kernel
set_option maxRecDepth 20000 in
theorem ggX5_fell_X4_has : GoodIn wsX5_fell wsX4_has := goodIn_r _ [6, 7, 8, 9, 5, 10, 11, 130, 131, 132, 133, 134, 135, 136, 137, 138] rfl (by decide +kernel)
set_option maxRecDepth 20000 in
theorem gX5_fell_X4_has : GoodIn wsX5_fell (wsV RX5 135 RX4 yX4_has wsX4_has) := goodIn_app (goodIn_of _ (by decide +kernel)) ggX5_fell_X4_has
set_option maxRecDepth 20000 in
theorem ggX5_fell_X4_nodesOf : GoodIn wsX5_fell wsX4_nodesOf := goodIn_r _ [15, 11, 16, 17, 18, 5, 19, 20, 21, 22, 23, 24, 25, 26, 27, 28, 29, 30, 31, 32, 33, 34, 35, 36, 37, 38, 39, 40, 41, 42, 43, 44, 45, 46, 47, 48, 49, 50, 51, 52, 53, 54, 55, 56, 57, 58, 59, 60, 61, 62, 63, 64, 65, 66, 67, 68, 69, 70, 71, 72, 73, 74, 75, 76, 77, 78, 79, 80, 81, 82, 83, 84, 85, 86, 87, 88, 89, 130, 131, 132, 133, 134, 135, 136, 137, 138] rfl (by decide +kernel)
set_option maxRecDepth 20000 in
theorem gX5_fell_X4_nodesOf : GoodIn wsX5_fell (wsV RX5 165 RX4 yX4_nodesOf wsX4_nodesOf) := goodIn_app (goodIn_of _ (by decide +kernel)) ggX5_fell_X4_nodesOf
set_option maxRecDepth 20000 in
theorem ggX5_fell_X4_removeSubtree : GoodIn wsX5_fell wsX4_removeSubtree := goodIn_r _ [93, 11, 94, 13, 14, 5, 15, 16, 17, 18, 19, 20, 21, 22, 23, 24, 25, 26, 27, 28, 29, 30, 31, 32, 33, 34, 35, 36, 37, 38, 39, 40, 41, 42, 43, 44, 45, 46, 47, 48, 49, 50, 51, 52, 53, 54, 55, 56, 57, 58, 59, 60, 61, 62, 63, 64, 65, 66, 67, 68, 69, 70, 71, 72, 73, 74, 75, 76, 77, 78, 79, 80, 81, 82, 83, 84, 85, 86, 87, 88, 89, 95, 96, 97, 98, 99, 100, 101, 102, 103, 7, 8, 9, 10, 104, 105, 106, 107, 108, 109, 110, 111, 112, 113, 114, 115, 116, 117, 118, 119, 120, 121, 122, 130, 131, 132, 133, 134, 135, 136, 137, 138] rfl (by decide +kernel)
set_option maxRecDepth 20000 in
theorem gX5_fell_X4_removeSubtree : GoodIn wsX5_fell (wsV RX5 220 RX4 yX4_removeSubtree wsX4_removeSubtree) := goodIn_app (goodIn_of _ (by decide +kernel)) ggX5_fell_X4_removeSubtree
theorem dX5_fell_0 : decode cX5_fell 0 = .ok (.aload_n 0, 1) := by decide +kernel
theorem dX5_fell_1 : decode cX5_fell 1 = .ok (.getfield 12, 3) := by decide +kernel
theorem dX5_fell_4 : decode cX5_fell 4 = .ok (.iload_n 1, 1) := by decide +kernel
theorem dX5_fell_5 : decode cX5_fell 5 = .ok (.invokevirtual 135, 3) := by decide +kernel
theorem dX5_fell_8 : decode cX5_fell 8 = .ok (.ifCond .ne 5, 3) := by decide +kernel
theorem dX5_fell_11 : decode cX5_fell 11 = .ok (.iconst (-1), 1) := by decide +kernel
theorem dX5_fell_12 : decode cX5_fell 12 = .ok (.ireturn, 1) := by decide +kernel
theorem dX5_fell_13 : decode cX5_fell 13 = .ok (.aload_n 0, 1) := by decide +kernel
theorem dX5_fell_14 : decode cX5_fell 14 = .ok (.getfield 12, 3) := by decide +kernel
theorem dX5_fell_17 : decode cX5_fell 17 = .ok (.iload_n 1, 1) := by decide +kernel
theorem dX5_fell_18 : decode cX5_fell 18 = .ok (.invokevirtual 165, 3) := by decide +kernel
theorem dX5_fell_21 : decode cX5_fell 21 = .ok (.istore_n 2, 1) := by decide +kernel
theorem dX5_fell_22 : decode cX5_fell 22 = .ok (.aload_n 0, 1) := by decide +kernel
theorem dX5_fell_23 : decode cX5_fell 23 = .ok (.getfield 12, 3) := by decide +kernel
theorem dX5_fell_26 : decode cX5_fell 26 = .ok (.iload_n 1, 1) := by decide +kernel
theorem dX5_fell_27 : decode cX5_fell 27 = .ok (.invokevirtual 220, 3) := by decide +kernel
theorem dX5_fell_30 : decode cX5_fell 30 = .ok (.iload_n 2, 1) := by decide +kernel
theorem dX5_fell_31 : decode cX5_fell 31 = .ok (.ireturn, 1) := by decide +kernel
set_option maxRecDepth 20000 in
theorem ggX5_wrap_X4_has : GoodIn wsX5_wrap wsX4_has := goodIn_r _ [6, 7, 8, 9, 5, 10, 11, 155, 156, 157, 158, 159, 160, 161, 162, 163] rfl (by decide +kernel)
set_option maxRecDepth 20000 in
theorem gX5_wrap_X4_has : GoodIn wsX5_wrap (wsV RX5 135 RX4 yX4_has wsX4_has) := goodIn_app (goodIn_of _ (by decide +kernel)) ggX5_wrap_X4_has
set_option maxRecDepth 20000 in
theorem ggX5_wrap_X4_childrenOf : GoodIn wsX5_wrap wsX4_childrenOf := goodIn_r _ [15, 11, 16, 17, 18, 5, 19, 20, 21, 22, 23, 24, 25, 26, 27, 28, 29, 30, 31, 32, 33, 34, 35, 36, 37, 38, 39, 40, 41, 42, 43, 44, 45, 46, 47, 48, 49, 50, 51, 52, 53, 54, 55, 56, 57, 58, 59, 60, 61, 62, 63, 64, 65, 66, 67, 68, 69, 70, 71, 72, 73, 74, 75, 76, 77, 78, 79, 80, 81, 82, 83, 84, 85, 86, 87, 88, 89, 90, 91, 92, 93, 94, 155, 156, 157, 158, 159, 160, 161, 162, 163] rfl (by decide +kernel)
set_option maxRecDepth 20000 in
theorem gX5_wrap_X4_childrenOf : GoodIn wsX5_wrap (wsV RX5 162 RX4 yX4_childrenOf wsX4_childrenOf) := goodIn_app (goodIn_of _ (by decide +kernel)) ggX5_wrap_X4_childrenOf
set_option maxRecDepth 20000 in
theorem ggX5_wrap_X5_within : GoodIn wsX5_wrap wsX5_within := goodIn_r _ [98] rfl (by decide +kernel)
set_option maxRecDepth 20000 in
theorem gX5_wrap_X5_within : GoodIn wsX5_wrap (va_wsS RX5 41 yX5_within wsX5_within) := goodIn_app (goodIn_of _ (by decide +kernel)) ggX5_wrap_X5_within
set_option maxRecDepth 20000 in
theorem ggX5_wrap_X4_nodes : GoodIn wsX5_wrap wsX4_nodes := goodIn_r _ [10, 11, 155, 156, 157, 158, 159, 160, 161, 162, 163] rfl (by decide +kernel)
set_option maxRecDepth 20000 in
theorem gX5_wrap_X4_nodes : GoodIn wsX5_wrap (wsV RX5 66 RX4 yX4_nodes wsX4_nodes) := goodIn_app (goodIn_of _ (by decide +kernel)) ggX5_wrap_X4_nodes
set_option maxRecDepth 20000 in
theorem ggX5_wrap_X4_placeForChild : GoodIn wsX5_wrap wsX4_placeForChild := goodIn_r _ [103, 11, 16, 17, 18, 5, 19, 20, 21, 22, 23, 24, 25, 26, 27, 28, 29, 30, 31, 32, 33, 34, 35, 36, 37, 38, 39, 40, 41, 42, 43, 44, 45, 46, 47, 48, 49, 50, 51, 52, 53, 54, 55, 56, 57, 58, 90, 68, 69, 70, 104, 64, 65, 66, 105, 72, 73, 74, 75, 67, 76, 77, 78, 79, 80, 81, 82, 83, 84, 85, 155, 156, 157, 158, 159, 160, 161, 162, 163] rfl (by decide +kernel)
set_option maxRecDepth 20000 in
theorem gX5_wrap_X4_placeForChild : GoodIn wsX5_wrap (wsV RX5 217 RX4 yX4_placeForChild wsX4_placeForChild) := goodIn_app (goodIn_of _ (by decide +kernel)) ggX5_wrap_X4_placeForChild
set_option maxRecDepth 20000 in
theorem ggX5_wrap_X4_addAbout : GoodIn wsX5_wrap wsX4_addAbout := goodIn_r _ [109, 11, 110, 111, 112, 113, 23, 114, 67, 68, 69, 70, 29, 32, 33, 34, 35, 36, 37, 41, 42, 43, 44, 45, 46, 47, 115, 116, 117, 5, 118, 119, 120, 121, 122, 7, 8, 9, 10, 123, 124, 125, 126, 30, 31, 127, 128, 129, 130, 131, 132, 133, 134, 135, 136, 137, 138, 139, 140, 141, 142, 143, 144, 145, 146, 147, 75, 80, 81, 82, 83, 84, 85, 155, 156, 157, 158, 159, 160, 161, 162, 163] rfl (by decide +kernel)
set_option maxRecDepth 20000 in
theorem gX5_wrap_X4_addAbout : GoodIn wsX5_wrap (wsV RX5 224 RX4 yX4_addAbout wsX4_addAbout) := goodIn_app (goodIn_of _ (by decide +kernel)) ggX5_wrap_X4_addAbout
theorem dX5_wrap_0 : decode cX5_wrap 0 = .ok (.aload_n 0, 1) := by decide +kernel
theorem dX5_wrap_1 : decode cX5_wrap 1 = .ok (.getfield 12, 3) := by decide +kernel
theorem dX5_wrap_4 : decode cX5_wrap 4 = .ok (.iload_n 1, 1) := by decide +kernel
theorem dX5_wrap_5 : decode cX5_wrap 5 = .ok (.invokevirtual 135, 3) := by decide +kernel
theorem dX5_wrap_8 : decode cX5_wrap 8 = .ok (.ifCond .eq 8, 3) := by decide +kernel
theorem dX5_wrap_11 : decode cX5_wrap 11 = .ok (.iload 4, 2) := by decide +kernel
theorem dX5_wrap_13 : decode cX5_wrap 13 = .ok (.ifCond .ge 5, 3) := by decide +kernel
theorem dX5_wrap_16 : decode cX5_wrap 16 = .ok (.iconst (-1), 1) := by decide +kernel
theorem dX5_wrap_17 : decode cX5_wrap 17 = .ok (.ireturn, 1) := by decide +kernel
theorem dX5_wrap_18 : decode cX5_wrap 18 = .ok (.aload_n 0, 1) := by decide +kernel
theorem dX5_wrap_19 : decode cX5_wrap 19 = .ok (.getfield 12, 3) := by decide +kernel
theorem dX5_wrap_22 : decode cX5_wrap 22 = .ok (.iload_n 1, 1) := by decide +kernel
theorem dX5_wrap_23 : decode cX5_wrap 23 = .ok (.invokevirtual 162, 3) := by decide +kernel
theorem dX5_wrap_26 : decode cX5_wrap 26 = .ok (.istore 5, 2) := by decide +kernel
theorem dX5_wrap_28 : decode cX5_wrap 28 = .ok (.iload_n 2, 1) := by decide +kernel
theorem dX5_wrap_29 : decode cX5_wrap 29 = .ok (.iconst 0, 1) := by decide +kernel
theorem dX5_wrap_30 : decode cX5_wrap 30 = .ok (.iload 5, 2) := by decide +kernel
theorem dX5_wrap_32 : decode cX5_wrap 32 = .ok (.invokestatic 41, 3) := by decide +kernel
theorem dX5_wrap_35 : decode cX5_wrap 35 = .ok (.ifCond .eq 15, 3) := by decide +kernel
theorem dX5_wrap_38 : decode cX5_wrap 38 = .ok (.iload_n 3, 1) := by decide +kernel
theorem dX5_wrap_39 : decode cX5_wrap 39 = .ok (.iconst 0, 1) := by decide +kernel
theorem dX5_wrap_40 : decode cX5_wrap 40 = .ok (.iload 5, 2) := by decide +kernel
theorem dX5_wrap_42 : decode cX5_wrap 42 = .ok (.iload_n 2, 1) := by decide +kernel
theorem dX5_wrap_43 : decode cX5_wrap 43 = .ok (.isub, 1) := by decide +kernel
theorem dX5_wrap_44 : decode cX5_wrap 44 = .ok (.invokestatic 41, 3) := by decide +kernel
theorem dX5_wrap_47 : decode cX5_wrap 47 = .ok (.ifCond .ne 5, 3) := by decide +kernel
theorem dX5_wrap_50 : decode cX5_wrap 50 = .ok (.iconst (-1), 1) := by decide +kernel
theorem dX5_wrap_51 : decode cX5_wrap 51 = .ok (.ireturn, 1) := by decide +kernel
theorem dX5_wrap_52 : decode cX5_wrap 52 = .ok (.aload_n 0, 1) := by decide +kernel
theorem dX5_wrap_53 : decode cX5_wrap 53 = .ok (.getfield 12, 3) := by decide +kernel
theorem dX5_wrap_56 : decode cX5_wrap 56 = .ok (.invokevirtual 66, 3) := by decide +kernel
theorem dX5_wrap_59 : decode cX5_wrap 59 = .ok (.bipush 64, 2) := by decide +kernel
theorem dX5_wrap_61 : decode cX5_wrap 61 = .ok (.if_icmp .lt 6, 3) := by decide +kernel
theorem dX5_wrap_64 : decode cX5_wrap 64 = .ok (.bipush (-3), 2) := by decide +kernel
theorem dX5_wrap_66 : decode cX5_wrap 66 = .ok (.ireturn, 1) := by decide +kernel
theorem dX5_wrap_67 : decode cX5_wrap 67 = .ok (.aload_n 0, 1) := by decide +kernel
theorem dX5_wrap_68 : decode cX5_wrap 68 = .ok (.getfield 12, 3) := by decide +kernel
theorem dX5_wrap_71 : decode cX5_wrap 71 = .ok (.aload_n 0, 1) := by decide +kernel
theorem dX5_wrap_72 : decode cX5_wrap 72 = .ok (.getfield 12, 3) := by decide +kernel
theorem dX5_wrap_75 : decode cX5_wrap 75 = .ok (.iload_n 1, 1) := by decide +kernel
theorem dX5_wrap_76 : decode cX5_wrap 76 = .ok (.iload_n 2, 1) := by decide +kernel
theorem dX5_wrap_77 : decode cX5_wrap 77 = .ok (.invokevirtual 217, 3) := by decide +kernel
theorem dX5_wrap_80 : decode cX5_wrap 80 = .ok (.aload_n 0, 1) := by decide +kernel
theorem dX5_wrap_81 : decode cX5_wrap 81 = .ok (.getfield 12, 3) := by decide +kernel
theorem dX5_wrap_84 : decode cX5_wrap 84 = .ok (.iload_n 1, 1) := by decide +kernel
theorem dX5_wrap_85 : decode cX5_wrap 85 = .ok (.iload_n 2, 1) := by decide +kernel
theorem dX5_wrap_86 : decode cX5_wrap 86 = .ok (.iload_n 3, 1) := by decide +kernel
theorem dX5_wrap_87 : decode cX5_wrap 87 = .ok (.iadd, 1) := by decide +kernel
theorem dX5_wrap_88 : decode cX5_wrap 88 = .ok (.invokevirtual 217, 3) := by decide +kernel
theorem dX5_wrap_91 : decode cX5_wrap 91 = .ok (.iload 4, 2) := by decide +kernel
theorem dX5_wrap_93 : decode cX5_wrap 93 = .ok (.invokevirtual 224, 3) := by decide +kernel
theorem dX5_wrap_96 : decode cX5_wrap 96 = .ok (.ireturn, 1) := by decide +kernel
set_option maxRecDepth 20000 in
theorem ggX5_melt_X4_has : GoodIn wsX5_melt wsX4_has := goodIn_r _ [6, 7, 8, 9, 5, 10, 11, 135, 136, 137, 138, 139, 140, 141, 142, 143] rfl (by decide +kernel)
set_option maxRecDepth 20000 in
theorem gX5_melt_X4_has : GoodIn wsX5_melt (wsV RX5 135 RX4 yX4_has wsX4_has) := goodIn_app (goodIn_of _ (by decide +kernel)) ggX5_melt_X4_has
set_option maxRecDepth 20000 in
theorem ggX5_melt_X4_childrenOf : GoodIn wsX5_melt wsX4_childrenOf := goodIn_r _ [15, 11, 16, 17, 18, 5, 19, 20, 21, 22, 23, 24, 25, 26, 27, 28, 29, 30, 31, 32, 33, 34, 35, 36, 37, 38, 39, 40, 41, 42, 43, 44, 45, 46, 47, 48, 49, 50, 51, 52, 53, 54, 55, 56, 57, 58, 59, 60, 61, 62, 63, 64, 65, 66, 67, 68, 69, 70, 71, 72, 73, 74, 75, 76, 77, 78, 79, 80, 81, 82, 83, 84, 85, 86, 87, 88, 89, 90, 91, 92, 93, 94, 135, 136, 137, 138, 139, 140, 141, 142, 143] rfl (by decide +kernel)
set_option maxRecDepth 20000 in
theorem gX5_melt_X4_childrenOf : GoodIn wsX5_melt (wsV RX5 162 RX4 yX4_childrenOf wsX4_childrenOf) := goodIn_app (goodIn_of _ (by decide +kernel)) ggX5_melt_X4_childrenOf
set_option maxRecDepth 20000 in
theorem ggX5_melt_X4_removeAlone : GoodIn wsX5_melt wsX4_removeAlone := goodIn_r _ [98, 11, 16, 17, 18, 5, 19, 20, 21, 22, 23, 24, 25, 26, 27, 28, 29, 30, 31, 32, 33, 34, 35, 36, 37, 38, 39, 40, 41, 42, 43, 44, 45, 46, 47, 48, 49, 50, 51, 52, 53, 54, 55, 56, 57, 58, 59, 60, 61, 62, 63, 64, 65, 66, 67, 68, 69, 70, 71, 72, 73, 74, 75, 76, 77, 78, 79, 80, 81, 82, 83, 84, 85, 86, 87, 88, 89, 99, 100, 101, 102, 103, 104, 105, 106, 107, 7, 8, 9, 10, 108, 109, 110, 111, 112, 113, 114, 115, 116, 117, 118, 119, 120, 121, 122, 123, 124, 125, 126, 135, 136, 137, 138, 139, 140, 141, 142, 143] rfl (by decide +kernel)
set_option maxRecDepth 20000 in
theorem gX5_melt_X4_removeAlone : GoodIn wsX5_melt (wsV RX5 227 RX4 yX4_removeAlone wsX4_removeAlone) := goodIn_app (goodIn_of _ (by decide +kernel)) ggX5_melt_X4_removeAlone
set_option maxRecDepth 20000 in
theorem ggX5_melt_X4_nodes : GoodIn wsX5_melt wsX4_nodes := goodIn_r _ [10, 11, 135, 136, 137, 138, 139, 140, 141, 142, 143] rfl (by decide +kernel)
set_option maxRecDepth 20000 in
theorem gX5_melt_X4_nodes : GoodIn wsX5_melt (wsV RX5 66 RX4 yX4_nodes wsX4_nodes) := goodIn_app (goodIn_of _ (by decide +kernel)) ggX5_melt_X4_nodes
theorem dX5_melt_0 : decode cX5_melt 0 = .ok (.aload_n 0, 1) := by decide +kernel
theorem dX5_melt_1 : decode cX5_melt 1 = .ok (.getfield 12, 3) := by decide +kernel
theorem dX5_melt_4 : decode cX5_melt 4 = .ok (.iload_n 1, 1) := by decide +kernel
theorem dX5_melt_5 : decode cX5_melt 5 = .ok (.invokevirtual 135, 3) := by decide +kernel
theorem dX5_melt_8 : decode cX5_melt 8 = .ok (.ifCond .ne 5, 3) := by decide +kernel
theorem dX5_melt_11 : decode cX5_melt 11 = .ok (.iconst (-1), 1) := by decide +kernel
theorem dX5_melt_12 : decode cX5_melt 12 = .ok (.ireturn, 1) := by decide +kernel
theorem dX5_melt_13 : decode cX5_melt 13 = .ok (.iload_n 1, 1) := by decide +kernel
theorem dX5_melt_14 : decode cX5_melt 14 = .ok (.ifCond .ne 18, 3) := by decide +kernel
theorem dX5_melt_17 : decode cX5_melt 17 = .ok (.aload_n 0, 1) := by decide +kernel
theorem dX5_melt_18 : decode cX5_melt 18 = .ok (.getfield 12, 3) := by decide +kernel
theorem dX5_melt_21 : decode cX5_melt 21 = .ok (.iconst 0, 1) := by decide +kernel
theorem dX5_melt_22 : decode cX5_melt 22 = .ok (.invokevirtual 162, 3) := by decide +kernel
theorem dX5_melt_25 : decode cX5_melt 25 = .ok (.iconst 1, 1) := by decide +kernel
theorem dX5_melt_26 : decode cX5_melt 26 = .ok (.if_icmp .eq 6, 3) := by decide +kernel
theorem dX5_melt_29 : decode cX5_melt 29 = .ok (.bipush (-2), 2) := by decide +kernel
theorem dX5_melt_31 : decode cX5_melt 31 = .ok (.ireturn, 1) := by decide +kernel
theorem dX5_melt_32 : decode cX5_melt 32 = .ok (.aload_n 0, 1) := by decide +kernel
theorem dX5_melt_33 : decode cX5_melt 33 = .ok (.getfield 12, 3) := by decide +kernel
theorem dX5_melt_36 : decode cX5_melt 36 = .ok (.iload_n 1, 1) := by decide +kernel
theorem dX5_melt_37 : decode cX5_melt 37 = .ok (.invokevirtual 227, 3) := by decide +kernel
theorem dX5_melt_40 : decode cX5_melt 40 = .ok (.aload_n 0, 1) := by decide +kernel
theorem dX5_melt_41 : decode cX5_melt 41 = .ok (.getfield 12, 3) := by decide +kernel
theorem dX5_melt_44 : decode cX5_melt 44 = .ok (.invokevirtual 66, 3) := by decide +kernel
theorem dX5_melt_47 : decode cX5_melt 47 = .ok (.ireturn, 1) := by decide +kernel
set_option maxRecDepth 20000 in
theorem ggX5_graft_X4_has : GoodIn wsX5_graft wsX4_has := goodIn_r _ [6, 7, 8, 9, 5, 10, 11, 184, 185, 186, 187, 188, 189, 190, 191, 192] rfl (by decide +kernel)
set_option maxRecDepth 20000 in
theorem gX5_graft_X4_has : GoodIn wsX5_graft (wsV RX5 135 RX4 yX4_has wsX4_has) := goodIn_app (goodIn_of _ (by decide +kernel)) ggX5_graft_X4_has
set_option maxRecDepth 20000 in
theorem ggX5_graft_X4_isAbove : GoodIn wsX5_graft wsX4_isAbove := goodIn_r _ [15, 16, 17, 18, 5, 19, 11, 20, 21, 22, 23, 24, 25, 26, 27, 28, 29, 30, 31, 32, 33, 34, 35, 36, 37, 38, 39, 40, 41, 42, 43, 44, 45, 46, 47, 48, 49, 50, 51, 52, 53, 54, 55, 56, 57, 58, 59, 60, 61, 62, 63, 64, 65, 66, 67, 68, 69, 70, 71, 72, 73, 74, 75, 76, 77, 78, 79, 80, 81, 82, 83, 84, 85, 86, 87, 88, 89, 90, 91, 92, 93, 184, 185, 186, 187, 188, 189, 190, 191, 192] rfl (by decide +kernel)
set_option maxRecDepth 20000 in
theorem gX5_graft_X4_isAbove : GoodIn wsX5_graft (wsV RX5 230 RX4 yX4_isAbove wsX4_isAbove) := goodIn_app (goodIn_of _ (by decide +kernel)) ggX5_graft_X4_isAbove
set_option maxRecDepth 20000 in
theorem ggX5_graft_X4_childrenOf : GoodIn wsX5_graft wsX4_childrenOf := goodIn_r _ [97, 11, 20, 21, 22, 5, 23, 24, 25, 26, 27, 28, 29, 30, 31, 32, 33, 34, 35, 36, 37, 38, 39, 40, 41, 42, 43, 44, 45, 46, 47, 48, 49, 50, 51, 52, 53, 54, 55, 56, 57, 58, 59, 60, 61, 62, 63, 64, 65, 66, 67, 68, 69, 70, 71, 72, 73, 74, 75, 76, 77, 78, 79, 80, 81, 82, 83, 84, 85, 86, 87, 88, 89, 90, 91, 92, 93, 98, 99, 100, 101, 102, 184, 185, 186, 187, 188, 189, 190, 191, 192] rfl (by decide +kernel)
set_option maxRecDepth 20000 in
theorem gX5_graft_X4_childrenOf : GoodIn wsX5_graft (wsV RX5 162 RX4 yX4_childrenOf wsX4_childrenOf) := goodIn_app (goodIn_of _ (by decide +kernel)) ggX5_graft_X4_childrenOf
set_option maxRecDepth 20000 in
theorem ggX5_graft_X4_aboveBy : GoodIn wsX5_graft wsX4_aboveBy := goodIn_r _ [106, 11, 20, 21, 22, 5, 23, 24, 25, 26, 27, 28, 29, 30, 31, 32, 33, 34, 35, 36, 37, 38, 39, 40, 41, 42, 43, 44, 45, 46, 47, 48, 49, 50, 51, 52, 53, 54, 55, 56, 57, 58, 59, 60, 61, 62, 98, 72, 73, 74, 107, 91, 92, 93, 79, 71, 86, 87, 88, 89, 80, 81, 82, 83, 84, 85, 108, 109, 110, 111, 184, 185, 186, 187, 188, 189, 190, 191, 192] rfl (by decide +kernel)
set_option maxRecDepth 20000 in
theorem gX5_graft_X4_aboveBy : GoodIn wsX5_graft (wsV RX5 147 RX4 yX4_aboveBy wsX4_aboveBy) := goodIn_app (goodIn_of _ (by decide +kernel)) ggX5_graft_X4_aboveBy
set_option maxRecDepth 20000 in
theorem ggX5_graft_X5_within : GoodIn wsX5_graft wsX5_within := goodIn_r _ [115] rfl (by decide +kernel)
set_option maxRecDepth 20000 in
theorem gX5_graft_X5_within : GoodIn wsX5_graft (va_wsS RX5 41 yX5_within wsX5_within) := goodIn_app (goodIn_of _ (by decide +kernel)) ggX5_graft_X5_within
set_option maxRecDepth 20000 in
theorem ggX5_graft_X4_moveSubtree : GoodIn wsX5_graft wsX4_moveSubtree := goodIn_r _ [119, 11, 120, 121, 122, 123, 124, 125, 16, 17, 18, 5, 19, 20, 21, 22, 23, 24, 25, 26, 27, 28, 29, 30, 31, 32, 33, 34, 35, 36, 37, 38, 39, 40, 41, 42, 43, 44, 45, 46, 47, 48, 49, 50, 51, 52, 53, 54, 55, 56, 57, 58, 59, 60, 61, 62, 63, 64, 65, 66, 67, 68, 69, 70, 71, 72, 73, 74, 75, 76, 77, 78, 79, 80, 81, 82, 83, 84, 85, 86, 87, 88, 89, 90, 91, 92, 93, 126, 127, 128, 129, 130, 131, 132, 133, 134, 135, 136, 137, 7, 8, 9, 10, 138, 139, 140, 141, 142, 143, 144, 145, 146, 147, 148, 149, 150, 151, 152, 153, 154, 155, 156, 157, 158, 159, 160, 98, 161, 162, 108, 109, 110, 111, 163, 164, 165, 166, 167, 168, 169, 170, 171, 172, 173, 174, 175, 176, 184, 185, 186, 187, 188, 189, 190, 191, 192] rfl (by decide +kernel)
set_option maxRecDepth 20000 in
theorem gX5_graft_X4_moveSubtree : GoodIn wsX5_graft (wsV RX5 233 RX4 yX4_moveSubtree wsX4_moveSubtree) := goodIn_app (goodIn_of _ (by decide +kernel)) ggX5_graft_X4_moveSubtree
theorem dX5_graft_0 : decode cX5_graft 0 = .ok (.aload_n 0, 1) := by decide +kernel
theorem dX5_graft_1 : decode cX5_graft 1 = .ok (.getfield 12, 3) := by decide +kernel
theorem dX5_graft_4 : decode cX5_graft 4 = .ok (.iload_n 1, 1) := by decide +kernel
theorem dX5_graft_5 : decode cX5_graft 5 = .ok (.invokevirtual 135, 3) := by decide +kernel
theorem dX5_graft_8 : decode cX5_graft 8 = .ok (.ifCond .eq 14, 3) := by decide +kernel
theorem dX5_graft_11 : decode cX5_graft 11 = .ok (.aload_n 0, 1) := by decide +kernel
theorem dX5_graft_12 : decode cX5_graft 12 = .ok (.getfield 12, 3) := by decide +kernel
theorem dX5_graft_15 : decode cX5_graft 15 = .ok (.iload_n 2, 1) := by decide +kernel
theorem dX5_graft_16 : decode cX5_graft 16 = .ok (.invokevirtual 135, 3) := by decide +kernel
theorem dX5_graft_19 : decode cX5_graft 19 = .ok (.ifCond .ne 5, 3) := by decide +kernel
theorem dX5_graft_22 : decode cX5_graft 22 = .ok (.iconst (-1), 1) := by decide +kernel
theorem dX5_graft_23 : decode cX5_graft 23 = .ok (.ireturn, 1) := by decide +kernel
theorem dX5_graft_24 : decode cX5_graft 24 = .ok (.iload_n 1, 1) := by decide +kernel
theorem dX5_graft_25 : decode cX5_graft 25 = .ok (.ifCond .eq 15, 3) := by decide +kernel
theorem dX5_graft_28 : decode cX5_graft 28 = .ok (.aload_n 0, 1) := by decide +kernel
theorem dX5_graft_29 : decode cX5_graft 29 = .ok (.getfield 12, 3) := by decide +kernel
theorem dX5_graft_32 : decode cX5_graft 32 = .ok (.iload_n 1, 1) := by decide +kernel
theorem dX5_graft_33 : decode cX5_graft 33 = .ok (.iload_n 2, 1) := by decide +kernel
theorem dX5_graft_34 : decode cX5_graft 34 = .ok (.invokevirtual 230, 3) := by decide +kernel
theorem dX5_graft_37 : decode cX5_graft 37 = .ok (.ifCond .eq 6, 3) := by decide +kernel
theorem dX5_graft_40 : decode cX5_graft 40 = .ok (.bipush (-2), 2) := by decide +kernel
theorem dX5_graft_42 : decode cX5_graft 42 = .ok (.ireturn, 1) := by decide +kernel
theorem dX5_graft_43 : decode cX5_graft 43 = .ok (.aload_n 0, 1) := by decide +kernel
theorem dX5_graft_44 : decode cX5_graft 44 = .ok (.getfield 12, 3) := by decide +kernel
theorem dX5_graft_47 : decode cX5_graft 47 = .ok (.iload_n 2, 1) := by decide +kernel
theorem dX5_graft_48 : decode cX5_graft 48 = .ok (.invokevirtual 162, 3) := by decide +kernel
theorem dX5_graft_51 : decode cX5_graft 51 = .ok (.aload_n 0, 1) := by decide +kernel
theorem dX5_graft_52 : decode cX5_graft 52 = .ok (.getfield 12, 3) := by decide +kernel
theorem dX5_graft_55 : decode cX5_graft 55 = .ok (.iload_n 1, 1) := by decide +kernel
theorem dX5_graft_56 : decode cX5_graft 56 = .ok (.iconst 1, 1) := by decide +kernel
theorem dX5_graft_57 : decode cX5_graft 57 = .ok (.invokevirtual 147, 3) := by decide +kernel
theorem dX5_graft_60 : decode cX5_graft 60 = .ok (.iload_n 2, 1) := by decide +kernel
theorem dX5_graft_61 : decode cX5_graft 61 = .ok (.if_icmp .ne 7, 3) := by decide +kernel
theorem dX5_graft_64 : decode cX5_graft 64 = .ok (.iconst 1, 1) := by decide +kernel
theorem dX5_graft_65 : decode cX5_graft 65 = .ok (.goto 4, 3) := by decide +kernel
theorem dX5_graft_68 : decode cX5_graft 68 = .ok (.iconst 0, 1) := by decide +kernel
theorem dX5_graft_69 : decode cX5_graft 69 = .ok (.isub, 1) := by decide +kernel
theorem dX5_graft_70 : decode cX5_graft 70 = .ok (.istore 4, 2) := by decide +kernel
theorem dX5_graft_72 : decode cX5_graft 72 = .ok (.iload_n 3, 1) := by decide +kernel
theorem dX5_graft_73 : decode cX5_graft 73 = .ok (.iconst 0, 1) := by decide +kernel
theorem dX5_graft_74 : decode cX5_graft 74 = .ok (.iload 4, 2) := by decide +kernel
theorem dX5_graft_76 : decode cX5_graft 76 = .ok (.invokestatic 41, 3) := by decide +kernel
theorem dX5_graft_79 : decode cX5_graft 79 = .ok (.ifCond .ne 5, 3) := by decide +kernel
theorem dX5_graft_82 : decode cX5_graft 82 = .ok (.iconst (-1), 1) := by decide +kernel
theorem dX5_graft_83 : decode cX5_graft 83 = .ok (.ireturn, 1) := by decide +kernel
theorem dX5_graft_84 : decode cX5_graft 84 = .ok (.aload_n 0, 1) := by decide +kernel
theorem dX5_graft_85 : decode cX5_graft 85 = .ok (.getfield 12, 3) := by decide +kernel
theorem dX5_graft_88 : decode cX5_graft 88 = .ok (.iload_n 1, 1) := by decide +kernel
theorem dX5_graft_89 : decode cX5_graft 89 = .ok (.iload_n 2, 1) := by decide +kernel
theorem dX5_graft_90 : decode cX5_graft 90 = .ok (.iload_n 3, 1) := by decide +kernel
theorem dX5_graft_91 : decode cX5_graft 91 = .ok (.invokevirtual 233, 3) := by decide +kernel
theorem dX5_graft_94 : decode cX5_graft 94 = .ok (.ireturn, 1) := by decide +kernel
set_option maxRecDepth 20000 in
theorem ggX5_grow_X5_within : GoodIn wsX5_grow wsX5_within := goodIn_r _ [6] rfl (by decide +kernel)
set_option maxRecDepth 20000 in
theorem gX5_grow_X5_within : GoodIn wsX5_grow (va_wsS RX5 41 yX5_within wsX5_within) := goodIn_app (goodIn_of _ (by decide +kernel)) ggX5_grow_X5_within
set_option maxRecDepth 20000 in
theorem ggX5_grow_X1_clear : GoodIn wsX5_grow wsX1_clear := goodIn_r _ [11, 12, 13, 14, 156, 157, 158, 159, 160, 161] rfl (by decide +kernel)
set_option maxRecDepth 20000 in
theorem gX5_grow_X1_clear : GoodIn wsX5_grow (wsV RX5 236 RX1 yX1_clear wsX1_clear) := goodIn_app (goodIn_of _ (by decide +kernel)) ggX5_grow_X1_clear
set_option maxRecDepth 20000 in
theorem ggX5_grow_X4_addLeafAt : GoodIn wsX5_grow wsX4_addLeafAt := goodIn_r _ [19, 20, 21, 22, 23, 24, 10, 25, 26, 27, 28, 29, 12, 13, 30, 31, 32, 33, 34, 35, 36, 37, 38, 39, 40, 41, 42, 43, 44, 18, 45, 46, 47, 48, 49, 50, 51, 52, 53, 54, 55, 56, 57, 58, 14, 59, 60, 61, 62, 63, 64, 65, 66, 67, 68, 69, 70, 71, 72, 73, 74, 75, 76, 77, 78, 79, 80, 81, 82, 83, 84, 85, 86, 153, 154, 155, 156, 157, 158, 159, 160, 161] rfl (by decide +kernel)
set_option maxRecDepth 20000 in
theorem gX5_grow_X4_addLeafAt : GoodIn wsX5_grow (wsV RX5 214 RX4 yX4_addLeafAt wsX4_addLeafAt) := goodIn_app (goodIn_of _ (by decide +kernel)) ggX5_grow_X4_addLeafAt
set_option maxRecDepth 20000 in
theorem ggX5_grow_X4_closeOf : GoodIn wsX5_grow wsX4_closeOf := goodIn_r _ [90, 20, 91, 92, 93, 18, 94, 95, 96, 97, 10, 98, 99, 100, 101, 102, 12, 58, 14, 13, 30, 31, 32, 33, 34, 103, 104, 105, 35, 36, 37, 38, 39, 40, 41, 106, 107, 108, 109, 110, 111, 112, 113, 114, 115, 116, 117, 118, 119, 120, 121, 122, 123, 124, 26, 27, 28, 29, 125, 126, 127, 128, 80, 129, 130, 131, 132, 81, 82, 83, 84, 85, 86, 133, 134, 135, 136, 153, 154, 155, 156, 157, 158, 159, 160, 161] rfl (by decide +kernel)
set_option maxRecDepth 20000 in
theorem gX5_grow_X4_closeOf : GoodIn wsX5_grow (wsV RX5 141 RX4 yX4_closeOf wsX4_closeOf) := goodIn_app (goodIn_of _ (by decide +kernel)) ggX5_grow_X4_closeOf
set_option maxRecDepth 20000 in
theorem ggX5_grow_X4_heightOf : GoodIn wsX5_grow wsX4_heightOf := goodIn_r _ [140, 20, 91, 92, 93, 18, 94, 95, 96, 97, 10, 98, 99, 100, 101, 102, 12, 58, 14, 13, 30, 31, 32, 33, 34, 103, 104, 105, 35, 36, 37, 38, 39, 40, 41, 106, 107, 108, 109, 110, 111, 112, 113, 114, 115, 116, 117, 118, 119, 120, 121, 122, 123, 124, 26, 27, 28, 29, 125, 126, 127, 128, 80, 129, 130, 131, 132, 81, 82, 83, 84, 85, 86, 133, 134, 135, 136, 141, 142, 143, 144, 77, 78, 75, 79, 73, 74, 76, 145, 153, 154, 155, 156, 157, 158, 159, 160, 161] rfl (by decide +kernel)
set_option maxRecDepth 20000 in
theorem gX5_grow_X4_heightOf : GoodIn wsX5_grow (wsV RX5 83 RX4 yX4_heightOf wsX4_heightOf) := goodIn_app (goodIn_of _ (by decide +kernel)) ggX5_grow_X4_heightOf
theorem dX5_grow_0 : decode cX5_grow 0 = .ok (.iload_n 2, 1) := by decide +kernel
theorem dX5_grow_1 : decode cX5_grow 1 = .ok (.iconst 1, 1) := by decide +kernel
theorem dX5_grow_2 : decode cX5_grow 2 = .ok (.bipush 64, 2) := by decide +kernel
theorem dX5_grow_4 : decode cX5_grow 4 = .ok (.invokestatic 41, 3) := by decide +kernel
theorem dX5_grow_7 : decode cX5_grow 7 = .ok (.ifCond .ne 5, 3) := by decide +kernel
theorem dX5_grow_10 : decode cX5_grow 10 = .ok (.iconst (-1), 1) := by decide +kernel
theorem dX5_grow_11 : decode cX5_grow 11 = .ok (.ireturn, 1) := by decide +kernel
theorem dX5_grow_12 : decode cX5_grow 12 = .ok (.aload_n 0, 1) := by decide +kernel
theorem dX5_grow_13 : decode cX5_grow 13 = .ok (.getfield 12, 3) := by decide +kernel
theorem dX5_grow_16 : decode cX5_grow 16 = .ok (.getfield 70, 3) := by decide +kernel
theorem dX5_grow_19 : decode cX5_grow 19 = .ok (.invokevirtual 236, 3) := by decide +kernel
theorem dX5_grow_22 : decode cX5_grow 22 = .ok (.aload_n 0, 1) := by decide +kernel
theorem dX5_grow_23 : decode cX5_grow 23 = .ok (.getfield 12, 3) := by decide +kernel
theorem dX5_grow_26 : decode cX5_grow 26 = .ok (.iconst 0, 1) := by decide +kernel
theorem dX5_grow_27 : decode cX5_grow 27 = .ok (.iconst 0, 1) := by decide +kernel
theorem dX5_grow_28 : decode cX5_grow 28 = .ok (.invokevirtual 214, 3) := by decide +kernel
theorem dX5_grow_31 : decode cX5_grow 31 = .ok (.pop, 1) := by decide +kernel
theorem dX5_grow_32 : decode cX5_grow 32 = .ok (.iload_n 1, 1) := by decide +kernel
theorem dX5_grow_33 : decode cX5_grow 33 = .ok (.istore_n 3, 1) := by decide +kernel
theorem dX5_grow_34 : decode cX5_grow 34 = .ok (.iconst 1, 1) := by decide +kernel
theorem dX5_grow_35 : decode cX5_grow 35 = .ok (.istore 4, 2) := by decide +kernel
theorem dX5_grow_37 : decode cX5_grow 37 = .ok (.iload 4, 2) := by decide +kernel
theorem dX5_grow_39 : decode cX5_grow 39 = .ok (.iload_n 2, 1) := by decide +kernel
theorem dX5_grow_40 : decode cX5_grow 40 = .ok (.if_icmp .ge 49, 3) := by decide +kernel
theorem dX5_grow_43 : decode cX5_grow 43 = .ok (.iload_n 3, 1) := by decide +kernel
theorem dX5_grow_44 : decode cX5_grow 44 = .ok (.ldc 239, 2) := by decide +kernel
theorem dX5_grow_46 : decode cX5_grow 46 = .ok (.imul, 1) := by decide +kernel
theorem dX5_grow_47 : decode cX5_grow 47 = .ok (.sipush 12345, 3) := by decide +kernel
theorem dX5_grow_50 : decode cX5_grow 50 = .ok (.iadd, 1) := by decide +kernel
theorem dX5_grow_51 : decode cX5_grow 51 = .ok (.istore_n 3, 1) := by decide +kernel
theorem dX5_grow_52 : decode cX5_grow 52 = .ok (.iload_n 3, 1) := by decide +kernel
theorem dX5_grow_53 : decode cX5_grow 53 = .ok (.bipush 16, 2) := by decide +kernel
theorem dX5_grow_55 : decode cX5_grow 55 = .ok (.iushr, 1) := by decide +kernel
theorem dX5_grow_56 : decode cX5_grow 56 = .ok (.sipush 32767, 3) := by decide +kernel
theorem dX5_grow_59 : decode cX5_grow 59 = .ok (.iand, 1) := by decide +kernel
theorem dX5_grow_60 : decode cX5_grow 60 = .ok (.istore 5, 2) := by decide +kernel
theorem dX5_grow_62 : decode cX5_grow 62 = .ok (.aload_n 0, 1) := by decide +kernel
theorem dX5_grow_63 : decode cX5_grow 63 = .ok (.getfield 12, 3) := by decide +kernel
theorem dX5_grow_66 : decode cX5_grow 66 = .ok (.aload_n 0, 1) := by decide +kernel
theorem dX5_grow_67 : decode cX5_grow 67 = .ok (.getfield 12, 3) := by decide +kernel
theorem dX5_grow_70 : decode cX5_grow 70 = .ok (.iload 5, 2) := by decide +kernel
theorem dX5_grow_72 : decode cX5_grow 72 = .ok (.iload 4, 2) := by decide +kernel
theorem dX5_grow_74 : decode cX5_grow 74 = .ok (.irem, 1) := by decide +kernel
theorem dX5_grow_75 : decode cX5_grow 75 = .ok (.invokevirtual 141, 3) := by decide +kernel
theorem dX5_grow_78 : decode cX5_grow 78 = .ok (.iconst 0, 1) := by decide +kernel
theorem dX5_grow_79 : decode cX5_grow 79 = .ok (.invokevirtual 214, 3) := by decide +kernel
theorem dX5_grow_82 : decode cX5_grow 82 = .ok (.pop, 1) := by decide +kernel
theorem dX5_grow_83 : decode cX5_grow 83 = .ok (.iinc 4 1, 3) := by decide +kernel
theorem dX5_grow_86 : decode cX5_grow 86 = .ok (.goto (-49), 3) := by decide +kernel
theorem dX5_grow_89 : decode cX5_grow 89 = .ok (.aload_n 0, 1) := by decide +kernel
theorem dX5_grow_90 : decode cX5_grow 90 = .ok (.getfield 12, 3) := by decide +kernel
theorem dX5_grow_93 : decode cX5_grow 93 = .ok (.iconst 0, 1) := by decide +kernel
theorem dX5_grow_94 : decode cX5_grow 94 = .ok (.invokevirtual 83, 3) := by decide +kernel
theorem dX5_grow_97 : decode cX5_grow 97 = .ok (.ireturn, 1) := by decide +kernel
set_option maxRecDepth 20000 in
theorem ggX5_keep_X5_within : GoodIn wsX5_keep wsX5_within := goodIn_r _ [7] rfl (by decide +kernel)
set_option maxRecDepth 20000 in
theorem gX5_keep_X5_within : GoodIn wsX5_keep (va_wsS RX5 41 yX5_within wsX5_within) := goodIn_app (goodIn_of _ (by decide +kernel)) ggX5_keep_X5_within
set_option maxRecDepth 20000 in
theorem ggX5_keep_X4_become : GoodIn wsX5_keep wsX4_become := goodIn_r _ [12, 13, 14, 15, 16, 17, 18, 19, 20, 21, 22, 23, 24, 25, 26, 27, 28, 29, 30, 38, 39, 40, 41, 42, 43, 44, 45, 46] rfl (by decide +kernel)
set_option maxRecDepth 20000 in
theorem gX5_keep_X4_become : GoodIn wsX5_keep (wsV RX5 63 RX4 yX4_become wsX4_become) := goodIn_app (goodIn_of _ (by decide +kernel)) ggX5_keep_X4_become
theorem dX5_keep_0 : decode cX5_keep 0 = .ok (.iload_n 1, 1) := by decide +kernel
theorem dX5_keep_1 : decode cX5_keep 1 = .ok (.iconst 0, 1) := by decide +kernel
theorem dX5_keep_2 : decode cX5_keep 2 = .ok (.iconst 1, 1) := by decide +kernel
theorem dX5_keep_3 : decode cX5_keep 3 = .ok (.invokestatic 41, 3) := by decide +kernel
theorem dX5_keep_6 : decode cX5_keep 6 = .ok (.ifCond .ne 5, 3) := by decide +kernel
theorem dX5_keep_9 : decode cX5_keep 9 = .ok (.iconst (-1), 1) := by decide +kernel
theorem dX5_keep_10 : decode cX5_keep 10 = .ok (.ireturn, 1) := by decide +kernel
theorem dX5_keep_11 : decode cX5_keep 11 = .ok (.aload_n 0, 1) := by decide +kernel
theorem dX5_keep_12 : decode cX5_keep 12 = .ok (.getfield 23, 3) := by decide +kernel
theorem dX5_keep_15 : decode cX5_keep 15 = .ok (.iload_n 1, 1) := by decide +kernel
theorem dX5_keep_16 : decode cX5_keep 16 = .ok (.baload, 1) := by decide +kernel
theorem dX5_keep_17 : decode cX5_keep 17 = .ok (.ifCond .eq 7, 3) := by decide +kernel
theorem dX5_keep_20 : decode cX5_keep 20 = .ok (.iconst 1, 1) := by decide +kernel
theorem dX5_keep_21 : decode cX5_keep 21 = .ok (.goto 4, 3) := by decide +kernel
theorem dX5_keep_24 : decode cX5_keep 24 = .ok (.iconst 0, 1) := by decide +kernel
theorem dX5_keep_25 : decode cX5_keep 25 = .ok (.istore_n 2, 1) := by decide +kernel
theorem dX5_keep_26 : decode cX5_keep 26 = .ok (.aload_n 0, 1) := by decide +kernel
theorem dX5_keep_27 : decode cX5_keep 27 = .ok (.getfield 19, 3) := by decide +kernel
theorem dX5_keep_30 : decode cX5_keep 30 = .ok (.iload_n 1, 1) := by decide +kernel
theorem dX5_keep_31 : decode cX5_keep 31 = .ok (.aaload, 1) := by decide +kernel
theorem dX5_keep_32 : decode cX5_keep 32 = .ok (.aload_n 0, 1) := by decide +kernel
theorem dX5_keep_33 : decode cX5_keep 33 = .ok (.getfield 12, 3) := by decide +kernel
theorem dX5_keep_36 : decode cX5_keep 36 = .ok (.invokevirtual 63, 3) := by decide +kernel
theorem dX5_keep_39 : decode cX5_keep 39 = .ok (.aload_n 0, 1) := by decide +kernel
theorem dX5_keep_40 : decode cX5_keep 40 = .ok (.getfield 23, 3) := by decide +kernel
theorem dX5_keep_43 : decode cX5_keep 43 = .ok (.iload_n 1, 1) := by decide +kernel
theorem dX5_keep_44 : decode cX5_keep 44 = .ok (.iconst 1, 1) := by decide +kernel
theorem dX5_keep_45 : decode cX5_keep 45 = .ok (.bastore, 1) := by decide +kernel
theorem dX5_keep_46 : decode cX5_keep 46 = .ok (.iload_n 2, 1) := by decide +kernel
theorem dX5_keep_47 : decode cX5_keep 47 = .ok (.ireturn, 1) := by decide +kernel
set_option maxRecDepth 20000 in
theorem ggX5_back_X5_within : GoodIn wsX5_back wsX5_within := goodIn_r _ [7] rfl (by decide +kernel)
set_option maxRecDepth 20000 in
theorem gX5_back_X5_within : GoodIn wsX5_back (va_wsS RX5 41 yX5_within wsX5_within) := goodIn_app (goodIn_of _ (by decide +kernel)) ggX5_back_X5_within
set_option maxRecDepth 20000 in
theorem ggX5_back_X4_become : GoodIn wsX5_back wsX4_become := goodIn_r _ [12, 13, 14, 15, 16, 17, 18, 19, 20, 21, 22, 23, 24, 25, 26, 27, 28, 29, 30, 42, 43, 44, 45, 46, 47, 48, 49, 50] rfl (by decide +kernel)
set_option maxRecDepth 20000 in
theorem gX5_back_X4_become : GoodIn wsX5_back (wsV RX5 63 RX4 yX4_become wsX4_become) := goodIn_app (goodIn_of _ (by decide +kernel)) ggX5_back_X4_become
set_option maxRecDepth 20000 in
theorem ggX5_back_X4_nodes : GoodIn wsX5_back wsX4_nodes := goodIn_r _ [34, 13, 42, 43, 44, 45, 46, 47, 48, 49, 50] rfl (by decide +kernel)
set_option maxRecDepth 20000 in
theorem gX5_back_X4_nodes : GoodIn wsX5_back (wsV RX5 66 RX4 yX4_nodes wsX4_nodes) := goodIn_app (goodIn_of _ (by decide +kernel)) ggX5_back_X4_nodes
theorem dX5_back_0 : decode cX5_back 0 = .ok (.iload_n 1, 1) := by decide +kernel
theorem dX5_back_1 : decode cX5_back 1 = .ok (.iconst 0, 1) := by decide +kernel
theorem dX5_back_2 : decode cX5_back 2 = .ok (.iconst 1, 1) := by decide +kernel
theorem dX5_back_3 : decode cX5_back 3 = .ok (.invokestatic 41, 3) := by decide +kernel
theorem dX5_back_6 : decode cX5_back 6 = .ok (.ifCond .ne 5, 3) := by decide +kernel
theorem dX5_back_9 : decode cX5_back 9 = .ok (.iconst (-1), 1) := by decide +kernel
theorem dX5_back_10 : decode cX5_back 10 = .ok (.ireturn, 1) := by decide +kernel
theorem dX5_back_11 : decode cX5_back 11 = .ok (.aload_n 0, 1) := by decide +kernel
theorem dX5_back_12 : decode cX5_back 12 = .ok (.getfield 23, 3) := by decide +kernel
theorem dX5_back_15 : decode cX5_back 15 = .ok (.iload_n 1, 1) := by decide +kernel
theorem dX5_back_16 : decode cX5_back 16 = .ok (.baload, 1) := by decide +kernel
theorem dX5_back_17 : decode cX5_back 17 = .ok (.ifCond .ne 6, 3) := by decide +kernel
theorem dX5_back_20 : decode cX5_back 20 = .ok (.bipush (-2), 2) := by decide +kernel
theorem dX5_back_22 : decode cX5_back 22 = .ok (.ireturn, 1) := by decide +kernel
theorem dX5_back_23 : decode cX5_back 23 = .ok (.aload_n 0, 1) := by decide +kernel
theorem dX5_back_24 : decode cX5_back 24 = .ok (.getfield 12, 3) := by decide +kernel
theorem dX5_back_27 : decode cX5_back 27 = .ok (.aload_n 0, 1) := by decide +kernel
theorem dX5_back_28 : decode cX5_back 28 = .ok (.getfield 19, 3) := by decide +kernel
theorem dX5_back_31 : decode cX5_back 31 = .ok (.iload_n 1, 1) := by decide +kernel
theorem dX5_back_32 : decode cX5_back 32 = .ok (.aaload, 1) := by decide +kernel
theorem dX5_back_33 : decode cX5_back 33 = .ok (.invokevirtual 63, 3) := by decide +kernel
theorem dX5_back_36 : decode cX5_back 36 = .ok (.aload_n 0, 1) := by decide +kernel
theorem dX5_back_37 : decode cX5_back 37 = .ok (.getfield 12, 3) := by decide +kernel
theorem dX5_back_40 : decode cX5_back 40 = .ok (.invokevirtual 66, 3) := by decide +kernel
theorem dX5_back_43 : decode cX5_back 43 = .ok (.ireturn, 1) := by decide +kernel
set_option maxRecDepth 20000 in
theorem ggX5_sheet_X5_isSheet : GoodIn wsX5_sheet wsX5_isSheet := goodIn_r _ [5, 6, 7, 4, 8] rfl (by decide +kernel)
set_option maxRecDepth 20000 in
theorem gX5_sheet_X5_isSheet : GoodIn wsX5_sheet (va_wsS RX5 240 yX5_isSheet wsX5_isSheet) := goodIn_app (goodIn_of _ (by decide +kernel)) ggX5_sheet_X5_isSheet
set_option maxRecDepth 20000 in
theorem ggX5_sheet_X5_isLane : GoodIn wsX5_sheet wsX5_isLane := goodIn_r _ [11, 6, 7, 4, 8] rfl (by decide +kernel)
set_option maxRecDepth 20000 in
theorem gX5_sheet_X5_isLane : GoodIn wsX5_sheet (va_wsS RX5 243 yX5_isLane wsX5_isLane) := goodIn_app (goodIn_of _ (by decide +kernel)) ggX5_sheet_X5_isLane
set_option maxRecDepth 20000 in
theorem ggX5_sheet_X2_renew : GoodIn wsX5_sheet wsX2_renew := goodIn_r _ [16, 17, 18, 19, 27, 28, 29] rfl (by decide +kernel)
set_option maxRecDepth 20000 in
theorem gX5_sheet_X2_renew : GoodIn wsX5_sheet (wsV RX5 246 RX2 yX2_renew wsX2_renew) := goodIn_app (goodIn_of _ (by decide +kernel)) ggX5_sheet_X2_renew
theorem dX5_sheet_0 : decode cX5_sheet 0 = .ok (.iload_n 1, 1) := by decide +kernel
theorem dX5_sheet_1 : decode cX5_sheet 1 = .ok (.invokestatic 240, 3) := by decide +kernel
theorem dX5_sheet_4 : decode cX5_sheet 4 = .ok (.ifCond .eq 16, 3) := by decide +kernel
theorem dX5_sheet_7 : decode cX5_sheet 7 = .ok (.iload_n 2, 1) := by decide +kernel
theorem dX5_sheet_8 : decode cX5_sheet 8 = .ok (.invokestatic 243, 3) := by decide +kernel
theorem dX5_sheet_11 : decode cX5_sheet 11 = .ok (.ifCond .eq 9, 3) := by decide +kernel
theorem dX5_sheet_14 : decode cX5_sheet 14 = .ok (.iload_n 3, 1) := by decide +kernel
theorem dX5_sheet_15 : decode cX5_sheet 15 = .ok (.bipush 40, 2) := by decide +kernel
theorem dX5_sheet_17 : decode cX5_sheet 17 = .ok (.if_icmp .le 5, 3) := by decide +kernel
theorem dX5_sheet_20 : decode cX5_sheet 20 = .ok (.iconst (-1), 1) := by decide +kernel
theorem dX5_sheet_21 : decode cX5_sheet 21 = .ok (.ireturn, 1) := by decide +kernel
theorem dX5_sheet_22 : decode cX5_sheet 22 = .ok (.iload_n 3, 1) := by decide +kernel
theorem dX5_sheet_23 : decode cX5_sheet 23 = .ok (.ifCond .ge 6, 3) := by decide +kernel
theorem dX5_sheet_26 : decode cX5_sheet 26 = .ok (.bipush (-14), 2) := by decide +kernel
theorem dX5_sheet_28 : decode cX5_sheet 28 = .ok (.ireturn, 1) := by decide +kernel
theorem dX5_sheet_29 : decode cX5_sheet 29 = .ok (.aload_n 0, 1) := by decide +kernel
theorem dX5_sheet_30 : decode cX5_sheet 30 = .ok (.getfield 36, 3) := by decide +kernel
theorem dX5_sheet_33 : decode cX5_sheet 33 = .ok (.iload_n 1, 1) := by decide +kernel
theorem dX5_sheet_34 : decode cX5_sheet 34 = .ok (.aaload, 1) := by decide +kernel
theorem dX5_sheet_35 : decode cX5_sheet 35 = .ok (.iload_n 2, 1) := by decide +kernel
theorem dX5_sheet_36 : decode cX5_sheet 36 = .ok (.iload_n 3, 1) := by decide +kernel
theorem dX5_sheet_37 : decode cX5_sheet 37 = .ok (.invokevirtual 246, 3) := by decide +kernel
theorem dX5_sheet_40 : decode cX5_sheet 40 = .ok (.iconst 1, 1) := by decide +kernel
theorem dX5_sheet_41 : decode cX5_sheet 41 = .ok (.ireturn, 1) := by decide +kernel
set_option maxRecDepth 20000 in
theorem ggX5_lay_X5_isSheet : GoodIn wsX5_lay wsX5_isSheet := goodIn_r _ [5, 6, 7, 4, 8] rfl (by decide +kernel)
set_option maxRecDepth 20000 in
theorem gX5_lay_X5_isSheet : GoodIn wsX5_lay (va_wsS RX5 240 yX5_isSheet wsX5_isSheet) := goodIn_app (goodIn_of _ (by decide +kernel)) ggX5_lay_X5_isSheet
set_option maxRecDepth 20000 in
theorem ggX5_lay_X2_isNothing : GoodIn wsX5_lay wsX2_isNothing := goodIn_r _ [13, 14, 32, 33, 34] rfl (by decide +kernel)
set_option maxRecDepth 20000 in
theorem gX5_lay_X2_isNothing : GoodIn wsX5_lay (wsV RX5 250 RX2 yX2_isNothing wsX2_isNothing) := goodIn_app (goodIn_of _ (by decide +kernel)) ggX5_lay_X2_isNothing
set_option maxRecDepth 20000 in
theorem ggX5_lay_X2_hasCell : GoodIn wsX5_lay wsX2_hasCell := goodIn_r _ [18, 19, 32, 33, 34] rfl (by decide +kernel)
set_option maxRecDepth 20000 in
theorem gX5_lay_X2_hasCell : GoodIn wsX5_lay (wsV RX5 254 RX2 yX2_hasCell wsX2_hasCell) := goodIn_app (goodIn_of _ (by decide +kernel)) ggX5_lay_X2_hasCell
set_option maxRecDepth 20000 in
theorem ggX5_lay_X2_put : GoodIn wsX5_lay wsX2_put := goodIn_r _ [23, 14, 24, 32, 33, 34] rfl (by decide +kernel)
set_option maxRecDepth 20000 in
theorem gX5_lay_X2_put : GoodIn wsX5_lay (wsV RX5 257 RX2 yX2_put wsX2_put) := goodIn_app (goodIn_of _ (by decide +kernel)) ggX5_lay_X2_put
theorem dX5_lay_0 : decode cX5_lay 0 = .ok (.iload_n 1, 1) := by decide +kernel
theorem dX5_lay_1 : decode cX5_lay 1 = .ok (.invokestatic 240, 3) := by decide +kernel
theorem dX5_lay_4 : decode cX5_lay 4 = .ok (.ifCond .ne 5, 3) := by decide +kernel
theorem dX5_lay_7 : decode cX5_lay 7 = .ok (.iconst (-1), 1) := by decide +kernel
theorem dX5_lay_8 : decode cX5_lay 8 = .ok (.ireturn, 1) := by decide +kernel
theorem dX5_lay_9 : decode cX5_lay 9 = .ok (.aload_n 0, 1) := by decide +kernel
theorem dX5_lay_10 : decode cX5_lay 10 = .ok (.getfield 36, 3) := by decide +kernel
theorem dX5_lay_13 : decode cX5_lay 13 = .ok (.iload_n 1, 1) := by decide +kernel
theorem dX5_lay_14 : decode cX5_lay 14 = .ok (.aaload, 1) := by decide +kernel
theorem dX5_lay_15 : decode cX5_lay 15 = .ok (.invokevirtual 250, 3) := by decide +kernel
theorem dX5_lay_18 : decode cX5_lay 18 = .ok (.ifCond .eq 6, 3) := by decide +kernel
theorem dX5_lay_21 : decode cX5_lay 21 = .ok (.bipush (-11), 2) := by decide +kernel
theorem dX5_lay_23 : decode cX5_lay 23 = .ok (.ireturn, 1) := by decide +kernel
theorem dX5_lay_24 : decode cX5_lay 24 = .ok (.aload_n 0, 1) := by decide +kernel
theorem dX5_lay_25 : decode cX5_lay 25 = .ok (.getfield 36, 3) := by decide +kernel
theorem dX5_lay_28 : decode cX5_lay 28 = .ok (.iload_n 1, 1) := by decide +kernel
theorem dX5_lay_29 : decode cX5_lay 29 = .ok (.aaload, 1) := by decide +kernel
theorem dX5_lay_30 : decode cX5_lay 30 = .ok (.iload_n 2, 1) := by decide +kernel
theorem dX5_lay_31 : decode cX5_lay 31 = .ok (.invokevirtual 254, 3) := by decide +kernel
theorem dX5_lay_34 : decode cX5_lay 34 = .ok (.ifCond .ne 6, 3) := by decide +kernel
theorem dX5_lay_37 : decode cX5_lay 37 = .ok (.bipush (-12), 2) := by decide +kernel
theorem dX5_lay_39 : decode cX5_lay 39 = .ok (.ireturn, 1) := by decide +kernel
theorem dX5_lay_40 : decode cX5_lay 40 = .ok (.aload_n 0, 1) := by decide +kernel
theorem dX5_lay_41 : decode cX5_lay 41 = .ok (.getfield 36, 3) := by decide +kernel
theorem dX5_lay_44 : decode cX5_lay 44 = .ok (.iload_n 1, 1) := by decide +kernel
theorem dX5_lay_45 : decode cX5_lay 45 = .ok (.aaload, 1) := by decide +kernel
theorem dX5_lay_46 : decode cX5_lay 46 = .ok (.iload_n 2, 1) := by decide +kernel
theorem dX5_lay_47 : decode cX5_lay 47 = .ok (.lload_n 3, 1) := by decide +kernel
theorem dX5_lay_48 : decode cX5_lay 48 = .ok (.invokevirtual 257, 3) := by decide +kernel
theorem dX5_lay_51 : decode cX5_lay 51 = .ok (.iconst 1, 1) := by decide +kernel
theorem dX5_lay_52 : decode cX5_lay 52 = .ok (.ireturn, 1) := by decide +kernel
set_option maxRecDepth 20000 in
theorem ggX5_look_X5_isSheet : GoodIn wsX5_look wsX5_isSheet := goodIn_r _ [5, 6, 7, 4, 8] rfl (by decide +kernel)
set_option maxRecDepth 20000 in
theorem gX5_look_X5_isSheet : GoodIn wsX5_look (va_wsS RX5 240 yX5_isSheet wsX5_isSheet) := goodIn_app (goodIn_of _ (by decide +kernel)) ggX5_look_X5_isSheet
set_option maxRecDepth 20000 in
theorem ggX5_look_X2_hasCell : GoodIn wsX5_look wsX2_hasCell := goodIn_r _ [13, 14, 22, 23, 24] rfl (by decide +kernel)
set_option maxRecDepth 20000 in
theorem gX5_look_X2_hasCell : GoodIn wsX5_look (wsV RX5 254 RX2 yX2_hasCell wsX2_hasCell) := goodIn_app (goodIn_of _ (by decide +kernel)) ggX5_look_X2_hasCell
theorem dX5_look_0 : decode cX5_look 0 = .ok (.iload_n 1, 1) := by decide +kernel
theorem dX5_look_1 : decode cX5_look 1 = .ok (.invokestatic 240, 3) := by decide +kernel
theorem dX5_look_4 : decode cX5_look 4 = .ok (.ifCond .eq 30, 3) := by decide +kernel
theorem dX5_look_7 : decode cX5_look 7 = .ok (.aload_n 0, 1) := by decide +kernel
theorem dX5_look_8 : decode cX5_look 8 = .ok (.getfield 36, 3) := by decide +kernel
theorem dX5_look_11 : decode cX5_look 11 = .ok (.iload_n 1, 1) := by decide +kernel
theorem dX5_look_12 : decode cX5_look 12 = .ok (.aaload, 1) := by decide +kernel
theorem dX5_look_13 : decode cX5_look 13 = .ok (.iload_n 2, 1) := by decide +kernel
theorem dX5_look_14 : decode cX5_look 14 = .ok (.invokevirtual 254, 3) := by decide +kernel
theorem dX5_look_17 : decode cX5_look 17 = .ok (.ifCond .eq 17, 3) := by decide +kernel
theorem dX5_look_20 : decode cX5_look 20 = .ok (.aload_n 0, 1) := by decide +kernel
theorem dX5_look_21 : decode cX5_look 21 = .ok (.getfield 36, 3) := by decide +kernel
theorem dX5_look_24 : decode cX5_look 24 = .ok (.iload_n 1, 1) := by decide +kernel
theorem dX5_look_25 : decode cX5_look 25 = .ok (.aaload, 1) := by decide +kernel
theorem dX5_look_26 : decode cX5_look 26 = .ok (.getfield 260, 3) := by decide +kernel
theorem dX5_look_29 : decode cX5_look 29 = .ok (.iload_n 2, 1) := by decide +kernel
theorem dX5_look_30 : decode cX5_look 30 = .ok (.laload, 1) := by decide +kernel
theorem dX5_look_31 : decode cX5_look 31 = .ok (.goto 4, 3) := by decide +kernel
theorem dX5_look_34 : decode cX5_look 34 = .ok (.lconst 0, 1) := by decide +kernel
theorem dX5_look_35 : decode cX5_look 35 = .ok (.lreturn, 1) := by decide +kernel
set_option maxRecDepth 20000 in
theorem ggX5_read_X5_isSheet : GoodIn wsX5_read wsX5_isSheet := goodIn_r _ [7, 8, 9, 6, 10] rfl (by decide +kernel)
set_option maxRecDepth 20000 in
theorem gX5_read_X5_isSheet : GoodIn wsX5_read (va_wsS RX5 240 yX5_isSheet wsX5_isSheet) := goodIn_app (goodIn_of _ (by decide +kernel)) ggX5_read_X5_isSheet
set_option maxRecDepth 20000 in
theorem ggX5_read_X5_isLane : GoodIn wsX5_read wsX5_isLane := goodIn_r _ [13, 8, 9, 6, 10] rfl (by decide +kernel)
set_option maxRecDepth 20000 in
theorem gX5_read_X5_isLane : GoodIn wsX5_read (va_wsS RX5 243 yX5_isLane wsX5_isLane) := goodIn_app (goodIn_of _ (by decide +kernel)) ggX5_read_X5_isLane
set_option maxRecDepth 20000 in
theorem ggX5_read_X5_within : GoodIn wsX5_read wsX5_within := goodIn_r _ [10] rfl (by decide +kernel)
set_option maxRecDepth 20000 in
theorem gX5_read_X5_within : GoodIn wsX5_read (va_wsS RX5 41 yX5_within wsX5_within) := goodIn_app (goodIn_of _ (by decide +kernel)) ggX5_read_X5_within
set_option maxRecDepth 20000 in
theorem ggX5_read_X1_clear : GoodIn wsX5_read wsX1_clear := goodIn_r _ [18, 19, 20, 21, 134, 135, 136, 137, 138, 139] rfl (by decide +kernel)
set_option maxRecDepth 20000 in
theorem gX5_read_X1_clear : GoodIn wsX5_read (wsV RX5 236 RX1 yX1_clear wsX1_clear) := goodIn_app (goodIn_of _ (by decide +kernel)) ggX5_read_X1_clear
set_option maxRecDepth 20000 in
theorem ggX5_read_X2_faultOfBit : GoodIn wsX5_read wsX2_faultOfBit := goodIn_r _ [26, 27, 28, 29, 30, 31, 25, 32, 33, 34, 35, 36, 140, 141, 142] rfl (by decide +kernel)
set_option maxRecDepth 20000 in
theorem gX5_read_X2_faultOfBit : GoodIn wsX5_read (wsV RX5 264 RX2 yX2_faultOfBit wsX2_faultOfBit) := goodIn_app (goodIn_of _ (by decide +kernel)) ggX5_read_X2_faultOfBit
set_option maxRecDepth 20000 in
theorem ggX5_read_X2_bitAt : GoodIn wsX5_read wsX2_bitAt := goodIn_r _ [40, 41, 33, 34, 35, 25, 36, 27, 140, 141, 142] rfl (by decide +kernel)
set_option maxRecDepth 20000 in
theorem gX5_read_X2_bitAt : GoodIn wsX5_read (wsV RX5 268 RX2 yX2_bitAt wsX2_bitAt) := goodIn_app (goodIn_of _ (by decide +kernel)) ggX5_read_X2_bitAt
set_option maxRecDepth 20000 in
theorem ggX5_read_X1_append : GoodIn wsX5_read wsX1_append := goodIn_r _ [45, 21, 19, 20, 134, 135, 136, 137, 138, 139] rfl (by decide +kernel)
set_option maxRecDepth 20000 in
theorem gX5_read_X1_append : GoodIn wsX5_read (wsV RX5 269 RX1 yX1_append wsX1_append) := goodIn_app (goodIn_of _ (by decide +kernel)) ggX5_read_X1_append
set_option maxRecDepth 20000 in
theorem ggX5_read_X1_summarise : GoodIn wsX5_read wsX1_summarise := goodIn_r _ [49, 50, 51, 52, 17, 53, 21, 54, 55, 56, 57, 58, 59, 60, 61, 62, 63, 64, 65, 66, 67, 19, 20, 134, 135, 136, 137, 138, 139] rfl (by decide +kernel)
set_option maxRecDepth 20000 in
theorem gX5_read_X1_summarise : GoodIn wsX5_read (wsV RX5 272 RX1 yX1_summarise wsX1_summarise) := goodIn_app (goodIn_of _ (by decide +kernel)) ggX5_read_X1_summarise
set_option maxRecDepth 20000 in
theorem ggX5_read_X1_isOfTree : GoodIn wsX5_read wsX1_isOfTree := goodIn_r _ [71, 21, 72, 73, 74, 17, 75, 19, 20, 76, 77, 78, 79, 61, 80, 81, 82, 83, 84, 85, 86, 87, 88, 89, 90, 91, 92, 93, 94, 95, 96, 97, 98, 99, 62, 63, 64, 65, 66, 67, 134, 135, 136, 137, 138, 139] rfl (by decide +kernel)
set_option maxRecDepth 20000 in
theorem gX5_read_X1_isOfTree : GoodIn wsX5_read (wsV RX5 275 RX1 yX1_isOfTree wsX1_isOfTree) := goodIn_app (goodIn_of _ (by decide +kernel)) ggX5_read_X1_isOfTree
set_option maxRecDepth 20000 in
theorem ggX5_read_X4_forgetWeights : GoodIn wsX5_read wsX4_forgetWeights := goodIn_r _ [104, 105, 131, 132, 133] rfl (by decide +kernel)
set_option maxRecDepth 20000 in
theorem gX5_read_X4_forgetWeights : GoodIn wsX5_read (wsV RX5 278 RX4 yX4_forgetWeights wsX4_forgetWeights) := goodIn_app (goodIn_of _ (by decide +kernel)) ggX5_read_X4_forgetWeights
set_option maxRecDepth 20000 in
theorem ggX5_read_X4_become : GoodIn wsX5_read wsX4_become := goodIn_r _ [109, 110, 105, 111, 112, 113, 114, 115, 116, 117, 17, 118, 19, 20, 21, 61, 119, 62, 63, 131, 132, 133, 134, 135, 136, 137, 138, 139] rfl (by decide +kernel)
set_option maxRecDepth 20000 in
theorem gX5_read_X4_become : GoodIn wsX5_read (wsV RX5 63 RX4 yX4_become wsX4_become) := goodIn_app (goodIn_of _ (by decide +kernel)) ggX5_read_X4_become
set_option maxRecDepth 20000 in
theorem ggX5_read_X4_nodes : GoodIn wsX5_read wsX4_nodes := goodIn_r _ [123, 110, 131, 132, 133, 134, 135, 136, 137, 138, 139] rfl (by decide +kernel)
set_option maxRecDepth 20000 in
theorem gX5_read_X4_nodes : GoodIn wsX5_read (wsV RX5 66 RX4 yX4_nodes wsX4_nodes) := goodIn_app (goodIn_of _ (by decide +kernel)) ggX5_read_X4_nodes
theorem dX5_read_0 : decode cX5_read 0 = .ok (.iload_n 1, 1) := by decide +kernel
theorem dX5_read_1 : decode cX5_read 1 = .ok (.invokestatic 240, 3) := by decide +kernel
theorem dX5_read_4 : decode cX5_read 4 = .ok (.ifCond .eq 26, 3) := by decide +kernel
theorem dX5_read_7 : decode cX5_read 7 = .ok (.iload_n 2, 1) := by decide +kernel
theorem dX5_read_8 : decode cX5_read 8 = .ok (.invokestatic 243, 3) := by decide +kernel
theorem dX5_read_11 : decode cX5_read 11 = .ok (.ifCond .eq 19, 3) := by decide +kernel
theorem dX5_read_14 : decode cX5_read 14 = .ok (.iload 4, 2) := by decide +kernel
theorem dX5_read_16 : decode cX5_read 16 = .ok (.iconst 0, 1) := by decide +kernel
theorem dX5_read_17 : decode cX5_read 17 = .ok (.sipush 128, 3) := by decide +kernel
theorem dX5_read_20 : decode cX5_read 20 = .ok (.invokestatic 41, 3) := by decide +kernel
theorem dX5_read_23 : decode cX5_read 23 = .ok (.ifCond .eq 7, 3) := by decide +kernel
theorem dX5_read_26 : decode cX5_read 26 = .ok (.iload_n 3, 1) := by decide +kernel
theorem dX5_read_27 : decode cX5_read 27 = .ok (.ifCond .ge 5, 3) := by decide +kernel
theorem dX5_read_30 : decode cX5_read 30 = .ok (.iconst (-1), 1) := by decide +kernel
theorem dX5_read_31 : decode cX5_read 31 = .ok (.ireturn, 1) := by decide +kernel
theorem dX5_read_32 : decode cX5_read 32 = .ok (.aload_n 0, 1) := by decide +kernel
theorem dX5_read_33 : decode cX5_read 33 = .ok (.getfield 16, 3) := by decide +kernel
theorem dX5_read_36 : decode cX5_read 36 = .ok (.getfield 70, 3) := by decide +kernel
theorem dX5_read_39 : decode cX5_read 39 = .ok (.invokevirtual 236, 3) := by decide +kernel
theorem dX5_read_42 : decode cX5_read 42 = .ok (.iconst 0, 1) := by decide +kernel
theorem dX5_read_43 : decode cX5_read 43 = .ok (.istore 5, 2) := by decide +kernel
theorem dX5_read_45 : decode cX5_read 45 = .ok (.iload 5, 2) := by decide +kernel
theorem dX5_read_47 : decode cX5_read 47 = .ok (.iload 4, 2) := by decide +kernel
theorem dX5_read_49 : decode cX5_read 49 = .ok (.if_icmp .ge 61, 3) := by decide +kernel
theorem dX5_read_52 : decode cX5_read 52 = .ok (.aload_n 0, 1) := by decide +kernel
theorem dX5_read_53 : decode cX5_read 53 = .ok (.getfield 36, 3) := by decide +kernel
theorem dX5_read_56 : decode cX5_read 56 = .ok (.iload_n 1, 1) := by decide +kernel
theorem dX5_read_57 : decode cX5_read 57 = .ok (.aaload, 1) := by decide +kernel
theorem dX5_read_58 : decode cX5_read 58 = .ok (.iload_n 2, 1) := by decide +kernel
theorem dX5_read_59 : decode cX5_read 59 = .ok (.iload_n 3, 1) := by decide +kernel
theorem dX5_read_60 : decode cX5_read 60 = .ok (.i2l, 1) := by decide +kernel
theorem dX5_read_61 : decode cX5_read 61 = .ok (.iload 5, 2) := by decide +kernel
theorem dX5_read_63 : decode cX5_read 63 = .ok (.i2l, 1) := by decide +kernel
theorem dX5_read_64 : decode cX5_read 64 = .ok (.ladd, 1) := by decide +kernel
theorem dX5_read_65 : decode cX5_read 65 = .ok (.invokevirtual 264, 3) := by decide +kernel
theorem dX5_read_68 : decode cX5_read 68 = .ok (.istore 6, 2) := by decide +kernel
theorem dX5_read_70 : decode cX5_read 70 = .ok (.iload 6, 2) := by decide +kernel
theorem dX5_read_72 : decode cX5_read 72 = .ok (.ifCond .eq 9, 3) := by decide +kernel
theorem dX5_read_75 : decode cX5_read 75 = .ok (.bipush (-10), 2) := by decide +kernel
theorem dX5_read_77 : decode cX5_read 77 = .ok (.iload 6, 2) := by decide +kernel
theorem dX5_read_79 : decode cX5_read 79 = .ok (.isub, 1) := by decide +kernel
theorem dX5_read_80 : decode cX5_read 80 = .ok (.ireturn, 1) := by decide +kernel
theorem dX5_read_81 : decode cX5_read 81 = .ok (.aload_n 0, 1) := by decide +kernel
theorem dX5_read_82 : decode cX5_read 82 = .ok (.getfield 16, 3) := by decide +kernel
theorem dX5_read_85 : decode cX5_read 85 = .ok (.getfield 70, 3) := by decide +kernel
theorem dX5_read_88 : decode cX5_read 88 = .ok (.aload_n 0, 1) := by decide +kernel
theorem dX5_read_89 : decode cX5_read 89 = .ok (.getfield 36, 3) := by decide +kernel
theorem dX5_read_92 : decode cX5_read 92 = .ok (.iload_n 1, 1) := by decide +kernel
theorem dX5_read_93 : decode cX5_read 93 = .ok (.aaload, 1) := by decide +kernel
theorem dX5_read_94 : decode cX5_read 94 = .ok (.iload_n 3, 1) := by decide +kernel
theorem dX5_read_95 : decode cX5_read 95 = .ok (.iload 5, 2) := by decide +kernel
theorem dX5_read_97 : decode cX5_read 97 = .ok (.iadd, 1) := by decide +kernel
theorem dX5_read_98 : decode cX5_read 98 = .ok (.invokevirtual 268, 3) := by decide +kernel
theorem dX5_read_101 : decode cX5_read 101 = .ok (.invokevirtual 269, 3) := by decide +kernel
theorem dX5_read_104 : decode cX5_read 104 = .ok (.iinc 5 1, 3) := by decide +kernel
theorem dX5_read_107 : decode cX5_read 107 = .ok (.goto (-62), 3) := by decide +kernel
theorem dX5_read_110 : decode cX5_read 110 = .ok (.aload_n 0, 1) := by decide +kernel
theorem dX5_read_111 : decode cX5_read 111 = .ok (.getfield 16, 3) := by decide +kernel
theorem dX5_read_114 : decode cX5_read 114 = .ok (.getfield 70, 3) := by decide +kernel
theorem dX5_read_117 : decode cX5_read 117 = .ok (.iconst 0, 1) := by decide +kernel
theorem dX5_read_118 : decode cX5_read 118 = .ok (.invokevirtual 272, 3) := by decide +kernel
theorem dX5_read_121 : decode cX5_read 121 = .ok (.aload_n 0, 1) := by decide +kernel
theorem dX5_read_122 : decode cX5_read 122 = .ok (.getfield 16, 3) := by decide +kernel
theorem dX5_read_125 : decode cX5_read 125 = .ok (.getfield 70, 3) := by decide +kernel
theorem dX5_read_128 : decode cX5_read 128 = .ok (.invokevirtual 275, 3) := by decide +kernel
theorem dX5_read_131 : decode cX5_read 131 = .ok (.ifCond .ne 6, 3) := by decide +kernel
theorem dX5_read_134 : decode cX5_read 134 = .ok (.bipush (-2), 2) := by decide +kernel
theorem dX5_read_136 : decode cX5_read 136 = .ok (.ireturn, 1) := by decide +kernel
theorem dX5_read_137 : decode cX5_read 137 = .ok (.aload_n 0, 1) := by decide +kernel
theorem dX5_read_138 : decode cX5_read 138 = .ok (.getfield 16, 3) := by decide +kernel
theorem dX5_read_141 : decode cX5_read 141 = .ok (.invokevirtual 278, 3) := by decide +kernel
theorem dX5_read_144 : decode cX5_read 144 = .ok (.aload_n 0, 1) := by decide +kernel
theorem dX5_read_145 : decode cX5_read 145 = .ok (.getfield 12, 3) := by decide +kernel
theorem dX5_read_148 : decode cX5_read 148 = .ok (.aload_n 0, 1) := by decide +kernel
theorem dX5_read_149 : decode cX5_read 149 = .ok (.getfield 16, 3) := by decide +kernel
theorem dX5_read_152 : decode cX5_read 152 = .ok (.invokevirtual 63, 3) := by decide +kernel
theorem dX5_read_155 : decode cX5_read 155 = .ok (.aload_n 0, 1) := by decide +kernel
theorem dX5_read_156 : decode cX5_read 156 = .ok (.getfield 12, 3) := by decide +kernel
theorem dX5_read_159 : decode cX5_read 159 = .ok (.invokevirtual 66, 3) := by decide +kernel
theorem dX5_read_162 : decode cX5_read 162 = .ok (.ireturn, 1) := by decide +kernel
set_option maxRecDepth 20000 in
theorem ggX5_stow_X5_isSheet : GoodIn wsX5_stow wsX5_isSheet := goodIn_r _ [7, 8, 9, 6, 10] rfl (by decide +kernel)
set_option maxRecDepth 20000 in
theorem gX5_stow_X5_isSheet : GoodIn wsX5_stow (va_wsS RX5 240 yX5_isSheet wsX5_isSheet) := goodIn_app (goodIn_of _ (by decide +kernel)) ggX5_stow_X5_isSheet
set_option maxRecDepth 20000 in
theorem ggX5_stow_X5_isLane : GoodIn wsX5_stow wsX5_isLane := goodIn_r _ [13, 8, 9, 6, 10] rfl (by decide +kernel)
set_option maxRecDepth 20000 in
theorem gX5_stow_X5_isLane : GoodIn wsX5_stow (va_wsS RX5 243 yX5_isLane wsX5_isLane) := goodIn_app (goodIn_of _ (by decide +kernel)) ggX5_stow_X5_isLane
set_option maxRecDepth 20000 in
theorem ggX5_stow_X2_faultOfBit : GoodIn wsX5_stow wsX2_faultOfBit := goodIn_r _ [18, 19, 20, 21, 22, 23, 17, 24, 25, 26, 27, 28, 62, 63, 64] rfl (by decide +kernel)
set_option maxRecDepth 20000 in
theorem gX5_stow_X2_faultOfBit : GoodIn wsX5_stow (wsV RX5 264 RX2 yX2_faultOfBit wsX2_faultOfBit) := goodIn_app (goodIn_of _ (by decide +kernel)) ggX5_stow_X2_faultOfBit
set_option maxRecDepth 20000 in
theorem ggX5_stow_X1_bitAt : GoodIn wsX5_stow wsX1_bitAt := goodIn_r _ [33, 34, 35, 56, 57, 58, 59, 60, 61] rfl (by decide +kernel)
set_option maxRecDepth 20000 in
theorem gX5_stow_X1_bitAt : GoodIn wsX5_stow (wsV RX5 93 RX1 yX1_bitAt wsX1_bitAt) := goodIn_app (goodIn_of _ (by decide +kernel)) ggX5_stow_X1_bitAt
set_option maxRecDepth 20000 in
theorem ggX5_stow_X2_putBit : GoodIn wsX5_stow wsX2_putBit := goodIn_r _ [39, 40, 41, 25, 26, 27, 17, 28, 19, 42, 43, 44, 45, 62, 63, 64] rfl (by decide +kernel)
set_option maxRecDepth 20000 in
theorem gX5_stow_X2_putBit : GoodIn wsX5_stow (wsV RX5 284 RX2 yX2_putBit wsX2_putBit) := goodIn_app (goodIn_of _ (by decide +kernel)) ggX5_stow_X2_putBit
theorem dX5_stow_0 : decode cX5_stow 0 = .ok (.iload_n 1, 1) := by decide +kernel
theorem dX5_stow_1 : decode cX5_stow 1 = .ok (.invokestatic 240, 3) := by decide +kernel
theorem dX5_stow_4 : decode cX5_stow 4 = .ok (.ifCond .eq 14, 3) := by decide +kernel
theorem dX5_stow_7 : decode cX5_stow 7 = .ok (.iload_n 2, 1) := by decide +kernel
theorem dX5_stow_8 : decode cX5_stow 8 = .ok (.invokestatic 243, 3) := by decide +kernel
theorem dX5_stow_11 : decode cX5_stow 11 = .ok (.ifCond .eq 7, 3) := by decide +kernel
theorem dX5_stow_14 : decode cX5_stow 14 = .ok (.iload_n 3, 1) := by decide +kernel
theorem dX5_stow_15 : decode cX5_stow 15 = .ok (.ifCond .ge 5, 3) := by decide +kernel
theorem dX5_stow_18 : decode cX5_stow 18 = .ok (.iconst (-1), 1) := by decide +kernel
theorem dX5_stow_19 : decode cX5_stow 19 = .ok (.ireturn, 1) := by decide +kernel
theorem dX5_stow_20 : decode cX5_stow 20 = .ok (.aload_n 0, 1) := by decide +kernel
theorem dX5_stow_21 : decode cX5_stow 21 = .ok (.iconst 0, 1) := by decide +kernel
theorem dX5_stow_22 : decode cX5_stow 22 = .ok (.putfield 281, 3) := by decide +kernel
theorem dX5_stow_25 : decode cX5_stow 25 = .ok (.iconst 0, 1) := by decide +kernel
theorem dX5_stow_26 : decode cX5_stow 26 = .ok (.istore 4, 2) := by decide +kernel
theorem dX5_stow_28 : decode cX5_stow 28 = .ok (.iload 4, 2) := by decide +kernel
theorem dX5_stow_30 : decode cX5_stow 30 = .ok (.aload_n 0, 1) := by decide +kernel
theorem dX5_stow_31 : decode cX5_stow 31 = .ok (.getfield 12, 3) := by decide +kernel
theorem dX5_stow_34 : decode cX5_stow 34 = .ok (.getfield 70, 3) := by decide +kernel
theorem dX5_stow_37 : decode cX5_stow 37 = .ok (.getfield 74, 3) := by decide +kernel
theorem dX5_stow_40 : decode cX5_stow 40 = .ok (.if_icmp .ge 64, 3) := by decide +kernel
theorem dX5_stow_43 : decode cX5_stow 43 = .ok (.aload_n 0, 1) := by decide +kernel
theorem dX5_stow_44 : decode cX5_stow 44 = .ok (.aload_n 0, 1) := by decide +kernel
theorem dX5_stow_45 : decode cX5_stow 45 = .ok (.getfield 36, 3) := by decide +kernel
theorem dX5_stow_48 : decode cX5_stow 48 = .ok (.iload_n 1, 1) := by decide +kernel
theorem dX5_stow_49 : decode cX5_stow 49 = .ok (.aaload, 1) := by decide +kernel
theorem dX5_stow_50 : decode cX5_stow 50 = .ok (.iload_n 2, 1) := by decide +kernel
theorem dX5_stow_51 : decode cX5_stow 51 = .ok (.iload_n 3, 1) := by decide +kernel
theorem dX5_stow_52 : decode cX5_stow 52 = .ok (.i2l, 1) := by decide +kernel
theorem dX5_stow_53 : decode cX5_stow 53 = .ok (.iload 4, 2) := by decide +kernel
theorem dX5_stow_55 : decode cX5_stow 55 = .ok (.i2l, 1) := by decide +kernel
theorem dX5_stow_56 : decode cX5_stow 56 = .ok (.ladd, 1) := by decide +kernel
theorem dX5_stow_57 : decode cX5_stow 57 = .ok (.invokevirtual 264, 3) := by decide +kernel
theorem dX5_stow_60 : decode cX5_stow 60 = .ok (.putfield 281, 3) := by decide +kernel
theorem dX5_stow_63 : decode cX5_stow 63 = .ok (.aload_n 0, 1) := by decide +kernel
theorem dX5_stow_64 : decode cX5_stow 64 = .ok (.getfield 281, 3) := by decide +kernel
theorem dX5_stow_67 : decode cX5_stow 67 = .ok (.ifCond .eq 6, 3) := by decide +kernel
theorem dX5_stow_70 : decode cX5_stow 70 = .ok (.iload 4, 2) := by decide +kernel
theorem dX5_stow_72 : decode cX5_stow 72 = .ok (.ireturn, 1) := by decide +kernel
theorem dX5_stow_73 : decode cX5_stow 73 = .ok (.aload_n 0, 1) := by decide +kernel
theorem dX5_stow_74 : decode cX5_stow 74 = .ok (.getfield 36, 3) := by decide +kernel
theorem dX5_stow_77 : decode cX5_stow 77 = .ok (.iload_n 1, 1) := by decide +kernel
theorem dX5_stow_78 : decode cX5_stow 78 = .ok (.aaload, 1) := by decide +kernel
theorem dX5_stow_79 : decode cX5_stow 79 = .ok (.iload_n 3, 1) := by decide +kernel
theorem dX5_stow_80 : decode cX5_stow 80 = .ok (.iload 4, 2) := by decide +kernel
theorem dX5_stow_82 : decode cX5_stow 82 = .ok (.iadd, 1) := by decide +kernel
theorem dX5_stow_83 : decode cX5_stow 83 = .ok (.aload_n 0, 1) := by decide +kernel
theorem dX5_stow_84 : decode cX5_stow 84 = .ok (.getfield 12, 3) := by decide +kernel
theorem dX5_stow_87 : decode cX5_stow 87 = .ok (.getfield 70, 3) := by decide +kernel
theorem dX5_stow_90 : decode cX5_stow 90 = .ok (.iload 4, 2) := by decide +kernel
theorem dX5_stow_92 : decode cX5_stow 92 = .ok (.invokevirtual 93, 3) := by decide +kernel
theorem dX5_stow_95 : decode cX5_stow 95 = .ok (.invokevirtual 284, 3) := by decide +kernel
theorem dX5_stow_98 : decode cX5_stow 98 = .ok (.iinc 4 1, 3) := by decide +kernel
theorem dX5_stow_101 : decode cX5_stow 101 = .ok (.goto (-73), 3) := by decide +kernel
theorem dX5_stow_104 : decode cX5_stow 104 = .ok (.aload_n 0, 1) := by decide +kernel
theorem dX5_stow_105 : decode cX5_stow 105 = .ok (.getfield 12, 3) := by decide +kernel
theorem dX5_stow_108 : decode cX5_stow 108 = .ok (.getfield 70, 3) := by decide +kernel
theorem dX5_stow_111 : decode cX5_stow 111 = .ok (.getfield 74, 3) := by decide +kernel
theorem dX5_stow_114 : decode cX5_stow 114 = .ok (.ireturn, 1) := by decide +kernel
theorem dX5_torn_0 : decode cX5_torn 0 = .ok (.aload_n 0, 1) := by decide +kernel
theorem dX5_torn_1 : decode cX5_torn 1 = .ok (.getfield 281, 3) := by decide +kernel
theorem dX5_torn_4 : decode cX5_torn 4 = .ok (.ireturn, 1) := by decide +kernel
set_option maxRecDepth 20000 in
theorem ggX5_count_X2_isNothing : GoodIn wsX5_count wsX2_isNothing := goodIn_r _ [9, 10, 39, 40, 41] rfl (by decide +kernel)
set_option maxRecDepth 20000 in
theorem gX5_count_X2_isNothing : GoodIn wsX5_count (wsV RX5 250 RX2 yX2_isNothing wsX2_isNothing) := goodIn_app (goodIn_of _ (by decide +kernel)) ggX5_count_X2_isNothing
set_option maxRecDepth 20000 in
theorem ggX5_count_X1_opensAtOddPlaces : GoodIn wsX5_count wsX1_opensAtOddPlaces := goodIn_r _ [15, 16, 17, 18, 19, 20, 21, 22, 23, 24, 25, 45, 46, 47, 48, 49, 50] rfl (by decide +kernel)
set_option maxRecDepth 20000 in
theorem gX5_count_X1_opensAtOddPlaces : GoodIn wsX5_count (wsV RX5 288 RX1 yX1_opensAtOddPlaces wsX1_opensAtOddPlaces) := goodIn_app (goodIn_of _ (by decide +kernel)) ggX5_count_X1_opensAtOddPlaces
theorem dX5_count_0 : decode cX5_count 0 = .ok (.iload_n 1, 1) := by decide +kernel
theorem dX5_count_1 : decode cX5_count 1 = .ok (.tableswitch 107 0 3 #[31, 61, 69, 96], 31) := by decide +kernel
theorem dX5_count_32 : decode cX5_count 32 = .ok (.aload_n 0, 1) := by decide +kernel
theorem dX5_count_33 : decode cX5_count 33 = .ok (.getfield 23, 3) := by decide +kernel
theorem dX5_count_36 : decode cX5_count 36 = .ok (.iconst 0, 1) := by decide +kernel
theorem dX5_count_37 : decode cX5_count 37 = .ok (.baload, 1) := by decide +kernel
theorem dX5_count_38 : decode cX5_count 38 = .ok (.ifCond .eq 7, 3) := by decide +kernel
theorem dX5_count_41 : decode cX5_count 41 = .ok (.iconst 1, 1) := by decide +kernel
theorem dX5_count_42 : decode cX5_count 42 = .ok (.goto 4, 3) := by decide +kernel
theorem dX5_count_45 : decode cX5_count 45 = .ok (.iconst 0, 1) := by decide +kernel
theorem dX5_count_46 : decode cX5_count 46 = .ok (.aload_n 0, 1) := by decide +kernel
theorem dX5_count_47 : decode cX5_count 47 = .ok (.getfield 23, 3) := by decide +kernel
theorem dX5_count_50 : decode cX5_count 50 = .ok (.iconst 1, 1) := by decide +kernel
theorem dX5_count_51 : decode cX5_count 51 = .ok (.baload, 1) := by decide +kernel
theorem dX5_count_52 : decode cX5_count 52 = .ok (.ifCond .eq 7, 3) := by decide +kernel
theorem dX5_count_55 : decode cX5_count 55 = .ok (.iconst 1, 1) := by decide +kernel
theorem dX5_count_56 : decode cX5_count 56 = .ok (.goto 4, 3) := by decide +kernel
theorem dX5_count_59 : decode cX5_count 59 = .ok (.iconst 0, 1) := by decide +kernel
theorem dX5_count_60 : decode cX5_count 60 = .ok (.iadd, 1) := by decide +kernel
theorem dX5_count_61 : decode cX5_count 61 = .ok (.ireturn, 1) := by decide +kernel
theorem dX5_count_62 : decode cX5_count 62 = .ok (.aload_n 0, 1) := by decide +kernel
theorem dX5_count_63 : decode cX5_count 63 = .ok (.getfield 30, 3) := by decide +kernel
theorem dX5_count_66 : decode cX5_count 66 = .ok (.getfield 49, 3) := by decide +kernel
theorem dX5_count_69 : decode cX5_count 69 = .ok (.ireturn, 1) := by decide +kernel
theorem dX5_count_70 : decode cX5_count 70 = .ok (.aload_n 0, 1) := by decide +kernel
theorem dX5_count_71 : decode cX5_count 71 = .ok (.getfield 36, 3) := by decide +kernel
theorem dX5_count_74 : decode cX5_count 74 = .ok (.iconst 0, 1) := by decide +kernel
theorem dX5_count_75 : decode cX5_count 75 = .ok (.aaload, 1) := by decide +kernel
theorem dX5_count_76 : decode cX5_count 76 = .ok (.invokevirtual 250, 3) := by decide +kernel
theorem dX5_count_79 : decode cX5_count 79 = .ok (.ifCond .eq 8, 3) := by decide +kernel
theorem dX5_count_82 : decode cX5_count 82 = .ok (.bipush (-4), 2) := by decide +kernel
theorem dX5_count_84 : decode cX5_count 84 = .ok (.goto 12, 3) := by decide +kernel
theorem dX5_count_87 : decode cX5_count 87 = .ok (.aload_n 0, 1) := by decide +kernel
theorem dX5_count_88 : decode cX5_count 88 = .ok (.getfield 36, 3) := by decide +kernel
theorem dX5_count_91 : decode cX5_count 91 = .ok (.iconst 0, 1) := by decide +kernel
theorem dX5_count_92 : decode cX5_count 92 = .ok (.aaload, 1) := by decide +kernel
theorem dX5_count_93 : decode cX5_count 93 = .ok (.getfield 287, 3) := by decide +kernel
theorem dX5_count_96 : decode cX5_count 96 = .ok (.ireturn, 1) := by decide +kernel
theorem dX5_count_97 : decode cX5_count 97 = .ok (.aload_n 0, 1) := by decide +kernel
theorem dX5_count_98 : decode cX5_count 98 = .ok (.getfield 12, 3) := by decide +kernel
theorem dX5_count_101 : decode cX5_count 101 = .ok (.getfield 70, 3) := by decide +kernel
theorem dX5_count_104 : decode cX5_count 104 = .ok (.invokevirtual 288, 3) := by decide +kernel
theorem dX5_count_107 : decode cX5_count 107 = .ok (.ireturn, 1) := by decide +kernel
theorem dX5_count_108 : decode cX5_count 108 = .ok (.iconst (-1), 1) := by decide +kernel
theorem dX5_count_109 : decode cX5_count 109 = .ok (.ireturn, 1) := by decide +kernel
theorem dX5_within_0 : decode cX5_within 0 = .ok (.iload_n 0, 1) := by decide +kernel
theorem dX5_within_1 : decode cX5_within 1 = .ok (.iload_n 1, 1) := by decide +kernel
theorem dX5_within_2 : decode cX5_within 2 = .ok (.if_icmp .lt 12, 3) := by decide +kernel
theorem dX5_within_5 : decode cX5_within 5 = .ok (.iload_n 0, 1) := by decide +kernel
theorem dX5_within_6 : decode cX5_within 6 = .ok (.iload_n 2, 1) := by decide +kernel
theorem dX5_within_7 : decode cX5_within 7 = .ok (.if_icmp .gt 7, 3) := by decide +kernel
theorem dX5_within_10 : decode cX5_within 10 = .ok (.iconst 1, 1) := by decide +kernel
theorem dX5_within_11 : decode cX5_within 11 = .ok (.goto 4, 3) := by decide +kernel
theorem dX5_within_14 : decode cX5_within 14 = .ok (.iconst 0, 1) := by decide +kernel
theorem dX5_within_15 : decode cX5_within 15 = .ok (.ireturn, 1) := by decide +kernel
set_option maxRecDepth 20000 in
theorem ggX5_isSheet_X5_within : GoodIn wsX5_isSheet wsX5_within := goodIn_r _ [4] rfl (by decide +kernel)
set_option maxRecDepth 20000 in
theorem gX5_isSheet_X5_within : GoodIn wsX5_isSheet (va_wsS RX5 41 yX5_within wsX5_within) := goodIn_app (goodIn_of _ (by decide +kernel)) ggX5_isSheet_X5_within
theorem dX5_isSheet_0 : decode cX5_isSheet 0 = .ok (.iload_n 0, 1) := by decide +kernel
theorem dX5_isSheet_1 : decode cX5_isSheet 1 = .ok (.iconst 0, 1) := by decide +kernel
theorem dX5_isSheet_2 : decode cX5_isSheet 2 = .ok (.iconst 3, 1) := by decide +kernel
theorem dX5_isSheet_3 : decode cX5_isSheet 3 = .ok (.invokestatic 41, 3) := by decide +kernel
theorem dX5_isSheet_6 : decode cX5_isSheet 6 = .ok (.ireturn, 1) := by decide +kernel
set_option maxRecDepth 20000 in
theorem ggX5_isLane_X5_within : GoodIn wsX5_isLane wsX5_within := goodIn_r _ [4] rfl (by decide +kernel)
set_option maxRecDepth 20000 in
theorem gX5_isLane_X5_within : GoodIn wsX5_isLane (va_wsS RX5 41 yX5_within wsX5_within) := goodIn_app (goodIn_of _ (by decide +kernel)) ggX5_isLane_X5_within
theorem dX5_isLane_0 : decode cX5_isLane 0 = .ok (.iload_n 0, 1) := by decide +kernel
theorem dX5_isLane_1 : decode cX5_isLane 1 = .ok (.iconst 0, 1) := by decide +kernel
theorem dX5_isLane_2 : decode cX5_isLane 2 = .ok (.iconst 2, 1) := by decide +kernel
theorem dX5_isLane_3 : decode cX5_isLane 3 = .ok (.invokestatic 41, 3) := by decide +kernel
theorem dX5_isLane_6 : decode cX5_isLane 6 = .ok (.ireturn, 1) := by decide +kernel
set_option maxRecDepth 20000 in
theorem ggX5_isPlace_X5_within : GoodIn wsX5_isPlace wsX5_within := goodIn_r _ [5] rfl (by decide +kernel)
set_option maxRecDepth 20000 in
theorem gX5_isPlace_X5_within : GoodIn wsX5_isPlace (va_wsS RX5 41 yX5_within wsX5_within) := goodIn_app (goodIn_of _ (by decide +kernel)) ggX5_isPlace_X5_within
theorem dX5_isPlace_0 : decode cX5_isPlace 0 = .ok (.iload_n 1, 1) := by decide +kernel
theorem dX5_isPlace_1 : decode cX5_isPlace 1 = .ok (.iconst 0, 1) := by decide +kernel
theorem dX5_isPlace_2 : decode cX5_isPlace 2 = .ok (.aload_n 0, 1) := by decide +kernel
theorem dX5_isPlace_3 : decode cX5_isPlace 3 = .ok (.getfield 12, 3) := by decide +kernel
theorem dX5_isPlace_6 : decode cX5_isPlace 6 = .ok (.getfield 70, 3) := by decide +kernel
theorem dX5_isPlace_9 : decode cX5_isPlace 9 = .ok (.getfield 74, 3) := by decide +kernel
theorem dX5_isPlace_12 : decode cX5_isPlace 12 = .ok (.iconst 1, 1) := by decide +kernel
theorem dX5_isPlace_13 : decode cX5_isPlace 13 = .ok (.isub, 1) := by decide +kernel
theorem dX5_isPlace_14 : decode cX5_isPlace 14 = .ok (.invokestatic 41, 3) := by decide +kernel
theorem dX5_isPlace_17 : decode cX5_isPlace 17 = .ok (.ireturn, 1) := by decide +kernel
set_option maxRecDepth 20000 in
theorem ggX5_isPoint_X5_within : GoodIn wsX5_isPoint wsX5_within := goodIn_r _ [5] rfl (by decide +kernel)
set_option maxRecDepth 20000 in
theorem gX5_isPoint_X5_within : GoodIn wsX5_isPoint (va_wsS RX5 41 yX5_within wsX5_within) := goodIn_app (goodIn_of _ (by decide +kernel)) ggX5_isPoint_X5_within
theorem dX5_isPoint_0 : decode cX5_isPoint 0 = .ok (.iload_n 1, 1) := by decide +kernel
theorem dX5_isPoint_1 : decode cX5_isPoint 1 = .ok (.iconst 0, 1) := by decide +kernel
theorem dX5_isPoint_2 : decode cX5_isPoint 2 = .ok (.aload_n 0, 1) := by decide +kernel
theorem dX5_isPoint_3 : decode cX5_isPoint 3 = .ok (.getfield 12, 3) := by decide +kernel
theorem dX5_isPoint_6 : decode cX5_isPoint 6 = .ok (.getfield 70, 3) := by decide +kernel
theorem dX5_isPoint_9 : decode cX5_isPoint 9 = .ok (.getfield 74, 3) := by decide +kernel
theorem dX5_isPoint_12 : decode cX5_isPoint 12 = .ok (.invokestatic 41, 3) := by decide +kernel
theorem dX5_isPoint_15 : decode cX5_isPoint 15 = .ok (.ireturn, 1) := by decide +kernel
