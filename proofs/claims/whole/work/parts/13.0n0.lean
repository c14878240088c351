set_option maxRecDepth 20000 in
theorem ggX4_init_X1_init : GoodIn wsX4_init wsX1_init := goodIn_r _ [12, 13, 2, 3, 8, 14, 15, 16, 17, 18, 19, 20, 21, 22] rfl (by decide +kernel)
set_option maxRecDepth 20000 in
theorem gX4_init_X1_init_n11 : GoodIn wsX4_init (wsX1_init) := ggX4_init_X1_init
theorem dX4_init_0 : decode cX4_init 0 = .ok (.aload_n 0, 1) := by decide +kernel
theorem dX4_init_1 : decode cX4_init 1 = .ok (.invokespecial 3, 3) := by decide +kernel
theorem dX4_init_4 : decode cX4_init 4 = .ok (.aload_n 0, 1) := by decide +kernel
theorem dX4_init_5 : decode cX4_init 5 = .ok (.new 9, 3) := by decide +kernel
theorem dX4_init_8 : decode cX4_init 8 = .ok (.dup, 1) := by decide +kernel
theorem dX4_init_9 : decode cX4_init 9 = .ok (.invokespecial 11, 3) := by decide +kernel
theorem dX4_init_12 : decode cX4_init 12 = .ok (.putfield 12, 3) := by decide +kernel
theorem dX4_init_15 : decode cX4_init 15 = .ok (.aload_n 0, 1) := by decide +kernel
theorem dX4_init_16 : decode cX4_init 16 = .ok (.bipush 64, 2) := by decide +kernel
theorem dX4_init_18 : decode cX4_init 18 = .ok (.newarray .int, 2) := by decide +kernel
theorem dX4_init_20 : decode cX4_init 20 = .ok (.putfield 18, 3) := by decide +kernel
theorem dX4_init_23 : decode cX4_init 23 = .ok (.aload_n 0, 1) := by decide +kernel
theorem dX4_init_24 : decode cX4_init 24 = .ok (.bipush 64, 2) := by decide +kernel
theorem dX4_init_26 : decode cX4_init 26 = .ok (.newarray .int, 2) := by decide +kernel
theorem dX4_init_28 : decode cX4_init 28 = .ok (.putfield 22, 3) := by decide +kernel
theorem dX4_init_31 : decode cX4_init 31 = .ok (.return_, 1) := by decide +kernel
theorem dX4_nodes_0 : decode cX4_nodes 0 = .ok (.aload_n 0, 1) := by decide +kernel
theorem dX4_nodes_1 : decode cX4_nodes 1 = .ok (.getfield 12, 3) := by decide +kernel
theorem dX4_nodes_4 : decode cX4_nodes 4 = .ok (.getfield 25, 3) := by decide +kernel
theorem dX4_nodes_7 : decode cX4_nodes 7 = .ok (.iconst 2, 1) := by decide +kernel
theorem dX4_nodes_8 : decode cX4_nodes 8 = .ok (.idiv, 1) := by decide +kernel
theorem dX4_nodes_9 : decode cX4_nodes 9 = .ok (.ireturn, 1) := by decide +kernel
set_option maxRecDepth 20000 in
theorem ggX4_has_X4_nodes : GoodIn wsX4_has wsX4_nodes := goodIn_r _ [5, 6, 7, 8, 9, 10, 11, 12, 13, 14, 15] rfl (by decide +kernel)
set_option maxRecDepth 20000 in
theorem gX4_has_X4_nodes : GoodIn wsX4_has (wsV RX4 29 RX4 yX4_nodes wsX4_nodes) := goodIn_app (goodIn_of _ (by decide +kernel)) ggX4_has_X4_nodes
theorem dX4_has_0 : decode cX4_has 0 = .ok (.iload_n 1, 1) := by decide +kernel
theorem dX4_has_1 : decode cX4_has 1 = .ok (.ifCond .lt 15, 3) := by decide +kernel
theorem dX4_has_4 : decode cX4_has 4 = .ok (.iload_n 1, 1) := by decide +kernel
theorem dX4_has_5 : decode cX4_has 5 = .ok (.aload_n 0, 1) := by decide +kernel
theorem dX4_has_6 : decode cX4_has 6 = .ok (.invokevirtual 29, 3) := by decide +kernel
theorem dX4_has_9 : decode cX4_has 9 = .ok (.if_icmp .ge 7, 3) := by decide +kernel
theorem dX4_has_12 : decode cX4_has 12 = .ok (.iconst 1, 1) := by decide +kernel
theorem dX4_has_13 : decode cX4_has 13 = .ok (.goto 4, 3) := by decide +kernel
theorem dX4_has_16 : decode cX4_has 16 = .ok (.iconst 0, 1) := by decide +kernel
theorem dX4_has_17 : decode cX4_has 17 = .ok (.ireturn, 1) := by decide +kernel
set_option maxRecDepth 20000 in
theorem ggX4_openOf_X1_placeOfSign : GoodIn wsX4_openOf wsX1_placeOfSign := goodIn_r _ [6, 7, 8, 9, 5, 10, 11, 12, 13, 14, 15, 16, 17, 18, 19, 20, 21, 22, 23, 24, 25, 26, 27, 28, 29, 30, 31, 32, 33, 34, 35, 36, 37, 38, 39, 40, 44, 45, 46, 47, 48, 49] rfl (by decide +kernel)
set_option maxRecDepth 20000 in
theorem gX4_openOf_X1_placeOfSign : GoodIn wsX4_openOf (wsV RX4 33 RX1 yX1_placeOfSign wsX1_placeOfSign) := goodIn_app (goodIn_of _ (by decide +kernel)) ggX4_openOf_X1_placeOfSign
theorem dX4_openOf_0 : decode cX4_openOf 0 = .ok (.aload_n 0, 1) := by decide +kernel
theorem dX4_openOf_1 : decode cX4_openOf 1 = .ok (.getfield 12, 3) := by decide +kernel
theorem dX4_openOf_4 : decode cX4_openOf 4 = .ok (.iload_n 1, 1) := by decide +kernel
theorem dX4_openOf_5 : decode cX4_openOf 5 = .ok (.iconst 0, 1) := by decide +kernel
theorem dX4_openOf_6 : decode cX4_openOf 6 = .ok (.invokevirtual 33, 3) := by decide +kernel
theorem dX4_openOf_9 : decode cX4_openOf 9 = .ok (.ireturn, 1) := by decide +kernel
set_option maxRecDepth 20000 in
theorem ggX4_closeOf_X4_openOf : GoodIn wsX4_closeOf wsX4_openOf := goodIn_r _ [6, 1, 7, 8, 9, 10, 11, 12, 13, 14, 15, 16, 17, 18, 19, 20, 21, 22, 23, 24, 25, 26, 27, 28, 29, 30, 31, 32, 33, 34, 35, 36, 37, 38, 39, 40, 41, 42, 43, 44, 45, 77, 78, 79, 80, 81, 82, 83, 84, 85] rfl (by decide +kernel)
set_option maxRecDepth 20000 in
theorem gX4_closeOf_X4_openOf : GoodIn wsX4_closeOf (wsV RX4 37 RX4 yX4_openOf wsX4_openOf) := goodIn_app (goodIn_of _ (by decide +kernel)) ggX4_closeOf_X4_openOf
set_option maxRecDepth 20000 in
theorem ggX4_closeOf_X1_partnerOf : GoodIn wsX4_closeOf wsX1_partnerOf := goodIn_r _ [49, 50, 51, 52, 10, 53, 16, 19, 54, 55, 56, 57, 20, 21, 22, 23, 24, 28, 29, 30, 31, 32, 33, 34, 58, 59, 60, 61, 18, 62, 63, 64, 65, 66, 67, 68, 69, 70, 71, 72, 73, 74, 75, 76, 80, 81, 82, 83, 84, 85] rfl (by decide +kernel)
set_option maxRecDepth 20000 in
theorem gX4_closeOf_X1_partnerOf : GoodIn wsX4_closeOf (wsV RX4 41 RX1 yX1_partnerOf wsX1_partnerOf) := goodIn_app (goodIn_of _ (by decide +kernel)) ggX4_closeOf_X1_partnerOf
theorem dX4_closeOf_0 : decode cX4_closeOf 0 = .ok (.aload_n 0, 1) := by decide +kernel
theorem dX4_closeOf_1 : decode cX4_closeOf 1 = .ok (.getfield 12, 3) := by decide +kernel
theorem dX4_closeOf_4 : decode cX4_closeOf 4 = .ok (.aload_n 0, 1) := by decide +kernel
theorem dX4_closeOf_5 : decode cX4_closeOf 5 = .ok (.iload_n 1, 1) := by decide +kernel
theorem dX4_closeOf_6 : decode cX4_closeOf 6 = .ok (.invokevirtual 37, 3) := by decide +kernel
theorem dX4_closeOf_9 : decode cX4_closeOf 9 = .ok (.invokevirtual 41, 3) := by decide +kernel
theorem dX4_closeOf_12 : decode cX4_closeOf 12 = .ok (.ireturn, 1) := by decide +kernel
set_option maxRecDepth 20000 in
theorem ggX4_nodeWithPlace_X1_bitAt : GoodIn wsX4_nodeWithPlace wsX1_bitAt := goodIn_r _ [6, 7, 8, 57, 58, 59, 60, 61, 62] rfl (by decide +kernel)
set_option maxRecDepth 20000 in
theorem gX4_nodeWithPlace_X1_bitAt : GoodIn wsX4_nodeWithPlace (wsV RX4 44 RX1 yX1_bitAt wsX1_bitAt) := goodIn_app (goodIn_of _ (by decide +kernel)) ggX4_nodeWithPlace_X1_bitAt
set_option maxRecDepth 20000 in
theorem ggX4_nodeWithPlace_X1_partnerOf : GoodIn wsX4_nodeWithPlace wsX1_partnerOf := goodIn_r _ [12, 13, 3, 4, 5, 6, 7, 8, 14, 15, 16, 17, 18, 19, 20, 21, 22, 23, 24, 25, 26, 27, 28, 29, 30, 31, 32, 33, 34, 35, 36, 37, 38, 39, 40, 41, 42, 43, 44, 45, 46, 47, 48, 49, 57, 58, 59, 60, 61, 62] rfl (by decide +kernel)
set_option maxRecDepth 20000 in
theorem gX4_nodeWithPlace_X1_partnerOf : GoodIn wsX4_nodeWithPlace (wsV RX4 41 RX1 yX1_partnerOf wsX1_partnerOf) := goodIn_app (goodIn_of _ (by decide +kernel)) ggX4_nodeWithPlace_X1_partnerOf
set_option maxRecDepth 20000 in
theorem ggX4_nodeWithPlace_X1_opensAhead : GoodIn wsX4_nodeWithPlace wsX1_opensAhead := goodIn_r _ [53, 14, 15, 16, 5, 17, 7, 8, 18, 19, 20, 21, 22, 23, 24, 25, 26, 27, 28, 29, 57, 58, 59, 60, 61, 62] rfl (by decide +kernel)
set_option maxRecDepth 20000 in
theorem gX4_nodeWithPlace_X1_opensAhead : GoodIn wsX4_nodeWithPlace (wsV RX4 47 RX1 yX1_opensAhead wsX1_opensAhead) := goodIn_app (goodIn_of _ (by decide +kernel)) ggX4_nodeWithPlace_X1_opensAhead
theorem dX4_nodeWithPlace_0 : decode cX4_nodeWithPlace 0 = .ok (.aload_n 0, 1) := by decide +kernel
theorem dX4_nodeWithPlace_1 : decode cX4_nodeWithPlace 1 = .ok (.getfield 12, 3) := by decide +kernel
theorem dX4_nodeWithPlace_4 : decode cX4_nodeWithPlace 4 = .ok (.aload_n 0, 1) := by decide +kernel
theorem dX4_nodeWithPlace_5 : decode cX4_nodeWithPlace 5 = .ok (.getfield 12, 3) := by decide +kernel
theorem dX4_nodeWithPlace_8 : decode cX4_nodeWithPlace 8 = .ok (.iload_n 1, 1) := by decide +kernel
theorem dX4_nodeWithPlace_9 : decode cX4_nodeWithPlace 9 = .ok (.invokevirtual 44, 3) := by decide +kernel
theorem dX4_nodeWithPlace_12 : decode cX4_nodeWithPlace 12 = .ok (.iconst 1, 1) := by decide +kernel
theorem dX4_nodeWithPlace_13 : decode cX4_nodeWithPlace 13 = .ok (.if_icmp .ne 7, 3) := by decide +kernel
theorem dX4_nodeWithPlace_16 : decode cX4_nodeWithPlace 16 = .ok (.iload_n 1, 1) := by decide +kernel
theorem dX4_nodeWithPlace_17 : decode cX4_nodeWithPlace 17 = .ok (.goto 11, 3) := by decide +kernel
theorem dX4_nodeWithPlace_20 : decode cX4_nodeWithPlace 20 = .ok (.aload_n 0, 1) := by decide +kernel
theorem dX4_nodeWithPlace_21 : decode cX4_nodeWithPlace 21 = .ok (.getfield 12, 3) := by decide +kernel
theorem dX4_nodeWithPlace_24 : decode cX4_nodeWithPlace 24 = .ok (.iload_n 1, 1) := by decide +kernel
theorem dX4_nodeWithPlace_25 : decode cX4_nodeWithPlace 25 = .ok (.invokevirtual 41, 3) := by decide +kernel
theorem dX4_nodeWithPlace_28 : decode cX4_nodeWithPlace 28 = .ok (.invokevirtual 47, 3) := by decide +kernel
theorem dX4_nodeWithPlace_31 : decode cX4_nodeWithPlace 31 = .ok (.ireturn, 1) := by decide +kernel
set_option maxRecDepth 20000 in
theorem ggX4_placeForChild_X4_openOf : GoodIn wsX4_placeForChild wsX4_openOf := goodIn_r _ [6, 1, 7, 8, 9, 10, 11, 12, 13, 14, 15, 16, 17, 18, 19, 20, 21, 22, 23, 24, 25, 26, 27, 28, 29, 30, 31, 32, 33, 34, 35, 36, 37, 38, 39, 40, 41, 42, 43, 44, 45, 70, 71, 72, 73, 74, 75, 76, 77, 78] rfl (by decide +kernel)
set_option maxRecDepth 20000 in
theorem gX4_placeForChild_X4_openOf : GoodIn wsX4_placeForChild (wsV RX4 37 RX4 yX4_openOf wsX4_openOf) := goodIn_app (goodIn_of _ (by decide +kernel)) ggX4_placeForChild_X4_openOf
set_option maxRecDepth 20000 in
theorem ggX4_placeForChild_X1_excessAt : GoodIn wsX4_placeForChild wsX1_excessAt := goodIn_r _ [49, 16, 19, 20, 21, 22, 23, 24, 28, 29, 30, 31, 32, 33, 34, 73, 74, 75, 76, 77, 78] rfl (by decide +kernel)
set_option maxRecDepth 20000 in
theorem gX4_placeForChild_X1_excessAt : GoodIn wsX4_placeForChild (wsV RX4 50 RX1 yX1_excessAt wsX1_excessAt) := goodIn_app (goodIn_of _ (by decide +kernel)) ggX4_placeForChild_X1_excessAt
set_option maxRecDepth 20000 in
theorem ggX4_placeForChild_X1_bitAt : GoodIn wsX4_placeForChild wsX1_bitAt := goodIn_r _ [53, 16, 19, 73, 74, 75, 76, 77, 78] rfl (by decide +kernel)
set_option maxRecDepth 20000 in
theorem gX4_placeForChild_X1_bitAt : GoodIn wsX4_placeForChild (wsV RX4 44 RX1 yX1_bitAt wsX1_bitAt) := goodIn_app (goodIn_of _ (by decide +kernel)) ggX4_placeForChild_X1_bitAt
set_option maxRecDepth 20000 in
theorem ggX4_placeForChild_X1_searchOn : GoodIn wsX4_placeForChild wsX1_searchOn := goodIn_r _ [57, 18, 58, 59, 47, 48, 10, 49, 16, 19, 20, 21, 22, 23, 24, 28, 29, 30, 31, 32, 33, 34, 60, 61, 62, 63, 64, 65, 66, 67, 68, 69, 73, 74, 75, 76, 77, 78] rfl (by decide +kernel)
set_option maxRecDepth 20000 in
theorem gX4_placeForChild_X1_searchOn : GoodIn wsX4_placeForChild (wsV RX4 53 RX1 yX1_searchOn wsX1_searchOn) := goodIn_app (goodIn_of _ (by decide +kernel)) ggX4_placeForChild_X1_searchOn
theorem dX4_placeForChild_0 : decode cX4_placeForChild 0 = .ok (.aload_n 0, 1) := by decide +kernel
theorem dX4_placeForChild_1 : decode cX4_placeForChild 1 = .ok (.iload_n 1, 1) := by decide +kernel
theorem dX4_placeForChild_2 : decode cX4_placeForChild 2 = .ok (.invokevirtual 37, 3) := by decide +kernel
theorem dX4_placeForChild_5 : decode cX4_placeForChild 5 = .ok (.iconst 1, 1) := by decide +kernel
theorem dX4_placeForChild_6 : decode cX4_placeForChild 6 = .ok (.iadd, 1) := by decide +kernel
theorem dX4_placeForChild_7 : decode cX4_placeForChild 7 = .ok (.istore_n 3, 1) := by decide +kernel
theorem dX4_placeForChild_8 : decode cX4_placeForChild 8 = .ok (.aload_n 0, 1) := by decide +kernel
theorem dX4_placeForChild_9 : decode cX4_placeForChild 9 = .ok (.getfield 12, 3) := by decide +kernel
theorem dX4_placeForChild_12 : decode cX4_placeForChild 12 = .ok (.iload_n 3, 1) := by decide +kernel
theorem dX4_placeForChild_13 : decode cX4_placeForChild 13 = .ok (.invokevirtual 50, 3) := by decide +kernel
theorem dX4_placeForChild_16 : decode cX4_placeForChild 16 = .ok (.istore 4, 2) := by decide +kernel
theorem dX4_placeForChild_18 : decode cX4_placeForChild 18 = .ok (.iconst 0, 1) := by decide +kernel
theorem dX4_placeForChild_19 : decode cX4_placeForChild 19 = .ok (.istore 5, 2) := by decide +kernel
theorem dX4_placeForChild_21 : decode cX4_placeForChild 21 = .ok (.iload 5, 2) := by decide +kernel
theorem dX4_placeForChild_23 : decode cX4_placeForChild 23 = .ok (.iload_n 2, 1) := by decide +kernel
theorem dX4_placeForChild_24 : decode cX4_placeForChild 24 = .ok (.if_icmp .ge 32, 3) := by decide +kernel
theorem dX4_placeForChild_27 : decode cX4_placeForChild 27 = .ok (.aload_n 0, 1) := by decide +kernel
theorem dX4_placeForChild_28 : decode cX4_placeForChild 28 = .ok (.getfield 12, 3) := by decide +kernel
theorem dX4_placeForChild_31 : decode cX4_placeForChild 31 = .ok (.iload_n 3, 1) := by decide +kernel
theorem dX4_placeForChild_32 : decode cX4_placeForChild 32 = .ok (.invokevirtual 44, 3) := by decide +kernel
theorem dX4_placeForChild_35 : decode cX4_placeForChild 35 = .ok (.iconst 1, 1) := by decide +kernel
theorem dX4_placeForChild_36 : decode cX4_placeForChild 36 = .ok (.if_icmp .ne 20, 3) := by decide +kernel
theorem dX4_placeForChild_39 : decode cX4_placeForChild 39 = .ok (.aload_n 0, 1) := by decide +kernel
theorem dX4_placeForChild_40 : decode cX4_placeForChild 40 = .ok (.getfield 12, 3) := by decide +kernel
theorem dX4_placeForChild_43 : decode cX4_placeForChild 43 = .ok (.iload_n 3, 1) := by decide +kernel
theorem dX4_placeForChild_44 : decode cX4_placeForChild 44 = .ok (.iload 4, 2) := by decide +kernel
theorem dX4_placeForChild_46 : decode cX4_placeForChild 46 = .ok (.invokevirtual 53, 3) := by decide +kernel
theorem dX4_placeForChild_49 : decode cX4_placeForChild 49 = .ok (.istore_n 3, 1) := by decide +kernel
theorem dX4_placeForChild_50 : decode cX4_placeForChild 50 = .ok (.iinc 5 1, 3) := by decide +kernel
theorem dX4_placeForChild_53 : decode cX4_placeForChild 53 = .ok (.goto (-32), 3) := by decide +kernel
theorem dX4_placeForChild_56 : decode cX4_placeForChild 56 = .ok (.iload_n 3, 1) := by decide +kernel
theorem dX4_placeForChild_57 : decode cX4_placeForChild 57 = .ok (.ireturn, 1) := by decide +kernel
set_option maxRecDepth 20000 in
theorem ggX4_depthOf_X4_openOf : GoodIn wsX4_depthOf wsX4_openOf := goodIn_r _ [6, 1, 7, 8, 9, 10, 11, 12, 13, 14, 15, 16, 17, 18, 19, 20, 21, 22, 23, 24, 25, 26, 27, 28, 29, 30, 31, 32, 33, 34, 35, 36, 37, 38, 39, 40, 41, 42, 43, 44, 45, 50, 51, 52, 53, 54, 55, 56, 57, 58] rfl (by decide +kernel)
set_option maxRecDepth 20000 in
theorem gX4_depthOf_X4_openOf : GoodIn wsX4_depthOf (wsV RX4 37 RX4 yX4_openOf wsX4_openOf) := goodIn_app (goodIn_of _ (by decide +kernel)) ggX4_depthOf_X4_openOf
set_option maxRecDepth 20000 in
theorem ggX4_depthOf_X1_excessAt : GoodIn wsX4_depthOf wsX1_excessAt := goodIn_r _ [49, 16, 19, 20, 21, 22, 23, 24, 28, 29, 30, 31, 32, 33, 34, 53, 54, 55, 56, 57, 58] rfl (by decide +kernel)
set_option maxRecDepth 20000 in
theorem gX4_depthOf_X1_excessAt : GoodIn wsX4_depthOf (wsV RX4 50 RX1 yX1_excessAt wsX1_excessAt) := goodIn_app (goodIn_of _ (by decide +kernel)) ggX4_depthOf_X1_excessAt
theorem dX4_depthOf_0 : decode cX4_depthOf 0 = .ok (.aload_n 0, 1) := by decide +kernel
theorem dX4_depthOf_1 : decode cX4_depthOf 1 = .ok (.getfield 12, 3) := by decide +kernel
theorem dX4_depthOf_4 : decode cX4_depthOf 4 = .ok (.aload_n 0, 1) := by decide +kernel
theorem dX4_depthOf_5 : decode cX4_depthOf 5 = .ok (.iload_n 1, 1) := by decide +kernel
theorem dX4_depthOf_6 : decode cX4_depthOf 6 = .ok (.invokevirtual 37, 3) := by decide +kernel
theorem dX4_depthOf_9 : decode cX4_depthOf 9 = .ok (.invokevirtual 50, 3) := by decide +kernel
theorem dX4_depthOf_12 : decode cX4_depthOf 12 = .ok (.ireturn, 1) := by decide +kernel
set_option maxRecDepth 20000 in
theorem ggX4_aboveBy_X4_openOf : GoodIn wsX4_aboveBy wsX4_openOf := goodIn_r _ [6, 1, 7, 8, 9, 10, 11, 12, 13, 14, 15, 16, 17, 18, 19, 20, 21, 22, 23, 24, 25, 26, 27, 28, 29, 30, 31, 32, 33, 34, 35, 36, 37, 38, 39, 40, 41, 42, 43, 44, 45, 70, 71, 72, 73, 74, 75, 76, 77, 78] rfl (by decide +kernel)
set_option maxRecDepth 20000 in
theorem gX4_aboveBy_X4_openOf : GoodIn wsX4_aboveBy (wsV RX4 37 RX4 yX4_openOf wsX4_openOf) := goodIn_app (goodIn_of _ (by decide +kernel)) ggX4_aboveBy_X4_openOf
set_option maxRecDepth 20000 in
theorem ggX4_aboveBy_X1_excessAt : GoodIn wsX4_aboveBy wsX1_excessAt := goodIn_r _ [49, 16, 19, 20, 21, 22, 23, 24, 28, 29, 30, 31, 32, 33, 34, 73, 74, 75, 76, 77, 78] rfl (by decide +kernel)
set_option maxRecDepth 20000 in
theorem gX4_aboveBy_X1_excessAt : GoodIn wsX4_aboveBy (wsV RX4 50 RX1 yX1_excessAt wsX1_excessAt) := goodIn_app (goodIn_of _ (by decide +kernel)) ggX4_aboveBy_X1_excessAt
set_option maxRecDepth 20000 in
theorem ggX4_aboveBy_X1_searchBack : GoodIn wsX4_aboveBy wsX1_searchBack := goodIn_r _ [53, 54, 55, 47, 48, 10, 49, 16, 19, 20, 21, 22, 23, 24, 28, 29, 30, 31, 32, 33, 34, 56, 57, 58, 59, 60, 61, 62, 63, 64, 65, 73, 74, 75, 76, 77, 78] rfl (by decide +kernel)
set_option maxRecDepth 20000 in
theorem gX4_aboveBy_X1_searchBack : GoodIn wsX4_aboveBy (wsV RX4 56 RX1 yX1_searchBack wsX1_searchBack) := goodIn_app (goodIn_of _ (by decide +kernel)) ggX4_aboveBy_X1_searchBack
set_option maxRecDepth 20000 in
theorem ggX4_aboveBy_X1_opensAhead : GoodIn wsX4_aboveBy wsX1_opensAhead := goodIn_r _ [69, 55, 47, 48, 10, 49, 16, 19, 20, 21, 22, 23, 24, 28, 29, 30, 31, 32, 33, 34, 73, 74, 75, 76, 77, 78] rfl (by decide +kernel)
set_option maxRecDepth 20000 in
theorem gX4_aboveBy_X1_opensAhead : GoodIn wsX4_aboveBy (wsV RX4 47 RX1 yX1_opensAhead wsX1_opensAhead) := goodIn_app (goodIn_of _ (by decide +kernel)) ggX4_aboveBy_X1_opensAhead
theorem dX4_aboveBy_0 : decode cX4_aboveBy 0 = .ok (.aload_n 0, 1) := by decide +kernel
theorem dX4_aboveBy_1 : decode cX4_aboveBy 1 = .ok (.iload_n 1, 1) := by decide +kernel
theorem dX4_aboveBy_2 : decode cX4_aboveBy 2 = .ok (.invokevirtual 37, 3) := by decide +kernel
theorem dX4_aboveBy_5 : decode cX4_aboveBy 5 = .ok (.istore_n 3, 1) := by decide +kernel
theorem dX4_aboveBy_6 : decode cX4_aboveBy 6 = .ok (.aload_n 0, 1) := by decide +kernel
theorem dX4_aboveBy_7 : decode cX4_aboveBy 7 = .ok (.getfield 12, 3) := by decide +kernel
theorem dX4_aboveBy_10 : decode cX4_aboveBy 10 = .ok (.iload_n 3, 1) := by decide +kernel
theorem dX4_aboveBy_11 : decode cX4_aboveBy 11 = .ok (.invokevirtual 50, 3) := by decide +kernel
theorem dX4_aboveBy_14 : decode cX4_aboveBy 14 = .ok (.istore 4, 2) := by decide +kernel
theorem dX4_aboveBy_16 : decode cX4_aboveBy 16 = .ok (.iload_n 2, 1) := by decide +kernel
theorem dX4_aboveBy_17 : decode cX4_aboveBy 17 = .ok (.iload 4, 2) := by decide +kernel
theorem dX4_aboveBy_19 : decode cX4_aboveBy 19 = .ok (.if_icmp .le 6, 3) := by decide +kernel
theorem dX4_aboveBy_22 : decode cX4_aboveBy 22 = .ok (.bipush (-4), 2) := by decide +kernel
theorem dX4_aboveBy_24 : decode cX4_aboveBy 24 = .ok (.ireturn, 1) := by decide +kernel
theorem dX4_aboveBy_25 : decode cX4_aboveBy 25 = .ok (.aload_n 0, 1) := by decide +kernel
theorem dX4_aboveBy_26 : decode cX4_aboveBy 26 = .ok (.getfield 12, 3) := by decide +kernel
theorem dX4_aboveBy_29 : decode cX4_aboveBy 29 = .ok (.aload_n 0, 1) := by decide +kernel
theorem dX4_aboveBy_30 : decode cX4_aboveBy 30 = .ok (.getfield 12, 3) := by decide +kernel
theorem dX4_aboveBy_33 : decode cX4_aboveBy 33 = .ok (.iload_n 3, 1) := by decide +kernel
theorem dX4_aboveBy_34 : decode cX4_aboveBy 34 = .ok (.iconst 1, 1) := by decide +kernel
theorem dX4_aboveBy_35 : decode cX4_aboveBy 35 = .ok (.iadd, 1) := by decide +kernel
theorem dX4_aboveBy_36 : decode cX4_aboveBy 36 = .ok (.iload 4, 2) := by decide +kernel
theorem dX4_aboveBy_38 : decode cX4_aboveBy 38 = .ok (.iload_n 2, 1) := by decide +kernel
theorem dX4_aboveBy_39 : decode cX4_aboveBy 39 = .ok (.isub, 1) := by decide +kernel
theorem dX4_aboveBy_40 : decode cX4_aboveBy 40 = .ok (.invokevirtual 56, 3) := by decide +kernel
theorem dX4_aboveBy_43 : decode cX4_aboveBy 43 = .ok (.invokevirtual 47, 3) := by decide +kernel
theorem dX4_aboveBy_46 : decode cX4_aboveBy 46 = .ok (.ireturn, 1) := by decide +kernel
set_option maxRecDepth 20000 in
theorem ggX4_firstChildOf_X4_openOf : GoodIn wsX4_firstChildOf wsX4_openOf := goodIn_r _ [6, 1, 7, 8, 9, 10, 11, 12, 13, 14, 15, 16, 17, 18, 19, 20, 21, 22, 23, 24, 25, 26, 27, 28, 29, 30, 31, 32, 33, 34, 35, 36, 37, 38, 39, 40, 41, 42, 43, 44, 45, 50, 51, 52, 53, 54, 55, 56, 57, 58] rfl (by decide +kernel)
set_option maxRecDepth 20000 in
theorem gX4_firstChildOf_X4_openOf : GoodIn wsX4_firstChildOf (wsV RX4 37 RX4 yX4_openOf wsX4_openOf) := goodIn_app (goodIn_of _ (by decide +kernel)) ggX4_firstChildOf_X4_openOf
set_option maxRecDepth 20000 in
theorem ggX4_firstChildOf_X1_bitAt : GoodIn wsX4_firstChildOf wsX1_bitAt := goodIn_r _ [49, 16, 19, 53, 54, 55, 56, 57, 58] rfl (by decide +kernel)
set_option maxRecDepth 20000 in
theorem gX4_firstChildOf_X1_bitAt : GoodIn wsX4_firstChildOf (wsV RX4 44 RX1 yX1_bitAt wsX1_bitAt) := goodIn_app (goodIn_of _ (by decide +kernel)) ggX4_firstChildOf_X1_bitAt
theorem dX4_firstChildOf_0 : decode cX4_firstChildOf 0 = .ok (.aload_n 0, 1) := by decide +kernel
theorem dX4_firstChildOf_1 : decode cX4_firstChildOf 1 = .ok (.getfield 12, 3) := by decide +kernel
theorem dX4_firstChildOf_4 : decode cX4_firstChildOf 4 = .ok (.aload_n 0, 1) := by decide +kernel
theorem dX4_firstChildOf_5 : decode cX4_firstChildOf 5 = .ok (.iload_n 1, 1) := by decide +kernel
theorem dX4_firstChildOf_6 : decode cX4_firstChildOf 6 = .ok (.invokevirtual 37, 3) := by decide +kernel
theorem dX4_firstChildOf_9 : decode cX4_firstChildOf 9 = .ok (.iconst 1, 1) := by decide +kernel
theorem dX4_firstChildOf_10 : decode cX4_firstChildOf 10 = .ok (.iadd, 1) := by decide +kernel
theorem dX4_firstChildOf_11 : decode cX4_firstChildOf 11 = .ok (.invokevirtual 44, 3) := by decide +kernel
theorem dX4_firstChildOf_14 : decode cX4_firstChildOf 14 = .ok (.iconst 1, 1) := by decide +kernel
theorem dX4_firstChildOf_15 : decode cX4_firstChildOf 15 = .ok (.if_icmp .ne 9, 3) := by decide +kernel
theorem dX4_firstChildOf_18 : decode cX4_firstChildOf 18 = .ok (.iload_n 1, 1) := by decide +kernel
theorem dX4_firstChildOf_19 : decode cX4_firstChildOf 19 = .ok (.iconst 1, 1) := by decide +kernel
theorem dX4_firstChildOf_20 : decode cX4_firstChildOf 20 = .ok (.iadd, 1) := by decide +kernel
theorem dX4_firstChildOf_21 : decode cX4_firstChildOf 21 = .ok (.goto 5, 3) := by decide +kernel
theorem dX4_firstChildOf_24 : decode cX4_firstChildOf 24 = .ok (.bipush (-4), 2) := by decide +kernel
theorem dX4_firstChildOf_26 : decode cX4_firstChildOf 26 = .ok (.ireturn, 1) := by decide +kernel
set_option maxRecDepth 20000 in
theorem ggX4_lastChildOf_X4_closeOf : GoodIn wsX4_lastChildOf wsX4_closeOf := goodIn_r _ [6, 1, 7, 8, 9, 5, 10, 11, 12, 13, 14, 15, 16, 17, 18, 19, 20, 21, 22, 23, 24, 25, 26, 27, 28, 29, 30, 31, 32, 33, 34, 35, 36, 37, 38, 39, 40, 41, 42, 43, 44, 45, 46, 47, 48, 49, 50, 51, 52, 53, 54, 55, 56, 57, 58, 59, 60, 61, 62, 63, 64, 65, 66, 67, 68, 69, 70, 71, 72, 73, 74, 75, 76, 77, 78, 79, 80, 90, 91, 92, 93, 94, 95, 96, 97, 98] rfl (by decide +kernel)
set_option maxRecDepth 20000 in
theorem gX4_lastChildOf_X4_closeOf : GoodIn wsX4_lastChildOf (wsV RX4 59 RX4 yX4_closeOf wsX4_closeOf) := goodIn_app (goodIn_of _ (by decide +kernel)) ggX4_lastChildOf_X4_closeOf
set_option maxRecDepth 20000 in
theorem ggX4_lastChildOf_X1_bitAt : GoodIn wsX4_lastChildOf wsX1_bitAt := goodIn_r _ [57, 20, 23, 93, 94, 95, 96, 97, 98] rfl (by decide +kernel)
set_option maxRecDepth 20000 in
theorem gX4_lastChildOf_X1_bitAt : GoodIn wsX4_lastChildOf (wsV RX4 44 RX1 yX1_bitAt wsX1_bitAt) := goodIn_app (goodIn_of _ (by decide +kernel)) ggX4_lastChildOf_X1_bitAt
set_option maxRecDepth 20000 in
theorem ggX4_lastChildOf_X4_nodeWithPlace : GoodIn wsX4_lastChildOf wsX4_nodeWithPlace := goodIn_r _ [85, 1, 81, 55, 56, 14, 57, 20, 23, 50, 51, 52, 53, 54, 58, 59, 60, 61, 24, 25, 26, 27, 28, 32, 33, 34, 35, 36, 37, 38, 62, 63, 64, 65, 22, 66, 67, 68, 69, 70, 71, 72, 73, 74, 75, 76, 77, 78, 79, 80, 86, 87, 88, 89, 90, 91, 92, 93, 94, 95, 96, 97, 98] rfl (by decide +kernel)
set_option maxRecDepth 20000 in
theorem gX4_lastChildOf_X4_nodeWithPlace : GoodIn wsX4_lastChildOf (wsV RX4 62 RX4 yX4_nodeWithPlace wsX4_nodeWithPlace) := goodIn_app (goodIn_of _ (by decide +kernel)) ggX4_lastChildOf_X4_nodeWithPlace
theorem dX4_lastChildOf_0 : decode cX4_lastChildOf 0 = .ok (.aload_n 0, 1) := by decide +kernel
theorem dX4_lastChildOf_1 : decode cX4_lastChildOf 1 = .ok (.iload_n 1, 1) := by decide +kernel
theorem dX4_lastChildOf_2 : decode cX4_lastChildOf 2 = .ok (.invokevirtual 59, 3) := by decide +kernel
theorem dX4_lastChildOf_5 : decode cX4_lastChildOf 5 = .ok (.iconst 1, 1) := by decide +kernel
theorem dX4_lastChildOf_6 : decode cX4_lastChildOf 6 = .ok (.isub, 1) := by decide +kernel
theorem dX4_lastChildOf_7 : decode cX4_lastChildOf 7 = .ok (.istore_n 2, 1) := by decide +kernel
theorem dX4_lastChildOf_8 : decode cX4_lastChildOf 8 = .ok (.aload_n 0, 1) := by decide +kernel
theorem dX4_lastChildOf_9 : decode cX4_lastChildOf 9 = .ok (.getfield 12, 3) := by decide +kernel
theorem dX4_lastChildOf_12 : decode cX4_lastChildOf 12 = .ok (.iload_n 2, 1) := by decide +kernel
theorem dX4_lastChildOf_13 : decode cX4_lastChildOf 13 = .ok (.invokevirtual 44, 3) := by decide +kernel
theorem dX4_lastChildOf_16 : decode cX4_lastChildOf 16 = .ok (.ifCond .ne 11, 3) := by decide +kernel
theorem dX4_lastChildOf_19 : decode cX4_lastChildOf 19 = .ok (.aload_n 0, 1) := by decide +kernel
theorem dX4_lastChildOf_20 : decode cX4_lastChildOf 20 = .ok (.iload_n 2, 1) := by decide +kernel
theorem dX4_lastChildOf_21 : decode cX4_lastChildOf 21 = .ok (.invokevirtual 62, 3) := by decide +kernel
theorem dX4_lastChildOf_24 : decode cX4_lastChildOf 24 = .ok (.goto 5, 3) := by decide +kernel
theorem dX4_lastChildOf_27 : decode cX4_lastChildOf 27 = .ok (.bipush (-4), 2) := by decide +kernel
theorem dX4_lastChildOf_29 : decode cX4_lastChildOf 29 = .ok (.ireturn, 1) := by decide +kernel
set_option maxRecDepth 20000 in
theorem ggX4_nextChildAfter_X4_closeOf : GoodIn wsX4_nextChildAfter wsX4_closeOf := goodIn_r _ [6, 1, 7, 8, 9, 5, 10, 11, 12, 13, 14, 15, 16, 17, 18, 19, 20, 21, 22, 23, 24, 25, 26, 27, 28, 29, 30, 31, 32, 33, 34, 35, 36, 37, 38, 39, 40, 41, 42, 43, 44, 45, 46, 47, 48, 49, 50, 51, 52, 53, 54, 55, 56, 57, 58, 59, 60, 61, 62, 63, 64, 65, 66, 67, 68, 69, 70, 71, 72, 73, 74, 75, 76, 77, 78, 79, 80, 90, 91, 92, 93, 94, 95, 96, 97, 98] rfl (by decide +kernel)
set_option maxRecDepth 20000 in
theorem gX4_nextChildAfter_X4_closeOf : GoodIn wsX4_nextChildAfter (wsV RX4 59 RX4 yX4_closeOf wsX4_closeOf) := goodIn_app (goodIn_of _ (by decide +kernel)) ggX4_nextChildAfter_X4_closeOf
set_option maxRecDepth 20000 in
theorem ggX4_nextChildAfter_X1_bitAt : GoodIn wsX4_nextChildAfter wsX1_bitAt := goodIn_r _ [57, 20, 23, 93, 94, 95, 96, 97, 98] rfl (by decide +kernel)
set_option maxRecDepth 20000 in
theorem gX4_nextChildAfter_X1_bitAt : GoodIn wsX4_nextChildAfter (wsV RX4 44 RX1 yX1_bitAt wsX1_bitAt) := goodIn_app (goodIn_of _ (by decide +kernel)) ggX4_nextChildAfter_X1_bitAt
set_option maxRecDepth 20000 in
theorem ggX4_nextChildAfter_X4_nodeWithPlace : GoodIn wsX4_nextChildAfter wsX4_nodeWithPlace := goodIn_r _ [85, 1, 81, 55, 56, 14, 57, 20, 23, 50, 51, 52, 53, 54, 58, 59, 60, 61, 24, 25, 26, 27, 28, 32, 33, 34, 35, 36, 37, 38, 62, 63, 64, 65, 22, 66, 67, 68, 69, 70, 71, 72, 73, 74, 75, 76, 77, 78, 79, 80, 86, 87, 88, 89, 90, 91, 92, 93, 94, 95, 96, 97, 98] rfl (by decide +kernel)
set_option maxRecDepth 20000 in
theorem gX4_nextChildAfter_X4_nodeWithPlace : GoodIn wsX4_nextChildAfter (wsV RX4 62 RX4 yX4_nodeWithPlace wsX4_nodeWithPlace) := goodIn_app (goodIn_of _ (by decide +kernel)) ggX4_nextChildAfter_X4_nodeWithPlace
theorem dX4_nextChildAfter_0 : decode cX4_nextChildAfter 0 = .ok (.aload_n 0, 1) := by decide +kernel
theorem dX4_nextChildAfter_1 : decode cX4_nextChildAfter 1 = .ok (.iload_n 1, 1) := by decide +kernel
theorem dX4_nextChildAfter_2 : decode cX4_nextChildAfter 2 = .ok (.invokevirtual 59, 3) := by decide +kernel
theorem dX4_nextChildAfter_5 : decode cX4_nextChildAfter 5 = .ok (.iconst 1, 1) := by decide +kernel
theorem dX4_nextChildAfter_6 : decode cX4_nextChildAfter 6 = .ok (.iadd, 1) := by decide +kernel
theorem dX4_nextChildAfter_7 : decode cX4_nextChildAfter 7 = .ok (.istore_n 2, 1) := by decide +kernel
theorem dX4_nextChildAfter_8 : decode cX4_nextChildAfter 8 = .ok (.iload_n 2, 1) := by decide +kernel
theorem dX4_nextChildAfter_9 : decode cX4_nextChildAfter 9 = .ok (.aload_n 0, 1) := by decide +kernel
theorem dX4_nextChildAfter_10 : decode cX4_nextChildAfter 10 = .ok (.getfield 12, 3) := by decide +kernel
theorem dX4_nextChildAfter_13 : decode cX4_nextChildAfter 13 = .ok (.getfield 25, 3) := by decide +kernel
theorem dX4_nextChildAfter_16 : decode cX4_nextChildAfter 16 = .ok (.if_icmp .ge 23, 3) := by decide +kernel
theorem dX4_nextChildAfter_19 : decode cX4_nextChildAfter 19 = .ok (.aload_n 0, 1) := by decide +kernel
theorem dX4_nextChildAfter_20 : decode cX4_nextChildAfter 20 = .ok (.getfield 12, 3) := by decide +kernel
theorem dX4_nextChildAfter_23 : decode cX4_nextChildAfter 23 = .ok (.iload_n 2, 1) := by decide +kernel
theorem dX4_nextChildAfter_24 : decode cX4_nextChildAfter 24 = .ok (.invokevirtual 44, 3) := by decide +kernel
theorem dX4_nextChildAfter_27 : decode cX4_nextChildAfter 27 = .ok (.iconst 1, 1) := by decide +kernel
theorem dX4_nextChildAfter_28 : decode cX4_nextChildAfter 28 = .ok (.if_icmp .ne 11, 3) := by decide +kernel
theorem dX4_nextChildAfter_31 : decode cX4_nextChildAfter 31 = .ok (.aload_n 0, 1) := by decide +kernel
theorem dX4_nextChildAfter_32 : decode cX4_nextChildAfter 32 = .ok (.iload_n 2, 1) := by decide +kernel
theorem dX4_nextChildAfter_33 : decode cX4_nextChildAfter 33 = .ok (.invokevirtual 62, 3) := by decide +kernel
theorem dX4_nextChildAfter_36 : decode cX4_nextChildAfter 36 = .ok (.goto 5, 3) := by decide +kernel
theorem dX4_nextChildAfter_39 : decode cX4_nextChildAfter 39 = .ok (.bipush (-4), 2) := by decide +kernel
theorem dX4_nextChildAfter_41 : decode cX4_nextChildAfter 41 = .ok (.ireturn, 1) := by decide +kernel
set_option maxRecDepth 20000 in
theorem ggX4_childBefore_X4_openOf : GoodIn wsX4_childBefore wsX4_openOf := goodIn_r _ [6, 1, 7, 8, 9, 10, 11, 12, 13, 14, 15, 16, 17, 18, 19, 20, 21, 22, 23, 24, 25, 26, 27, 28, 29, 30, 31, 32, 33, 34, 35, 36, 37, 38, 39, 40, 41, 42, 43, 44, 45, 86, 87, 88, 89, 90, 91, 92, 93, 94] rfl (by decide +kernel)
set_option maxRecDepth 20000 in
theorem gX4_childBefore_X4_openOf : GoodIn wsX4_childBefore (wsV RX4 37 RX4 yX4_openOf wsX4_openOf) := goodIn_app (goodIn_of _ (by decide +kernel)) ggX4_childBefore_X4_openOf
set_option maxRecDepth 20000 in
theorem ggX4_childBefore_X1_bitAt : GoodIn wsX4_childBefore wsX1_bitAt := goodIn_r _ [49, 16, 19, 89, 90, 91, 92, 93, 94] rfl (by decide +kernel)
set_option maxRecDepth 20000 in
theorem gX4_childBefore_X1_bitAt : GoodIn wsX4_childBefore (wsV RX4 44 RX1 yX1_bitAt wsX1_bitAt) := goodIn_app (goodIn_of _ (by decide +kernel)) ggX4_childBefore_X1_bitAt
set_option maxRecDepth 20000 in
theorem ggX4_childBefore_X4_nodeWithPlace : GoodIn wsX4_childBefore wsX4_nodeWithPlace := goodIn_r _ [53, 1, 46, 47, 48, 10, 49, 16, 19, 54, 55, 56, 57, 58, 59, 60, 61, 62, 20, 21, 22, 23, 24, 28, 29, 30, 31, 32, 33, 34, 63, 64, 65, 66, 18, 67, 68, 69, 70, 71, 72, 73, 74, 75, 76, 77, 78, 79, 80, 81, 82, 83, 84, 85, 86, 87, 88, 89, 90, 91, 92, 93, 94] rfl (by decide +kernel)
set_option maxRecDepth 20000 in
theorem gX4_childBefore_X4_nodeWithPlace : GoodIn wsX4_childBefore (wsV RX4 62 RX4 yX4_nodeWithPlace wsX4_nodeWithPlace) := goodIn_app (goodIn_of _ (by decide +kernel)) ggX4_childBefore_X4_nodeWithPlace
theorem dX4_childBefore_0 : decode cX4_childBefore 0 = .ok (.aload_n 0, 1) := by decide +kernel
theorem dX4_childBefore_1 : decode cX4_childBefore 1 = .ok (.iload_n 1, 1) := by decide +kernel
theorem dX4_childBefore_2 : decode cX4_childBefore 2 = .ok (.invokevirtual 37, 3) := by decide +kernel
theorem dX4_childBefore_5 : decode cX4_childBefore 5 = .ok (.iconst 1, 1) := by decide +kernel
theorem dX4_childBefore_6 : decode cX4_childBefore 6 = .ok (.isub, 1) := by decide +kernel
theorem dX4_childBefore_7 : decode cX4_childBefore 7 = .ok (.istore_n 2, 1) := by decide +kernel
theorem dX4_childBefore_8 : decode cX4_childBefore 8 = .ok (.iload_n 2, 1) := by decide +kernel
theorem dX4_childBefore_9 : decode cX4_childBefore 9 = .ok (.ifCond .lt 22, 3) := by decide +kernel
theorem dX4_childBefore_12 : decode cX4_childBefore 12 = .ok (.aload_n 0, 1) := by decide +kernel
theorem dX4_childBefore_13 : decode cX4_childBefore 13 = .ok (.getfield 12, 3) := by decide +kernel
theorem dX4_childBefore_16 : decode cX4_childBefore 16 = .ok (.iload_n 2, 1) := by decide +kernel
theorem dX4_childBefore_17 : decode cX4_childBefore 17 = .ok (.invokevirtual 44, 3) := by decide +kernel
theorem dX4_childBefore_20 : decode cX4_childBefore 20 = .ok (.ifCond .ne 11, 3) := by decide +kernel
theorem dX4_childBefore_23 : decode cX4_childBefore 23 = .ok (.aload_n 0, 1) := by decide +kernel
theorem dX4_childBefore_24 : decode cX4_childBefore 24 = .ok (.iload_n 2, 1) := by decide +kernel
theorem dX4_childBefore_25 : decode cX4_childBefore 25 = .ok (.invokevirtual 62, 3) := by decide +kernel
theorem dX4_childBefore_28 : decode cX4_childBefore 28 = .ok (.goto 5, 3) := by decide +kernel
theorem dX4_childBefore_31 : decode cX4_childBefore 31 = .ok (.bipush (-4), 2) := by decide +kernel
theorem dX4_childBefore_33 : decode cX4_childBefore 33 = .ok (.ireturn, 1) := by decide +kernel
set_option maxRecDepth 20000 in
theorem ggX4_childrenOf_X4_openOf : GoodIn wsX4_childrenOf wsX4_openOf := goodIn_r _ [6, 1, 7, 8, 9, 10, 11, 12, 13, 14, 15, 16, 17, 18, 19, 20, 21, 22, 23, 24, 25, 26, 27, 28, 29, 30, 31, 32, 33, 34, 35, 36, 37, 38, 39, 40, 41, 42, 43, 44, 45, 82, 83, 84, 85, 86, 87, 88, 89, 90] rfl (by decide +kernel)
set_option maxRecDepth 20000 in
theorem gX4_childrenOf_X4_openOf : GoodIn wsX4_childrenOf (wsV RX4 37 RX4 yX4_openOf wsX4_openOf) := goodIn_app (goodIn_of _ (by decide +kernel)) ggX4_childrenOf_X4_openOf
set_option maxRecDepth 20000 in
theorem ggX4_childrenOf_X1_partnerOf : GoodIn wsX4_childrenOf wsX1_partnerOf := goodIn_r _ [49, 50, 51, 52, 10, 53, 16, 19, 54, 55, 56, 57, 20, 21, 22, 23, 24, 28, 29, 30, 31, 32, 33, 34, 58, 59, 60, 61, 18, 62, 63, 64, 65, 66, 67, 68, 69, 70, 71, 72, 73, 74, 75, 76, 85, 86, 87, 88, 89, 90] rfl (by decide +kernel)
set_option maxRecDepth 20000 in
theorem gX4_childrenOf_X1_partnerOf : GoodIn wsX4_childrenOf (wsV RX4 41 RX1 yX1_partnerOf wsX1_partnerOf) := goodIn_app (goodIn_of _ (by decide +kernel)) ggX4_childrenOf_X1_partnerOf
set_option maxRecDepth 20000 in
theorem ggX4_childrenOf_X1_excessAt : GoodIn wsX4_childrenOf wsX1_excessAt := goodIn_r _ [57, 16, 19, 20, 21, 22, 23, 24, 28, 29, 30, 31, 32, 33, 34, 85, 86, 87, 88, 89, 90] rfl (by decide +kernel)
set_option maxRecDepth 20000 in
theorem gX4_childrenOf_X1_excessAt : GoodIn wsX4_childrenOf (wsV RX4 50 RX1 yX1_excessAt wsX1_excessAt) := goodIn_app (goodIn_of _ (by decide +kernel)) ggX4_childrenOf_X1_excessAt
set_option maxRecDepth 20000 in
theorem ggX4_childrenOf_X1_pointsWith : GoodIn wsX4_childrenOf wsX1_pointsWith := goodIn_r _ [81, 54, 55, 56, 10, 57, 16, 19, 20, 21, 22, 23, 24, 28, 29, 30, 31, 32, 33, 34, 69, 70, 71, 72, 85, 86, 87, 88, 89, 90] rfl (by decide +kernel)
set_option maxRecDepth 20000 in
theorem gX4_childrenOf_X1_pointsWith : GoodIn wsX4_childrenOf (wsV RX4 65 RX1 yX1_pointsWith wsX1_pointsWith) := goodIn_app (goodIn_of _ (by decide +kernel)) ggX4_childrenOf_X1_pointsWith
theorem dX4_childrenOf_0 : decode cX4_childrenOf 0 = .ok (.aload_n 0, 1) := by decide +kernel
theorem dX4_childrenOf_1 : decode cX4_childrenOf 1 = .ok (.iload_n 1, 1) := by decide +kernel
theorem dX4_childrenOf_2 : decode cX4_childrenOf 2 = .ok (.invokevirtual 37, 3) := by decide +kernel
theorem dX4_childrenOf_5 : decode cX4_childrenOf 5 = .ok (.istore_n 2, 1) := by decide +kernel
theorem dX4_childrenOf_6 : decode cX4_childrenOf 6 = .ok (.aload_n 0, 1) := by decide +kernel
theorem dX4_childrenOf_7 : decode cX4_childrenOf 7 = .ok (.getfield 12, 3) := by decide +kernel
theorem dX4_childrenOf_10 : decode cX4_childrenOf 10 = .ok (.iload_n 2, 1) := by decide +kernel
theorem dX4_childrenOf_11 : decode cX4_childrenOf 11 = .ok (.iconst 1, 1) := by decide +kernel
theorem dX4_childrenOf_12 : decode cX4_childrenOf 12 = .ok (.iadd, 1) := by decide +kernel
theorem dX4_childrenOf_13 : decode cX4_childrenOf 13 = .ok (.aload_n 0, 1) := by decide +kernel
theorem dX4_childrenOf_14 : decode cX4_childrenOf 14 = .ok (.getfield 12, 3) := by decide +kernel
theorem dX4_childrenOf_17 : decode cX4_childrenOf 17 = .ok (.iload_n 2, 1) := by decide +kernel
theorem dX4_childrenOf_18 : decode cX4_childrenOf 18 = .ok (.invokevirtual 41, 3) := by decide +kernel
theorem dX4_childrenOf_21 : decode cX4_childrenOf 21 = .ok (.aload_n 0, 1) := by decide +kernel
theorem dX4_childrenOf_22 : decode cX4_childrenOf 22 = .ok (.getfield 12, 3) := by decide +kernel
theorem dX4_childrenOf_25 : decode cX4_childrenOf 25 = .ok (.iload_n 2, 1) := by decide +kernel
theorem dX4_childrenOf_26 : decode cX4_childrenOf 26 = .ok (.invokevirtual 50, 3) := by decide +kernel
theorem dX4_childrenOf_29 : decode cX4_childrenOf 29 = .ok (.iconst 1, 1) := by decide +kernel
theorem dX4_childrenOf_30 : decode cX4_childrenOf 30 = .ok (.iadd, 1) := by decide +kernel
theorem dX4_childrenOf_31 : decode cX4_childrenOf 31 = .ok (.invokevirtual 65, 3) := by decide +kernel
theorem dX4_childrenOf_34 : decode cX4_childrenOf 34 = .ok (.iconst 1, 1) := by decide +kernel
theorem dX4_childrenOf_35 : decode cX4_childrenOf 35 = .ok (.isub, 1) := by decide +kernel
theorem dX4_childrenOf_36 : decode cX4_childrenOf 36 = .ok (.ireturn, 1) := by decide +kernel
set_option maxRecDepth 20000 in
theorem ggX4_childAt_X4_placeForChild : GoodIn wsX4_childAt wsX4_placeForChild := goodIn_r _ [6, 1, 7, 8, 9, 5, 10, 11, 12, 13, 14, 15, 16, 17, 18, 19, 20, 21, 22, 23, 24, 25, 26, 27, 28, 29, 30, 31, 32, 33, 34, 35, 36, 37, 38, 39, 40, 41, 42, 43, 44, 45, 46, 47, 48, 49, 50, 51, 52, 53, 54, 55, 56, 57, 58, 59, 60, 61, 62, 63, 64, 65, 66, 67, 68, 69, 70, 71, 72, 73, 78, 79, 80, 81, 82, 83, 84, 85, 86] rfl (by decide +kernel)
set_option maxRecDepth 20000 in
theorem gX4_childAt_X4_placeForChild : GoodIn wsX4_childAt (wsV RX4 69 RX4 yX4_placeForChild wsX4_placeForChild) := goodIn_app (goodIn_of _ (by decide +kernel)) ggX4_childAt_X4_placeForChild
set_option maxRecDepth 20000 in
theorem ggX4_childAt_X1_bitAt : GoodIn wsX4_childAt wsX1_bitAt := goodIn_r _ [57, 20, 23, 81, 82, 83, 84, 85, 86] rfl (by decide +kernel)
set_option maxRecDepth 20000 in
theorem gX4_childAt_X1_bitAt : GoodIn wsX4_childAt (wsV RX4 44 RX1 yX1_bitAt wsX1_bitAt) := goodIn_app (goodIn_of _ (by decide +kernel)) ggX4_childAt_X1_bitAt
set_option maxRecDepth 20000 in
theorem ggX4_childAt_X1_opensAhead : GoodIn wsX4_childAt wsX1_opensAhead := goodIn_r _ [77, 63, 51, 52, 14, 53, 20, 23, 24, 25, 26, 27, 28, 32, 33, 34, 35, 36, 37, 38, 81, 82, 83, 84, 85, 86] rfl (by decide +kernel)
set_option maxRecDepth 20000 in
theorem gX4_childAt_X1_opensAhead : GoodIn wsX4_childAt (wsV RX4 47 RX1 yX1_opensAhead wsX1_opensAhead) := goodIn_app (goodIn_of _ (by decide +kernel)) ggX4_childAt_X1_opensAhead
theorem dX4_childAt_0 : decode cX4_childAt 0 = .ok (.aload_n 0, 1) := by decide +kernel
theorem dX4_childAt_1 : decode cX4_childAt 1 = .ok (.iload_n 1, 1) := by decide +kernel
theorem dX4_childAt_2 : decode cX4_childAt 2 = .ok (.iload_n 2, 1) := by decide +kernel
theorem dX4_childAt_3 : decode cX4_childAt 3 = .ok (.invokevirtual 69, 3) := by decide +kernel
theorem dX4_childAt_6 : decode cX4_childAt 6 = .ok (.istore_n 3, 1) := by decide +kernel
theorem dX4_childAt_7 : decode cX4_childAt 7 = .ok (.aload_n 0, 1) := by decide +kernel
theorem dX4_childAt_8 : decode cX4_childAt 8 = .ok (.getfield 12, 3) := by decide +kernel
theorem dX4_childAt_11 : decode cX4_childAt 11 = .ok (.iload_n 3, 1) := by decide +kernel
theorem dX4_childAt_12 : decode cX4_childAt 12 = .ok (.invokevirtual 44, 3) := by decide +kernel
theorem dX4_childAt_15 : decode cX4_childAt 15 = .ok (.iconst 1, 1) := by decide +kernel
theorem dX4_childAt_16 : decode cX4_childAt 16 = .ok (.if_icmp .ne 14, 3) := by decide +kernel
theorem dX4_childAt_19 : decode cX4_childAt 19 = .ok (.aload_n 0, 1) := by decide +kernel
theorem dX4_childAt_20 : decode cX4_childAt 20 = .ok (.getfield 12, 3) := by decide +kernel
theorem dX4_childAt_23 : decode cX4_childAt 23 = .ok (.iload_n 3, 1) := by decide +kernel
theorem dX4_childAt_24 : decode cX4_childAt 24 = .ok (.invokevirtual 47, 3) := by decide +kernel
theorem dX4_childAt_27 : decode cX4_childAt 27 = .ok (.goto 5, 3) := by decide +kernel
theorem dX4_childAt_30 : decode cX4_childAt 30 = .ok (.bipush (-4), 2) := by decide +kernel
theorem dX4_childAt_32 : decode cX4_childAt 32 = .ok (.ireturn, 1) := by decide +kernel
set_option maxRecDepth 20000 in
theorem ggX4_orderOf_X4_openOf : GoodIn wsX4_orderOf wsX4_openOf := goodIn_r _ [6, 1, 7, 8, 9, 10, 11, 12, 13, 14, 15, 16, 17, 18, 19, 20, 21, 22, 23, 24, 25, 26, 27, 28, 29, 30, 31, 32, 33, 34, 35, 36, 37, 38, 39, 40, 41, 42, 43, 44, 45, 78, 79, 80, 81, 82, 83, 84, 85, 86] rfl (by decide +kernel)
set_option maxRecDepth 20000 in
theorem gX4_orderOf_X4_openOf : GoodIn wsX4_orderOf (wsV RX4 37 RX4 yX4_openOf wsX4_openOf) := goodIn_app (goodIn_of _ (by decide +kernel)) ggX4_orderOf_X4_openOf
set_option maxRecDepth 20000 in
theorem ggX4_orderOf_X4_aboveBy : GoodIn wsX4_orderOf wsX4_aboveBy := goodIn_r _ [49, 1, 2, 3, 4, 5, 6, 7, 8, 9, 10, 11, 12, 13, 14, 15, 16, 17, 18, 19, 20, 21, 22, 23, 24, 25, 26, 27, 28, 29, 30, 31, 32, 33, 34, 35, 36, 37, 38, 39, 40, 41, 42, 43, 44, 45, 50, 51, 52, 53, 54, 55, 56, 57, 58, 59, 60, 61, 62, 63, 64, 65, 66, 67, 68, 69, 70, 71, 72, 73, 78, 79, 80, 81, 82, 83, 84, 85, 86] rfl (by decide +kernel)
set_option maxRecDepth 20000 in
theorem gX4_orderOf_X4_aboveBy : GoodIn wsX4_orderOf (wsV RX4 72 RX4 yX4_aboveBy wsX4_aboveBy) := goodIn_app (goodIn_of _ (by decide +kernel)) ggX4_orderOf_X4_aboveBy
set_option maxRecDepth 20000 in
theorem ggX4_orderOf_X1_excessAt : GoodIn wsX4_orderOf wsX1_excessAt := goodIn_r _ [53, 16, 19, 20, 21, 22, 23, 24, 28, 29, 30, 31, 32, 33, 34, 81, 82, 83, 84, 85, 86] rfl (by decide +kernel)
set_option maxRecDepth 20000 in
theorem gX4_orderOf_X1_excessAt : GoodIn wsX4_orderOf (wsV RX4 50 RX1 yX1_excessAt wsX1_excessAt) := goodIn_app (goodIn_of _ (by decide +kernel)) ggX4_orderOf_X1_excessAt
set_option maxRecDepth 20000 in
theorem ggX4_orderOf_X1_pointsWith : GoodIn wsX4_orderOf wsX1_pointsWith := goodIn_r _ [77, 59, 51, 52, 10, 53, 16, 19, 20, 21, 22, 23, 24, 28, 29, 30, 31, 32, 33, 34, 60, 61, 62, 63, 81, 82, 83, 84, 85, 86] rfl (by decide +kernel)
set_option maxRecDepth 20000 in
theorem gX4_orderOf_X1_pointsWith : GoodIn wsX4_orderOf (wsV RX4 65 RX1 yX1_pointsWith wsX1_pointsWith) := goodIn_app (goodIn_of _ (by decide +kernel)) ggX4_orderOf_X1_pointsWith
theorem dX4_orderOf_0 : decode cX4_orderOf 0 = .ok (.iload_n 1, 1) := by decide +kernel
theorem dX4_orderOf_1 : decode cX4_orderOf 1 = .ok (.ifCond .ne 5, 3) := by decide +kernel
theorem dX4_orderOf_4 : decode cX4_orderOf 4 = .ok (.iconst 0, 1) := by decide +kernel
theorem dX4_orderOf_5 : decode cX4_orderOf 5 = .ok (.ireturn, 1) := by decide +kernel
theorem dX4_orderOf_6 : decode cX4_orderOf 6 = .ok (.aload_n 0, 1) := by decide +kernel
theorem dX4_orderOf_7 : decode cX4_orderOf 7 = .ok (.iload_n 1, 1) := by decide +kernel
theorem dX4_orderOf_8 : decode cX4_orderOf 8 = .ok (.invokevirtual 37, 3) := by decide +kernel
theorem dX4_orderOf_11 : decode cX4_orderOf 11 = .ok (.istore_n 2, 1) := by decide +kernel
theorem dX4_orderOf_12 : decode cX4_orderOf 12 = .ok (.aload_n 0, 1) := by decide +kernel
theorem dX4_orderOf_13 : decode cX4_orderOf 13 = .ok (.getfield 12, 3) := by decide +kernel
theorem dX4_orderOf_16 : decode cX4_orderOf 16 = .ok (.aload_n 0, 1) := by decide +kernel
theorem dX4_orderOf_17 : decode cX4_orderOf 17 = .ok (.aload_n 0, 1) := by decide +kernel
theorem dX4_orderOf_18 : decode cX4_orderOf 18 = .ok (.iload_n 1, 1) := by decide +kernel
theorem dX4_orderOf_19 : decode cX4_orderOf 19 = .ok (.iconst 1, 1) := by decide +kernel
theorem dX4_orderOf_20 : decode cX4_orderOf 20 = .ok (.invokevirtual 72, 3) := by decide +kernel
theorem dX4_orderOf_23 : decode cX4_orderOf 23 = .ok (.invokevirtual 37, 3) := by decide +kernel
theorem dX4_orderOf_26 : decode cX4_orderOf 26 = .ok (.iconst 1, 1) := by decide +kernel
theorem dX4_orderOf_27 : decode cX4_orderOf 27 = .ok (.iadd, 1) := by decide +kernel
theorem dX4_orderOf_28 : decode cX4_orderOf 28 = .ok (.iload_n 2, 1) := by decide +kernel
theorem dX4_orderOf_29 : decode cX4_orderOf 29 = .ok (.aload_n 0, 1) := by decide +kernel
theorem dX4_orderOf_30 : decode cX4_orderOf 30 = .ok (.getfield 12, 3) := by decide +kernel
theorem dX4_orderOf_33 : decode cX4_orderOf 33 = .ok (.iload_n 2, 1) := by decide +kernel
theorem dX4_orderOf_34 : decode cX4_orderOf 34 = .ok (.invokevirtual 50, 3) := by decide +kernel
theorem dX4_orderOf_37 : decode cX4_orderOf 37 = .ok (.invokevirtual 65, 3) := by decide +kernel
theorem dX4_orderOf_40 : decode cX4_orderOf 40 = .ok (.iconst 1, 1) := by decide +kernel
theorem dX4_orderOf_41 : decode cX4_orderOf 41 = .ok (.isub, 1) := by decide +kernel
theorem dX4_orderOf_42 : decode cX4_orderOf 42 = .ok (.ireturn, 1) := by decide +kernel
set_option maxRecDepth 20000 in
theorem ggX4_nodesOf_X4_openOf : GoodIn wsX4_nodesOf wsX4_openOf := goodIn_r _ [6, 1, 7, 8, 9, 10, 11, 12, 13, 14, 15, 16, 17, 18, 19, 20, 21, 22, 23, 24, 25, 26, 27, 28, 29, 30, 31, 32, 33, 34, 35, 36, 37, 38, 39, 40, 41, 42, 43, 44, 45, 77, 78, 79, 80, 81, 82, 83, 84, 85] rfl (by decide +kernel)
set_option maxRecDepth 20000 in
theorem gX4_nodesOf_X4_openOf : GoodIn wsX4_nodesOf (wsV RX4 37 RX4 yX4_openOf wsX4_openOf) := goodIn_app (goodIn_of _ (by decide +kernel)) ggX4_nodesOf_X4_openOf
set_option maxRecDepth 20000 in
theorem ggX4_nodesOf_X1_partnerOf : GoodIn wsX4_nodesOf wsX1_partnerOf := goodIn_r _ [49, 50, 51, 52, 10, 53, 16, 19, 54, 55, 56, 57, 20, 21, 22, 23, 24, 28, 29, 30, 31, 32, 33, 34, 58, 59, 60, 61, 18, 62, 63, 64, 65, 66, 67, 68, 69, 70, 71, 72, 73, 74, 75, 76, 80, 81, 82, 83, 84, 85] rfl (by decide +kernel)
set_option maxRecDepth 20000 in
theorem gX4_nodesOf_X1_partnerOf : GoodIn wsX4_nodesOf (wsV RX4 41 RX1 yX1_partnerOf wsX1_partnerOf) := goodIn_app (goodIn_of _ (by decide +kernel)) ggX4_nodesOf_X1_partnerOf
theorem dX4_nodesOf_0 : decode cX4_nodesOf 0 = .ok (.aload_n 0, 1) := by decide +kernel
theorem dX4_nodesOf_1 : decode cX4_nodesOf 1 = .ok (.iload_n 1, 1) := by decide +kernel
theorem dX4_nodesOf_2 : decode cX4_nodesOf 2 = .ok (.invokevirtual 37, 3) := by decide +kernel
theorem dX4_nodesOf_5 : decode cX4_nodesOf 5 = .ok (.istore_n 2, 1) := by decide +kernel
theorem dX4_nodesOf_6 : decode cX4_nodesOf 6 = .ok (.aload_n 0, 1) := by decide +kernel
theorem dX4_nodesOf_7 : decode cX4_nodesOf 7 = .ok (.getfield 12, 3) := by decide +kernel
theorem dX4_nodesOf_10 : decode cX4_nodesOf 10 = .ok (.iload_n 2, 1) := by decide +kernel
theorem dX4_nodesOf_11 : decode cX4_nodesOf 11 = .ok (.invokevirtual 41, 3) := by decide +kernel
theorem dX4_nodesOf_14 : decode cX4_nodesOf 14 = .ok (.iload_n 2, 1) := by decide +kernel
theorem dX4_nodesOf_15 : decode cX4_nodesOf 15 = .ok (.isub, 1) := by decide +kernel
theorem dX4_nodesOf_16 : decode cX4_nodesOf 16 = .ok (.iconst 1, 1) := by decide +kernel
theorem dX4_nodesOf_17 : decode cX4_nodesOf 17 = .ok (.iadd, 1) := by decide +kernel
theorem dX4_nodesOf_18 : decode cX4_nodesOf 18 = .ok (.iconst 2, 1) := by decide +kernel
theorem dX4_nodesOf_19 : decode cX4_nodesOf 19 = .ok (.idiv, 1) := by decide +kernel
theorem dX4_nodesOf_20 : decode cX4_nodesOf 20 = .ok (.ireturn, 1) := by decide +kernel
set_option maxRecDepth 20000 in
theorem ggX4_leavesOf_X4_openOf : GoodIn wsX4_leavesOf wsX4_openOf := goodIn_r _ [6, 1, 7, 8, 9, 10, 11, 12, 13, 14, 15, 16, 17, 18, 19, 20, 21, 22, 23, 24, 25, 26, 27, 28, 29, 30, 31, 32, 33, 34, 35, 36, 37, 38, 39, 40, 41, 42, 43, 44, 45, 81, 82, 83, 84, 85, 86, 87, 88, 89] rfl (by decide +kernel)
set_option maxRecDepth 20000 in
theorem gX4_leavesOf_X4_openOf : GoodIn wsX4_leavesOf (wsV RX4 37 RX4 yX4_openOf wsX4_openOf) := goodIn_app (goodIn_of _ (by decide +kernel)) ggX4_leavesOf_X4_openOf
set_option maxRecDepth 20000 in
theorem ggX4_leavesOf_X1_partnerOf : GoodIn wsX4_leavesOf wsX1_partnerOf := goodIn_r _ [49, 50, 51, 52, 10, 53, 16, 19, 54, 55, 56, 57, 20, 21, 22, 23, 24, 28, 29, 30, 31, 32, 33, 34, 58, 59, 60, 61, 18, 62, 63, 64, 65, 66, 67, 68, 69, 70, 71, 72, 73, 74, 75, 76, 84, 85, 86, 87, 88, 89] rfl (by decide +kernel)
set_option maxRecDepth 20000 in
theorem gX4_leavesOf_X1_partnerOf : GoodIn wsX4_leavesOf (wsV RX4 41 RX1 yX1_partnerOf wsX1_partnerOf) := goodIn_app (goodIn_of _ (by decide +kernel)) ggX4_leavesOf_X1_partnerOf
set_option maxRecDepth 20000 in
theorem ggX4_leavesOf_X1_signsAhead : GoodIn wsX4_leavesOf wsX1_signsAhead := goodIn_r _ [80, 12, 13, 14, 10, 15, 16, 17, 18, 19, 20, 21, 22, 23, 24, 25, 26, 27, 28, 29, 30, 31, 32, 33, 34, 39, 40, 41, 42, 43, 44, 45, 84, 85, 86, 87, 88, 89] rfl (by decide +kernel)
set_option maxRecDepth 20000 in
theorem gX4_leavesOf_X1_signsAhead : GoodIn wsX4_leavesOf (wsV RX4 75 RX1 yX1_signsAhead wsX1_signsAhead) := goodIn_app (goodIn_of _ (by decide +kernel)) ggX4_leavesOf_X1_signsAhead
theorem dX4_leavesOf_0 : decode cX4_leavesOf 0 = .ok (.aload_n 0, 1) := by decide +kernel
theorem dX4_leavesOf_1 : decode cX4_leavesOf 1 = .ok (.iload_n 1, 1) := by decide +kernel
theorem dX4_leavesOf_2 : decode cX4_leavesOf 2 = .ok (.invokevirtual 37, 3) := by decide +kernel
theorem dX4_leavesOf_5 : decode cX4_leavesOf 5 = .ok (.istore_n 2, 1) := by decide +kernel
theorem dX4_leavesOf_6 : decode cX4_leavesOf 6 = .ok (.aload_n 0, 1) := by decide +kernel
theorem dX4_leavesOf_7 : decode cX4_leavesOf 7 = .ok (.getfield 12, 3) := by decide +kernel
theorem dX4_leavesOf_10 : decode cX4_leavesOf 10 = .ok (.aload_n 0, 1) := by decide +kernel
theorem dX4_leavesOf_11 : decode cX4_leavesOf 11 = .ok (.getfield 12, 3) := by decide +kernel
theorem dX4_leavesOf_14 : decode cX4_leavesOf 14 = .ok (.iload_n 2, 1) := by decide +kernel
theorem dX4_leavesOf_15 : decode cX4_leavesOf 15 = .ok (.invokevirtual 41, 3) := by decide +kernel
theorem dX4_leavesOf_18 : decode cX4_leavesOf 18 = .ok (.iconst 2, 1) := by decide +kernel
theorem dX4_leavesOf_19 : decode cX4_leavesOf 19 = .ok (.invokevirtual 75, 3) := by decide +kernel
theorem dX4_leavesOf_22 : decode cX4_leavesOf 22 = .ok (.aload_n 0, 1) := by decide +kernel
theorem dX4_leavesOf_23 : decode cX4_leavesOf 23 = .ok (.getfield 12, 3) := by decide +kernel
theorem dX4_leavesOf_26 : decode cX4_leavesOf 26 = .ok (.iload_n 2, 1) := by decide +kernel
theorem dX4_leavesOf_27 : decode cX4_leavesOf 27 = .ok (.iconst 2, 1) := by decide +kernel
theorem dX4_leavesOf_28 : decode cX4_leavesOf 28 = .ok (.invokevirtual 75, 3) := by decide +kernel
theorem dX4_leavesOf_31 : decode cX4_leavesOf 31 = .ok (.isub, 1) := by decide +kernel
theorem dX4_leavesOf_32 : decode cX4_leavesOf 32 = .ok (.ireturn, 1) := by decide +kernel
set_option maxRecDepth 20000 in
theorem ggX4_heightOf_X4_openOf : GoodIn wsX4_heightOf wsX4_openOf := goodIn_r _ [6, 1, 7, 8, 9, 10, 11, 12, 13, 14, 15, 16, 17, 18, 19, 20, 21, 22, 23, 24, 25, 26, 27, 28, 29, 30, 31, 32, 33, 34, 35, 36, 37, 38, 39, 40, 41, 42, 43, 44, 45, 89, 90, 91, 92, 93, 94, 95, 96, 97] rfl (by decide +kernel)
set_option maxRecDepth 20000 in
theorem gX4_heightOf_X4_openOf : GoodIn wsX4_heightOf (wsV RX4 37 RX4 yX4_openOf wsX4_openOf) := goodIn_app (goodIn_of _ (by decide +kernel)) ggX4_heightOf_X4_openOf
set_option maxRecDepth 20000 in
theorem ggX4_heightOf_X1_partnerOf : GoodIn wsX4_heightOf wsX1_partnerOf := goodIn_r _ [49, 50, 51, 52, 10, 53, 16, 19, 54, 55, 56, 57, 20, 21, 22, 23, 24, 28, 29, 30, 31, 32, 33, 34, 58, 59, 60, 61, 18, 62, 63, 64, 65, 66, 67, 68, 69, 70, 71, 72, 73, 74, 75, 76, 92, 93, 94, 95, 96, 97] rfl (by decide +kernel)
set_option maxRecDepth 20000 in
theorem gX4_heightOf_X1_partnerOf : GoodIn wsX4_heightOf (wsV RX4 41 RX1 yX1_partnerOf wsX1_partnerOf) := goodIn_app (goodIn_of _ (by decide +kernel)) ggX4_heightOf_X1_partnerOf
set_option maxRecDepth 20000 in
theorem ggX4_heightOf_X1_extremeIn : GoodIn wsX4_heightOf wsX1_extremeIn := goodIn_r _ [80, 68, 67, 62, 81, 82, 83, 84, 85, 86, 87, 54, 55, 56, 10, 57, 16, 19, 20, 21, 22, 23, 24, 28, 29, 30, 31, 32, 33, 34, 69, 70, 71, 72, 92, 93, 94, 95, 96, 97] rfl (by decide +kernel)
set_option maxRecDepth 20000 in
theorem gX4_heightOf_X1_extremeIn : GoodIn wsX4_heightOf (wsV RX4 78 RX1 yX1_extremeIn wsX1_extremeIn) := goodIn_app (goodIn_of _ (by decide +kernel)) ggX4_heightOf_X1_extremeIn
set_option maxRecDepth 20000 in
theorem ggX4_heightOf_X1_excessAt : GoodIn wsX4_heightOf wsX1_excessAt := goodIn_r _ [57, 16, 19, 20, 21, 22, 23, 24, 28, 29, 30, 31, 32, 33, 34, 92, 93, 94, 95, 96, 97] rfl (by decide +kernel)
set_option maxRecDepth 20000 in
theorem gX4_heightOf_X1_excessAt : GoodIn wsX4_heightOf (wsV RX4 50 RX1 yX1_excessAt wsX1_excessAt) := goodIn_app (goodIn_of _ (by decide +kernel)) ggX4_heightOf_X1_excessAt
theorem dX4_heightOf_0 : decode cX4_heightOf 0 = .ok (.aload_n 0, 1) := by decide +kernel
theorem dX4_heightOf_1 : decode cX4_heightOf 1 = .ok (.iload_n 1, 1) := by decide +kernel
theorem dX4_heightOf_2 : decode cX4_heightOf 2 = .ok (.invokevirtual 37, 3) := by decide +kernel
theorem dX4_heightOf_5 : decode cX4_heightOf 5 = .ok (.istore_n 2, 1) := by decide +kernel
theorem dX4_heightOf_6 : decode cX4_heightOf 6 = .ok (.aload_n 0, 1) := by decide +kernel
theorem dX4_heightOf_7 : decode cX4_heightOf 7 = .ok (.getfield 12, 3) := by decide +kernel
theorem dX4_heightOf_10 : decode cX4_heightOf 10 = .ok (.iload_n 2, 1) := by decide +kernel
theorem dX4_heightOf_11 : decode cX4_heightOf 11 = .ok (.aload_n 0, 1) := by decide +kernel
theorem dX4_heightOf_12 : decode cX4_heightOf 12 = .ok (.getfield 12, 3) := by decide +kernel
theorem dX4_heightOf_15 : decode cX4_heightOf 15 = .ok (.iload_n 2, 1) := by decide +kernel
theorem dX4_heightOf_16 : decode cX4_heightOf 16 = .ok (.invokevirtual 41, 3) := by decide +kernel
theorem dX4_heightOf_19 : decode cX4_heightOf 19 = .ok (.iconst 1, 1) := by decide +kernel
theorem dX4_heightOf_20 : decode cX4_heightOf 20 = .ok (.invokevirtual 78, 3) := by decide +kernel
theorem dX4_heightOf_23 : decode cX4_heightOf 23 = .ok (.aload_n 0, 1) := by decide +kernel
theorem dX4_heightOf_24 : decode cX4_heightOf 24 = .ok (.getfield 12, 3) := by decide +kernel
theorem dX4_heightOf_27 : decode cX4_heightOf 27 = .ok (.iload_n 2, 1) := by decide +kernel
theorem dX4_heightOf_28 : decode cX4_heightOf 28 = .ok (.invokevirtual 50, 3) := by decide +kernel
theorem dX4_heightOf_31 : decode cX4_heightOf 31 = .ok (.isub, 1) := by decide +kernel
theorem dX4_heightOf_32 : decode cX4_heightOf 32 = .ok (.iconst 1, 1) := by decide +kernel
theorem dX4_heightOf_33 : decode cX4_heightOf 33 = .ok (.isub, 1) := by decide +kernel
theorem dX4_heightOf_34 : decode cX4_heightOf 34 = .ok (.ireturn, 1) := by decide +kernel
set_option maxRecDepth 20000 in
theorem ggX4_deepestOf_X4_openOf : GoodIn wsX4_deepestOf wsX4_openOf := goodIn_r _ [6, 1, 7, 8, 9, 10, 11, 12, 13, 14, 15, 16, 17, 18, 19, 20, 21, 22, 23, 24, 25, 26, 27, 28, 29, 30, 31, 32, 33, 34, 35, 36, 37, 38, 39, 40, 41, 42, 43, 44, 45, 96, 97, 98, 99, 100, 101, 102, 103, 104] rfl (by decide +kernel)
set_option maxRecDepth 20000 in
theorem gX4_deepestOf_X4_openOf : GoodIn wsX4_deepestOf (wsV RX4 37 RX4 yX4_openOf wsX4_openOf) := goodIn_app (goodIn_of _ (by decide +kernel)) ggX4_deepestOf_X4_openOf
set_option maxRecDepth 20000 in
theorem ggX4_deepestOf_X1_partnerOf : GoodIn wsX4_deepestOf wsX1_partnerOf := goodIn_r _ [49, 50, 51, 52, 10, 53, 16, 19, 54, 55, 56, 57, 20, 21, 22, 23, 24, 28, 29, 30, 31, 32, 33, 34, 58, 59, 60, 61, 18, 62, 63, 64, 65, 66, 67, 68, 69, 70, 71, 72, 73, 74, 75, 76, 99, 100, 101, 102, 103, 104] rfl (by decide +kernel)
set_option maxRecDepth 20000 in
theorem gX4_deepestOf_X1_partnerOf : GoodIn wsX4_deepestOf (wsV RX4 41 RX1 yX1_partnerOf wsX1_partnerOf) := goodIn_app (goodIn_of _ (by decide +kernel)) ggX4_deepestOf_X1_partnerOf
set_option maxRecDepth 20000 in
theorem ggX4_deepestOf_X1_extremeIn : GoodIn wsX4_deepestOf wsX1_extremeIn := goodIn_r _ [80, 68, 67, 62, 81, 82, 83, 84, 85, 86, 87, 54, 55, 56, 10, 57, 16, 19, 20, 21, 22, 23, 24, 28, 29, 30, 31, 32, 33, 34, 69, 70, 71, 72, 99, 100, 101, 102, 103, 104] rfl (by decide +kernel)
set_option maxRecDepth 20000 in
theorem gX4_deepestOf_X1_extremeIn : GoodIn wsX4_deepestOf (wsV RX4 78 RX1 yX1_extremeIn wsX1_extremeIn) := goodIn_app (goodIn_of _ (by decide +kernel)) ggX4_deepestOf_X1_extremeIn
set_option maxRecDepth 20000 in
theorem ggX4_deepestOf_X1_firstWith : GoodIn wsX4_deepestOf wsX1_firstWith := goodIn_r _ [91, 54, 55, 56, 10, 57, 16, 19, 20, 21, 22, 23, 24, 28, 29, 30, 31, 32, 33, 34, 58, 59, 60, 61, 18, 62, 63, 64, 65, 66, 67, 68, 69, 70, 71, 72, 99, 100, 101, 102, 103, 104] rfl (by decide +kernel)
set_option maxRecDepth 20000 in
theorem gX4_deepestOf_X1_firstWith : GoodIn wsX4_deepestOf (wsV RX4 82 RX1 yX1_firstWith wsX1_firstWith) := goodIn_app (goodIn_of _ (by decide +kernel)) ggX4_deepestOf_X1_firstWith
set_option maxRecDepth 20000 in
theorem ggX4_deepestOf_X1_opensAhead : GoodIn wsX4_deepestOf wsX1_opensAhead := goodIn_r _ [95, 54, 55, 56, 10, 57, 16, 19, 20, 21, 22, 23, 24, 28, 29, 30, 31, 32, 33, 34, 99, 100, 101, 102, 103, 104] rfl (by decide +kernel)
set_option maxRecDepth 20000 in
theorem gX4_deepestOf_X1_opensAhead : GoodIn wsX4_deepestOf (wsV RX4 47 RX1 yX1_opensAhead wsX1_opensAhead) := goodIn_app (goodIn_of _ (by decide +kernel)) ggX4_deepestOf_X1_opensAhead
theorem dX4_deepestOf_0 : decode cX4_deepestOf 0 = .ok (.aload_n 0, 1) := by decide +kernel
theorem dX4_deepestOf_1 : decode cX4_deepestOf 1 = .ok (.iload_n 1, 1) := by decide +kernel
theorem dX4_deepestOf_2 : decode cX4_deepestOf 2 = .ok (.invokevirtual 37, 3) := by decide +kernel
theorem dX4_deepestOf_5 : decode cX4_deepestOf 5 = .ok (.istore_n 2, 1) := by decide +kernel
theorem dX4_deepestOf_6 : decode cX4_deepestOf 6 = .ok (.aload_n 0, 1) := by decide +kernel
theorem dX4_deepestOf_7 : decode cX4_deepestOf 7 = .ok (.getfield 12, 3) := by decide +kernel
theorem dX4_deepestOf_10 : decode cX4_deepestOf 10 = .ok (.aload_n 0, 1) := by decide +kernel
theorem dX4_deepestOf_11 : decode cX4_deepestOf 11 = .ok (.getfield 12, 3) := by decide +kernel
theorem dX4_deepestOf_14 : decode cX4_deepestOf 14 = .ok (.iload_n 2, 1) := by decide +kernel
theorem dX4_deepestOf_15 : decode cX4_deepestOf 15 = .ok (.aload_n 0, 1) := by decide +kernel
theorem dX4_deepestOf_16 : decode cX4_deepestOf 16 = .ok (.getfield 12, 3) := by decide +kernel
theorem dX4_deepestOf_19 : decode cX4_deepestOf 19 = .ok (.iload_n 2, 1) := by decide +kernel
theorem dX4_deepestOf_20 : decode cX4_deepestOf 20 = .ok (.aload_n 0, 1) := by decide +kernel
theorem dX4_deepestOf_21 : decode cX4_deepestOf 21 = .ok (.getfield 12, 3) := by decide +kernel
theorem dX4_deepestOf_24 : decode cX4_deepestOf 24 = .ok (.iload_n 2, 1) := by decide +kernel
theorem dX4_deepestOf_25 : decode cX4_deepestOf 25 = .ok (.invokevirtual 41, 3) := by decide +kernel
theorem dX4_deepestOf_28 : decode cX4_deepestOf 28 = .ok (.iconst 1, 1) := by decide +kernel
theorem dX4_deepestOf_29 : decode cX4_deepestOf 29 = .ok (.invokevirtual 78, 3) := by decide +kernel
theorem dX4_deepestOf_32 : decode cX4_deepestOf 32 = .ok (.invokevirtual 82, 3) := by decide +kernel
theorem dX4_deepestOf_35 : decode cX4_deepestOf 35 = .ok (.iconst 1, 1) := by decide +kernel
theorem dX4_deepestOf_36 : decode cX4_deepestOf 36 = .ok (.isub, 1) := by decide +kernel
theorem dX4_deepestOf_37 : decode cX4_deepestOf 37 = .ok (.invokevirtual 47, 3) := by decide +kernel
theorem dX4_deepestOf_40 : decode cX4_deepestOf 40 = .ok (.ireturn, 1) := by decide +kernel
set_option maxRecDepth 20000 in
theorem ggX4_isAbove_X4_nodesOf : GoodIn wsX4_isAbove wsX4_nodesOf := goodIn_r _ [5, 6, 7, 8, 9, 4, 10, 11, 12, 13, 14, 15, 16, 17, 18, 19, 20, 21, 22, 23, 24, 25, 26, 27, 28, 29, 30, 31, 32, 33, 34, 35, 36, 37, 38, 39, 40, 41, 42, 43, 44, 45, 46, 47, 48, 49, 50, 51, 52, 53, 54, 55, 56, 57, 58, 59, 60, 61, 62, 63, 64, 65, 66, 67, 68, 69, 70, 71, 72, 73, 74, 75, 76, 77, 78, 79, 80, 81, 82, 83, 84, 85, 86, 87, 88, 89] rfl (by decide +kernel)
set_option maxRecDepth 20000 in
theorem gX4_isAbove_X4_nodesOf : GoodIn wsX4_isAbove (wsV RX4 85 RX4 yX4_nodesOf wsX4_nodesOf) := goodIn_app (goodIn_of _ (by decide +kernel)) ggX4_isAbove_X4_nodesOf
theorem dX4_isAbove_0 : decode cX4_isAbove 0 = .ok (.iload_n 2, 1) := by decide +kernel
theorem dX4_isAbove_1 : decode cX4_isAbove 1 = .ok (.iload_n 1, 1) := by decide +kernel
theorem dX4_isAbove_2 : decode cX4_isAbove 2 = .ok (.if_icmp .lt 18, 3) := by decide +kernel
theorem dX4_isAbove_5 : decode cX4_isAbove 5 = .ok (.iload_n 2, 1) := by decide +kernel
theorem dX4_isAbove_6 : decode cX4_isAbove 6 = .ok (.iload_n 1, 1) := by decide +kernel
theorem dX4_isAbove_7 : decode cX4_isAbove 7 = .ok (.aload_n 0, 1) := by decide +kernel
theorem dX4_isAbove_8 : decode cX4_isAbove 8 = .ok (.iload_n 1, 1) := by decide +kernel
theorem dX4_isAbove_9 : decode cX4_isAbove 9 = .ok (.invokevirtual 85, 3) := by decide +kernel
theorem dX4_isAbove_12 : decode cX4_isAbove 12 = .ok (.iadd, 1) := by decide +kernel
theorem dX4_isAbove_13 : decode cX4_isAbove 13 = .ok (.if_icmp .ge 7, 3) := by decide +kernel
theorem dX4_isAbove_16 : decode cX4_isAbove 16 = .ok (.iconst 1, 1) := by decide +kernel
theorem dX4_isAbove_17 : decode cX4_isAbove 17 = .ok (.goto 4, 3) := by decide +kernel
theorem dX4_isAbove_20 : decode cX4_isAbove 20 = .ok (.iconst 0, 1) := by decide +kernel
theorem dX4_isAbove_21 : decode cX4_isAbove 21 = .ok (.ireturn, 1) := by decide +kernel
set_option maxRecDepth 20000 in
theorem ggX4_haveLikeRows_X4_nodesOf : GoodIn wsX4_haveLikeRows wsX4_nodesOf := goodIn_r _ [6, 1, 7, 8, 9, 5, 10, 11, 12, 13, 14, 15, 16, 17, 18, 19, 20, 21, 22, 23, 24, 25, 26, 27, 28, 29, 30, 31, 32, 33, 34, 35, 36, 37, 38, 39, 40, 41, 42, 43, 44, 45, 46, 47, 48, 49, 50, 51, 52, 53, 54, 55, 56, 57, 58, 59, 60, 61, 62, 63, 64, 65, 66, 67, 68, 69, 70, 71, 72, 73, 74, 75, 76, 77, 78, 79, 80, 89, 90, 91, 92, 93, 94, 95, 96, 97] rfl (by decide +kernel)
set_option maxRecDepth 20000 in
theorem gX4_haveLikeRows_X4_nodesOf : GoodIn wsX4_haveLikeRows (wsV RX4 85 RX4 yX4_nodesOf wsX4_nodesOf) := goodIn_app (goodIn_of _ (by decide +kernel)) ggX4_haveLikeRows_X4_nodesOf
set_option maxRecDepth 20000 in
theorem ggX4_haveLikeRows_X4_openOf : GoodIn wsX4_haveLikeRows wsX4_openOf := goodIn_r _ [10, 1, 11, 12, 13, 14, 15, 16, 17, 18, 19, 20, 21, 22, 23, 24, 25, 26, 27, 28, 29, 30, 31, 32, 33, 34, 35, 36, 37, 38, 39, 40, 41, 42, 43, 44, 45, 46, 47, 48, 49, 89, 90, 91, 92, 93, 94, 95, 96, 97] rfl (by decide +kernel)
set_option maxRecDepth 20000 in
theorem gX4_haveLikeRows_X4_openOf : GoodIn wsX4_haveLikeRows (wsV RX4 37 RX4 yX4_openOf wsX4_openOf) := goodIn_app (goodIn_of _ (by decide +kernel)) ggX4_haveLikeRows_X4_openOf
set_option maxRecDepth 20000 in
theorem ggX4_haveLikeRows_X1_takenLow : GoodIn wsX4_haveLikeRows wsX1_takenLow := goodIn_r _ [84, 20, 23, 29, 30, 26, 31, 24, 25, 27, 28, 92, 93, 94, 95, 96, 97] rfl (by decide +kernel)
set_option maxRecDepth 20000 in
theorem gX4_haveLikeRows_X1_takenLow : GoodIn wsX4_haveLikeRows (wsV RX4 88 RX1 yX1_takenLow wsX1_takenLow) := goodIn_app (goodIn_of _ (by decide +kernel)) ggX4_haveLikeRows_X1_takenLow
set_option maxRecDepth 20000 in
theorem ggX4_haveLikeRows_X1_takenHigh : GoodIn wsX4_haveLikeRows wsX1_takenHigh := goodIn_r _ [88, 23, 47, 48, 26, 49, 24, 25, 27, 28, 92, 93, 94, 95, 96, 97] rfl (by decide +kernel)
set_option maxRecDepth 20000 in
theorem gX4_haveLikeRows_X1_takenHigh : GoodIn wsX4_haveLikeRows (wsV RX4 92 RX1 yX1_takenHigh wsX1_takenHigh) := goodIn_app (goodIn_of _ (by decide +kernel)) ggX4_haveLikeRows_X1_takenHigh
theorem dX4_haveLikeRows_0 : decode cX4_haveLikeRows 0 = .ok (.iconst 2, 1) := by decide +kernel
theorem dX4_haveLikeRows_1 : decode cX4_haveLikeRows 1 = .ok (.aload_n 0, 1) := by decide +kernel
theorem dX4_haveLikeRows_2 : decode cX4_haveLikeRows 2 = .ok (.iload_n 1, 1) := by decide +kernel
theorem dX4_haveLikeRows_3 : decode cX4_haveLikeRows 3 = .ok (.invokevirtual 85, 3) := by decide +kernel
theorem dX4_haveLikeRows_6 : decode cX4_haveLikeRows 6 = .ok (.imul, 1) := by decide +kernel
theorem dX4_haveLikeRows_7 : decode cX4_haveLikeRows 7 = .ok (.istore_n 3, 1) := by decide +kernel
theorem dX4_haveLikeRows_8 : decode cX4_haveLikeRows 8 = .ok (.iload_n 3, 1) := by decide +kernel
theorem dX4_haveLikeRows_9 : decode cX4_haveLikeRows 9 = .ok (.iconst 2, 1) := by decide +kernel
theorem dX4_haveLikeRows_10 : decode cX4_haveLikeRows 10 = .ok (.aload_n 0, 1) := by decide +kernel
theorem dX4_haveLikeRows_11 : decode cX4_haveLikeRows 11 = .ok (.iload_n 2, 1) := by decide +kernel
theorem dX4_haveLikeRows_12 : decode cX4_haveLikeRows 12 = .ok (.invokevirtual 85, 3) := by decide +kernel
theorem dX4_haveLikeRows_15 : decode cX4_haveLikeRows 15 = .ok (.imul, 1) := by decide +kernel
theorem dX4_haveLikeRows_16 : decode cX4_haveLikeRows 16 = .ok (.if_icmp .eq 5, 3) := by decide +kernel
theorem dX4_haveLikeRows_19 : decode cX4_haveLikeRows 19 = .ok (.iconst 0, 1) := by decide +kernel
theorem dX4_haveLikeRows_20 : decode cX4_haveLikeRows 20 = .ok (.ireturn, 1) := by decide +kernel
theorem dX4_haveLikeRows_21 : decode cX4_haveLikeRows 21 = .ok (.aload_n 0, 1) := by decide +kernel
theorem dX4_haveLikeRows_22 : decode cX4_haveLikeRows 22 = .ok (.iload_n 1, 1) := by decide +kernel
theorem dX4_haveLikeRows_23 : decode cX4_haveLikeRows 23 = .ok (.invokevirtual 37, 3) := by decide +kernel
theorem dX4_haveLikeRows_26 : decode cX4_haveLikeRows 26 = .ok (.istore 4, 2) := by decide +kernel
theorem dX4_haveLikeRows_28 : decode cX4_haveLikeRows 28 = .ok (.aload_n 0, 1) := by decide +kernel
theorem dX4_haveLikeRows_29 : decode cX4_haveLikeRows 29 = .ok (.iload_n 2, 1) := by decide +kernel
theorem dX4_haveLikeRows_30 : decode cX4_haveLikeRows 30 = .ok (.invokevirtual 37, 3) := by decide +kernel
theorem dX4_haveLikeRows_33 : decode cX4_haveLikeRows 33 = .ok (.istore 5, 2) := by decide +kernel
theorem dX4_haveLikeRows_35 : decode cX4_haveLikeRows 35 = .ok (.aload_n 0, 1) := by decide +kernel
theorem dX4_haveLikeRows_36 : decode cX4_haveLikeRows 36 = .ok (.getfield 12, 3) := by decide +kernel
theorem dX4_haveLikeRows_39 : decode cX4_haveLikeRows 39 = .ok (.iload 4, 2) := by decide +kernel
theorem dX4_haveLikeRows_41 : decode cX4_haveLikeRows 41 = .ok (.iload_n 3, 1) := by decide +kernel
theorem dX4_haveLikeRows_42 : decode cX4_haveLikeRows 42 = .ok (.invokevirtual 88, 3) := by decide +kernel
theorem dX4_haveLikeRows_45 : decode cX4_haveLikeRows 45 = .ok (.aload_n 0, 1) := by decide +kernel
theorem dX4_haveLikeRows_46 : decode cX4_haveLikeRows 46 = .ok (.getfield 12, 3) := by decide +kernel
theorem dX4_haveLikeRows_49 : decode cX4_haveLikeRows 49 = .ok (.iload 5, 2) := by decide +kernel
theorem dX4_haveLikeRows_51 : decode cX4_haveLikeRows 51 = .ok (.iload_n 3, 1) := by decide +kernel
theorem dX4_haveLikeRows_52 : decode cX4_haveLikeRows 52 = .ok (.invokevirtual 88, 3) := by decide +kernel
theorem dX4_haveLikeRows_55 : decode cX4_haveLikeRows 55 = .ok (.lcmp, 1) := by decide +kernel
theorem dX4_haveLikeRows_56 : decode cX4_haveLikeRows 56 = .ok (.ifCond .ne 31, 3) := by decide +kernel
theorem dX4_haveLikeRows_59 : decode cX4_haveLikeRows 59 = .ok (.aload_n 0, 1) := by decide +kernel
theorem dX4_haveLikeRows_60 : decode cX4_haveLikeRows 60 = .ok (.getfield 12, 3) := by decide +kernel
theorem dX4_haveLikeRows_63 : decode cX4_haveLikeRows 63 = .ok (.iload 4, 2) := by decide +kernel
theorem dX4_haveLikeRows_65 : decode cX4_haveLikeRows 65 = .ok (.iload_n 3, 1) := by decide +kernel
theorem dX4_haveLikeRows_66 : decode cX4_haveLikeRows 66 = .ok (.invokevirtual 92, 3) := by decide +kernel
theorem dX4_haveLikeRows_69 : decode cX4_haveLikeRows 69 = .ok (.aload_n 0, 1) := by decide +kernel
theorem dX4_haveLikeRows_70 : decode cX4_haveLikeRows 70 = .ok (.getfield 12, 3) := by decide +kernel
theorem dX4_haveLikeRows_73 : decode cX4_haveLikeRows 73 = .ok (.iload 5, 2) := by decide +kernel
theorem dX4_haveLikeRows_75 : decode cX4_haveLikeRows 75 = .ok (.iload_n 3, 1) := by decide +kernel
theorem dX4_haveLikeRows_76 : decode cX4_haveLikeRows 76 = .ok (.invokevirtual 92, 3) := by decide +kernel
theorem dX4_haveLikeRows_79 : decode cX4_haveLikeRows 79 = .ok (.lcmp, 1) := by decide +kernel
theorem dX4_haveLikeRows_80 : decode cX4_haveLikeRows 80 = .ok (.ifCond .ne 7, 3) := by decide +kernel
theorem dX4_haveLikeRows_83 : decode cX4_haveLikeRows 83 = .ok (.iconst 1, 1) := by decide +kernel
theorem dX4_haveLikeRows_84 : decode cX4_haveLikeRows 84 = .ok (.goto 4, 3) := by decide +kernel
theorem dX4_haveLikeRows_87 : decode cX4_haveLikeRows 87 = .ok (.iconst 0, 1) := by decide +kernel
theorem dX4_haveLikeRows_88 : decode cX4_haveLikeRows 88 = .ok (.ireturn, 1) := by decide +kernel
set_option maxRecDepth 20000 in
theorem ggX4_meetingOf_X4_openOf : GoodIn wsX4_meetingOf wsX4_openOf := goodIn_r _ [13, 8, 14, 15, 16, 17, 18, 19, 20, 21, 22, 23, 24, 25, 26, 27, 28, 29, 30, 31, 32, 33, 34, 35, 36, 37, 38, 39, 40, 41, 42, 43, 44, 45, 46, 47, 48, 49, 50, 51, 52, 82, 83, 84, 85, 86, 87, 88, 89, 90] rfl (by decide +kernel)
set_option maxRecDepth 20000 in
theorem gX4_meetingOf_X4_openOf : GoodIn wsX4_meetingOf (wsV RX4 37 RX4 yX4_openOf wsX4_openOf) := goodIn_app (goodIn_of _ (by decide +kernel)) ggX4_meetingOf_X4_openOf
set_option maxRecDepth 20000 in
theorem ggX4_meetingOf_X1_extremeIn : GoodIn wsX4_meetingOf wsX1_extremeIn := goodIn_r _ [56, 57, 58, 59, 60, 6, 3, 7, 61, 2, 4, 62, 63, 64, 17, 65, 23, 26, 27, 28, 29, 30, 31, 35, 36, 37, 38, 39, 40, 41, 66, 67, 68, 69, 85, 86, 87, 88, 89, 90] rfl (by decide +kernel)
set_option maxRecDepth 20000 in
theorem gX4_meetingOf_X1_extremeIn : GoodIn wsX4_meetingOf (wsV RX4 78 RX1 yX1_extremeIn wsX1_extremeIn) := goodIn_app (goodIn_of _ (by decide +kernel)) ggX4_meetingOf_X1_extremeIn
set_option maxRecDepth 20000 in
theorem ggX4_meetingOf_X1_searchBack : GoodIn wsX4_meetingOf wsX1_searchBack := goodIn_r _ [73, 59, 62, 63, 64, 17, 65, 23, 26, 27, 28, 29, 30, 31, 35, 36, 37, 38, 39, 40, 41, 66, 67, 68, 69, 74, 75, 76, 77, 58, 57, 85, 86, 87, 88, 89, 90] rfl (by decide +kernel)
set_option maxRecDepth 20000 in
theorem gX4_meetingOf_X1_searchBack : GoodIn wsX4_meetingOf (wsV RX4 56 RX1 yX1_searchBack wsX1_searchBack) := goodIn_app (goodIn_of _ (by decide +kernel)) ggX4_meetingOf_X1_searchBack
set_option maxRecDepth 20000 in
theorem ggX4_meetingOf_X1_opensAhead : GoodIn wsX4_meetingOf wsX1_opensAhead := goodIn_r _ [81, 62, 63, 64, 17, 65, 23, 26, 27, 28, 29, 30, 31, 35, 36, 37, 38, 39, 40, 41, 85, 86, 87, 88, 89, 90] rfl (by decide +kernel)
set_option maxRecDepth 20000 in
theorem gX4_meetingOf_X1_opensAhead : GoodIn wsX4_meetingOf (wsV RX4 47 RX1 yX1_opensAhead wsX1_opensAhead) := goodIn_app (goodIn_of _ (by decide +kernel)) ggX4_meetingOf_X1_opensAhead
theorem dX4_meetingOf_0 : decode cX4_meetingOf 0 = .ok (.aload_n 0, 1) := by decide +kernel
theorem dX4_meetingOf_1 : decode cX4_meetingOf 1 = .ok (.iload_n 1, 1) := by decide +kernel
theorem dX4_meetingOf_2 : decode cX4_meetingOf 2 = .ok (.iload_n 2, 1) := by decide +kernel
theorem dX4_meetingOf_3 : decode cX4_meetingOf 3 = .ok (.invokestatic 95, 3) := by decide +kernel
theorem dX4_meetingOf_6 : decode cX4_meetingOf 6 = .ok (.invokevirtual 37, 3) := by decide +kernel
theorem dX4_meetingOf_9 : decode cX4_meetingOf 9 = .ok (.iconst 1, 1) := by decide +kernel
theorem dX4_meetingOf_10 : decode cX4_meetingOf 10 = .ok (.iadd, 1) := by decide +kernel
theorem dX4_meetingOf_11 : decode cX4_meetingOf 11 = .ok (.istore_n 3, 1) := by decide +kernel
theorem dX4_meetingOf_12 : decode cX4_meetingOf 12 = .ok (.aload_n 0, 1) := by decide +kernel
theorem dX4_meetingOf_13 : decode cX4_meetingOf 13 = .ok (.iload_n 1, 1) := by decide +kernel
theorem dX4_meetingOf_14 : decode cX4_meetingOf 14 = .ok (.iload_n 2, 1) := by decide +kernel
theorem dX4_meetingOf_15 : decode cX4_meetingOf 15 = .ok (.invokestatic 100, 3) := by decide +kernel
theorem dX4_meetingOf_18 : decode cX4_meetingOf 18 = .ok (.invokevirtual 37, 3) := by decide +kernel
theorem dX4_meetingOf_21 : decode cX4_meetingOf 21 = .ok (.iconst 1, 1) := by decide +kernel
theorem dX4_meetingOf_22 : decode cX4_meetingOf 22 = .ok (.iadd, 1) := by decide +kernel
theorem dX4_meetingOf_23 : decode cX4_meetingOf 23 = .ok (.istore 4, 2) := by decide +kernel
theorem dX4_meetingOf_25 : decode cX4_meetingOf 25 = .ok (.aload_n 0, 1) := by decide +kernel
theorem dX4_meetingOf_26 : decode cX4_meetingOf 26 = .ok (.getfield 12, 3) := by decide +kernel
theorem dX4_meetingOf_29 : decode cX4_meetingOf 29 = .ok (.iload_n 3, 1) := by decide +kernel
theorem dX4_meetingOf_30 : decode cX4_meetingOf 30 = .ok (.iload 4, 2) := by decide +kernel
theorem dX4_meetingOf_32 : decode cX4_meetingOf 32 = .ok (.iconst 0, 1) := by decide +kernel
theorem dX4_meetingOf_33 : decode cX4_meetingOf 33 = .ok (.invokevirtual 78, 3) := by decide +kernel
theorem dX4_meetingOf_36 : decode cX4_meetingOf 36 = .ok (.iconst 1, 1) := by decide +kernel
theorem dX4_meetingOf_37 : decode cX4_meetingOf 37 = .ok (.isub, 1) := by decide +kernel
theorem dX4_meetingOf_38 : decode cX4_meetingOf 38 = .ok (.istore 5, 2) := by decide +kernel
theorem dX4_meetingOf_40 : decode cX4_meetingOf 40 = .ok (.aload_n 0, 1) := by decide +kernel
theorem dX4_meetingOf_41 : decode cX4_meetingOf 41 = .ok (.getfield 12, 3) := by decide +kernel
theorem dX4_meetingOf_44 : decode cX4_meetingOf 44 = .ok (.aload_n 0, 1) := by decide +kernel
theorem dX4_meetingOf_45 : decode cX4_meetingOf 45 = .ok (.getfield 12, 3) := by decide +kernel
theorem dX4_meetingOf_48 : decode cX4_meetingOf 48 = .ok (.iload_n 3, 1) := by decide +kernel
theorem dX4_meetingOf_49 : decode cX4_meetingOf 49 = .ok (.iload 5, 2) := by decide +kernel
theorem dX4_meetingOf_51 : decode cX4_meetingOf 51 = .ok (.invokevirtual 56, 3) := by decide +kernel
theorem dX4_meetingOf_54 : decode cX4_meetingOf 54 = .ok (.invokevirtual 47, 3) := by decide +kernel
theorem dX4_meetingOf_57 : decode cX4_meetingOf 57 = .ok (.ireturn, 1) := by decide +kernel
set_option maxRecDepth 20000 in
theorem ggX4_firstOfDepth_X1_searchOn : GoodIn wsX4_firstOfDepth wsX1_searchOn := goodIn_r _ [6, 7, 8, 9, 10, 11, 5, 12, 13, 14, 15, 16, 17, 18, 19, 20, 21, 22, 23, 24, 25, 26, 27, 28, 29, 30, 31, 32, 33, 34, 35, 36, 44, 45, 46, 47, 48, 49] rfl (by decide +kernel)
set_option maxRecDepth 20000 in
theorem gX4_firstOfDepth_X1_searchOn : GoodIn wsX4_firstOfDepth (wsV RX4 53 RX1 yX1_searchOn wsX1_searchOn) := goodIn_app (goodIn_of _ (by decide +kernel)) ggX4_firstOfDepth_X1_searchOn
set_option maxRecDepth 20000 in
theorem ggX4_firstOfDepth_X1_opensAhead : GoodIn wsX4_firstOfDepth wsX1_opensAhead := goodIn_r _ [40, 9, 10, 11, 5, 12, 13, 14, 15, 16, 17, 18, 19, 20, 21, 22, 23, 24, 25, 26, 44, 45, 46, 47, 48, 49] rfl (by decide +kernel)
set_option maxRecDepth 20000 in
theorem gX4_firstOfDepth_X1_opensAhead : GoodIn wsX4_firstOfDepth (wsV RX4 47 RX1 yX1_opensAhead wsX1_opensAhead) := goodIn_app (goodIn_of _ (by decide +kernel)) ggX4_firstOfDepth_X1_opensAhead
theorem dX4_firstOfDepth_0 : decode cX4_firstOfDepth 0 = .ok (.aload_n 0, 1) := by decide +kernel
theorem dX4_firstOfDepth_1 : decode cX4_firstOfDepth 1 = .ok (.getfield 12, 3) := by decide +kernel
theorem dX4_firstOfDepth_4 : decode cX4_firstOfDepth 4 = .ok (.iload_n 2, 1) := by decide +kernel
theorem dX4_firstOfDepth_5 : decode cX4_firstOfDepth 5 = .ok (.iload_n 1, 1) := by decide +kernel
theorem dX4_firstOfDepth_6 : decode cX4_firstOfDepth 6 = .ok (.iconst 1, 1) := by decide +kernel
theorem dX4_firstOfDepth_7 : decode cX4_firstOfDepth 7 = .ok (.iadd, 1) := by decide +kernel
theorem dX4_firstOfDepth_8 : decode cX4_firstOfDepth 8 = .ok (.invokevirtual 53, 3) := by decide +kernel
theorem dX4_firstOfDepth_11 : decode cX4_firstOfDepth 11 = .ok (.istore_n 3, 1) := by decide +kernel
theorem dX4_firstOfDepth_12 : decode cX4_firstOfDepth 12 = .ok (.iload_n 3, 1) := by decide +kernel
theorem dX4_firstOfDepth_13 : decode cX4_firstOfDepth 13 = .ok (.bipush (-4), 2) := by decide +kernel
theorem dX4_firstOfDepth_15 : decode cX4_firstOfDepth 15 = .ok (.if_icmp .ne 8, 3) := by decide +kernel
theorem dX4_firstOfDepth_18 : decode cX4_firstOfDepth 18 = .ok (.bipush (-4), 2) := by decide +kernel
theorem dX4_firstOfDepth_20 : decode cX4_firstOfDepth 20 = .ok (.goto 13, 3) := by decide +kernel
theorem dX4_firstOfDepth_23 : decode cX4_firstOfDepth 23 = .ok (.aload_n 0, 1) := by decide +kernel
theorem dX4_firstOfDepth_24 : decode cX4_firstOfDepth 24 = .ok (.getfield 12, 3) := by decide +kernel
theorem dX4_firstOfDepth_27 : decode cX4_firstOfDepth 27 = .ok (.iload_n 3, 1) := by decide +kernel
theorem dX4_firstOfDepth_28 : decode cX4_firstOfDepth 28 = .ok (.iconst 1, 1) := by decide +kernel
theorem dX4_firstOfDepth_29 : decode cX4_firstOfDepth 29 = .ok (.isub, 1) := by decide +kernel
theorem dX4_firstOfDepth_30 : decode cX4_firstOfDepth 30 = .ok (.invokevirtual 47, 3) := by decide +kernel
theorem dX4_firstOfDepth_33 : decode cX4_firstOfDepth 33 = .ok (.ireturn, 1) := by decide +kernel
set_option maxRecDepth 20000 in
theorem ggX4_lastOfDepth_X1_searchBack : GoodIn wsX4_lastOfDepth wsX1_searchBack := goodIn_r _ [6, 7, 8, 9, 10, 5, 11, 12, 13, 14, 15, 16, 17, 18, 19, 20, 21, 22, 23, 24, 25, 26, 27, 28, 29, 30, 31, 32, 33, 34, 35, 63, 64, 65, 66, 67, 68] rfl (by decide +kernel)
set_option maxRecDepth 20000 in
theorem gX4_lastOfDepth_X1_searchBack : GoodIn wsX4_lastOfDepth (wsV RX4 56 RX1 yX1_searchBack wsX1_searchBack) := goodIn_app (goodIn_of _ (by decide +kernel)) ggX4_lastOfDepth_X1_searchBack
set_option maxRecDepth 20000 in
theorem ggX4_lastOfDepth_X4_nodeWithPlace : GoodIn wsX4_lastOfDepth wsX4_nodeWithPlace := goodIn_r _ [40, 1, 41, 42, 43, 5, 44, 12, 13, 45, 46, 47, 48, 49, 8, 9, 10, 11, 14, 15, 16, 17, 18, 19, 20, 21, 22, 23, 24, 25, 50, 51, 52, 53, 54, 7, 30, 31, 32, 33, 34, 35, 26, 27, 28, 29, 55, 3, 4, 6, 56, 57, 58, 59, 60, 61, 62, 63, 64, 65, 66, 67, 68] rfl (by decide +kernel)
set_option maxRecDepth 20000 in
theorem gX4_lastOfDepth_X4_nodeWithPlace : GoodIn wsX4_lastOfDepth (wsV RX4 62 RX4 yX4_nodeWithPlace wsX4_nodeWithPlace) := goodIn_app (goodIn_of _ (by decide +kernel)) ggX4_lastOfDepth_X4_nodeWithPlace
theorem dX4_lastOfDepth_0 : decode cX4_lastOfDepth 0 = .ok (.aload_n 0, 1) := by decide +kernel
theorem dX4_lastOfDepth_1 : decode cX4_lastOfDepth 1 = .ok (.getfield 12, 3) := by decide +kernel
theorem dX4_lastOfDepth_4 : decode cX4_lastOfDepth 4 = .ok (.iload_n 2, 1) := by decide +kernel
theorem dX4_lastOfDepth_5 : decode cX4_lastOfDepth 5 = .ok (.iload_n 1, 1) := by decide +kernel
theorem dX4_lastOfDepth_6 : decode cX4_lastOfDepth 6 = .ok (.iconst 1, 1) := by decide +kernel
theorem dX4_lastOfDepth_7 : decode cX4_lastOfDepth 7 = .ok (.iadd, 1) := by decide +kernel
theorem dX4_lastOfDepth_8 : decode cX4_lastOfDepth 8 = .ok (.invokevirtual 56, 3) := by decide +kernel
theorem dX4_lastOfDepth_11 : decode cX4_lastOfDepth 11 = .ok (.istore_n 3, 1) := by decide +kernel
theorem dX4_lastOfDepth_12 : decode cX4_lastOfDepth 12 = .ok (.iload_n 3, 1) := by decide +kernel
theorem dX4_lastOfDepth_13 : decode cX4_lastOfDepth 13 = .ok (.bipush (-4), 2) := by decide +kernel
theorem dX4_lastOfDepth_15 : decode cX4_lastOfDepth 15 = .ok (.if_icmp .ne 8, 3) := by decide +kernel
theorem dX4_lastOfDepth_18 : decode cX4_lastOfDepth 18 = .ok (.bipush (-4), 2) := by decide +kernel
theorem dX4_lastOfDepth_20 : decode cX4_lastOfDepth 20 = .ok (.goto 8, 3) := by decide +kernel
theorem dX4_lastOfDepth_23 : decode cX4_lastOfDepth 23 = .ok (.aload_n 0, 1) := by decide +kernel
theorem dX4_lastOfDepth_24 : decode cX4_lastOfDepth 24 = .ok (.iload_n 3, 1) := by decide +kernel
theorem dX4_lastOfDepth_25 : decode cX4_lastOfDepth 25 = .ok (.invokevirtual 62, 3) := by decide +kernel
theorem dX4_lastOfDepth_28 : decode cX4_lastOfDepth 28 = .ok (.ireturn, 1) := by decide +kernel
set_option maxRecDepth 20000 in
theorem ggX4_howManyOfDepth_X1_stepAt : GoodIn wsX4_howManyOfDepth wsX1_stepAt := goodIn_r _ [6, 7, 8, 12, 13, 14, 15, 16, 17] rfl (by decide +kernel)
set_option maxRecDepth 20000 in
theorem gX4_howManyOfDepth_X1_stepAt : GoodIn wsX4_howManyOfDepth (wsV RX4 103 RX1 yX1_stepAt wsX1_stepAt) := goodIn_app (goodIn_of _ (by decide +kernel)) ggX4_howManyOfDepth_X1_stepAt
theorem dX4_howManyOfDepth_0 : decode cX4_howManyOfDepth 0 = .ok (.iconst 0, 1) := by decide +kernel
theorem dX4_howManyOfDepth_1 : decode cX4_howManyOfDepth 1 = .ok (.istore_n 2, 1) := by decide +kernel
theorem dX4_howManyOfDepth_2 : decode cX4_howManyOfDepth 2 = .ok (.iconst 0, 1) := by decide +kernel
theorem dX4_howManyOfDepth_3 : decode cX4_howManyOfDepth 3 = .ok (.istore_n 3, 1) := by decide +kernel
theorem dX4_howManyOfDepth_4 : decode cX4_howManyOfDepth 4 = .ok (.iconst 0, 1) := by decide +kernel
theorem dX4_howManyOfDepth_5 : decode cX4_howManyOfDepth 5 = .ok (.istore 4, 2) := by decide +kernel
theorem dX4_howManyOfDepth_7 : decode cX4_howManyOfDepth 7 = .ok (.iload 4, 2) := by decide +kernel
theorem dX4_howManyOfDepth_9 : decode cX4_howManyOfDepth 9 = .ok (.aload_n 0, 1) := by decide +kernel
theorem dX4_howManyOfDepth_10 : decode cX4_howManyOfDepth 10 = .ok (.getfield 12, 3) := by decide +kernel
theorem dX4_howManyOfDepth_13 : decode cX4_howManyOfDepth 13 = .ok (.getfield 25, 3) := by decide +kernel
theorem dX4_howManyOfDepth_16 : decode cX4_howManyOfDepth 16 = .ok (.if_icmp .ge 39, 3) := by decide +kernel
theorem dX4_howManyOfDepth_19 : decode cX4_howManyOfDepth 19 = .ok (.aload_n 0, 1) := by decide +kernel
theorem dX4_howManyOfDepth_20 : decode cX4_howManyOfDepth 20 = .ok (.getfield 12, 3) := by decide +kernel
theorem dX4_howManyOfDepth_23 : decode cX4_howManyOfDepth 23 = .ok (.iload 4, 2) := by decide +kernel
theorem dX4_howManyOfDepth_25 : decode cX4_howManyOfDepth 25 = .ok (.invokevirtual 103, 3) := by decide +kernel
theorem dX4_howManyOfDepth_28 : decode cX4_howManyOfDepth 28 = .ok (.istore 5, 2) := by decide +kernel
theorem dX4_howManyOfDepth_30 : decode cX4_howManyOfDepth 30 = .ok (.iload 5, 2) := by decide +kernel
theorem dX4_howManyOfDepth_32 : decode cX4_howManyOfDepth 32 = .ok (.iconst 1, 1) := by decide +kernel
theorem dX4_howManyOfDepth_33 : decode cX4_howManyOfDepth 33 = .ok (.if_icmp .ne 11, 3) := by decide +kernel
theorem dX4_howManyOfDepth_36 : decode cX4_howManyOfDepth 36 = .ok (.iload_n 3, 1) := by decide +kernel
theorem dX4_howManyOfDepth_37 : decode cX4_howManyOfDepth 37 = .ok (.iload_n 1, 1) := by decide +kernel
theorem dX4_howManyOfDepth_38 : decode cX4_howManyOfDepth 38 = .ok (.if_icmp .ne 6, 3) := by decide +kernel
theorem dX4_howManyOfDepth_41 : decode cX4_howManyOfDepth 41 = .ok (.iinc 2 1, 3) := by decide +kernel
theorem dX4_howManyOfDepth_44 : decode cX4_howManyOfDepth 44 = .ok (.iload_n 3, 1) := by decide +kernel
theorem dX4_howManyOfDepth_45 : decode cX4_howManyOfDepth 45 = .ok (.iload 5, 2) := by decide +kernel
theorem dX4_howManyOfDepth_47 : decode cX4_howManyOfDepth 47 = .ok (.iadd, 1) := by decide +kernel
theorem dX4_howManyOfDepth_48 : decode cX4_howManyOfDepth 48 = .ok (.istore_n 3, 1) := by decide +kernel
theorem dX4_howManyOfDepth_49 : decode cX4_howManyOfDepth 49 = .ok (.iinc 4 1, 3) := by decide +kernel
theorem dX4_howManyOfDepth_52 : decode cX4_howManyOfDepth 52 = .ok (.goto (-45), 3) := by decide +kernel
theorem dX4_howManyOfDepth_55 : decode cX4_howManyOfDepth 55 = .ok (.iload_n 2, 1) := by decide +kernel
theorem dX4_howManyOfDepth_56 : decode cX4_howManyOfDepth 56 = .ok (.ireturn, 1) := by decide +kernel
set_option maxRecDepth 20000 in
theorem ggX4_weightBelow_X4_nodesOf : GoodIn wsX4_weightBelow wsX4_nodesOf := goodIn_r _ [10, 11, 12, 13, 14, 9, 15, 16, 17, 18, 19, 20, 21, 22, 23, 24, 25, 26, 27, 28, 29, 30, 31, 32, 33, 34, 35, 36, 37, 38, 39, 40, 41, 42, 43, 44, 45, 46, 47, 48, 49, 50, 51, 52, 53, 54, 55, 56, 57, 58, 59, 60, 61, 62, 63, 64, 65, 66, 67, 68, 69, 70, 71, 72, 73, 74, 75, 76, 77, 78, 79, 80, 81, 82, 83, 84, 85, 86, 87, 88, 89, 90, 91, 92, 93, 94] rfl (by decide +kernel)
set_option maxRecDepth 20000 in
theorem gX4_weightBelow_X4_nodesOf : GoodIn wsX4_weightBelow (wsV RX4 85 RX4 yX4_nodesOf wsX4_nodesOf) := goodIn_app (goodIn_of _ (by decide +kernel)) ggX4_weightBelow_X4_nodesOf
theorem dX4_weightBelow_0 : decode cX4_weightBelow 0 = .ok (.iload_n 1, 1) := by decide +kernel
theorem dX4_weightBelow_1 : decode cX4_weightBelow 1 = .ok (.aload_n 0, 1) := by decide +kernel
theorem dX4_weightBelow_2 : decode cX4_weightBelow 2 = .ok (.iload_n 1, 1) := by decide +kernel
theorem dX4_weightBelow_3 : decode cX4_weightBelow 3 = .ok (.invokevirtual 85, 3) := by decide +kernel
theorem dX4_weightBelow_6 : decode cX4_weightBelow 6 = .ok (.iadd, 1) := by decide +kernel
theorem dX4_weightBelow_7 : decode cX4_weightBelow 7 = .ok (.bipush 64, 2) := by decide +kernel
theorem dX4_weightBelow_9 : decode cX4_weightBelow 9 = .ok (.invokestatic 95, 3) := by decide +kernel
theorem dX4_weightBelow_12 : decode cX4_weightBelow 12 = .ok (.istore_n 2, 1) := by decide +kernel
theorem dX4_weightBelow_13 : decode cX4_weightBelow 13 = .ok (.lconst 0, 1) := by decide +kernel
theorem dX4_weightBelow_14 : decode cX4_weightBelow 14 = .ok (.lstore_n 3, 1) := by decide +kernel
theorem dX4_weightBelow_15 : decode cX4_weightBelow 15 = .ok (.iload_n 1, 1) := by decide +kernel
theorem dX4_weightBelow_16 : decode cX4_weightBelow 16 = .ok (.istore 5, 2) := by decide +kernel
theorem dX4_weightBelow_18 : decode cX4_weightBelow 18 = .ok (.iload 5, 2) := by decide +kernel
theorem dX4_weightBelow_20 : decode cX4_weightBelow 20 = .ok (.iload_n 2, 1) := by decide +kernel
theorem dX4_weightBelow_21 : decode cX4_weightBelow 21 = .ok (.if_icmp .ge 20, 3) := by decide +kernel
theorem dX4_weightBelow_24 : decode cX4_weightBelow 24 = .ok (.lload_n 3, 1) := by decide +kernel
theorem dX4_weightBelow_25 : decode cX4_weightBelow 25 = .ok (.aload_n 0, 1) := by decide +kernel
theorem dX4_weightBelow_26 : decode cX4_weightBelow 26 = .ok (.getfield 18, 3) := by decide +kernel
theorem dX4_weightBelow_29 : decode cX4_weightBelow 29 = .ok (.iload 5, 2) := by decide +kernel
theorem dX4_weightBelow_31 : decode cX4_weightBelow 31 = .ok (.iaload, 1) := by decide +kernel
theorem dX4_weightBelow_32 : decode cX4_weightBelow 32 = .ok (.i2l, 1) := by decide +kernel
theorem dX4_weightBelow_33 : decode cX4_weightBelow 33 = .ok (.ladd, 1) := by decide +kernel
theorem dX4_weightBelow_34 : decode cX4_weightBelow 34 = .ok (.lstore_n 3, 1) := by decide +kernel
theorem dX4_weightBelow_35 : decode cX4_weightBelow 35 = .ok (.iinc 5 1, 3) := by decide +kernel
theorem dX4_weightBelow_38 : decode cX4_weightBelow 38 = .ok (.goto (-20), 3) := by decide +kernel
theorem dX4_weightBelow_41 : decode cX4_weightBelow 41 = .ok (.lload_n 3, 1) := by decide +kernel
theorem dX4_weightBelow_42 : decode cX4_weightBelow 42 = .ok (.lreturn, 1) := by decide +kernel
set_option maxRecDepth 20000 in
theorem ggX4_weightAbove_X4_has : GoodIn wsX4_weightAbove wsX4_has := goodIn_r _ [6, 7, 8, 9, 5, 10, 11, 83, 84, 85, 86, 87, 88, 89, 90, 91] rfl (by decide +kernel)
set_option maxRecDepth 20000 in
theorem gX4_weightAbove_X4_has : GoodIn wsX4_weightAbove (wsV RX4 106 RX4 yX4_has wsX4_has) := goodIn_app (goodIn_of _ (by decide +kernel)) ggX4_weightAbove_X4_has
set_option maxRecDepth 20000 in
theorem ggX4_weightAbove_X4_aboveBy : GoodIn wsX4_weightAbove wsX4_aboveBy := goodIn_r _ [15, 11, 16, 17, 18, 5, 19, 20, 21, 22, 23, 24, 25, 26, 27, 28, 29, 30, 31, 32, 33, 34, 35, 36, 37, 38, 39, 40, 41, 42, 43, 44, 45, 46, 47, 48, 49, 50, 51, 52, 53, 54, 55, 56, 57, 58, 59, 60, 61, 62, 63, 64, 65, 66, 67, 68, 69, 70, 71, 72, 73, 74, 75, 76, 77, 78, 79, 80, 81, 82, 83, 84, 85, 86, 87, 88, 89, 90, 91] rfl (by decide +kernel)
set_option maxRecDepth 20000 in
theorem gX4_weightAbove_X4_aboveBy : GoodIn wsX4_weightAbove (wsV RX4 72 RX4 yX4_aboveBy wsX4_aboveBy) := goodIn_app (goodIn_of _ (by decide +kernel)) ggX4_weightAbove_X4_aboveBy
theorem dX4_weightAbove_0 : decode cX4_weightAbove 0 = .ok (.lconst 0, 1) := by decide +kernel
theorem dX4_weightAbove_1 : decode cX4_weightAbove 1 = .ok (.lstore_n 2, 1) := by decide +kernel
theorem dX4_weightAbove_2 : decode cX4_weightAbove 2 = .ok (.iload_n 1, 1) := by decide +kernel
theorem dX4_weightAbove_3 : decode cX4_weightAbove 3 = .ok (.istore 4, 2) := by decide +kernel
theorem dX4_weightAbove_5 : decode cX4_weightAbove 5 = .ok (.iconst 0, 1) := by decide +kernel
theorem dX4_weightAbove_6 : decode cX4_weightAbove 6 = .ok (.istore 5, 2) := by decide +kernel
theorem dX4_weightAbove_8 : decode cX4_weightAbove 8 = .ok (.iload 5, 2) := by decide +kernel
theorem dX4_weightAbove_10 : decode cX4_weightAbove 10 = .ok (.bipush 64, 2) := by decide +kernel
theorem dX4_weightAbove_12 : decode cX4_weightAbove 12 = .ok (.if_icmp .ge 38, 3) := by decide +kernel
theorem dX4_weightAbove_15 : decode cX4_weightAbove 15 = .ok (.aload_n 0, 1) := by decide +kernel
theorem dX4_weightAbove_16 : decode cX4_weightAbove 16 = .ok (.iload 4, 2) := by decide +kernel
theorem dX4_weightAbove_18 : decode cX4_weightAbove 18 = .ok (.invokevirtual 106, 3) := by decide +kernel
theorem dX4_weightAbove_21 : decode cX4_weightAbove 21 = .ok (.ifCond .eq 29, 3) := by decide +kernel
theorem dX4_weightAbove_24 : decode cX4_weightAbove 24 = .ok (.lload_n 2, 1) := by decide +kernel
theorem dX4_weightAbove_25 : decode cX4_weightAbove 25 = .ok (.aload_n 0, 1) := by decide +kernel
theorem dX4_weightAbove_26 : decode cX4_weightAbove 26 = .ok (.getfield 18, 3) := by decide +kernel
theorem dX4_weightAbove_29 : decode cX4_weightAbove 29 = .ok (.iload 4, 2) := by decide +kernel
theorem dX4_weightAbove_31 : decode cX4_weightAbove 31 = .ok (.iaload, 1) := by decide +kernel
theorem dX4_weightAbove_32 : decode cX4_weightAbove 32 = .ok (.i2l, 1) := by decide +kernel
theorem dX4_weightAbove_33 : decode cX4_weightAbove 33 = .ok (.ladd, 1) := by decide +kernel
theorem dX4_weightAbove_34 : decode cX4_weightAbove 34 = .ok (.lstore_n 2, 1) := by decide +kernel
theorem dX4_weightAbove_35 : decode cX4_weightAbove 35 = .ok (.aload_n 0, 1) := by decide +kernel
theorem dX4_weightAbove_36 : decode cX4_weightAbove 36 = .ok (.iload 4, 2) := by decide +kernel
theorem dX4_weightAbove_38 : decode cX4_weightAbove 38 = .ok (.iconst 1, 1) := by decide +kernel
theorem dX4_weightAbove_39 : decode cX4_weightAbove 39 = .ok (.invokevirtual 72, 3) := by decide +kernel
theorem dX4_weightAbove_42 : decode cX4_weightAbove 42 = .ok (.istore 4, 2) := by decide +kernel
theorem dX4_weightAbove_44 : decode cX4_weightAbove 44 = .ok (.iinc 5 1, 3) := by decide +kernel
theorem dX4_weightAbove_47 : decode cX4_weightAbove 47 = .ok (.goto (-39), 3) := by decide +kernel
theorem dX4_weightAbove_50 : decode cX4_weightAbove 50 = .ok (.lload_n 2, 1) := by decide +kernel
theorem dX4_weightAbove_51 : decode cX4_weightAbove 51 = .ok (.lreturn, 1) := by decide +kernel
set_option maxRecDepth 20000 in
theorem ggX4_heaviestOf_X4_nodesOf : GoodIn wsX4_heaviestOf wsX4_nodesOf := goodIn_r _ [10, 11, 12, 13, 14, 9, 15, 16, 17, 18, 19, 20, 21, 22, 23, 24, 25, 26, 27, 28, 29, 30, 31, 32, 33, 34, 35, 36, 37, 38, 39, 40, 41, 42, 43, 44, 45, 46, 47, 48, 49, 50, 51, 52, 53, 54, 55, 56, 57, 58, 59, 60, 61, 62, 63, 64, 65, 66, 67, 68, 69, 70, 71, 72, 73, 74, 75, 76, 77, 78, 79, 80, 81, 82, 83, 84, 85, 86, 87, 88, 89, 90, 91, 92, 93, 94] rfl (by decide +kernel)
set_option maxRecDepth 20000 in
theorem gX4_heaviestOf_X4_nodesOf : GoodIn wsX4_heaviestOf (wsV RX4 85 RX4 yX4_nodesOf wsX4_nodesOf) := goodIn_app (goodIn_of _ (by decide +kernel)) ggX4_heaviestOf_X4_nodesOf
theorem dX4_heaviestOf_0 : decode cX4_heaviestOf 0 = .ok (.iload_n 1, 1) := by decide +kernel
theorem dX4_heaviestOf_1 : decode cX4_heaviestOf 1 = .ok (.aload_n 0, 1) := by decide +kernel
theorem dX4_heaviestOf_2 : decode cX4_heaviestOf 2 = .ok (.iload_n 1, 1) := by decide +kernel
theorem dX4_heaviestOf_3 : decode cX4_heaviestOf 3 = .ok (.invokevirtual 85, 3) := by decide +kernel
theorem dX4_heaviestOf_6 : decode cX4_heaviestOf 6 = .ok (.iadd, 1) := by decide +kernel
theorem dX4_heaviestOf_7 : decode cX4_heaviestOf 7 = .ok (.bipush 64, 2) := by decide +kernel
theorem dX4_heaviestOf_9 : decode cX4_heaviestOf 9 = .ok (.invokestatic 95, 3) := by decide +kernel
theorem dX4_heaviestOf_12 : decode cX4_heaviestOf 12 = .ok (.istore_n 2, 1) := by decide +kernel
theorem dX4_heaviestOf_13 : decode cX4_heaviestOf 13 = .ok (.iload_n 1, 1) := by decide +kernel
theorem dX4_heaviestOf_14 : decode cX4_heaviestOf 14 = .ok (.istore_n 3, 1) := by decide +kernel
theorem dX4_heaviestOf_15 : decode cX4_heaviestOf 15 = .ok (.iload_n 1, 1) := by decide +kernel
theorem dX4_heaviestOf_16 : decode cX4_heaviestOf 16 = .ok (.iconst 1, 1) := by decide +kernel
theorem dX4_heaviestOf_17 : decode cX4_heaviestOf 17 = .ok (.iadd, 1) := by decide +kernel
theorem dX4_heaviestOf_18 : decode cX4_heaviestOf 18 = .ok (.istore 4, 2) := by decide +kernel
theorem dX4_heaviestOf_20 : decode cX4_heaviestOf 20 = .ok (.iload 4, 2) := by decide +kernel
theorem dX4_heaviestOf_22 : decode cX4_heaviestOf 22 = .ok (.iload_n 2, 1) := by decide +kernel
theorem dX4_heaviestOf_23 : decode cX4_heaviestOf 23 = .ok (.if_icmp .ge 28, 3) := by decide +kernel
theorem dX4_heaviestOf_26 : decode cX4_heaviestOf 26 = .ok (.aload_n 0, 1) := by decide +kernel
theorem dX4_heaviestOf_27 : decode cX4_heaviestOf 27 = .ok (.getfield 18, 3) := by decide +kernel
theorem dX4_heaviestOf_30 : decode cX4_heaviestOf 30 = .ok (.iload 4, 2) := by decide +kernel
theorem dX4_heaviestOf_32 : decode cX4_heaviestOf 32 = .ok (.iaload, 1) := by decide +kernel
theorem dX4_heaviestOf_33 : decode cX4_heaviestOf 33 = .ok (.aload_n 0, 1) := by decide +kernel
theorem dX4_heaviestOf_34 : decode cX4_heaviestOf 34 = .ok (.getfield 18, 3) := by decide +kernel
theorem dX4_heaviestOf_37 : decode cX4_heaviestOf 37 = .ok (.iload_n 3, 1) := by decide +kernel
theorem dX4_heaviestOf_38 : decode cX4_heaviestOf 38 = .ok (.iaload, 1) := by decide +kernel
theorem dX4_heaviestOf_39 : decode cX4_heaviestOf 39 = .ok (.if_icmp .le 6, 3) := by decide +kernel
theorem dX4_heaviestOf_42 : decode cX4_heaviestOf 42 = .ok (.iload 4, 2) := by decide +kernel
theorem dX4_heaviestOf_44 : decode cX4_heaviestOf 44 = .ok (.istore_n 3, 1) := by decide +kernel
theorem dX4_heaviestOf_45 : decode cX4_heaviestOf 45 = .ok (.iinc 4 1, 3) := by decide +kernel
theorem dX4_heaviestOf_48 : decode cX4_heaviestOf 48 = .ok (.goto (-28), 3) := by decide +kernel
theorem dX4_heaviestOf_51 : decode cX4_heaviestOf 51 = .ok (.iload_n 3, 1) := by decide +kernel
theorem dX4_heaviestOf_52 : decode cX4_heaviestOf 52 = .ok (.ireturn, 1) := by decide +kernel
theorem dX4_forgetWeights_0 : decode cX4_forgetWeights 0 = .ok (.iconst 0, 1) := by decide +kernel
theorem dX4_forgetWeights_1 : decode cX4_forgetWeights 1 = .ok (.istore_n 1, 1) := by decide +kernel
theorem dX4_forgetWeights_2 : decode cX4_forgetWeights 2 = .ok (.iload_n 1, 1) := by decide +kernel
theorem dX4_forgetWeights_3 : decode cX4_forgetWeights 3 = .ok (.bipush 64, 2) := by decide +kernel
theorem dX4_forgetWeights_5 : decode cX4_forgetWeights 5 = .ok (.if_icmp .ge 16, 3) := by decide +kernel
theorem dX4_forgetWeights_8 : decode cX4_forgetWeights 8 = .ok (.aload_n 0, 1) := by decide +kernel
theorem dX4_forgetWeights_9 : decode cX4_forgetWeights 9 = .ok (.getfield 18, 3) := by decide +kernel
theorem dX4_forgetWeights_12 : decode cX4_forgetWeights 12 = .ok (.iload_n 1, 1) := by decide +kernel
theorem dX4_forgetWeights_13 : decode cX4_forgetWeights 13 = .ok (.iconst 0, 1) := by decide +kernel
theorem dX4_forgetWeights_14 : decode cX4_forgetWeights 14 = .ok (.iastore, 1) := by decide +kernel
theorem dX4_forgetWeights_15 : decode cX4_forgetWeights 15 = .ok (.iinc 1 1, 3) := by decide +kernel
theorem dX4_forgetWeights_18 : decode cX4_forgetWeights 18 = .ok (.goto (-16), 3) := by decide +kernel
theorem dX4_forgetWeights_21 : decode cX4_forgetWeights 21 = .ok (.return_, 1) := by decide +kernel
set_option maxRecDepth 20000 in
theorem ggX4_openWeights_X4_nodes : GoodIn wsX4_openWeights wsX4_nodes := goodIn_r _ [10, 11, 12, 13, 14, 15, 16, 17, 18, 19, 20] rfl (by decide +kernel)
set_option maxRecDepth 20000 in
theorem gX4_openWeights_X4_nodes : GoodIn wsX4_openWeights (wsV RX4 29 RX4 yX4_nodes wsX4_nodes) := goodIn_app (goodIn_of _ (by decide +kernel)) ggX4_openWeights_X4_nodes
theorem dX4_openWeights_0 : decode cX4_openWeights 0 = .ok (.aload_n 0, 1) := by decide +kernel
theorem dX4_openWeights_1 : decode cX4_openWeights 1 = .ok (.getfield 18, 3) := by decide +kernel
theorem dX4_openWeights_4 : decode cX4_openWeights 4 = .ok (.iload_n 1, 1) := by decide +kernel
theorem dX4_openWeights_5 : decode cX4_openWeights 5 = .ok (.aload_n 0, 1) := by decide +kernel
theorem dX4_openWeights_6 : decode cX4_openWeights 6 = .ok (.getfield 18, 3) := by decide +kernel
theorem dX4_openWeights_9 : decode cX4_openWeights 9 = .ok (.iload_n 1, 1) := by decide +kernel
theorem dX4_openWeights_10 : decode cX4_openWeights 10 = .ok (.iload_n 2, 1) := by decide +kernel
theorem dX4_openWeights_11 : decode cX4_openWeights 11 = .ok (.iadd, 1) := by decide +kernel
theorem dX4_openWeights_12 : decode cX4_openWeights 12 = .ok (.aload_n 0, 1) := by decide +kernel
theorem dX4_openWeights_13 : decode cX4_openWeights 13 = .ok (.invokevirtual 29, 3) := by decide +kernel
theorem dX4_openWeights_16 : decode cX4_openWeights 16 = .ok (.iload_n 1, 1) := by decide +kernel
theorem dX4_openWeights_17 : decode cX4_openWeights 17 = .ok (.isub, 1) := by decide +kernel
theorem dX4_openWeights_18 : decode cX4_openWeights 18 = .ok (.invokestatic 110, 3) := by decide +kernel
theorem dX4_openWeights_21 : decode cX4_openWeights 21 = .ok (.return_, 1) := by decide +kernel
set_option maxRecDepth 20000 in
theorem ggX4_closeWeights_X4_nodes : GoodIn wsX4_closeWeights wsX4_nodes := goodIn_r _ [10, 11, 12, 13, 14, 15, 16, 17, 18, 19, 20] rfl (by decide +kernel)
set_option maxRecDepth 20000 in
theorem gX4_closeWeights_X4_nodes : GoodIn wsX4_closeWeights (wsV RX4 29 RX4 yX4_nodes wsX4_nodes) := goodIn_app (goodIn_of _ (by decide +kernel)) ggX4_closeWeights_X4_nodes
theorem dX4_closeWeights_0 : decode cX4_closeWeights 0 = .ok (.aload_n 0, 1) := by decide +kernel
theorem dX4_closeWeights_1 : decode cX4_closeWeights 1 = .ok (.getfield 18, 3) := by decide +kernel
theorem dX4_closeWeights_4 : decode cX4_closeWeights 4 = .ok (.iload_n 1, 1) := by decide +kernel
theorem dX4_closeWeights_5 : decode cX4_closeWeights 5 = .ok (.iload_n 2, 1) := by decide +kernel
theorem dX4_closeWeights_6 : decode cX4_closeWeights 6 = .ok (.iadd, 1) := by decide +kernel
theorem dX4_closeWeights_7 : decode cX4_closeWeights 7 = .ok (.aload_n 0, 1) := by decide +kernel
theorem dX4_closeWeights_8 : decode cX4_closeWeights 8 = .ok (.getfield 18, 3) := by decide +kernel
theorem dX4_closeWeights_11 : decode cX4_closeWeights 11 = .ok (.iload_n 1, 1) := by decide +kernel
theorem dX4_closeWeights_12 : decode cX4_closeWeights 12 = .ok (.aload_n 0, 1) := by decide +kernel
theorem dX4_closeWeights_13 : decode cX4_closeWeights 13 = .ok (.invokevirtual 29, 3) := by decide +kernel
theorem dX4_closeWeights_16 : decode cX4_closeWeights 16 = .ok (.iload_n 1, 1) := by decide +kernel
theorem dX4_closeWeights_17 : decode cX4_closeWeights 17 = .ok (.isub, 1) := by decide +kernel
theorem dX4_closeWeights_18 : decode cX4_closeWeights 18 = .ok (.iload_n 2, 1) := by decide +kernel
theorem dX4_closeWeights_19 : decode cX4_closeWeights 19 = .ok (.isub, 1) := by decide +kernel
theorem dX4_closeWeights_20 : decode cX4_closeWeights 20 = .ok (.invokestatic 110, 3) := by decide +kernel
theorem dX4_closeWeights_23 : decode cX4_closeWeights 23 = .ok (.return_, 1) := by decide +kernel
set_option maxRecDepth 20000 in
theorem ggX4_addLeafAt_X1_opensAhead : GoodIn wsX4_addLeafAt wsX1_opensAhead := goodIn_r _ [7, 8, 9, 10, 6, 11, 12, 13, 14, 15, 16, 17, 18, 19, 20, 21, 22, 23, 24, 25, 76, 77, 78, 79, 80, 81] rfl (by decide +kernel)
set_option maxRecDepth 20000 in
theorem gX4_addLeafAt_X1_opensAhead : GoodIn wsX4_addLeafAt (wsV RX4 47 RX1 yX1_opensAhead wsX1_opensAhead) := goodIn_app (goodIn_of _ (by decide +kernel)) ggX4_addLeafAt_X1_opensAhead
set_option maxRecDepth 20000 in
theorem ggX4_addLeafAt_X4_openWeights : GoodIn wsX4_addLeafAt wsX4_openWeights := goodIn_r _ [30, 2, 31, 32, 33, 34, 35, 36, 37, 29, 38, 1, 73, 74, 75, 76, 77, 78, 79, 80, 81] rfl (by decide +kernel)
set_option maxRecDepth 20000 in
theorem gX4_addLeafAt_X4_openWeights : GoodIn wsX4_addLeafAt (wsV RX4 116 RX4 yX4_openWeights wsX4_openWeights) := goodIn_app (goodIn_of _ (by decide +kernel)) ggX4_addLeafAt_X4_openWeights
set_option maxRecDepth 20000 in
theorem ggX4_addLeafAt_X1_insert : GoodIn wsX4_addLeafAt wsX1_insert := goodIn_r _ [42, 12, 43, 13, 44, 14, 15, 16, 17, 18, 45, 46, 47, 48, 49, 50, 51, 52, 53, 6, 54, 55, 56, 57, 58, 59, 60, 61, 62, 63, 64, 65, 66, 67, 68, 69, 70, 71, 72, 76, 77, 78, 79, 80, 81] rfl (by decide +kernel)
set_option maxRecDepth 20000 in
theorem gX4_addLeafAt_X1_insert : GoodIn wsX4_addLeafAt (wsV RX4 120 RX1 yX1_insert wsX1_insert) := goodIn_app (goodIn_of _ (by decide +kernel)) ggX4_addLeafAt_X1_insert
theorem dX4_addLeafAt_0 : decode cX4_addLeafAt 0 = .ok (.aload_n 0, 1) := by decide +kernel
theorem dX4_addLeafAt_1 : decode cX4_addLeafAt 1 = .ok (.getfield 12, 3) := by decide +kernel
theorem dX4_addLeafAt_4 : decode cX4_addLeafAt 4 = .ok (.iload_n 1, 1) := by decide +kernel
theorem dX4_addLeafAt_5 : decode cX4_addLeafAt 5 = .ok (.invokevirtual 47, 3) := by decide +kernel
theorem dX4_addLeafAt_8 : decode cX4_addLeafAt 8 = .ok (.istore_n 3, 1) := by decide +kernel
theorem dX4_addLeafAt_9 : decode cX4_addLeafAt 9 = .ok (.aload_n 0, 1) := by decide +kernel
theorem dX4_addLeafAt_10 : decode cX4_addLeafAt 10 = .ok (.iload_n 3, 1) := by decide +kernel
theorem dX4_addLeafAt_11 : decode cX4_addLeafAt 11 = .ok (.iconst 1, 1) := by decide +kernel
theorem dX4_addLeafAt_12 : decode cX4_addLeafAt 12 = .ok (.invokevirtual 116, 3) := by decide +kernel
theorem dX4_addLeafAt_15 : decode cX4_addLeafAt 15 = .ok (.aload_n 0, 1) := by decide +kernel
theorem dX4_addLeafAt_16 : decode cX4_addLeafAt 16 = .ok (.getfield 18, 3) := by decide +kernel
theorem dX4_addLeafAt_19 : decode cX4_addLeafAt 19 = .ok (.iload_n 3, 1) := by decide +kernel
theorem dX4_addLeafAt_20 : decode cX4_addLeafAt 20 = .ok (.iload_n 2, 1) := by decide +kernel
theorem dX4_addLeafAt_21 : decode cX4_addLeafAt 21 = .ok (.iastore, 1) := by decide +kernel
theorem dX4_addLeafAt_22 : decode cX4_addLeafAt 22 = .ok (.aload_n 0, 1) := by decide +kernel
theorem dX4_addLeafAt_23 : decode cX4_addLeafAt 23 = .ok (.getfield 12, 3) := by decide +kernel
theorem dX4_addLeafAt_26 : decode cX4_addLeafAt 26 = .ok (.iload_n 1, 1) := by decide +kernel
theorem dX4_addLeafAt_27 : decode cX4_addLeafAt 27 = .ok (.iconst 2, 1) := by decide +kernel
theorem dX4_addLeafAt_28 : decode cX4_addLeafAt 28 = .ok (.lconst 1, 1) := by decide +kernel
theorem dX4_addLeafAt_29 : decode cX4_addLeafAt 29 = .ok (.lconst 0, 1) := by decide +kernel
theorem dX4_addLeafAt_30 : decode cX4_addLeafAt 30 = .ok (.invokevirtual 120, 3) := by decide +kernel
theorem dX4_addLeafAt_33 : decode cX4_addLeafAt 33 = .ok (.iload_n 3, 1) := by decide +kernel
theorem dX4_addLeafAt_34 : decode cX4_addLeafAt 34 = .ok (.ireturn, 1) := by decide +kernel
set_option maxRecDepth 20000 in
theorem ggX4_addAbout_X1_opensAhead : GoodIn wsX4_addAbout wsX1_opensAhead := goodIn_r _ [7, 8, 9, 10, 6, 11, 12, 13, 14, 15, 16, 17, 18, 19, 20, 21, 22, 23, 24, 25, 76, 77, 78, 79, 80, 81] rfl (by decide +kernel)
set_option maxRecDepth 20000 in
theorem gX4_addAbout_X1_opensAhead : GoodIn wsX4_addAbout (wsV RX4 47 RX1 yX1_opensAhead wsX1_opensAhead) := goodIn_app (goodIn_of _ (by decide +kernel)) ggX4_addAbout_X1_opensAhead
set_option maxRecDepth 20000 in
theorem ggX4_addAbout_X4_openWeights : GoodIn wsX4_addAbout wsX4_openWeights := goodIn_r _ [30, 2, 31, 32, 33, 34, 35, 36, 37, 29, 38, 1, 73, 74, 75, 76, 77, 78, 79, 80, 81] rfl (by decide +kernel)
set_option maxRecDepth 20000 in
theorem gX4_addAbout_X4_openWeights : GoodIn wsX4_addAbout (wsV RX4 116 RX4 yX4_openWeights wsX4_openWeights) := goodIn_app (goodIn_of _ (by decide +kernel)) ggX4_addAbout_X4_openWeights
set_option maxRecDepth 20000 in
theorem ggX4_addAbout_X1_insert : GoodIn wsX4_addAbout wsX1_insert := goodIn_r _ [42, 12, 43, 13, 44, 14, 15, 16, 17, 18, 45, 46, 47, 48, 49, 50, 51, 52, 53, 6, 54, 55, 56, 57, 58, 59, 60, 61, 62, 63, 64, 65, 66, 67, 68, 69, 70, 71, 72, 76, 77, 78, 79, 80, 81] rfl (by decide +kernel)
set_option maxRecDepth 20000 in
theorem gX4_addAbout_X1_insert : GoodIn wsX4_addAbout (wsV RX4 120 RX1 yX1_insert wsX1_insert) := goodIn_app (goodIn_of _ (by decide +kernel)) ggX4_addAbout_X1_insert
theorem dX4_addAbout_0 : decode cX4_addAbout 0 = .ok (.aload_n 0, 1) := by decide +kernel
theorem dX4_addAbout_1 : decode cX4_addAbout 1 = .ok (.getfield 12, 3) := by decide +kernel
theorem dX4_addAbout_4 : decode cX4_addAbout 4 = .ok (.iload_n 1, 1) := by decide +kernel
theorem dX4_addAbout_5 : decode cX4_addAbout 5 = .ok (.invokevirtual 47, 3) := by decide +kernel
theorem dX4_addAbout_8 : decode cX4_addAbout 8 = .ok (.istore 4, 2) := by decide +kernel
theorem dX4_addAbout_10 : decode cX4_addAbout 10 = .ok (.aload_n 0, 1) := by decide +kernel
theorem dX4_addAbout_11 : decode cX4_addAbout 11 = .ok (.iload 4, 2) := by decide +kernel
theorem dX4_addAbout_13 : decode cX4_addAbout 13 = .ok (.iconst 1, 1) := by decide +kernel
theorem dX4_addAbout_14 : decode cX4_addAbout 14 = .ok (.invokevirtual 116, 3) := by decide +kernel
theorem dX4_addAbout_17 : decode cX4_addAbout 17 = .ok (.aload_n 0, 1) := by decide +kernel
theorem dX4_addAbout_18 : decode cX4_addAbout 18 = .ok (.getfield 18, 3) := by decide +kernel
theorem dX4_addAbout_21 : decode cX4_addAbout 21 = .ok (.iload 4, 2) := by decide +kernel
theorem dX4_addAbout_23 : decode cX4_addAbout 23 = .ok (.iload_n 3, 1) := by decide +kernel
theorem dX4_addAbout_24 : decode cX4_addAbout 24 = .ok (.iastore, 1) := by decide +kernel
theorem dX4_addAbout_25 : decode cX4_addAbout 25 = .ok (.aload_n 0, 1) := by decide +kernel
theorem dX4_addAbout_26 : decode cX4_addAbout 26 = .ok (.getfield 12, 3) := by decide +kernel
theorem dX4_addAbout_29 : decode cX4_addAbout 29 = .ok (.iload_n 2, 1) := by decide +kernel
theorem dX4_addAbout_30 : decode cX4_addAbout 30 = .ok (.iconst 1, 1) := by decide +kernel
theorem dX4_addAbout_31 : decode cX4_addAbout 31 = .ok (.lconst 0, 1) := by decide +kernel
theorem dX4_addAbout_32 : decode cX4_addAbout 32 = .ok (.lconst 0, 1) := by decide +kernel
theorem dX4_addAbout_33 : decode cX4_addAbout 33 = .ok (.invokevirtual 120, 3) := by decide +kernel
theorem dX4_addAbout_36 : decode cX4_addAbout 36 = .ok (.aload_n 0, 1) := by decide +kernel
theorem dX4_addAbout_37 : decode cX4_addAbout 37 = .ok (.getfield 12, 3) := by decide +kernel
theorem dX4_addAbout_40 : decode cX4_addAbout 40 = .ok (.iload_n 1, 1) := by decide +kernel
theorem dX4_addAbout_41 : decode cX4_addAbout 41 = .ok (.iconst 1, 1) := by decide +kernel
theorem dX4_addAbout_42 : decode cX4_addAbout 42 = .ok (.lconst 1, 1) := by decide +kernel
theorem dX4_addAbout_43 : decode cX4_addAbout 43 = .ok (.lconst 0, 1) := by decide +kernel
theorem dX4_addAbout_44 : decode cX4_addAbout 44 = .ok (.invokevirtual 120, 3) := by decide +kernel
theorem dX4_addAbout_47 : decode cX4_addAbout 47 = .ok (.iload 4, 2) := by decide +kernel
theorem dX4_addAbout_49 : decode cX4_addAbout 49 = .ok (.ireturn, 1) := by decide +kernel
set_option maxRecDepth 20000 in
theorem ggX4_removeSubtree_X4_nodesOf : GoodIn wsX4_removeSubtree wsX4_nodesOf := goodIn_r _ [6, 1, 7, 8, 9, 5, 10, 11, 12, 13, 14, 15, 16, 17, 18, 19, 20, 21, 22, 23, 24, 25, 26, 27, 28, 29, 30, 31, 32, 33, 34, 35, 36, 37, 38, 39, 40, 41, 42, 43, 44, 45, 46, 47, 48, 49, 50, 51, 52, 53, 54, 55, 56, 57, 58, 59, 60, 61, 62, 63, 64, 65, 66, 67, 68, 69, 70, 71, 72, 73, 74, 75, 76, 77, 78, 79, 80, 113, 114, 115, 116, 117, 118, 119, 120, 121] rfl (by decide +kernel)
set_option maxRecDepth 20000 in
theorem gX4_removeSubtree_X4_nodesOf : GoodIn wsX4_removeSubtree (wsV RX4 85 RX4 yX4_nodesOf wsX4_nodesOf) := goodIn_app (goodIn_of _ (by decide +kernel)) ggX4_removeSubtree_X4_nodesOf
set_option maxRecDepth 20000 in
theorem ggX4_removeSubtree_X4_openOf : GoodIn wsX4_removeSubtree wsX4_openOf := goodIn_r _ [10, 1, 11, 12, 13, 14, 15, 16, 17, 18, 19, 20, 21, 22, 23, 24, 25, 26, 27, 28, 29, 30, 31, 32, 33, 34, 35, 36, 37, 38, 39, 40, 41, 42, 43, 44, 45, 46, 47, 48, 49, 113, 114, 115, 116, 117, 118, 119, 120, 121] rfl (by decide +kernel)
set_option maxRecDepth 20000 in
theorem gX4_removeSubtree_X4_openOf : GoodIn wsX4_removeSubtree (wsV RX4 37 RX4 yX4_openOf wsX4_openOf) := goodIn_app (goodIn_of _ (by decide +kernel)) ggX4_removeSubtree_X4_openOf
set_option maxRecDepth 20000 in
theorem ggX4_removeSubtree_X4_closeWeights : GoodIn wsX4_removeSubtree wsX4_closeWeights := goodIn_r _ [84, 85, 86, 87, 88, 89, 90, 91, 92, 5, 93, 1, 113, 114, 115, 116, 117, 118, 119, 120, 121] rfl (by decide +kernel)
set_option maxRecDepth 20000 in
theorem gX4_removeSubtree_X4_closeWeights : GoodIn wsX4_removeSubtree (wsV RX4 124 RX4 yX4_closeWeights wsX4_closeWeights) := goodIn_app (goodIn_of _ (by decide +kernel)) ggX4_removeSubtree_X4_closeWeights
set_option maxRecDepth 20000 in
theorem ggX4_removeSubtree_X1_remove : GoodIn wsX4_removeSubtree wsX1_remove := goodIn_r _ [97, 20, 23, 21, 22, 24, 25, 26, 27, 28, 29, 30, 31, 47, 48, 49, 98, 99, 100, 14, 101, 102, 103, 104, 105, 106, 107, 108, 109, 110, 111, 112, 66, 71, 72, 73, 74, 75, 76, 116, 117, 118, 119, 120, 121] rfl (by decide +kernel)
set_option maxRecDepth 20000 in
theorem gX4_removeSubtree_X1_remove : GoodIn wsX4_removeSubtree (wsV RX4 127 RX1 yX1_remove wsX1_remove) := goodIn_app (goodIn_of _ (by decide +kernel)) ggX4_removeSubtree_X1_remove
theorem dX4_removeSubtree_0 : decode cX4_removeSubtree 0 = .ok (.aload_n 0, 1) := by decide +kernel
theorem dX4_removeSubtree_1 : decode cX4_removeSubtree 1 = .ok (.iload_n 1, 1) := by decide +kernel
theorem dX4_removeSubtree_2 : decode cX4_removeSubtree 2 = .ok (.invokevirtual 85, 3) := by decide +kernel
theorem dX4_removeSubtree_5 : decode cX4_removeSubtree 5 = .ok (.istore_n 2, 1) := by decide +kernel
theorem dX4_removeSubtree_6 : decode cX4_removeSubtree 6 = .ok (.aload_n 0, 1) := by decide +kernel
theorem dX4_removeSubtree_7 : decode cX4_removeSubtree 7 = .ok (.iload_n 1, 1) := by decide +kernel
theorem dX4_removeSubtree_8 : decode cX4_removeSubtree 8 = .ok (.invokevirtual 37, 3) := by decide +kernel
theorem dX4_removeSubtree_11 : decode cX4_removeSubtree 11 = .ok (.istore_n 3, 1) := by decide +kernel
theorem dX4_removeSubtree_12 : decode cX4_removeSubtree 12 = .ok (.aload_n 0, 1) := by decide +kernel
theorem dX4_removeSubtree_13 : decode cX4_removeSubtree 13 = .ok (.iload_n 1, 1) := by decide +kernel
theorem dX4_removeSubtree_14 : decode cX4_removeSubtree 14 = .ok (.iload_n 2, 1) := by decide +kernel
theorem dX4_removeSubtree_15 : decode cX4_removeSubtree 15 = .ok (.invokevirtual 124, 3) := by decide +kernel
theorem dX4_removeSubtree_18 : decode cX4_removeSubtree 18 = .ok (.aload_n 0, 1) := by decide +kernel
theorem dX4_removeSubtree_19 : decode cX4_removeSubtree 19 = .ok (.getfield 12, 3) := by decide +kernel
theorem dX4_removeSubtree_22 : decode cX4_removeSubtree 22 = .ok (.iload_n 3, 1) := by decide +kernel
theorem dX4_removeSubtree_23 : decode cX4_removeSubtree 23 = .ok (.iconst 2, 1) := by decide +kernel
theorem dX4_removeSubtree_24 : decode cX4_removeSubtree 24 = .ok (.iload_n 2, 1) := by decide +kernel
theorem dX4_removeSubtree_25 : decode cX4_removeSubtree 25 = .ok (.imul, 1) := by decide +kernel
theorem dX4_removeSubtree_26 : decode cX4_removeSubtree 26 = .ok (.invokevirtual 127, 3) := by decide +kernel
theorem dX4_removeSubtree_29 : decode cX4_removeSubtree 29 = .ok (.return_, 1) := by decide +kernel
set_option maxRecDepth 20000 in
theorem ggX4_removeAlone_X4_openOf : GoodIn wsX4_removeAlone wsX4_openOf := goodIn_r _ [6, 1, 7, 8, 9, 10, 11, 12, 13, 14, 15, 16, 17, 18, 19, 20, 21, 22, 23, 24, 25, 26, 27, 28, 29, 30, 31, 32, 33, 34, 35, 36, 37, 38, 39, 40, 41, 42, 43, 44, 45, 109, 110, 111, 112, 113, 114, 115, 116, 117] rfl (by decide +kernel)
set_option maxRecDepth 20000 in
theorem gX4_removeAlone_X4_openOf : GoodIn wsX4_removeAlone (wsV RX4 37 RX4 yX4_openOf wsX4_openOf) := goodIn_app (goodIn_of _ (by decide +kernel)) ggX4_removeAlone_X4_openOf
set_option maxRecDepth 20000 in
theorem ggX4_removeAlone_X1_partnerOf : GoodIn wsX4_removeAlone wsX1_partnerOf := goodIn_r _ [49, 50, 51, 52, 10, 53, 16, 19, 54, 55, 56, 57, 20, 21, 22, 23, 24, 28, 29, 30, 31, 32, 33, 34, 58, 59, 60, 61, 18, 62, 63, 64, 65, 66, 67, 68, 69, 70, 71, 72, 73, 74, 75, 76, 112, 113, 114, 115, 116, 117] rfl (by decide +kernel)
set_option maxRecDepth 20000 in
theorem gX4_removeAlone_X1_partnerOf : GoodIn wsX4_removeAlone (wsV RX4 41 RX1 yX1_partnerOf wsX1_partnerOf) := goodIn_app (goodIn_of _ (by decide +kernel)) ggX4_removeAlone_X1_partnerOf
set_option maxRecDepth 20000 in
theorem ggX4_removeAlone_X4_closeWeights : GoodIn wsX4_removeAlone wsX4_closeWeights := goodIn_r _ [80, 81, 82, 83, 84, 85, 86, 87, 88, 5, 89, 1, 109, 110, 111, 112, 113, 114, 115, 116, 117] rfl (by decide +kernel)
set_option maxRecDepth 20000 in
theorem gX4_removeAlone_X4_closeWeights : GoodIn wsX4_removeAlone (wsV RX4 124 RX4 yX4_closeWeights wsX4_closeWeights) := goodIn_app (goodIn_of _ (by decide +kernel)) ggX4_removeAlone_X4_closeWeights
set_option maxRecDepth 20000 in
theorem ggX4_removeAlone_X1_remove : GoodIn wsX4_removeAlone wsX1_remove := goodIn_r _ [93, 16, 19, 17, 18, 20, 21, 22, 23, 24, 25, 26, 27, 43, 44, 45, 94, 95, 96, 10, 97, 98, 99, 100, 101, 102, 103, 104, 105, 106, 107, 108, 62, 67, 68, 69, 70, 71, 72, 112, 113, 114, 115, 116, 117] rfl (by decide +kernel)
set_option maxRecDepth 20000 in
theorem gX4_removeAlone_X1_remove : GoodIn wsX4_removeAlone (wsV RX4 127 RX1 yX1_remove wsX1_remove) := goodIn_app (goodIn_of _ (by decide +kernel)) ggX4_removeAlone_X1_remove
theorem dX4_removeAlone_0 : decode cX4_removeAlone 0 = .ok (.aload_n 0, 1) := by decide +kernel
theorem dX4_removeAlone_1 : decode cX4_removeAlone 1 = .ok (.iload_n 1, 1) := by decide +kernel
theorem dX4_removeAlone_2 : decode cX4_removeAlone 2 = .ok (.invokevirtual 37, 3) := by decide +kernel
theorem dX4_removeAlone_5 : decode cX4_removeAlone 5 = .ok (.istore_n 2, 1) := by decide +kernel
theorem dX4_removeAlone_6 : decode cX4_removeAlone 6 = .ok (.aload_n 0, 1) := by decide +kernel
theorem dX4_removeAlone_7 : decode cX4_removeAlone 7 = .ok (.getfield 12, 3) := by decide +kernel
theorem dX4_removeAlone_10 : decode cX4_removeAlone 10 = .ok (.iload_n 2, 1) := by decide +kernel
theorem dX4_removeAlone_11 : decode cX4_removeAlone 11 = .ok (.invokevirtual 41, 3) := by decide +kernel
theorem dX4_removeAlone_14 : decode cX4_removeAlone 14 = .ok (.istore_n 3, 1) := by decide +kernel
theorem dX4_removeAlone_15 : decode cX4_removeAlone 15 = .ok (.aload_n 0, 1) := by decide +kernel
theorem dX4_removeAlone_16 : decode cX4_removeAlone 16 = .ok (.iload_n 1, 1) := by decide +kernel
theorem dX4_removeAlone_17 : decode cX4_removeAlone 17 = .ok (.iconst 1, 1) := by decide +kernel
theorem dX4_removeAlone_18 : decode cX4_removeAlone 18 = .ok (.invokevirtual 124, 3) := by decide +kernel
theorem dX4_removeAlone_21 : decode cX4_removeAlone 21 = .ok (.aload_n 0, 1) := by decide +kernel
theorem dX4_removeAlone_22 : decode cX4_removeAlone 22 = .ok (.getfield 12, 3) := by decide +kernel
theorem dX4_removeAlone_25 : decode cX4_removeAlone 25 = .ok (.iload_n 3, 1) := by decide +kernel
theorem dX4_removeAlone_26 : decode cX4_removeAlone 26 = .ok (.iconst 1, 1) := by decide +kernel
theorem dX4_removeAlone_27 : decode cX4_removeAlone 27 = .ok (.invokevirtual 127, 3) := by decide +kernel
theorem dX4_removeAlone_30 : decode cX4_removeAlone 30 = .ok (.aload_n 0, 1) := by decide +kernel
theorem dX4_removeAlone_31 : decode cX4_removeAlone 31 = .ok (.getfield 12, 3) := by decide +kernel
theorem dX4_removeAlone_34 : decode cX4_removeAlone 34 = .ok (.iload_n 2, 1) := by decide +kernel
theorem dX4_removeAlone_35 : decode cX4_removeAlone 35 = .ok (.iconst 1, 1) := by decide +kernel
theorem dX4_removeAlone_36 : decode cX4_removeAlone 36 = .ok (.invokevirtual 127, 3) := by decide +kernel
theorem dX4_removeAlone_39 : decode cX4_removeAlone 39 = .ok (.return_, 1) := by decide +kernel
set_option maxRecDepth 20000 in
theorem ggX4_moveSubtree_X4_nodesOf : GoodIn wsX4_moveSubtree wsX4_nodesOf := goodIn_r _ [12, 1, 13, 14, 15, 11, 16, 17, 18, 19, 20, 21, 22, 23, 24, 25, 26, 27, 28, 29, 30, 31, 32, 33, 34, 35, 36, 37, 38, 39, 40, 41, 42, 43, 44, 45, 46, 47, 48, 49, 50, 51, 52, 53, 54, 55, 56, 57, 58, 59, 60, 61, 62, 63, 64, 65, 66, 67, 68, 69, 70, 71, 72, 73, 74, 75, 76, 77, 78, 79, 80, 81, 82, 83, 84, 85, 86, 147, 148, 149, 150, 151, 152, 153, 154, 155] rfl (by decide +kernel)
set_option maxRecDepth 20000 in
theorem gX4_moveSubtree_X4_nodesOf : GoodIn wsX4_moveSubtree (wsV RX4 85 RX4 yX4_nodesOf wsX4_nodesOf) := goodIn_app (goodIn_of _ (by decide +kernel)) ggX4_moveSubtree_X4_nodesOf
set_option maxRecDepth 20000 in
theorem ggX4_moveSubtree_X4_openOf : GoodIn wsX4_moveSubtree wsX4_openOf := goodIn_r _ [16, 1, 17, 18, 19, 20, 21, 22, 23, 24, 25, 26, 27, 28, 29, 30, 31, 32, 33, 34, 35, 36, 37, 38, 39, 40, 41, 42, 43, 44, 45, 46, 47, 48, 49, 50, 51, 52, 53, 54, 55, 147, 148, 149, 150, 151, 152, 153, 154, 155] rfl (by decide +kernel)
set_option maxRecDepth 20000 in
theorem gX4_moveSubtree_X4_openOf : GoodIn wsX4_moveSubtree (wsV RX4 37 RX4 yX4_openOf wsX4_openOf) := goodIn_app (goodIn_of _ (by decide +kernel)) ggX4_moveSubtree_X4_openOf
set_option maxRecDepth 20000 in
theorem ggX4_moveSubtree_X1_takenLow : GoodIn wsX4_moveSubtree wsX1_takenLow := goodIn_r _ [90, 26, 29, 35, 36, 32, 37, 30, 31, 33, 34, 150, 151, 152, 153, 154, 155] rfl (by decide +kernel)
set_option maxRecDepth 20000 in
theorem gX4_moveSubtree_X1_takenLow : GoodIn wsX4_moveSubtree (wsV RX4 88 RX1 yX1_takenLow wsX1_takenLow) := goodIn_app (goodIn_of _ (by decide +kernel)) ggX4_moveSubtree_X1_takenLow
set_option maxRecDepth 20000 in
theorem ggX4_moveSubtree_X1_takenHigh : GoodIn wsX4_moveSubtree wsX1_takenHigh := goodIn_r _ [94, 29, 53, 54, 32, 55, 30, 31, 33, 34, 150, 151, 152, 153, 154, 155] rfl (by decide +kernel)
set_option maxRecDepth 20000 in
theorem gX4_moveSubtree_X1_takenHigh : GoodIn wsX4_moveSubtree (wsV RX4 92 RX1 yX1_takenHigh wsX1_takenHigh) := goodIn_app (goodIn_of _ (by decide +kernel)) ggX4_moveSubtree_X1_takenHigh
set_option maxRecDepth 20000 in
theorem ggX4_moveSubtree_X4_closeWeights : GoodIn wsX4_moveSubtree wsX4_closeWeights := goodIn_r _ [98, 2, 4, 5, 6, 7, 99, 100, 101, 11, 102, 1, 147, 148, 149, 150, 151, 152, 153, 154, 155] rfl (by decide +kernel)
set_option maxRecDepth 20000 in
theorem gX4_moveSubtree_X4_closeWeights : GoodIn wsX4_moveSubtree (wsV RX4 124 RX4 yX4_closeWeights wsX4_closeWeights) := goodIn_app (goodIn_of _ (by decide +kernel)) ggX4_moveSubtree_X4_closeWeights
set_option maxRecDepth 20000 in
theorem ggX4_moveSubtree_X1_remove : GoodIn wsX4_moveSubtree wsX1_remove := goodIn_r _ [106, 26, 29, 27, 28, 30, 31, 32, 33, 34, 35, 36, 37, 53, 54, 55, 107, 108, 109, 20, 110, 111, 112, 113, 114, 115, 116, 117, 118, 119, 120, 121, 72, 77, 78, 79, 80, 81, 82, 150, 151, 152, 153, 154, 155] rfl (by decide +kernel)
set_option maxRecDepth 20000 in
theorem gX4_moveSubtree_X1_remove : GoodIn wsX4_moveSubtree (wsV RX4 127 RX1 yX1_remove wsX1_remove) := goodIn_app (goodIn_of _ (by decide +kernel)) ggX4_moveSubtree_X1_remove
set_option maxRecDepth 20000 in
theorem ggX4_moveSubtree_X4_placeForChild : GoodIn wsX4_moveSubtree wsX4_placeForChild := goodIn_r _ [125, 1, 13, 14, 15, 11, 16, 17, 18, 19, 20, 21, 22, 23, 24, 25, 26, 27, 28, 29, 30, 31, 32, 33, 34, 35, 36, 37, 38, 39, 40, 41, 42, 43, 44, 45, 46, 47, 48, 49, 50, 51, 52, 53, 54, 55, 126, 65, 66, 67, 127, 61, 62, 63, 128, 69, 70, 71, 72, 64, 73, 74, 75, 76, 77, 78, 79, 80, 81, 82, 147, 148, 149, 150, 151, 152, 153, 154, 155] rfl (by decide +kernel)
set_option maxRecDepth 20000 in
theorem gX4_moveSubtree_X4_placeForChild : GoodIn wsX4_moveSubtree (wsV RX4 69 RX4 yX4_placeForChild wsX4_placeForChild) := goodIn_app (goodIn_of _ (by decide +kernel)) ggX4_moveSubtree_X4_placeForChild
set_option maxRecDepth 20000 in
theorem ggX4_moveSubtree_X1_opensAhead : GoodIn wsX4_moveSubtree wsX1_opensAhead := goodIn_r _ [132, 64, 65, 66, 20, 67, 26, 29, 30, 31, 32, 33, 34, 38, 39, 40, 41, 42, 43, 44, 150, 151, 152, 153, 154, 155] rfl (by decide +kernel)
set_option maxRecDepth 20000 in
theorem gX4_moveSubtree_X1_opensAhead : GoodIn wsX4_moveSubtree (wsV RX4 47 RX1 yX1_opensAhead wsX1_opensAhead) := goodIn_app (goodIn_of _ (by decide +kernel)) ggX4_moveSubtree_X1_opensAhead
set_option maxRecDepth 20000 in
theorem ggX4_moveSubtree_X4_openWeights : GoodIn wsX4_moveSubtree wsX4_openWeights := goodIn_r _ [136, 2, 4, 5, 6, 7, 99, 100, 101, 11, 102, 1, 147, 148, 149, 150, 151, 152, 153, 154, 155] rfl (by decide +kernel)
set_option maxRecDepth 20000 in
theorem gX4_moveSubtree_X4_openWeights : GoodIn wsX4_moveSubtree (wsV RX4 116 RX4 yX4_openWeights wsX4_openWeights) := goodIn_app (goodIn_of _ (by decide +kernel)) ggX4_moveSubtree_X4_openWeights
set_option maxRecDepth 20000 in
theorem ggX4_moveSubtree_X1_insert : GoodIn wsX4_moveSubtree wsX1_insert := goodIn_r _ [140, 26, 27, 29, 28, 30, 31, 32, 33, 34, 141, 142, 143, 144, 145, 146, 107, 108, 109, 20, 110, 111, 112, 113, 114, 115, 116, 117, 118, 119, 120, 121, 72, 77, 78, 79, 80, 81, 82, 150, 151, 152, 153, 154, 155] rfl (by decide +kernel)
set_option maxRecDepth 20000 in
theorem gX4_moveSubtree_X1_insert : GoodIn wsX4_moveSubtree (wsV RX4 120 RX1 yX1_insert wsX1_insert) := goodIn_app (goodIn_of _ (by decide +kernel)) ggX4_moveSubtree_X1_insert
theorem dX4_moveSubtree_0 : decode cX4_moveSubtree 0 = .ok (.aload_n 0, 1) := by decide +kernel
theorem dX4_moveSubtree_1 : decode cX4_moveSubtree 1 = .ok (.iload_n 1, 1) := by decide +kernel
theorem dX4_moveSubtree_2 : decode cX4_moveSubtree 2 = .ok (.invokevirtual 85, 3) := by decide +kernel
theorem dX4_moveSubtree_5 : decode cX4_moveSubtree 5 = .ok (.istore 4, 2) := by decide +kernel
theorem dX4_moveSubtree_7 : decode cX4_moveSubtree 7 = .ok (.aload_n 0, 1) := by decide +kernel
theorem dX4_moveSubtree_8 : decode cX4_moveSubtree 8 = .ok (.iload_n 1, 1) := by decide +kernel
theorem dX4_moveSubtree_9 : decode cX4_moveSubtree 9 = .ok (.invokevirtual 37, 3) := by decide +kernel
theorem dX4_moveSubtree_12 : decode cX4_moveSubtree 12 = .ok (.istore 5, 2) := by decide +kernel
theorem dX4_moveSubtree_14 : decode cX4_moveSubtree 14 = .ok (.aload_n 0, 1) := by decide +kernel
theorem dX4_moveSubtree_15 : decode cX4_moveSubtree 15 = .ok (.getfield 12, 3) := by decide +kernel
theorem dX4_moveSubtree_18 : decode cX4_moveSubtree 18 = .ok (.iload 5, 2) := by decide +kernel
theorem dX4_moveSubtree_20 : decode cX4_moveSubtree 20 = .ok (.iconst 2, 1) := by decide +kernel
theorem dX4_moveSubtree_21 : decode cX4_moveSubtree 21 = .ok (.iload 4, 2) := by decide +kernel
theorem dX4_moveSubtree_23 : decode cX4_moveSubtree 23 = .ok (.imul, 1) := by decide +kernel
theorem dX4_moveSubtree_24 : decode cX4_moveSubtree 24 = .ok (.invokevirtual 88, 3) := by decide +kernel
theorem dX4_moveSubtree_27 : decode cX4_moveSubtree 27 = .ok (.lstore 6, 2) := by decide +kernel
theorem dX4_moveSubtree_29 : decode cX4_moveSubtree 29 = .ok (.aload_n 0, 1) := by decide +kernel
theorem dX4_moveSubtree_30 : decode cX4_moveSubtree 30 = .ok (.getfield 12, 3) := by decide +kernel
theorem dX4_moveSubtree_33 : decode cX4_moveSubtree 33 = .ok (.iload 5, 2) := by decide +kernel
theorem dX4_moveSubtree_35 : decode cX4_moveSubtree 35 = .ok (.iconst 2, 1) := by decide +kernel
theorem dX4_moveSubtree_36 : decode cX4_moveSubtree 36 = .ok (.iload 4, 2) := by decide +kernel
theorem dX4_moveSubtree_38 : decode cX4_moveSubtree 38 = .ok (.imul, 1) := by decide +kernel
theorem dX4_moveSubtree_39 : decode cX4_moveSubtree 39 = .ok (.invokevirtual 92, 3) := by decide +kernel
theorem dX4_moveSubtree_42 : decode cX4_moveSubtree 42 = .ok (.lstore 8, 2) := by decide +kernel
theorem dX4_moveSubtree_44 : decode cX4_moveSubtree 44 = .ok (.aload_n 0, 1) := by decide +kernel
theorem dX4_moveSubtree_45 : decode cX4_moveSubtree 45 = .ok (.getfield 18, 3) := by decide +kernel
theorem dX4_moveSubtree_48 : decode cX4_moveSubtree 48 = .ok (.iload_n 1, 1) := by decide +kernel
theorem dX4_moveSubtree_49 : decode cX4_moveSubtree 49 = .ok (.aload_n 0, 1) := by decide +kernel
theorem dX4_moveSubtree_50 : decode cX4_moveSubtree 50 = .ok (.getfield 22, 3) := by decide +kernel
theorem dX4_moveSubtree_53 : decode cX4_moveSubtree 53 = .ok (.iconst 0, 1) := by decide +kernel
theorem dX4_moveSubtree_54 : decode cX4_moveSubtree 54 = .ok (.iload 4, 2) := by decide +kernel
theorem dX4_moveSubtree_56 : decode cX4_moveSubtree 56 = .ok (.invokestatic 110, 3) := by decide +kernel
theorem dX4_moveSubtree_59 : decode cX4_moveSubtree 59 = .ok (.aload_n 0, 1) := by decide +kernel
theorem dX4_moveSubtree_60 : decode cX4_moveSubtree 60 = .ok (.iload_n 1, 1) := by decide +kernel
theorem dX4_moveSubtree_61 : decode cX4_moveSubtree 61 = .ok (.iload 4, 2) := by decide +kernel
theorem dX4_moveSubtree_63 : decode cX4_moveSubtree 63 = .ok (.invokevirtual 124, 3) := by decide +kernel
theorem dX4_moveSubtree_66 : decode cX4_moveSubtree 66 = .ok (.aload_n 0, 1) := by decide +kernel
theorem dX4_moveSubtree_67 : decode cX4_moveSubtree 67 = .ok (.getfield 12, 3) := by decide +kernel
theorem dX4_moveSubtree_70 : decode cX4_moveSubtree 70 = .ok (.iload 5, 2) := by decide +kernel
theorem dX4_moveSubtree_72 : decode cX4_moveSubtree 72 = .ok (.iconst 2, 1) := by decide +kernel
theorem dX4_moveSubtree_73 : decode cX4_moveSubtree 73 = .ok (.iload 4, 2) := by decide +kernel
theorem dX4_moveSubtree_75 : decode cX4_moveSubtree 75 = .ok (.imul, 1) := by decide +kernel
theorem dX4_moveSubtree_76 : decode cX4_moveSubtree 76 = .ok (.invokevirtual 127, 3) := by decide +kernel
theorem dX4_moveSubtree_79 : decode cX4_moveSubtree 79 = .ok (.aload_n 0, 1) := by decide +kernel
theorem dX4_moveSubtree_80 : decode cX4_moveSubtree 80 = .ok (.iload_n 2, 1) := by decide +kernel
theorem dX4_moveSubtree_81 : decode cX4_moveSubtree 81 = .ok (.iload_n 1, 1) := by decide +kernel
theorem dX4_moveSubtree_82 : decode cX4_moveSubtree 82 = .ok (.if_icmp .le 10, 3) := by decide +kernel
theorem dX4_moveSubtree_85 : decode cX4_moveSubtree 85 = .ok (.iload_n 2, 1) := by decide +kernel
theorem dX4_moveSubtree_86 : decode cX4_moveSubtree 86 = .ok (.iload 4, 2) := by decide +kernel
theorem dX4_moveSubtree_88 : decode cX4_moveSubtree 88 = .ok (.isub, 1) := by decide +kernel
theorem dX4_moveSubtree_89 : decode cX4_moveSubtree 89 = .ok (.goto 4, 3) := by decide +kernel
theorem dX4_moveSubtree_92 : decode cX4_moveSubtree 92 = .ok (.iload_n 2, 1) := by decide +kernel
theorem dX4_moveSubtree_93 : decode cX4_moveSubtree 93 = .ok (.iload_n 3, 1) := by decide +kernel
theorem dX4_moveSubtree_94 : decode cX4_moveSubtree 94 = .ok (.invokevirtual 69, 3) := by decide +kernel
theorem dX4_moveSubtree_97 : decode cX4_moveSubtree 97 = .ok (.istore 10, 2) := by decide +kernel
theorem dX4_moveSubtree_99 : decode cX4_moveSubtree 99 = .ok (.aload_n 0, 1) := by decide +kernel
theorem dX4_moveSubtree_100 : decode cX4_moveSubtree 100 = .ok (.getfield 12, 3) := by decide +kernel
theorem dX4_moveSubtree_103 : decode cX4_moveSubtree 103 = .ok (.iload 10, 2) := by decide +kernel
theorem dX4_moveSubtree_105 : decode cX4_moveSubtree 105 = .ok (.invokevirtual 47, 3) := by decide +kernel
theorem dX4_moveSubtree_108 : decode cX4_moveSubtree 108 = .ok (.istore 11, 2) := by decide +kernel
theorem dX4_moveSubtree_110 : decode cX4_moveSubtree 110 = .ok (.aload_n 0, 1) := by decide +kernel
theorem dX4_moveSubtree_111 : decode cX4_moveSubtree 111 = .ok (.iload 11, 2) := by decide +kernel
theorem dX4_moveSubtree_113 : decode cX4_moveSubtree 113 = .ok (.iload 4, 2) := by decide +kernel
theorem dX4_moveSubtree_115 : decode cX4_moveSubtree 115 = .ok (.invokevirtual 116, 3) := by decide +kernel
theorem dX4_moveSubtree_118 : decode cX4_moveSubtree 118 = .ok (.aload_n 0, 1) := by decide +kernel
theorem dX4_moveSubtree_119 : decode cX4_moveSubtree 119 = .ok (.getfield 22, 3) := by decide +kernel
theorem dX4_moveSubtree_122 : decode cX4_moveSubtree 122 = .ok (.iconst 0, 1) := by decide +kernel
theorem dX4_moveSubtree_123 : decode cX4_moveSubtree 123 = .ok (.aload_n 0, 1) := by decide +kernel
theorem dX4_moveSubtree_124 : decode cX4_moveSubtree 124 = .ok (.getfield 18, 3) := by decide +kernel
theorem dX4_moveSubtree_127 : decode cX4_moveSubtree 127 = .ok (.iload 11, 2) := by decide +kernel
theorem dX4_moveSubtree_129 : decode cX4_moveSubtree 129 = .ok (.iload 4, 2) := by decide +kernel
theorem dX4_moveSubtree_131 : decode cX4_moveSubtree 131 = .ok (.invokestatic 110, 3) := by decide +kernel
theorem dX4_moveSubtree_134 : decode cX4_moveSubtree 134 = .ok (.aload_n 0, 1) := by decide +kernel
theorem dX4_moveSubtree_135 : decode cX4_moveSubtree 135 = .ok (.getfield 12, 3) := by decide +kernel
theorem dX4_moveSubtree_138 : decode cX4_moveSubtree 138 = .ok (.iload 10, 2) := by decide +kernel
theorem dX4_moveSubtree_140 : decode cX4_moveSubtree 140 = .ok (.iconst 2, 1) := by decide +kernel
theorem dX4_moveSubtree_141 : decode cX4_moveSubtree 141 = .ok (.iload 4, 2) := by decide +kernel
theorem dX4_moveSubtree_143 : decode cX4_moveSubtree 143 = .ok (.imul, 1) := by decide +kernel
theorem dX4_moveSubtree_144 : decode cX4_moveSubtree 144 = .ok (.lload 6, 2) := by decide +kernel
theorem dX4_moveSubtree_146 : decode cX4_moveSubtree 146 = .ok (.lload 8, 2) := by decide +kernel
theorem dX4_moveSubtree_148 : decode cX4_moveSubtree 148 = .ok (.invokevirtual 120, 3) := by decide +kernel
theorem dX4_moveSubtree_151 : decode cX4_moveSubtree 151 = .ok (.iload 11, 2) := by decide +kernel
theorem dX4_moveSubtree_153 : decode cX4_moveSubtree 153 = .ok (.ireturn, 1) := by decide +kernel
set_option maxRecDepth 20000 in
theorem ggX4_become_X1_become : GoodIn wsX4_become wsX1_become := goodIn_r _ [11, 12, 13, 14, 15, 16, 4, 5, 6, 17, 18, 22, 23, 24, 25, 26, 27] rfl (by decide +kernel)
set_option maxRecDepth 20000 in
theorem gX4_become_X1_become : GoodIn wsX4_become (wsV RX4 130 RX1 yX1_become wsX1_become) := goodIn_app (goodIn_of _ (by decide +kernel)) ggX4_become_X1_become
theorem dX4_become_0 : decode cX4_become 0 = .ok (.aload_n 0, 1) := by decide +kernel
theorem dX4_become_1 : decode cX4_become 1 = .ok (.getfield 12, 3) := by decide +kernel
theorem dX4_become_4 : decode cX4_become 4 = .ok (.aload_n 1, 1) := by decide +kernel
theorem dX4_become_5 : decode cX4_become 5 = .ok (.getfield 12, 3) := by decide +kernel
theorem dX4_become_8 : decode cX4_become 8 = .ok (.invokevirtual 130, 3) := by decide +kernel
theorem dX4_become_11 : decode cX4_become 11 = .ok (.aload_n 1, 1) := by decide +kernel
theorem dX4_become_12 : decode cX4_become 12 = .ok (.getfield 18, 3) := by decide +kernel
theorem dX4_become_15 : decode cX4_become 15 = .ok (.iconst 0, 1) := by decide +kernel
theorem dX4_become_16 : decode cX4_become 16 = .ok (.aload_n 0, 1) := by decide +kernel
theorem dX4_become_17 : decode cX4_become 17 = .ok (.getfield 18, 3) := by decide +kernel
theorem dX4_become_20 : decode cX4_become 20 = .ok (.iconst 0, 1) := by decide +kernel
theorem dX4_become_21 : decode cX4_become 21 = .ok (.bipush 64, 2) := by decide +kernel
theorem dX4_become_23 : decode cX4_become 23 = .ok (.invokestatic 110, 3) := by decide +kernel
theorem dX4_become_26 : decode cX4_become 26 = .ok (.return_, 1) := by decide +kernel
