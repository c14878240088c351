set_option maxRecDepth 20000 in
theorem ggX5_init_X4_init : GoodIn wsX5_init wsX4_init := goodIn_r _ [21, 22, 2, 3, 23, 24, 25, 26, 27, 28, 29, 30, 31, 32, 33, 34, 35, 66, 67, 68, 69, 70, 71, 47, 48, 49] rfl (by decide +kernel)
set_option maxRecDepth 20000 in
theorem gX5_init_X4_init_n11 : GoodIn wsX5_init (wsX4_init) := ggX5_init_X4_init
set_option maxRecDepth 20000 in
theorem ggX5_init_X3_init : GoodIn wsX5_init wsX3_init := goodIn_r _ [37, 38, 2, 3, 39, 40, 57, 58, 59, 60, 61, 62] rfl (by decide +kernel)
set_option maxRecDepth 20000 in
theorem gX5_init_X3_init_n29 : GoodIn wsX5_init (wsX3_init) := ggX5_init_X3_init
set_option maxRecDepth 20000 in
theorem ggX5_init_X2_init : GoodIn wsX5_init wsX2_init := goodIn_r _ [42, 43, 2, 3, 44, 45, 46, 63, 64, 65] rfl (by decide +kernel)
set_option maxRecDepth 20000 in
theorem gX5_init_X2_init_n40 : GoodIn wsX5_init (wsX2_init) := ggX5_init_X2_init
theorem dX5_init_0 : decode cX5_init 0 = .ok (.aload_n 0, 1) := by decide +kernel
theorem dX5_init_1 : decode cX5_init 1 = .ok (.invokespecial 3, 3) := by decide +kernel
theorem dX5_init_4 : decode cX5_init 4 = .ok (.aload_n 0, 1) := by decide +kernel
theorem dX5_init_5 : decode cX5_init 5 = .ok (.new 9, 3) := by decide +kernel
theorem dX5_init_8 : decode cX5_init 8 = .ok (.dup, 1) := by decide +kernel
theorem dX5_init_9 : decode cX5_init 9 = .ok (.invokespecial 11, 3) := by decide +kernel
theorem dX5_init_12 : decode cX5_init 12 = .ok (.putfield 12, 3) := by decide +kernel
theorem dX5_init_15 : decode cX5_init 15 = .ok (.aload_n 0, 1) := by decide +kernel
theorem dX5_init_16 : decode cX5_init 16 = .ok (.new 9, 3) := by decide +kernel
theorem dX5_init_19 : decode cX5_init 19 = .ok (.dup, 1) := by decide +kernel
theorem dX5_init_20 : decode cX5_init 20 = .ok (.invokespecial 11, 3) := by decide +kernel
theorem dX5_init_23 : decode cX5_init 23 = .ok (.putfield 16, 3) := by decide +kernel
theorem dX5_init_26 : decode cX5_init 26 = .ok (.aload_n 0, 1) := by decide +kernel
theorem dX5_init_27 : decode cX5_init 27 = .ok (.iconst 2, 1) := by decide +kernel
theorem dX5_init_28 : decode cX5_init 28 = .ok (.anewarray 9, 3) := by decide +kernel
theorem dX5_init_31 : decode cX5_init 31 = .ok (.putfield 19, 3) := by decide +kernel
theorem dX5_init_34 : decode cX5_init 34 = .ok (.aload_n 0, 1) := by decide +kernel
theorem dX5_init_35 : decode cX5_init 35 = .ok (.iconst 2, 1) := by decide +kernel
theorem dX5_init_36 : decode cX5_init 36 = .ok (.newarray .boolean, 2) := by decide +kernel
theorem dX5_init_38 : decode cX5_init 38 = .ok (.putfield 23, 3) := by decide +kernel
theorem dX5_init_41 : decode cX5_init 41 = .ok (.aload_n 0, 1) := by decide +kernel
theorem dX5_init_42 : decode cX5_init 42 = .ok (.new 27, 3) := by decide +kernel
theorem dX5_init_45 : decode cX5_init 45 = .ok (.dup, 1) := by decide +kernel
theorem dX5_init_46 : decode cX5_init 46 = .ok (.invokespecial 29, 3) := by decide +kernel
theorem dX5_init_49 : decode cX5_init 49 = .ok (.putfield 30, 3) := by decide +kernel
theorem dX5_init_52 : decode cX5_init 52 = .ok (.aload_n 0, 1) := by decide +kernel
theorem dX5_init_53 : decode cX5_init 53 = .ok (.iconst 4, 1) := by decide +kernel
theorem dX5_init_54 : decode cX5_init 54 = .ok (.anewarray 34, 3) := by decide +kernel
theorem dX5_init_57 : decode cX5_init 57 = .ok (.putfield 36, 3) := by decide +kernel
theorem dX5_init_60 : decode cX5_init 60 = .ok (.iconst 0, 1) := by decide +kernel
theorem dX5_init_61 : decode cX5_init 61 = .ok (.istore_n 1, 1) := by decide +kernel
theorem dX5_init_62 : decode cX5_init 62 = .ok (.iload_n 1, 1) := by decide +kernel
theorem dX5_init_63 : decode cX5_init 63 = .ok (.iconst 2, 1) := by decide +kernel
theorem dX5_init_64 : decode cX5_init 64 = .ok (.if_icmp .ge 22, 3) := by decide +kernel
theorem dX5_init_67 : decode cX5_init 67 = .ok (.aload_n 0, 1) := by decide +kernel
theorem dX5_init_68 : decode cX5_init 68 = .ok (.getfield 19, 3) := by decide +kernel
theorem dX5_init_71 : decode cX5_init 71 = .ok (.iload_n 1, 1) := by decide +kernel
theorem dX5_init_72 : decode cX5_init 72 = .ok (.new 9, 3) := by decide +kernel
theorem dX5_init_75 : decode cX5_init 75 = .ok (.dup, 1) := by decide +kernel
theorem dX5_init_76 : decode cX5_init 76 = .ok (.invokespecial 11, 3) := by decide +kernel
theorem dX5_init_79 : decode cX5_init 79 = .ok (.aastore, 1) := by decide +kernel
theorem dX5_init_80 : decode cX5_init 80 = .ok (.iinc 1 1, 3) := by decide +kernel
theorem dX5_init_83 : decode cX5_init 83 = .ok (.goto (-21), 3) := by decide +kernel
theorem dX5_init_86 : decode cX5_init 86 = .ok (.iconst 0, 1) := by decide +kernel
theorem dX5_init_87 : decode cX5_init 87 = .ok (.istore_n 1, 1) := by decide +kernel
theorem dX5_init_88 : decode cX5_init 88 = .ok (.iload_n 1, 1) := by decide +kernel
theorem dX5_init_89 : decode cX5_init 89 = .ok (.iconst 4, 1) := by decide +kernel
theorem dX5_init_90 : decode cX5_init 90 = .ok (.if_icmp .ge 22, 3) := by decide +kernel
theorem dX5_init_93 : decode cX5_init 93 = .ok (.aload_n 0, 1) := by decide +kernel
theorem dX5_init_94 : decode cX5_init 94 = .ok (.getfield 36, 3) := by decide +kernel
theorem dX5_init_97 : decode cX5_init 97 = .ok (.iload_n 1, 1) := by decide +kernel
theorem dX5_init_98 : decode cX5_init 98 = .ok (.new 34, 3) := by decide +kernel
theorem dX5_init_101 : decode cX5_init 101 = .ok (.dup, 1) := by decide +kernel
theorem dX5_init_102 : decode cX5_init 102 = .ok (.invokespecial 40, 3) := by decide +kernel
theorem dX5_init_105 : decode cX5_init 105 = .ok (.aastore, 1) := by decide +kernel
theorem dX5_init_106 : decode cX5_init 106 = .ok (.iinc 1 1, 3) := by decide +kernel
theorem dX5_init_109 : decode cX5_init 109 = .ok (.goto (-21), 3) := by decide +kernel
theorem dX5_init_112 : decode cX5_init 112 = .ok (.return_, 1) := by decide +kernel
set_option maxRecDepth 20000 in
theorem ggX5_feed_X5_within : GoodIn wsX5_feed wsX5_within := goodIn_r _ [5] rfl (by decide +kernel)
set_option maxRecDepth 20000 in
theorem gX5_feed_X5_within : GoodIn wsX5_feed (va_wsS RX5 41 yX5_within wsX5_within) := goodIn_app (goodIn_of _ (by decide +kernel)) ggX5_feed_X5_within
set_option maxRecDepth 20000 in
theorem ggX5_feed_X3_put : GoodIn wsX5_feed wsX3_put := goodIn_r _ [10, 11, 12, 20, 21, 22, 23, 24, 25] rfl (by decide +kernel)
set_option maxRecDepth 20000 in
theorem gX5_feed_X3_put : GoodIn wsX5_feed (wsV RX5 45 RX3 yX3_put wsX3_put) := goodIn_app (goodIn_of _ (by decide +kernel)) ggX5_feed_X3_put
theorem dX5_feed_0 : decode cX5_feed 0 = .ok (.iload_n 1, 1) := by decide +kernel
theorem dX5_feed_1 : decode cX5_feed 1 = .ok (.iconst 0, 1) := by decide +kernel
theorem dX5_feed_2 : decode cX5_feed 2 = .ok (.bipush 127, 2) := by decide +kernel
theorem dX5_feed_4 : decode cX5_feed 4 = .ok (.invokestatic 41, 3) := by decide +kernel
theorem dX5_feed_7 : decode cX5_feed 7 = .ok (.ifCond .ne 5, 3) := by decide +kernel
theorem dX5_feed_10 : decode cX5_feed 10 = .ok (.iconst (-1), 1) := by decide +kernel
theorem dX5_feed_11 : decode cX5_feed 11 = .ok (.ireturn, 1) := by decide +kernel
theorem dX5_feed_12 : decode cX5_feed 12 = .ok (.aload_n 0, 1) := by decide +kernel
theorem dX5_feed_13 : decode cX5_feed 13 = .ok (.getfield 30, 3) := by decide +kernel
theorem dX5_feed_16 : decode cX5_feed 16 = .ok (.iload_n 1, 1) := by decide +kernel
theorem dX5_feed_17 : decode cX5_feed 17 = .ok (.invokevirtual 45, 3) := by decide +kernel
theorem dX5_feed_20 : decode cX5_feed 20 = .ok (.ifCond .eq 13, 3) := by decide +kernel
theorem dX5_feed_23 : decode cX5_feed 23 = .ok (.aload_n 0, 1) := by decide +kernel
theorem dX5_feed_24 : decode cX5_feed 24 = .ok (.getfield 30, 3) := by decide +kernel
theorem dX5_feed_27 : decode cX5_feed 27 = .ok (.getfield 49, 3) := by decide +kernel
theorem dX5_feed_30 : decode cX5_feed 30 = .ok (.goto 5, 3) := by decide +kernel
theorem dX5_feed_33 : decode cX5_feed 33 = .ok (.bipush (-3), 2) := by decide +kernel
theorem dX5_feed_35 : decode cX5_feed 35 = .ok (.ireturn, 1) := by decide +kernel
set_option maxRecDepth 20000 in
theorem ggX5_end_X5_within : GoodIn wsX5_end wsX5_within := goodIn_r _ [5] rfl (by decide +kernel)
set_option maxRecDepth 20000 in
theorem gX5_end_X5_within : GoodIn wsX5_end (va_wsS RX5 41 yX5_within wsX5_within) := goodIn_app (goodIn_of _ (by decide +kernel)) ggX5_end_X5_within
theorem dX5_end_0 : decode cX5_end 0 = .ok (.iload_n 1, 1) := by decide +kernel
theorem dX5_end_1 : decode cX5_end 1 = .ok (.iconst 0, 1) := by decide +kernel
theorem dX5_end_2 : decode cX5_end 2 = .ok (.aload_n 0, 1) := by decide +kernel
theorem dX5_end_3 : decode cX5_end 3 = .ok (.getfield 30, 3) := by decide +kernel
theorem dX5_end_6 : decode cX5_end 6 = .ok (.getfield 49, 3) := by decide +kernel
theorem dX5_end_9 : decode cX5_end 9 = .ok (.invokestatic 41, 3) := by decide +kernel
theorem dX5_end_12 : decode cX5_end 12 = .ok (.ifCond .ne 5, 3) := by decide +kernel
theorem dX5_end_15 : decode cX5_end 15 = .ok (.iconst (-1), 1) := by decide +kernel
theorem dX5_end_16 : decode cX5_end 16 = .ok (.ireturn, 1) := by decide +kernel
theorem dX5_end_17 : decode cX5_end 17 = .ok (.aload_n 0, 1) := by decide +kernel
theorem dX5_end_18 : decode cX5_end 18 = .ok (.getfield 30, 3) := by decide +kernel
theorem dX5_end_21 : decode cX5_end 21 = .ok (.getfield 49, 3) := by decide +kernel
theorem dX5_end_24 : decode cX5_end 24 = .ok (.istore_n 2, 1) := by decide +kernel
theorem dX5_end_25 : decode cX5_end 25 = .ok (.aload_n 0, 1) := by decide +kernel
theorem dX5_end_26 : decode cX5_end 26 = .ok (.getfield 30, 3) := by decide +kernel
theorem dX5_end_29 : decode cX5_end 29 = .ok (.iload_n 1, 1) := by decide +kernel
theorem dX5_end_30 : decode cX5_end 30 = .ok (.putfield 49, 3) := by decide +kernel
theorem dX5_end_33 : decode cX5_end 33 = .ok (.iload_n 2, 1) := by decide +kernel
theorem dX5_end_34 : decode cX5_end 34 = .ok (.ireturn, 1) := by decide +kernel
set_option maxRecDepth 20000 in
theorem ggX5_text_X3_tell : GoodIn wsX5_text wsX3_tell := goodIn_r _ [9, 10, 11, 12, 13, 14, 15, 16, 17, 18, 19, 20, 21, 22, 23, 8, 24, 25, 26, 27, 28, 29, 30, 31, 32, 33, 34, 35, 36, 37, 38, 39, 40, 41, 42, 43, 44, 45, 46, 47, 48, 49, 50, 51, 52, 53, 54, 55, 56, 57, 58, 59, 60, 61, 62, 63, 64, 65, 66, 67, 68, 69, 70, 71, 72, 73, 74, 75, 76, 77, 78, 79, 80, 81, 82, 83, 84, 85, 86, 87, 88, 89, 123, 124, 125, 117, 118, 119, 120, 121, 122, 126, 127, 128, 129, 130, 131] rfl (by decide +kernel)
set_option maxRecDepth 20000 in
theorem gX5_text_X3_tell : GoodIn wsX5_text (wsV RX5 53 RX3 yX3_tell wsX3_tell) := goodIn_app (goodIn_of _ (by decide +kernel)) ggX5_text_X3_tell
set_option maxRecDepth 20000 in
theorem ggX5_text_X4_become : GoodIn wsX5_text wsX4_become := goodIn_r _ [94, 95, 96, 97, 98, 99, 100, 101, 102, 103, 16, 104, 18, 19, 20, 83, 105, 84, 85, 123, 124, 125, 126, 127, 128, 129, 130, 131] rfl (by decide +kernel)
set_option maxRecDepth 20000 in
theorem gX5_text_X4_become : GoodIn wsX5_text (wsV RX5 63 RX4 yX4_become wsX4_become) := goodIn_app (goodIn_of _ (by decide +kernel)) ggX5_text_X4_become
set_option maxRecDepth 20000 in
theorem ggX5_text_X4_nodes : GoodIn wsX5_text wsX4_nodes := goodIn_r _ [109, 95, 123, 124, 125, 126, 127, 128, 129, 130, 131] rfl (by decide +kernel)
set_option maxRecDepth 20000 in
theorem gX5_text_X4_nodes : GoodIn wsX5_text (wsV RX5 66 RX4 yX4_nodes wsX4_nodes) := goodIn_app (goodIn_of _ (by decide +kernel)) ggX5_text_X4_nodes
theorem dX5_text_0 : decode cX5_text 0 = .ok (.aload_n 0, 1) := by decide +kernel
theorem dX5_text_1 : decode cX5_text 1 = .ok (.getfield 30, 3) := by decide +kernel
theorem dX5_text_4 : decode cX5_text 4 = .ok (.aload_n 0, 1) := by decide +kernel
theorem dX5_text_5 : decode cX5_text 5 = .ok (.getfield 16, 3) := by decide +kernel
theorem dX5_text_8 : decode cX5_text 8 = .ok (.invokevirtual 53, 3) := by decide +kernel
theorem dX5_text_11 : decode cX5_text 11 = .ok (.aload_n 0, 1) := by decide +kernel
theorem dX5_text_12 : decode cX5_text 12 = .ok (.getfield 30, 3) := by decide +kernel
theorem dX5_text_15 : decode cX5_text 15 = .ok (.iconst 0, 1) := by decide +kernel
theorem dX5_text_16 : decode cX5_text 16 = .ok (.putfield 49, 3) := by decide +kernel
theorem dX5_text_19 : decode cX5_text 19 = .ok (.aload_n 0, 1) := by decide +kernel
theorem dX5_text_20 : decode cX5_text 20 = .ok (.getfield 30, 3) := by decide +kernel
theorem dX5_text_23 : decode cX5_text 23 = .ok (.getfield 57, 3) := by decide +kernel
theorem dX5_text_26 : decode cX5_text 26 = .ok (.ifCond .eq 14, 3) := by decide +kernel
theorem dX5_text_29 : decode cX5_text 29 = .ok (.bipush (-10), 2) := by decide +kernel
theorem dX5_text_31 : decode cX5_text 31 = .ok (.aload_n 0, 1) := by decide +kernel
theorem dX5_text_32 : decode cX5_text 32 = .ok (.getfield 30, 3) := by decide +kernel
theorem dX5_text_35 : decode cX5_text 35 = .ok (.getfield 60, 3) := by decide +kernel
theorem dX5_text_38 : decode cX5_text 38 = .ok (.isub, 1) := by decide +kernel
theorem dX5_text_39 : decode cX5_text 39 = .ok (.ireturn, 1) := by decide +kernel
theorem dX5_text_40 : decode cX5_text 40 = .ok (.aload_n 0, 1) := by decide +kernel
theorem dX5_text_41 : decode cX5_text 41 = .ok (.getfield 12, 3) := by decide +kernel
theorem dX5_text_44 : decode cX5_text 44 = .ok (.aload_n 0, 1) := by decide +kernel
theorem dX5_text_45 : decode cX5_text 45 = .ok (.getfield 16, 3) := by decide +kernel
theorem dX5_text_48 : decode cX5_text 48 = .ok (.invokevirtual 63, 3) := by decide +kernel
theorem dX5_text_51 : decode cX5_text 51 = .ok (.iconst 0, 1) := by decide +kernel
theorem dX5_text_52 : decode cX5_text 52 = .ok (.istore_n 1, 1) := by decide +kernel
theorem dX5_text_53 : decode cX5_text 53 = .ok (.iload_n 1, 1) := by decide +kernel
theorem dX5_text_54 : decode cX5_text 54 = .ok (.iconst 2, 1) := by decide +kernel
theorem dX5_text_55 : decode cX5_text 55 = .ok (.if_icmp .ge 16, 3) := by decide +kernel
theorem dX5_text_58 : decode cX5_text 58 = .ok (.aload_n 0, 1) := by decide +kernel
theorem dX5_text_59 : decode cX5_text 59 = .ok (.getfield 23, 3) := by decide +kernel
theorem dX5_text_62 : decode cX5_text 62 = .ok (.iload_n 1, 1) := by decide +kernel
theorem dX5_text_63 : decode cX5_text 63 = .ok (.iconst 0, 1) := by decide +kernel
theorem dX5_text_64 : decode cX5_text 64 = .ok (.bastore, 1) := by decide +kernel
theorem dX5_text_65 : decode cX5_text 65 = .ok (.iinc 1 1, 3) := by decide +kernel
theorem dX5_text_68 : decode cX5_text 68 = .ok (.goto (-15), 3) := by decide +kernel
theorem dX5_text_71 : decode cX5_text 71 = .ok (.aload_n 0, 1) := by decide +kernel
theorem dX5_text_72 : decode cX5_text 72 = .ok (.getfield 12, 3) := by decide +kernel
theorem dX5_text_75 : decode cX5_text 75 = .ok (.invokevirtual 66, 3) := by decide +kernel
theorem dX5_text_78 : decode cX5_text 78 = .ok (.ireturn, 1) := by decide +kernel
theorem dX5_fault_0 : decode cX5_fault 0 = .ok (.aload_n 0, 1) := by decide +kernel
theorem dX5_fault_1 : decode cX5_fault 1 = .ok (.getfield 30, 3) := by decide +kernel
theorem dX5_fault_4 : decode cX5_fault 4 = .ok (.getfield 57, 3) := by decide +kernel
theorem dX5_fault_7 : decode cX5_fault 7 = .ok (.ireturn, 1) := by decide +kernel
set_option maxRecDepth 20000 in
theorem ggX5_size_X4_nodes : GoodIn wsX5_size wsX4_nodes := goodIn_r _ [6, 7, 113, 114, 115, 116, 117, 118, 119, 120, 121] rfl (by decide +kernel)
set_option maxRecDepth 20000 in
theorem gX5_size_X4_nodes : GoodIn wsX5_size (wsV RX5 66 RX4 yX4_nodes wsX4_nodes) := goodIn_app (goodIn_of _ (by decide +kernel)) ggX5_size_X4_nodes
set_option maxRecDepth 20000 in
theorem ggX5_size_X1_signsAhead : GoodIn wsX5_size wsX1_signsAhead := goodIn_r _ [12, 13, 14, 15, 11, 16, 17, 18, 19, 20, 21, 22, 23, 24, 25, 26, 27, 28, 29, 30, 31, 32, 33, 34, 35, 36, 37, 38, 39, 40, 41, 42, 116, 117, 118, 119, 120, 121] rfl (by decide +kernel)
set_option maxRecDepth 20000 in
theorem gX5_size_X1_signsAhead : GoodIn wsX5_size (wsV RX5 79 RX1 yX1_signsAhead wsX1_signsAhead) := goodIn_app (goodIn_of _ (by decide +kernel)) ggX5_size_X1_signsAhead
set_option maxRecDepth 20000 in
theorem ggX5_size_X4_heightOf : GoodIn wsX5_size wsX4_heightOf := goodIn_r _ [46, 7, 47, 48, 49, 5, 50, 51, 52, 53, 11, 54, 13, 14, 15, 16, 17, 18, 19, 20, 21, 22, 23, 24, 25, 26, 27, 28, 29, 30, 31, 32, 33, 34, 35, 55, 56, 57, 58, 36, 37, 38, 39, 40, 41, 42, 59, 60, 61, 62, 63, 64, 65, 66, 67, 68, 69, 70, 71, 72, 73, 74, 75, 76, 77, 78, 79, 80, 81, 82, 83, 84, 85, 86, 87, 88, 89, 90, 91, 92, 93, 94, 95, 96, 97, 98, 99, 100, 101, 113, 114, 115, 116, 117, 118, 119, 120, 121] rfl (by decide +kernel)
set_option maxRecDepth 20000 in
theorem gX5_size_X4_heightOf : GoodIn wsX5_size (wsV RX5 83 RX4 yX4_heightOf wsX4_heightOf) := goodIn_app (goodIn_of _ (by decide +kernel)) ggX5_size_X4_heightOf
set_option maxRecDepth 20000 in
theorem ggX5_size_X1_blocks : GoodIn wsX5_size wsX1_blocks := goodIn_r _ [105, 19, 116, 117, 118, 119, 120, 121] rfl (by decide +kernel)
set_option maxRecDepth 20000 in
theorem gX5_size_X1_blocks : GoodIn wsX5_size (wsV RX5 87 RX1 yX1_blocks wsX1_blocks) := goodIn_app (goodIn_of _ (by decide +kernel)) ggX5_size_X1_blocks
theorem dX5_size_0 : decode cX5_size 0 = .ok (.iload_n 1, 1) := by decide +kernel
theorem dX5_size_1 : decode cX5_size 1 = .ok (.tableswitch 111 0 4 #[35, 43, 65, 89, 100], 35) := by decide +kernel
theorem dX5_size_36 : decode cX5_size 36 = .ok (.aload_n 0, 1) := by decide +kernel
theorem dX5_size_37 : decode cX5_size 37 = .ok (.getfield 12, 3) := by decide +kernel
theorem dX5_size_40 : decode cX5_size 40 = .ok (.invokevirtual 66, 3) := by decide +kernel
theorem dX5_size_43 : decode cX5_size 43 = .ok (.ireturn, 1) := by decide +kernel
theorem dX5_size_44 : decode cX5_size 44 = .ok (.aload_n 0, 1) := by decide +kernel
theorem dX5_size_45 : decode cX5_size 45 = .ok (.getfield 12, 3) := by decide +kernel
theorem dX5_size_48 : decode cX5_size 48 = .ok (.getfield 70, 3) := by decide +kernel
theorem dX5_size_51 : decode cX5_size 51 = .ok (.aload_n 0, 1) := by decide +kernel
theorem dX5_size_52 : decode cX5_size 52 = .ok (.getfield 12, 3) := by decide +kernel
theorem dX5_size_55 : decode cX5_size 55 = .ok (.getfield 70, 3) := by decide +kernel
theorem dX5_size_58 : decode cX5_size 58 = .ok (.getfield 74, 3) := by decide +kernel
theorem dX5_size_61 : decode cX5_size 61 = .ok (.iconst 2, 1) := by decide +kernel
theorem dX5_size_62 : decode cX5_size 62 = .ok (.invokevirtual 79, 3) := by decide +kernel
theorem dX5_size_65 : decode cX5_size 65 = .ok (.ireturn, 1) := by decide +kernel
theorem dX5_size_66 : decode cX5_size 66 = .ok (.aload_n 0, 1) := by decide +kernel
theorem dX5_size_67 : decode cX5_size 67 = .ok (.getfield 12, 3) := by decide +kernel
theorem dX5_size_70 : decode cX5_size 70 = .ok (.invokevirtual 66, 3) := by decide +kernel
theorem dX5_size_73 : decode cX5_size 73 = .ok (.ifCond .ne 8, 3) := by decide +kernel
theorem dX5_size_76 : decode cX5_size 76 = .ok (.bipush (-4), 2) := by decide +kernel
theorem dX5_size_78 : decode cX5_size 78 = .ok (.goto 11, 3) := by decide +kernel
theorem dX5_size_81 : decode cX5_size 81 = .ok (.aload_n 0, 1) := by decide +kernel
theorem dX5_size_82 : decode cX5_size 82 = .ok (.getfield 12, 3) := by decide +kernel
theorem dX5_size_85 : decode cX5_size 85 = .ok (.iconst 0, 1) := by decide +kernel
theorem dX5_size_86 : decode cX5_size 86 = .ok (.invokevirtual 83, 3) := by decide +kernel
theorem dX5_size_89 : decode cX5_size 89 = .ok (.ireturn, 1) := by decide +kernel
theorem dX5_size_90 : decode cX5_size 90 = .ok (.aload_n 0, 1) := by decide +kernel
theorem dX5_size_91 : decode cX5_size 91 = .ok (.getfield 12, 3) := by decide +kernel
theorem dX5_size_94 : decode cX5_size 94 = .ok (.getfield 70, 3) := by decide +kernel
theorem dX5_size_97 : decode cX5_size 97 = .ok (.getfield 74, 3) := by decide +kernel
theorem dX5_size_100 : decode cX5_size 100 = .ok (.ireturn, 1) := by decide +kernel
theorem dX5_size_101 : decode cX5_size 101 = .ok (.aload_n 0, 1) := by decide +kernel
theorem dX5_size_102 : decode cX5_size 102 = .ok (.getfield 12, 3) := by decide +kernel
theorem dX5_size_105 : decode cX5_size 105 = .ok (.getfield 70, 3) := by decide +kernel
theorem dX5_size_108 : decode cX5_size 108 = .ok (.invokevirtual 87, 3) := by decide +kernel
theorem dX5_size_111 : decode cX5_size 111 = .ok (.ireturn, 1) := by decide +kernel
theorem dX5_size_112 : decode cX5_size 112 = .ok (.iconst (-1), 1) := by decide +kernel
theorem dX5_size_113 : decode cX5_size 113 = .ok (.ireturn, 1) := by decide +kernel
set_option maxRecDepth 20000 in
theorem ggX5_bit_X5_isPlace : GoodIn wsX5_bit wsX5_isPlace := goodIn_r _ [6, 1, 7, 8, 5, 9, 17, 18, 19, 20, 21, 22, 23, 24, 25, 26, 27, 28, 29, 30, 31, 32] rfl (by decide +kernel)
set_option maxRecDepth 20000 in
theorem gX5_bit_X5_isPlace : GoodIn wsX5_bit (wsV RX5 90 RX5 yX5_isPlace wsX5_isPlace) := goodIn_app (goodIn_of _ (by decide +kernel)) ggX5_bit_X5_isPlace
set_option maxRecDepth 20000 in
theorem ggX5_bit_X1_bitAt : GoodIn wsX5_bit wsX1_bitAt := goodIn_r _ [14, 15, 16, 27, 28, 29, 30, 31, 32] rfl (by decide +kernel)
set_option maxRecDepth 20000 in
theorem gX5_bit_X1_bitAt : GoodIn wsX5_bit (wsV RX5 93 RX1 yX1_bitAt wsX1_bitAt) := goodIn_app (goodIn_of _ (by decide +kernel)) ggX5_bit_X1_bitAt
theorem dX5_bit_0 : decode cX5_bit 0 = .ok (.aload_n 0, 1) := by decide +kernel
theorem dX5_bit_1 : decode cX5_bit 1 = .ok (.iload_n 1, 1) := by decide +kernel
theorem dX5_bit_2 : decode cX5_bit 2 = .ok (.invokevirtual 90, 3) := by decide +kernel
theorem dX5_bit_5 : decode cX5_bit 5 = .ok (.ifCond .eq 17, 3) := by decide +kernel
theorem dX5_bit_8 : decode cX5_bit 8 = .ok (.aload_n 0, 1) := by decide +kernel
theorem dX5_bit_9 : decode cX5_bit 9 = .ok (.getfield 12, 3) := by decide +kernel
theorem dX5_bit_12 : decode cX5_bit 12 = .ok (.getfield 70, 3) := by decide +kernel
theorem dX5_bit_15 : decode cX5_bit 15 = .ok (.iload_n 1, 1) := by decide +kernel
theorem dX5_bit_16 : decode cX5_bit 16 = .ok (.invokevirtual 93, 3) := by decide +kernel
theorem dX5_bit_19 : decode cX5_bit 19 = .ok (.goto 4, 3) := by decide +kernel
theorem dX5_bit_22 : decode cX5_bit 22 = .ok (.iconst (-1), 1) := by decide +kernel
theorem dX5_bit_23 : decode cX5_bit 23 = .ok (.ireturn, 1) := by decide +kernel
set_option maxRecDepth 20000 in
theorem ggX5_excess_X5_isPoint : GoodIn wsX5_excess wsX5_isPoint := goodIn_r _ [6, 1, 7, 8, 5, 9, 29, 30, 31, 32, 33, 34, 35, 36, 37, 38, 39, 40, 41, 42, 43, 44] rfl (by decide +kernel)
set_option maxRecDepth 20000 in
theorem gX5_excess_X5_isPoint : GoodIn wsX5_excess (wsV RX5 96 RX5 yX5_isPoint wsX5_isPoint) := goodIn_app (goodIn_of _ (by decide +kernel)) ggX5_excess_X5_isPoint
set_option maxRecDepth 20000 in
theorem ggX5_excess_X1_excessAt : GoodIn wsX5_excess wsX1_excessAt := goodIn_r _ [14, 15, 16, 17, 18, 19, 20, 21, 22, 23, 24, 25, 26, 27, 28, 39, 40, 41, 42, 43, 44] rfl (by decide +kernel)
set_option maxRecDepth 20000 in
theorem gX5_excess_X1_excessAt : GoodIn wsX5_excess (wsV RX5 99 RX1 yX1_excessAt wsX1_excessAt) := goodIn_app (goodIn_of _ (by decide +kernel)) ggX5_excess_X1_excessAt
theorem dX5_excess_0 : decode cX5_excess 0 = .ok (.aload_n 0, 1) := by decide +kernel
theorem dX5_excess_1 : decode cX5_excess 1 = .ok (.iload_n 1, 1) := by decide +kernel
theorem dX5_excess_2 : decode cX5_excess 2 = .ok (.invokevirtual 96, 3) := by decide +kernel
theorem dX5_excess_5 : decode cX5_excess 5 = .ok (.ifCond .eq 17, 3) := by decide +kernel
theorem dX5_excess_8 : decode cX5_excess 8 = .ok (.aload_n 0, 1) := by decide +kernel
theorem dX5_excess_9 : decode cX5_excess 9 = .ok (.getfield 12, 3) := by decide +kernel
theorem dX5_excess_12 : decode cX5_excess 12 = .ok (.getfield 70, 3) := by decide +kernel
theorem dX5_excess_15 : decode cX5_excess 15 = .ok (.iload_n 1, 1) := by decide +kernel
theorem dX5_excess_16 : decode cX5_excess 16 = .ok (.invokevirtual 99, 3) := by decide +kernel
theorem dX5_excess_19 : decode cX5_excess 19 = .ok (.goto 4, 3) := by decide +kernel
theorem dX5_excess_22 : decode cX5_excess 22 = .ok (.iconst (-1), 1) := by decide +kernel
theorem dX5_excess_23 : decode cX5_excess 23 = .ok (.ireturn, 1) := by decide +kernel
set_option maxRecDepth 20000 in
theorem ggX5_rank_X5_isPoint : GoodIn wsX5_rank wsX5_isPoint := goodIn_r _ [6, 1, 7, 8, 5, 9, 45, 46, 47, 48, 49, 50, 51, 52, 53, 54, 55, 56, 57, 58, 59, 60] rfl (by decide +kernel)
set_option maxRecDepth 20000 in
theorem gX5_rank_X5_isPoint : GoodIn wsX5_rank (wsV RX5 96 RX5 yX5_isPoint wsX5_isPoint) := goodIn_app (goodIn_of _ (by decide +kernel)) ggX5_rank_X5_isPoint
set_option maxRecDepth 20000 in
theorem ggX5_rank_X5_within : GoodIn wsX5_rank wsX5_within := goodIn_r _ [9] rfl (by decide +kernel)
set_option maxRecDepth 20000 in
theorem gX5_rank_X5_within : GoodIn wsX5_rank (va_wsS RX5 41 yX5_within wsX5_within) := goodIn_app (goodIn_of _ (by decide +kernel)) ggX5_rank_X5_within
set_option maxRecDepth 20000 in
theorem ggX5_rank_X1_signsAhead : GoodIn wsX5_rank wsX1_signsAhead := goodIn_r _ [14, 15, 16, 17, 13, 18, 19, 20, 21, 22, 23, 24, 25, 26, 27, 28, 29, 30, 31, 32, 33, 34, 35, 36, 37, 38, 39, 40, 41, 42, 43, 44, 55, 56, 57, 58, 59, 60] rfl (by decide +kernel)
set_option maxRecDepth 20000 in
theorem gX5_rank_X1_signsAhead : GoodIn wsX5_rank (wsV RX5 79 RX1 yX1_signsAhead wsX1_signsAhead) := goodIn_app (goodIn_of _ (by decide +kernel)) ggX5_rank_X1_signsAhead
theorem dX5_rank_0 : decode cX5_rank 0 = .ok (.aload_n 0, 1) := by decide +kernel
theorem dX5_rank_1 : decode cX5_rank 1 = .ok (.iload_n 1, 1) := by decide +kernel
theorem dX5_rank_2 : decode cX5_rank 2 = .ok (.invokevirtual 96, 3) := by decide +kernel
theorem dX5_rank_5 : decode cX5_rank 5 = .ok (.ifCond .eq 12, 3) := by decide +kernel
theorem dX5_rank_8 : decode cX5_rank 8 = .ok (.iload_n 2, 1) := by decide +kernel
theorem dX5_rank_9 : decode cX5_rank 9 = .ok (.iconst 0, 1) := by decide +kernel
theorem dX5_rank_10 : decode cX5_rank 10 = .ok (.iconst 2, 1) := by decide +kernel
theorem dX5_rank_11 : decode cX5_rank 11 = .ok (.invokestatic 41, 3) := by decide +kernel
theorem dX5_rank_14 : decode cX5_rank 14 = .ok (.ifCond .ne 5, 3) := by decide +kernel
theorem dX5_rank_17 : decode cX5_rank 17 = .ok (.iconst (-1), 1) := by decide +kernel
theorem dX5_rank_18 : decode cX5_rank 18 = .ok (.ireturn, 1) := by decide +kernel
theorem dX5_rank_19 : decode cX5_rank 19 = .ok (.aload_n 0, 1) := by decide +kernel
theorem dX5_rank_20 : decode cX5_rank 20 = .ok (.getfield 12, 3) := by decide +kernel
theorem dX5_rank_23 : decode cX5_rank 23 = .ok (.getfield 70, 3) := by decide +kernel
theorem dX5_rank_26 : decode cX5_rank 26 = .ok (.iload_n 2, 1) := by decide +kernel
theorem dX5_rank_27 : decode cX5_rank 27 = .ok (.iconst 2, 1) := by decide +kernel
theorem dX5_rank_28 : decode cX5_rank 28 = .ok (.if_icmp .ne 9, 3) := by decide +kernel
theorem dX5_rank_31 : decode cX5_rank 31 = .ok (.iload_n 1, 1) := by decide +kernel
theorem dX5_rank_32 : decode cX5_rank 32 = .ok (.iconst 1, 1) := by decide +kernel
theorem dX5_rank_33 : decode cX5_rank 33 = .ok (.isub, 1) := by decide +kernel
theorem dX5_rank_34 : decode cX5_rank 34 = .ok (.goto 4, 3) := by decide +kernel
theorem dX5_rank_37 : decode cX5_rank 37 = .ok (.iload_n 1, 1) := by decide +kernel
theorem dX5_rank_38 : decode cX5_rank 38 = .ok (.iload_n 2, 1) := by decide +kernel
theorem dX5_rank_39 : decode cX5_rank 39 = .ok (.invokevirtual 79, 3) := by decide +kernel
theorem dX5_rank_42 : decode cX5_rank 42 = .ok (.ireturn, 1) := by decide +kernel
set_option maxRecDepth 20000 in
theorem ggX5_select_X5_within : GoodIn wsX5_select wsX5_within := goodIn_r _ [5] rfl (by decide +kernel)
set_option maxRecDepth 20000 in
theorem gX5_select_X5_within : GoodIn wsX5_select (va_wsS RX5 41 yX5_within wsX5_within) := goodIn_app (goodIn_of _ (by decide +kernel)) ggX5_select_X5_within
set_option maxRecDepth 20000 in
theorem ggX5_select_X1_placeOfSign : GoodIn wsX5_select wsX1_placeOfSign := goodIn_r _ [10, 11, 12, 13, 9, 14, 15, 16, 17, 18, 19, 20, 21, 22, 23, 24, 25, 26, 27, 28, 29, 30, 31, 32, 33, 34, 35, 36, 37, 38, 39, 40, 41, 42, 43, 44, 55, 56, 57, 58, 59, 60] rfl (by decide +kernel)
set_option maxRecDepth 20000 in
theorem gX5_select_X1_placeOfSign : GoodIn wsX5_select (wsV RX5 102 RX1 yX1_placeOfSign wsX1_placeOfSign) := goodIn_app (goodIn_of _ (by decide +kernel)) ggX5_select_X1_placeOfSign
theorem dX5_select_0 : decode cX5_select 0 = .ok (.iload_n 1, 1) := by decide +kernel
theorem dX5_select_1 : decode cX5_select 1 = .ok (.ifCond .lt 12, 3) := by decide +kernel
theorem dX5_select_4 : decode cX5_select 4 = .ok (.iload_n 2, 1) := by decide +kernel
theorem dX5_select_5 : decode cX5_select 5 = .ok (.iconst 0, 1) := by decide +kernel
theorem dX5_select_6 : decode cX5_select 6 = .ok (.iconst 2, 1) := by decide +kernel
theorem dX5_select_7 : decode cX5_select 7 = .ok (.invokestatic 41, 3) := by decide +kernel
theorem dX5_select_10 : decode cX5_select 10 = .ok (.ifCond .ne 5, 3) := by decide +kernel
theorem dX5_select_13 : decode cX5_select 13 = .ok (.iconst (-1), 1) := by decide +kernel
theorem dX5_select_14 : decode cX5_select 14 = .ok (.ireturn, 1) := by decide +kernel
theorem dX5_select_15 : decode cX5_select 15 = .ok (.aload_n 0, 1) := by decide +kernel
theorem dX5_select_16 : decode cX5_select 16 = .ok (.getfield 12, 3) := by decide +kernel
theorem dX5_select_19 : decode cX5_select 19 = .ok (.getfield 70, 3) := by decide +kernel
theorem dX5_select_22 : decode cX5_select 22 = .ok (.iload_n 1, 1) := by decide +kernel
theorem dX5_select_23 : decode cX5_select 23 = .ok (.iload_n 2, 1) := by decide +kernel
theorem dX5_select_24 : decode cX5_select 24 = .ok (.invokevirtual 102, 3) := by decide +kernel
theorem dX5_select_27 : decode cX5_select 27 = .ok (.ireturn, 1) := by decide +kernel
set_option maxRecDepth 20000 in
theorem ggX5_forward_X5_isPoint : GoodIn wsX5_forward wsX5_isPoint := goodIn_r _ [6, 1, 7, 8, 5, 9, 45, 46, 47, 48, 49, 50, 51, 52, 53, 54, 55, 56, 57, 58, 59, 60] rfl (by decide +kernel)
set_option maxRecDepth 20000 in
theorem gX5_forward_X5_isPoint : GoodIn wsX5_forward (wsV RX5 96 RX5 yX5_isPoint wsX5_isPoint) := goodIn_app (goodIn_of _ (by decide +kernel)) ggX5_forward_X5_isPoint
set_option maxRecDepth 20000 in
theorem ggX5_forward_X1_searchOn : GoodIn wsX5_forward wsX1_searchOn := goodIn_r _ [14, 15, 16, 17, 18, 19, 13, 20, 21, 22, 23, 24, 25, 26, 27, 28, 29, 30, 31, 32, 33, 34, 35, 36, 37, 38, 39, 40, 41, 42, 43, 44, 55, 56, 57, 58, 59, 60] rfl (by decide +kernel)
set_option maxRecDepth 20000 in
theorem gX5_forward_X1_searchOn : GoodIn wsX5_forward (wsV RX5 105 RX1 yX1_searchOn wsX1_searchOn) := goodIn_app (goodIn_of _ (by decide +kernel)) ggX5_forward_X1_searchOn
theorem dX5_forward_0 : decode cX5_forward 0 = .ok (.aload_n 0, 1) := by decide +kernel
theorem dX5_forward_1 : decode cX5_forward 1 = .ok (.iload_n 1, 1) := by decide +kernel
theorem dX5_forward_2 : decode cX5_forward 2 = .ok (.invokevirtual 96, 3) := by decide +kernel
theorem dX5_forward_5 : decode cX5_forward 5 = .ok (.ifCond .eq 18, 3) := by decide +kernel
theorem dX5_forward_8 : decode cX5_forward 8 = .ok (.aload_n 0, 1) := by decide +kernel
theorem dX5_forward_9 : decode cX5_forward 9 = .ok (.getfield 12, 3) := by decide +kernel
theorem dX5_forward_12 : decode cX5_forward 12 = .ok (.getfield 70, 3) := by decide +kernel
theorem dX5_forward_15 : decode cX5_forward 15 = .ok (.iload_n 1, 1) := by decide +kernel
theorem dX5_forward_16 : decode cX5_forward 16 = .ok (.iload_n 2, 1) := by decide +kernel
theorem dX5_forward_17 : decode cX5_forward 17 = .ok (.invokevirtual 105, 3) := by decide +kernel
theorem dX5_forward_20 : decode cX5_forward 20 = .ok (.goto 4, 3) := by decide +kernel
theorem dX5_forward_23 : decode cX5_forward 23 = .ok (.iconst (-1), 1) := by decide +kernel
theorem dX5_forward_24 : decode cX5_forward 24 = .ok (.ireturn, 1) := by decide +kernel
set_option maxRecDepth 20000 in
theorem ggX5_backward_X5_isPoint : GoodIn wsX5_backward wsX5_isPoint := goodIn_r _ [6, 1, 7, 8, 5, 9, 44, 45, 46, 47, 48, 49, 50, 51, 52, 53, 54, 55, 56, 57, 58, 59] rfl (by decide +kernel)
set_option maxRecDepth 20000 in
theorem gX5_backward_X5_isPoint : GoodIn wsX5_backward (wsV RX5 96 RX5 yX5_isPoint wsX5_isPoint) := goodIn_app (goodIn_of _ (by decide +kernel)) ggX5_backward_X5_isPoint
set_option maxRecDepth 20000 in
theorem ggX5_backward_X1_searchBack : GoodIn wsX5_backward wsX1_searchBack := goodIn_r _ [14, 15, 16, 17, 18, 13, 19, 20, 21, 22, 23, 24, 25, 26, 27, 28, 29, 30, 31, 32, 33, 34, 35, 36, 37, 38, 39, 40, 41, 42, 43, 54, 55, 56, 57, 58, 59] rfl (by decide +kernel)
set_option maxRecDepth 20000 in
theorem gX5_backward_X1_searchBack : GoodIn wsX5_backward (wsV RX5 108 RX1 yX1_searchBack wsX1_searchBack) := goodIn_app (goodIn_of _ (by decide +kernel)) ggX5_backward_X1_searchBack
theorem dX5_backward_0 : decode cX5_backward 0 = .ok (.aload_n 0, 1) := by decide +kernel
theorem dX5_backward_1 : decode cX5_backward 1 = .ok (.iload_n 1, 1) := by decide +kernel
theorem dX5_backward_2 : decode cX5_backward 2 = .ok (.invokevirtual 96, 3) := by decide +kernel
theorem dX5_backward_5 : decode cX5_backward 5 = .ok (.ifCond .eq 18, 3) := by decide +kernel
theorem dX5_backward_8 : decode cX5_backward 8 = .ok (.aload_n 0, 1) := by decide +kernel
theorem dX5_backward_9 : decode cX5_backward 9 = .ok (.getfield 12, 3) := by decide +kernel
theorem dX5_backward_12 : decode cX5_backward 12 = .ok (.getfield 70, 3) := by decide +kernel
theorem dX5_backward_15 : decode cX5_backward 15 = .ok (.iload_n 1, 1) := by decide +kernel
theorem dX5_backward_16 : decode cX5_backward 16 = .ok (.iload_n 2, 1) := by decide +kernel
theorem dX5_backward_17 : decode cX5_backward 17 = .ok (.invokevirtual 108, 3) := by decide +kernel
theorem dX5_backward_20 : decode cX5_backward 20 = .ok (.goto 4, 3) := by decide +kernel
theorem dX5_backward_23 : decode cX5_backward 23 = .ok (.iconst (-1), 1) := by decide +kernel
theorem dX5_backward_24 : decode cX5_backward 24 = .ok (.ireturn, 1) := by decide +kernel
set_option maxRecDepth 20000 in
theorem ggX5_match_X5_isPlace : GoodIn wsX5_match wsX5_isPlace := goodIn_r _ [6, 1, 7, 8, 5, 9, 57, 58, 59, 60, 61, 62, 63, 64, 65, 66, 67, 68, 69, 70, 71, 72] rfl (by decide +kernel)
set_option maxRecDepth 20000 in
theorem gX5_match_X5_isPlace : GoodIn wsX5_match (wsV RX5 90 RX5 yX5_isPlace wsX5_isPlace) := goodIn_app (goodIn_of _ (by decide +kernel)) ggX5_match_X5_isPlace
set_option maxRecDepth 20000 in
theorem ggX5_match_X1_partnerOf : GoodIn wsX5_match wsX1_partnerOf := goodIn_r _ [14, 15, 16, 17, 13, 18, 19, 20, 21, 22, 23, 24, 25, 26, 27, 28, 29, 30, 31, 32, 33, 34, 35, 36, 37, 38, 39, 40, 41, 42, 43, 44, 45, 46, 47, 48, 49, 50, 51, 52, 53, 54, 55, 56, 67, 68, 69, 70, 71, 72] rfl (by decide +kernel)
set_option maxRecDepth 20000 in
theorem gX5_match_X1_partnerOf : GoodIn wsX5_match (wsV RX5 111 RX1 yX1_partnerOf wsX1_partnerOf) := goodIn_app (goodIn_of _ (by decide +kernel)) ggX5_match_X1_partnerOf
theorem dX5_match_0 : decode cX5_match 0 = .ok (.aload_n 0, 1) := by decide +kernel
theorem dX5_match_1 : decode cX5_match 1 = .ok (.iload_n 1, 1) := by decide +kernel
theorem dX5_match_2 : decode cX5_match 2 = .ok (.invokevirtual 90, 3) := by decide +kernel
theorem dX5_match_5 : decode cX5_match 5 = .ok (.ifCond .eq 17, 3) := by decide +kernel
theorem dX5_match_8 : decode cX5_match 8 = .ok (.aload_n 0, 1) := by decide +kernel
theorem dX5_match_9 : decode cX5_match 9 = .ok (.getfield 12, 3) := by decide +kernel
theorem dX5_match_12 : decode cX5_match 12 = .ok (.getfield 70, 3) := by decide +kernel
theorem dX5_match_15 : decode cX5_match 15 = .ok (.iload_n 1, 1) := by decide +kernel
theorem dX5_match_16 : decode cX5_match 16 = .ok (.invokevirtual 111, 3) := by decide +kernel
theorem dX5_match_19 : decode cX5_match 19 = .ok (.goto 4, 3) := by decide +kernel
theorem dX5_match_22 : decode cX5_match 22 = .ok (.iconst (-1), 1) := by decide +kernel
theorem dX5_match_23 : decode cX5_match 23 = .ok (.ireturn, 1) := by decide +kernel
set_option maxRecDepth 20000 in
theorem ggX5_least_X5_isPoint : GoodIn wsX5_least wsX5_isPoint := goodIn_r _ [6, 1, 7, 8, 5, 9, 64, 65, 66, 67, 68, 69, 70, 71, 72, 73, 74, 75, 76, 77, 78, 79] rfl (by decide +kernel)
set_option maxRecDepth 20000 in
theorem gX5_least_X5_isPoint : GoodIn wsX5_least (wsV RX5 96 RX5 yX5_isPoint wsX5_isPoint) := goodIn_app (goodIn_of _ (by decide +kernel)) ggX5_least_X5_isPoint
set_option maxRecDepth 20000 in
theorem ggX5_least_X1_extremeIn : GoodIn wsX5_least wsX1_extremeIn := goodIn_r _ [14, 15, 16, 17, 18, 19, 20, 21, 22, 23, 24, 25, 26, 27, 13, 28, 29, 30, 31, 32, 33, 34, 35, 36, 37, 38, 39, 40, 41, 42, 43, 44, 45, 46, 74, 75, 76, 77, 78, 79] rfl (by decide +kernel)
set_option maxRecDepth 20000 in
theorem gX5_least_X1_extremeIn : GoodIn wsX5_least (wsV RX5 114 RX1 yX1_extremeIn wsX1_extremeIn) := goodIn_app (goodIn_of _ (by decide +kernel)) ggX5_least_X1_extremeIn
set_option maxRecDepth 20000 in
theorem ggX5_least_X1_firstWith : GoodIn wsX5_least wsX1_firstWith := goodIn_r _ [50, 25, 26, 27, 13, 28, 29, 30, 31, 32, 33, 34, 35, 36, 37, 38, 39, 40, 41, 42, 51, 52, 53, 54, 55, 17, 56, 57, 58, 59, 16, 15, 43, 44, 45, 46, 74, 75, 76, 77, 78, 79] rfl (by decide +kernel)
set_option maxRecDepth 20000 in
theorem gX5_least_X1_firstWith : GoodIn wsX5_least (wsV RX5 118 RX1 yX1_firstWith wsX1_firstWith) := goodIn_app (goodIn_of _ (by decide +kernel)) ggX5_least_X1_firstWith
set_option maxRecDepth 20000 in
theorem ggX5_least_X1_pointsWith : GoodIn wsX5_least wsX1_pointsWith := goodIn_r _ [63, 25, 26, 27, 13, 28, 29, 30, 31, 32, 33, 34, 35, 36, 37, 38, 39, 40, 41, 42, 43, 44, 45, 46, 74, 75, 76, 77, 78, 79] rfl (by decide +kernel)
set_option maxRecDepth 20000 in
theorem gX5_least_X1_pointsWith : GoodIn wsX5_least (wsV RX5 121 RX1 yX1_pointsWith wsX1_pointsWith) := goodIn_app (goodIn_of _ (by decide +kernel)) ggX5_least_X1_pointsWith
theorem dX5_least_0 : decode cX5_least 0 = .ok (.aload_n 0, 1) := by decide +kernel
theorem dX5_least_1 : decode cX5_least 1 = .ok (.iload_n 1, 1) := by decide +kernel
theorem dX5_least_2 : decode cX5_least 2 = .ok (.invokevirtual 96, 3) := by decide +kernel
theorem dX5_least_5 : decode cX5_least 5 = .ok (.ifCond .eq 16, 3) := by decide +kernel
theorem dX5_least_8 : decode cX5_least 8 = .ok (.aload_n 0, 1) := by decide +kernel
theorem dX5_least_9 : decode cX5_least 9 = .ok (.iload_n 2, 1) := by decide +kernel
theorem dX5_least_10 : decode cX5_least 10 = .ok (.invokevirtual 96, 3) := by decide +kernel
theorem dX5_least_13 : decode cX5_least 13 = .ok (.ifCond .eq 8, 3) := by decide +kernel
theorem dX5_least_16 : decode cX5_least 16 = .ok (.iload_n 1, 1) := by decide +kernel
theorem dX5_least_17 : decode cX5_least 17 = .ok (.iload_n 2, 1) := by decide +kernel
theorem dX5_least_18 : decode cX5_least 18 = .ok (.if_icmp .le 5, 3) := by decide +kernel
theorem dX5_least_21 : decode cX5_least 21 = .ok (.iconst (-1), 1) := by decide +kernel
theorem dX5_least_22 : decode cX5_least 22 = .ok (.ireturn, 1) := by decide +kernel
theorem dX5_least_23 : decode cX5_least 23 = .ok (.iload_n 3, 1) := by decide +kernel
theorem dX5_least_24 : decode cX5_least 24 = .ok (.tableswitch 111 0 3 #[32, 46, 71, 97], 32) := by decide +kernel
theorem dX5_least_56 : decode cX5_least 56 = .ok (.aload_n 0, 1) := by decide +kernel
theorem dX5_least_57 : decode cX5_least 57 = .ok (.getfield 12, 3) := by decide +kernel
theorem dX5_least_60 : decode cX5_least 60 = .ok (.getfield 70, 3) := by decide +kernel
theorem dX5_least_63 : decode cX5_least 63 = .ok (.iload_n 1, 1) := by decide +kernel
theorem dX5_least_64 : decode cX5_least 64 = .ok (.iload_n 2, 1) := by decide +kernel
theorem dX5_least_65 : decode cX5_least 65 = .ok (.iconst 0, 1) := by decide +kernel
theorem dX5_least_66 : decode cX5_least 66 = .ok (.invokevirtual 114, 3) := by decide +kernel
theorem dX5_least_69 : decode cX5_least 69 = .ok (.ireturn, 1) := by decide +kernel
theorem dX5_least_70 : decode cX5_least 70 = .ok (.aload_n 0, 1) := by decide +kernel
theorem dX5_least_71 : decode cX5_least 71 = .ok (.getfield 12, 3) := by decide +kernel
theorem dX5_least_74 : decode cX5_least 74 = .ok (.getfield 70, 3) := by decide +kernel
theorem dX5_least_77 : decode cX5_least 77 = .ok (.iload_n 1, 1) := by decide +kernel
theorem dX5_least_78 : decode cX5_least 78 = .ok (.aload_n 0, 1) := by decide +kernel
theorem dX5_least_79 : decode cX5_least 79 = .ok (.getfield 12, 3) := by decide +kernel
theorem dX5_least_82 : decode cX5_least 82 = .ok (.getfield 70, 3) := by decide +kernel
theorem dX5_least_85 : decode cX5_least 85 = .ok (.iload_n 1, 1) := by decide +kernel
theorem dX5_least_86 : decode cX5_least 86 = .ok (.iload_n 2, 1) := by decide +kernel
theorem dX5_least_87 : decode cX5_least 87 = .ok (.iconst 0, 1) := by decide +kernel
theorem dX5_least_88 : decode cX5_least 88 = .ok (.invokevirtual 114, 3) := by decide +kernel
theorem dX5_least_91 : decode cX5_least 91 = .ok (.invokevirtual 118, 3) := by decide +kernel
theorem dX5_least_94 : decode cX5_least 94 = .ok (.ireturn, 1) := by decide +kernel
theorem dX5_least_95 : decode cX5_least 95 = .ok (.aload_n 0, 1) := by decide +kernel
theorem dX5_least_96 : decode cX5_least 96 = .ok (.getfield 12, 3) := by decide +kernel
theorem dX5_least_99 : decode cX5_least 99 = .ok (.getfield 70, 3) := by decide +kernel
theorem dX5_least_102 : decode cX5_least 102 = .ok (.iload_n 1, 1) := by decide +kernel
theorem dX5_least_103 : decode cX5_least 103 = .ok (.iload_n 2, 1) := by decide +kernel
theorem dX5_least_104 : decode cX5_least 104 = .ok (.aload_n 0, 1) := by decide +kernel
theorem dX5_least_105 : decode cX5_least 105 = .ok (.getfield 12, 3) := by decide +kernel
theorem dX5_least_108 : decode cX5_least 108 = .ok (.getfield 70, 3) := by decide +kernel
theorem dX5_least_111 : decode cX5_least 111 = .ok (.iload_n 1, 1) := by decide +kernel
theorem dX5_least_112 : decode cX5_least 112 = .ok (.iload_n 2, 1) := by decide +kernel
theorem dX5_least_113 : decode cX5_least 113 = .ok (.iconst 0, 1) := by decide +kernel
theorem dX5_least_114 : decode cX5_least 114 = .ok (.invokevirtual 114, 3) := by decide +kernel
theorem dX5_least_117 : decode cX5_least 117 = .ok (.invokevirtual 121, 3) := by decide +kernel
theorem dX5_least_120 : decode cX5_least 120 = .ok (.ireturn, 1) := by decide +kernel
theorem dX5_least_121 : decode cX5_least 121 = .ok (.aload_n 0, 1) := by decide +kernel
theorem dX5_least_122 : decode cX5_least 122 = .ok (.getfield 12, 3) := by decide +kernel
theorem dX5_least_125 : decode cX5_least 125 = .ok (.getfield 70, 3) := by decide +kernel
theorem dX5_least_128 : decode cX5_least 128 = .ok (.iload_n 1, 1) := by decide +kernel
theorem dX5_least_129 : decode cX5_least 129 = .ok (.iload_n 2, 1) := by decide +kernel
theorem dX5_least_130 : decode cX5_least 130 = .ok (.iconst 1, 1) := by decide +kernel
theorem dX5_least_131 : decode cX5_least 131 = .ok (.invokevirtual 114, 3) := by decide +kernel
theorem dX5_least_134 : decode cX5_least 134 = .ok (.ireturn, 1) := by decide +kernel
theorem dX5_least_135 : decode cX5_least 135 = .ok (.iconst (-1), 1) := by decide +kernel
theorem dX5_least_136 : decode cX5_least 136 = .ok (.ireturn, 1) := by decide +kernel
set_option maxRecDepth 20000 in
theorem ggX5_block_X1_blocks : GoodIn wsX5_block wsX1_blocks := goodIn_r _ [6, 7, 22, 23, 24, 25, 26, 27] rfl (by decide +kernel)
set_option maxRecDepth 20000 in
theorem gX5_block_X1_blocks : GoodIn wsX5_block (wsV RX5 87 RX1 yX1_blocks wsX1_blocks) := goodIn_app (goodIn_of _ (by decide +kernel)) ggX5_block_X1_blocks
set_option maxRecDepth 20000 in
theorem ggX5_block_X5_within : GoodIn wsX5_block wsX5_within := goodIn_r _ [11] rfl (by decide +kernel)
set_option maxRecDepth 20000 in
theorem gX5_block_X5_within : GoodIn wsX5_block (va_wsS RX5 41 yX5_within wsX5_within) := goodIn_app (goodIn_of _ (by decide +kernel)) ggX5_block_X5_within
theorem dX5_block_0 : decode cX5_block 0 = .ok (.iload_n 1, 1) := by decide +kernel
theorem dX5_block_1 : decode cX5_block 1 = .ok (.iconst 0, 1) := by decide +kernel
theorem dX5_block_2 : decode cX5_block 2 = .ok (.aload_n 0, 1) := by decide +kernel
theorem dX5_block_3 : decode cX5_block 3 = .ok (.getfield 12, 3) := by decide +kernel
theorem dX5_block_6 : decode cX5_block 6 = .ok (.getfield 70, 3) := by decide +kernel
theorem dX5_block_9 : decode cX5_block 9 = .ok (.invokevirtual 87, 3) := by decide +kernel
theorem dX5_block_12 : decode cX5_block 12 = .ok (.iconst 1, 1) := by decide +kernel
theorem dX5_block_13 : decode cX5_block 13 = .ok (.isub, 1) := by decide +kernel
theorem dX5_block_14 : decode cX5_block 14 = .ok (.invokestatic 41, 3) := by decide +kernel
theorem dX5_block_17 : decode cX5_block 17 = .ok (.ifCond .ne 5, 3) := by decide +kernel
theorem dX5_block_20 : decode cX5_block 20 = .ok (.iconst (-1), 1) := by decide +kernel
theorem dX5_block_21 : decode cX5_block 21 = .ok (.ireturn, 1) := by decide +kernel
theorem dX5_block_22 : decode cX5_block 22 = .ok (.iload_n 2, 1) := by decide +kernel
theorem dX5_block_23 : decode cX5_block 23 = .ok (.tableswitch 73 0 2 #[25, 41, 57], 25) := by decide +kernel
theorem dX5_block_48 : decode cX5_block 48 = .ok (.bipush 100, 2) := by decide +kernel
theorem dX5_block_50 : decode cX5_block 50 = .ok (.aload_n 0, 1) := by decide +kernel
theorem dX5_block_51 : decode cX5_block 51 = .ok (.getfield 12, 3) := by decide +kernel
theorem dX5_block_54 : decode cX5_block 54 = .ok (.getfield 70, 3) := by decide +kernel
theorem dX5_block_57 : decode cX5_block 57 = .ok (.getfield 125, 3) := by decide +kernel
theorem dX5_block_60 : decode cX5_block 60 = .ok (.iload_n 1, 1) := by decide +kernel
theorem dX5_block_61 : decode cX5_block 61 = .ok (.iaload, 1) := by decide +kernel
theorem dX5_block_62 : decode cX5_block 62 = .ok (.iadd, 1) := by decide +kernel
theorem dX5_block_63 : decode cX5_block 63 = .ok (.ireturn, 1) := by decide +kernel
theorem dX5_block_64 : decode cX5_block 64 = .ok (.bipush 100, 2) := by decide +kernel
theorem dX5_block_66 : decode cX5_block 66 = .ok (.aload_n 0, 1) := by decide +kernel
theorem dX5_block_67 : decode cX5_block 67 = .ok (.getfield 12, 3) := by decide +kernel
theorem dX5_block_70 : decode cX5_block 70 = .ok (.getfield 70, 3) := by decide +kernel
theorem dX5_block_73 : decode cX5_block 73 = .ok (.getfield 129, 3) := by decide +kernel
theorem dX5_block_76 : decode cX5_block 76 = .ok (.iload_n 1, 1) := by decide +kernel
theorem dX5_block_77 : decode cX5_block 77 = .ok (.iaload, 1) := by decide +kernel
theorem dX5_block_78 : decode cX5_block 78 = .ok (.iadd, 1) := by decide +kernel
theorem dX5_block_79 : decode cX5_block 79 = .ok (.ireturn, 1) := by decide +kernel
theorem dX5_block_80 : decode cX5_block 80 = .ok (.bipush 100, 2) := by decide +kernel
theorem dX5_block_82 : decode cX5_block 82 = .ok (.aload_n 0, 1) := by decide +kernel
theorem dX5_block_83 : decode cX5_block 83 = .ok (.getfield 12, 3) := by decide +kernel
theorem dX5_block_86 : decode cX5_block 86 = .ok (.getfield 70, 3) := by decide +kernel
theorem dX5_block_89 : decode cX5_block 89 = .ok (.getfield 132, 3) := by decide +kernel
theorem dX5_block_92 : decode cX5_block 92 = .ok (.iload_n 1, 1) := by decide +kernel
theorem dX5_block_93 : decode cX5_block 93 = .ok (.iaload, 1) := by decide +kernel
theorem dX5_block_94 : decode cX5_block 94 = .ok (.iadd, 1) := by decide +kernel
theorem dX5_block_95 : decode cX5_block 95 = .ok (.ireturn, 1) := by decide +kernel
theorem dX5_block_96 : decode cX5_block 96 = .ok (.iconst (-1), 1) := by decide +kernel
theorem dX5_block_97 : decode cX5_block 97 = .ok (.ireturn, 1) := by decide +kernel
set_option maxRecDepth 20000 in
theorem ggX5_node_X4_has : GoodIn wsX5_node wsX4_has := goodIn_r _ [6, 7, 8, 9, 5, 10, 11, 175, 176, 177, 178, 179, 180, 181, 182, 183] rfl (by decide +kernel)
set_option maxRecDepth 20000 in
theorem gX5_node_X4_has : GoodIn wsX5_node (wsV RX5 135 RX4 yX4_has wsX4_has) := goodIn_app (goodIn_of _ (by decide +kernel)) ggX5_node_X4_has
set_option maxRecDepth 20000 in
theorem ggX5_node_X4_openOf : GoodIn wsX5_node wsX4_openOf := goodIn_r _ [15, 11, 16, 17, 18, 19, 20, 21, 22, 23, 24, 25, 26, 27, 28, 29, 30, 31, 32, 33, 34, 35, 36, 37, 38, 39, 40, 41, 42, 43, 44, 45, 46, 47, 48, 49, 50, 51, 52, 53, 54, 175, 176, 177, 178, 179, 180, 181, 182, 183] rfl (by decide +kernel)
set_option maxRecDepth 20000 in
theorem gX5_node_X4_openOf : GoodIn wsX5_node (wsV RX5 138 RX4 yX4_openOf wsX4_openOf) := goodIn_app (goodIn_of _ (by decide +kernel)) ggX5_node_X4_openOf
set_option maxRecDepth 20000 in
theorem ggX5_node_X4_closeOf : GoodIn wsX5_node wsX4_closeOf := goodIn_r _ [58, 11, 59, 13, 14, 5, 15, 16, 17, 18, 19, 20, 21, 22, 23, 24, 25, 26, 27, 28, 29, 30, 31, 32, 33, 34, 35, 36, 37, 38, 39, 40, 41, 42, 43, 44, 45, 46, 47, 48, 49, 50, 51, 52, 53, 54, 60, 61, 62, 63, 64, 65, 66, 67, 68, 69, 70, 71, 72, 73, 74, 75, 76, 77, 78, 79, 80, 81, 82, 83, 84, 85, 86, 87, 88, 89, 90, 175, 176, 177, 178, 179, 180, 181, 182, 183] rfl (by decide +kernel)
set_option maxRecDepth 20000 in
theorem gX5_node_X4_closeOf : GoodIn wsX5_node (wsV RX5 141 RX4 yX4_closeOf wsX4_closeOf) := goodIn_app (goodIn_of _ (by decide +kernel)) ggX5_node_X4_closeOf
set_option maxRecDepth 20000 in
theorem ggX5_node_X4_depthOf : GoodIn wsX5_node wsX4_depthOf := goodIn_r _ [94, 11, 59, 13, 14, 5, 15, 16, 17, 18, 19, 20, 21, 22, 23, 24, 25, 26, 27, 28, 29, 30, 31, 32, 33, 34, 35, 36, 37, 38, 39, 40, 41, 42, 43, 44, 45, 46, 47, 48, 49, 50, 51, 52, 53, 54, 95, 69, 70, 71, 175, 176, 177, 178, 179, 180, 181, 182, 183] rfl (by decide +kernel)
set_option maxRecDepth 20000 in
theorem gX5_node_X4_depthOf : GoodIn wsX5_node (wsV RX5 144 RX4 yX4_depthOf wsX4_depthOf) := goodIn_app (goodIn_of _ (by decide +kernel)) ggX5_node_X4_depthOf
set_option maxRecDepth 20000 in
theorem ggX5_node_X4_aboveBy : GoodIn wsX5_node wsX4_aboveBy := goodIn_r _ [99, 11, 59, 13, 14, 5, 15, 16, 17, 18, 19, 20, 21, 22, 23, 24, 25, 26, 27, 28, 29, 30, 31, 32, 33, 34, 35, 36, 37, 38, 39, 40, 41, 42, 43, 44, 45, 46, 47, 48, 49, 50, 51, 52, 53, 54, 95, 69, 70, 71, 100, 88, 89, 90, 76, 68, 83, 84, 85, 86, 77, 78, 79, 80, 81, 82, 101, 102, 103, 104, 175, 176, 177, 178, 179, 180, 181, 182, 183] rfl (by decide +kernel)
set_option maxRecDepth 20000 in
theorem gX5_node_X4_aboveBy : GoodIn wsX5_node (wsV RX5 147 RX4 yX4_aboveBy wsX4_aboveBy) := goodIn_app (goodIn_of _ (by decide +kernel)) ggX5_node_X4_aboveBy
set_option maxRecDepth 20000 in
theorem ggX5_node_X4_firstChildOf : GoodIn wsX5_node wsX4_firstChildOf := goodIn_r _ [108, 11, 59, 13, 14, 5, 15, 16, 17, 18, 19, 20, 21, 22, 23, 24, 25, 26, 27, 28, 29, 30, 31, 32, 33, 34, 35, 36, 37, 38, 39, 40, 41, 42, 43, 44, 45, 46, 47, 48, 49, 50, 51, 52, 53, 54, 109, 65, 66, 67, 175, 176, 177, 178, 179, 180, 181, 182, 183] rfl (by decide +kernel)
set_option maxRecDepth 20000 in
theorem gX5_node_X4_firstChildOf : GoodIn wsX5_node (wsV RX5 150 RX4 yX4_firstChildOf wsX4_firstChildOf) := goodIn_app (goodIn_of _ (by decide +kernel)) ggX5_node_X4_firstChildOf
set_option maxRecDepth 20000 in
theorem ggX5_node_X4_lastChildOf : GoodIn wsX5_node wsX4_lastChildOf := goodIn_r _ [113, 11, 114, 56, 57, 5, 58, 59, 13, 14, 15, 16, 17, 18, 19, 20, 21, 22, 23, 24, 25, 26, 27, 28, 29, 30, 31, 32, 33, 34, 35, 36, 37, 38, 39, 40, 41, 42, 43, 44, 45, 46, 47, 48, 49, 50, 51, 52, 53, 54, 60, 61, 62, 63, 64, 65, 66, 67, 68, 69, 70, 71, 72, 73, 74, 75, 76, 77, 78, 79, 80, 81, 82, 83, 84, 85, 86, 87, 88, 89, 90, 109, 115, 116, 117, 118, 101, 102, 103, 104, 175, 176, 177, 178, 179, 180, 181, 182, 183] rfl (by decide +kernel)
set_option maxRecDepth 20000 in
theorem gX5_node_X4_lastChildOf : GoodIn wsX5_node (wsV RX5 153 RX4 yX4_lastChildOf wsX4_lastChildOf) := goodIn_app (goodIn_of _ (by decide +kernel)) ggX5_node_X4_lastChildOf
set_option maxRecDepth 20000 in
theorem ggX5_node_X4_nextChildAfter : GoodIn wsX5_node wsX4_nextChildAfter := goodIn_r _ [122, 11, 114, 56, 57, 5, 58, 59, 13, 14, 15, 16, 17, 18, 19, 20, 21, 22, 23, 24, 25, 26, 27, 28, 29, 30, 31, 32, 33, 34, 35, 36, 37, 38, 39, 40, 41, 42, 43, 44, 45, 46, 47, 48, 49, 50, 51, 52, 53, 54, 60, 61, 62, 63, 64, 65, 66, 67, 68, 69, 70, 71, 72, 73, 74, 75, 76, 77, 78, 79, 80, 81, 82, 83, 84, 85, 86, 87, 88, 89, 90, 109, 115, 116, 117, 118, 101, 102, 103, 104, 175, 176, 177, 178, 179, 180, 181, 182, 183] rfl (by decide +kernel)
set_option maxRecDepth 20000 in
theorem gX5_node_X4_nextChildAfter : GoodIn wsX5_node (wsV RX5 156 RX4 yX4_nextChildAfter wsX4_nextChildAfter) := goodIn_app (goodIn_of _ (by decide +kernel)) ggX5_node_X4_nextChildAfter
set_option maxRecDepth 20000 in
theorem ggX5_node_X4_childBefore : GoodIn wsX5_node wsX4_childBefore := goodIn_r _ [126, 11, 59, 13, 14, 5, 15, 16, 17, 18, 19, 20, 21, 22, 23, 24, 25, 26, 27, 28, 29, 30, 31, 32, 33, 34, 35, 36, 37, 38, 39, 40, 41, 42, 43, 44, 45, 46, 47, 48, 49, 50, 51, 52, 53, 54, 109, 65, 66, 67, 115, 116, 117, 118, 60, 61, 62, 63, 64, 68, 69, 70, 71, 72, 73, 74, 75, 76, 77, 78, 79, 80, 81, 82, 83, 84, 85, 86, 87, 88, 89, 90, 101, 102, 103, 104, 175, 176, 177, 178, 179, 180, 181, 182, 183] rfl (by decide +kernel)
set_option maxRecDepth 20000 in
theorem gX5_node_X4_childBefore : GoodIn wsX5_node (wsV RX5 159 RX4 yX4_childBefore wsX4_childBefore) := goodIn_app (goodIn_of _ (by decide +kernel)) ggX5_node_X4_childBefore
set_option maxRecDepth 20000 in
theorem ggX5_node_X4_childrenOf : GoodIn wsX5_node wsX4_childrenOf := goodIn_r _ [130, 11, 59, 13, 14, 5, 15, 16, 17, 18, 19, 20, 21, 22, 23, 24, 25, 26, 27, 28, 29, 30, 31, 32, 33, 34, 35, 36, 37, 38, 39, 40, 41, 42, 43, 44, 45, 46, 47, 48, 49, 50, 51, 52, 53, 54, 60, 61, 62, 63, 64, 65, 66, 67, 68, 69, 70, 71, 72, 73, 74, 75, 76, 77, 78, 79, 80, 81, 82, 83, 84, 85, 86, 87, 88, 89, 90, 95, 131, 132, 133, 134, 175, 176, 177, 178, 179, 180, 181, 182, 183] rfl (by decide +kernel)
set_option maxRecDepth 20000 in
theorem gX5_node_X4_childrenOf : GoodIn wsX5_node (wsV RX5 162 RX4 yX4_childrenOf wsX4_childrenOf) := goodIn_app (goodIn_of _ (by decide +kernel)) ggX5_node_X4_childrenOf
set_option maxRecDepth 20000 in
theorem ggX5_node_X4_nodesOf : GoodIn wsX5_node wsX4_nodesOf := goodIn_r _ [138, 11, 59, 13, 14, 5, 15, 16, 17, 18, 19, 20, 21, 22, 23, 24, 25, 26, 27, 28, 29, 30, 31, 32, 33, 34, 35, 36, 37, 38, 39, 40, 41, 42, 43, 44, 45, 46, 47, 48, 49, 50, 51, 52, 53, 54, 60, 61, 62, 63, 64, 65, 66, 67, 68, 69, 70, 71, 72, 73, 74, 75, 76, 77, 78, 79, 80, 81, 82, 83, 84, 85, 86, 87, 88, 89, 90, 175, 176, 177, 178, 179, 180, 181, 182, 183] rfl (by decide +kernel)
set_option maxRecDepth 20000 in
theorem gX5_node_X4_nodesOf : GoodIn wsX5_node (wsV RX5 165 RX4 yX4_nodesOf wsX4_nodesOf) := goodIn_app (goodIn_of _ (by decide +kernel)) ggX5_node_X4_nodesOf
set_option maxRecDepth 20000 in
theorem ggX5_node_X4_leavesOf : GoodIn wsX5_node wsX4_leavesOf := goodIn_r _ [142, 11, 59, 13, 14, 5, 15, 16, 17, 18, 19, 20, 21, 22, 23, 24, 25, 26, 27, 28, 29, 30, 31, 32, 33, 34, 35, 36, 37, 38, 39, 40, 41, 42, 43, 44, 45, 46, 47, 48, 49, 50, 51, 52, 53, 54, 60, 61, 62, 63, 64, 65, 66, 67, 68, 69, 70, 71, 72, 73, 74, 75, 76, 77, 78, 79, 80, 81, 82, 83, 84, 85, 86, 87, 88, 89, 90, 143, 144, 145, 146, 175, 176, 177, 178, 179, 180, 181, 182, 183] rfl (by decide +kernel)
set_option maxRecDepth 20000 in
theorem gX5_node_X4_leavesOf : GoodIn wsX5_node (wsV RX5 168 RX4 yX4_leavesOf wsX4_leavesOf) := goodIn_app (goodIn_of _ (by decide +kernel)) ggX5_node_X4_leavesOf
set_option maxRecDepth 20000 in
theorem ggX5_node_X4_heightOf : GoodIn wsX5_node wsX4_heightOf := goodIn_r _ [150, 11, 59, 13, 14, 5, 15, 16, 17, 18, 19, 20, 21, 22, 23, 24, 25, 26, 27, 28, 29, 30, 31, 32, 33, 34, 35, 36, 37, 38, 39, 40, 41, 42, 43, 44, 45, 46, 47, 48, 49, 50, 51, 52, 53, 54, 60, 61, 62, 63, 64, 65, 66, 67, 68, 69, 70, 71, 72, 73, 74, 75, 76, 77, 78, 79, 80, 81, 82, 83, 84, 85, 86, 87, 88, 89, 90, 151, 152, 153, 154, 155, 156, 157, 158, 159, 160, 161, 95, 175, 176, 177, 178, 179, 180, 181, 182, 183] rfl (by decide +kernel)
set_option maxRecDepth 20000 in
theorem gX5_node_X4_heightOf : GoodIn wsX5_node (wsV RX5 83 RX4 yX4_heightOf wsX4_heightOf) := goodIn_app (goodIn_of _ (by decide +kernel)) ggX5_node_X4_heightOf
set_option maxRecDepth 20000 in
theorem ggX5_node_X1_signsAhead : GoodIn wsX5_node wsX1_signsAhead := goodIn_r _ [146, 21, 22, 23, 19, 24, 25, 26, 27, 28, 29, 30, 31, 32, 33, 34, 35, 36, 37, 38, 39, 40, 41, 42, 43, 48, 49, 50, 51, 52, 53, 54, 178, 179, 180, 181, 182, 183] rfl (by decide +kernel)
set_option maxRecDepth 20000 in
theorem gX5_node_X1_signsAhead : GoodIn wsX5_node (wsV RX5 79 RX1 yX1_signsAhead wsX1_signsAhead) := goodIn_app (goodIn_of _ (by decide +kernel)) ggX5_node_X1_signsAhead
set_option maxRecDepth 20000 in
theorem ggX5_node_X4_orderOf : GoodIn wsX5_node wsX4_orderOf := goodIn_r _ [166, 11, 59, 13, 14, 5, 15, 16, 17, 18, 19, 20, 21, 22, 23, 24, 25, 26, 27, 28, 29, 30, 31, 32, 33, 34, 35, 36, 37, 38, 39, 40, 41, 42, 43, 44, 45, 46, 47, 48, 49, 50, 51, 52, 53, 54, 167, 97, 98, 99, 95, 69, 70, 71, 100, 88, 89, 90, 76, 68, 83, 84, 85, 86, 77, 78, 79, 80, 81, 82, 101, 102, 103, 104, 131, 132, 133, 134, 175, 176, 177, 178, 179, 180, 181, 182, 183] rfl (by decide +kernel)
set_option maxRecDepth 20000 in
theorem gX5_node_X4_orderOf : GoodIn wsX5_node (wsV RX5 171 RX4 yX4_orderOf wsX4_orderOf) := goodIn_app (goodIn_of _ (by decide +kernel)) ggX5_node_X4_orderOf
theorem dX5_node_0 : decode cX5_node 0 = .ok (.aload_n 0, 1) := by decide +kernel
theorem dX5_node_1 : decode cX5_node 1 = .ok (.getfield 12, 3) := by decide +kernel
theorem dX5_node_4 : decode cX5_node 4 = .ok (.iload_n 1, 1) := by decide +kernel
theorem dX5_node_5 : decode cX5_node 5 = .ok (.invokevirtual 135, 3) := by decide +kernel
theorem dX5_node_8 : decode cX5_node 8 = .ok (.ifCond .ne 5, 3) := by decide +kernel
theorem dX5_node_11 : decode cX5_node 11 = .ok (.iconst (-1), 1) := by decide +kernel
theorem dX5_node_12 : decode cX5_node 12 = .ok (.ireturn, 1) := by decide +kernel
theorem dX5_node_13 : decode cX5_node 13 = .ok (.iload_n 2, 1) := by decide +kernel
theorem dX5_node_14 : decode cX5_node 14 = .ok (.tableswitch 208 0 13 #[70, 79, 88, 97, 107, 116, 125, 134, 143, 152, 161, 170, 179, 199], 70) := by decide +kernel
theorem dX5_node_84 : decode cX5_node 84 = .ok (.aload_n 0, 1) := by decide +kernel
theorem dX5_node_85 : decode cX5_node 85 = .ok (.getfield 12, 3) := by decide +kernel
theorem dX5_node_88 : decode cX5_node 88 = .ok (.iload_n 1, 1) := by decide +kernel
theorem dX5_node_89 : decode cX5_node 89 = .ok (.invokevirtual 138, 3) := by decide +kernel
theorem dX5_node_92 : decode cX5_node 92 = .ok (.ireturn, 1) := by decide +kernel
theorem dX5_node_93 : decode cX5_node 93 = .ok (.aload_n 0, 1) := by decide +kernel
theorem dX5_node_94 : decode cX5_node 94 = .ok (.getfield 12, 3) := by decide +kernel
theorem dX5_node_97 : decode cX5_node 97 = .ok (.iload_n 1, 1) := by decide +kernel
theorem dX5_node_98 : decode cX5_node 98 = .ok (.invokevirtual 141, 3) := by decide +kernel
theorem dX5_node_101 : decode cX5_node 101 = .ok (.ireturn, 1) := by decide +kernel
theorem dX5_node_102 : decode cX5_node 102 = .ok (.aload_n 0, 1) := by decide +kernel
theorem dX5_node_103 : decode cX5_node 103 = .ok (.getfield 12, 3) := by decide +kernel
theorem dX5_node_106 : decode cX5_node 106 = .ok (.iload_n 1, 1) := by decide +kernel
theorem dX5_node_107 : decode cX5_node 107 = .ok (.invokevirtual 144, 3) := by decide +kernel
theorem dX5_node_110 : decode cX5_node 110 = .ok (.ireturn, 1) := by decide +kernel
theorem dX5_node_111 : decode cX5_node 111 = .ok (.aload_n 0, 1) := by decide +kernel
theorem dX5_node_112 : decode cX5_node 112 = .ok (.getfield 12, 3) := by decide +kernel
theorem dX5_node_115 : decode cX5_node 115 = .ok (.iload_n 1, 1) := by decide +kernel
theorem dX5_node_116 : decode cX5_node 116 = .ok (.iconst 1, 1) := by decide +kernel
theorem dX5_node_117 : decode cX5_node 117 = .ok (.invokevirtual 147, 3) := by decide +kernel
theorem dX5_node_120 : decode cX5_node 120 = .ok (.ireturn, 1) := by decide +kernel
theorem dX5_node_121 : decode cX5_node 121 = .ok (.aload_n 0, 1) := by decide +kernel
theorem dX5_node_122 : decode cX5_node 122 = .ok (.getfield 12, 3) := by decide +kernel
theorem dX5_node_125 : decode cX5_node 125 = .ok (.iload_n 1, 1) := by decide +kernel
theorem dX5_node_126 : decode cX5_node 126 = .ok (.invokevirtual 150, 3) := by decide +kernel
theorem dX5_node_129 : decode cX5_node 129 = .ok (.ireturn, 1) := by decide +kernel
theorem dX5_node_130 : decode cX5_node 130 = .ok (.aload_n 0, 1) := by decide +kernel
theorem dX5_node_131 : decode cX5_node 131 = .ok (.getfield 12, 3) := by decide +kernel
theorem dX5_node_134 : decode cX5_node 134 = .ok (.iload_n 1, 1) := by decide +kernel
theorem dX5_node_135 : decode cX5_node 135 = .ok (.invokevirtual 153, 3) := by decide +kernel
theorem dX5_node_138 : decode cX5_node 138 = .ok (.ireturn, 1) := by decide +kernel
theorem dX5_node_139 : decode cX5_node 139 = .ok (.aload_n 0, 1) := by decide +kernel
theorem dX5_node_140 : decode cX5_node 140 = .ok (.getfield 12, 3) := by decide +kernel
theorem dX5_node_143 : decode cX5_node 143 = .ok (.iload_n 1, 1) := by decide +kernel
theorem dX5_node_144 : decode cX5_node 144 = .ok (.invokevirtual 156, 3) := by decide +kernel
theorem dX5_node_147 : decode cX5_node 147 = .ok (.ireturn, 1) := by decide +kernel
theorem dX5_node_148 : decode cX5_node 148 = .ok (.aload_n 0, 1) := by decide +kernel
theorem dX5_node_149 : decode cX5_node 149 = .ok (.getfield 12, 3) := by decide +kernel
theorem dX5_node_152 : decode cX5_node 152 = .ok (.iload_n 1, 1) := by decide +kernel
theorem dX5_node_153 : decode cX5_node 153 = .ok (.invokevirtual 159, 3) := by decide +kernel
theorem dX5_node_156 : decode cX5_node 156 = .ok (.ireturn, 1) := by decide +kernel
theorem dX5_node_157 : decode cX5_node 157 = .ok (.aload_n 0, 1) := by decide +kernel
theorem dX5_node_158 : decode cX5_node 158 = .ok (.getfield 12, 3) := by decide +kernel
theorem dX5_node_161 : decode cX5_node 161 = .ok (.iload_n 1, 1) := by decide +kernel
theorem dX5_node_162 : decode cX5_node 162 = .ok (.invokevirtual 162, 3) := by decide +kernel
theorem dX5_node_165 : decode cX5_node 165 = .ok (.ireturn, 1) := by decide +kernel
theorem dX5_node_166 : decode cX5_node 166 = .ok (.aload_n 0, 1) := by decide +kernel
theorem dX5_node_167 : decode cX5_node 167 = .ok (.getfield 12, 3) := by decide +kernel
theorem dX5_node_170 : decode cX5_node 170 = .ok (.iload_n 1, 1) := by decide +kernel
theorem dX5_node_171 : decode cX5_node 171 = .ok (.invokevirtual 165, 3) := by decide +kernel
theorem dX5_node_174 : decode cX5_node 174 = .ok (.ireturn, 1) := by decide +kernel
theorem dX5_node_175 : decode cX5_node 175 = .ok (.aload_n 0, 1) := by decide +kernel
theorem dX5_node_176 : decode cX5_node 176 = .ok (.getfield 12, 3) := by decide +kernel
theorem dX5_node_179 : decode cX5_node 179 = .ok (.iload_n 1, 1) := by decide +kernel
theorem dX5_node_180 : decode cX5_node 180 = .ok (.invokevirtual 168, 3) := by decide +kernel
theorem dX5_node_183 : decode cX5_node 183 = .ok (.ireturn, 1) := by decide +kernel
theorem dX5_node_184 : decode cX5_node 184 = .ok (.aload_n 0, 1) := by decide +kernel
theorem dX5_node_185 : decode cX5_node 185 = .ok (.getfield 12, 3) := by decide +kernel
theorem dX5_node_188 : decode cX5_node 188 = .ok (.iload_n 1, 1) := by decide +kernel
theorem dX5_node_189 : decode cX5_node 189 = .ok (.invokevirtual 83, 3) := by decide +kernel
theorem dX5_node_192 : decode cX5_node 192 = .ok (.ireturn, 1) := by decide +kernel
theorem dX5_node_193 : decode cX5_node 193 = .ok (.aload_n 0, 1) := by decide +kernel
theorem dX5_node_194 : decode cX5_node 194 = .ok (.getfield 12, 3) := by decide +kernel
theorem dX5_node_197 : decode cX5_node 197 = .ok (.getfield 70, 3) := by decide +kernel
theorem dX5_node_200 : decode cX5_node 200 = .ok (.aload_n 0, 1) := by decide +kernel
theorem dX5_node_201 : decode cX5_node 201 = .ok (.getfield 12, 3) := by decide +kernel
theorem dX5_node_204 : decode cX5_node 204 = .ok (.iload_n 1, 1) := by decide +kernel
theorem dX5_node_205 : decode cX5_node 205 = .ok (.invokevirtual 141, 3) := by decide +kernel
theorem dX5_node_208 : decode cX5_node 208 = .ok (.iconst 1, 1) := by decide +kernel
theorem dX5_node_209 : decode cX5_node 209 = .ok (.invokevirtual 79, 3) := by decide +kernel
theorem dX5_node_212 : decode cX5_node 212 = .ok (.ireturn, 1) := by decide +kernel
theorem dX5_node_213 : decode cX5_node 213 = .ok (.aload_n 0, 1) := by decide +kernel
theorem dX5_node_214 : decode cX5_node 214 = .ok (.getfield 12, 3) := by decide +kernel
theorem dX5_node_217 : decode cX5_node 217 = .ok (.iload_n 1, 1) := by decide +kernel
theorem dX5_node_218 : decode cX5_node 218 = .ok (.invokevirtual 171, 3) := by decide +kernel
theorem dX5_node_221 : decode cX5_node 221 = .ok (.ireturn, 1) := by decide +kernel
theorem dX5_node_222 : decode cX5_node 222 = .ok (.iconst (-1), 1) := by decide +kernel
theorem dX5_node_223 : decode cX5_node 223 = .ok (.ireturn, 1) := by decide +kernel
set_option maxRecDepth 20000 in
theorem ggX5_child_X4_has : GoodIn wsX5_child wsX4_has := goodIn_r _ [6, 7, 8, 9, 5, 10, 11, 98, 99, 100, 101, 102, 103, 104, 105, 106] rfl (by decide +kernel)
set_option maxRecDepth 20000 in
theorem gX5_child_X4_has : GoodIn wsX5_child (wsV RX5 135 RX4 yX4_has wsX4_has) := goodIn_app (goodIn_of _ (by decide +kernel)) ggX5_child_X4_has
set_option maxRecDepth 20000 in
theorem ggX5_child_X4_childAt : GoodIn wsX5_child wsX4_childAt := goodIn_r _ [15, 11, 16, 17, 18, 5, 19, 20, 21, 22, 23, 24, 25, 26, 27, 28, 29, 30, 31, 32, 33, 34, 35, 36, 37, 38, 39, 40, 41, 42, 43, 44, 45, 46, 47, 48, 49, 50, 51, 52, 53, 54, 55, 56, 57, 58, 59, 60, 61, 62, 63, 64, 65, 66, 67, 68, 69, 70, 71, 72, 73, 74, 75, 76, 77, 78, 79, 80, 81, 82, 83, 84, 85, 86, 87, 88, 89, 90, 98, 99, 100, 101, 102, 103, 104, 105, 106] rfl (by decide +kernel)
set_option maxRecDepth 20000 in
theorem gX5_child_X4_childAt : GoodIn wsX5_child (wsV RX5 174 RX4 yX4_childAt wsX4_childAt) := goodIn_app (goodIn_of _ (by decide +kernel)) ggX5_child_X4_childAt
theorem dX5_child_0 : decode cX5_child 0 = .ok (.aload_n 0, 1) := by decide +kernel
theorem dX5_child_1 : decode cX5_child 1 = .ok (.getfield 12, 3) := by decide +kernel
theorem dX5_child_4 : decode cX5_child 4 = .ok (.iload_n 1, 1) := by decide +kernel
theorem dX5_child_5 : decode cX5_child 5 = .ok (.invokevirtual 135, 3) := by decide +kernel
theorem dX5_child_8 : decode cX5_child 8 = .ok (.ifCond .eq 7, 3) := by decide +kernel
theorem dX5_child_11 : decode cX5_child 11 = .ok (.iload_n 2, 1) := by decide +kernel
theorem dX5_child_12 : decode cX5_child 12 = .ok (.ifCond .ge 5, 3) := by decide +kernel
theorem dX5_child_15 : decode cX5_child 15 = .ok (.iconst (-1), 1) := by decide +kernel
theorem dX5_child_16 : decode cX5_child 16 = .ok (.ireturn, 1) := by decide +kernel
theorem dX5_child_17 : decode cX5_child 17 = .ok (.aload_n 0, 1) := by decide +kernel
theorem dX5_child_18 : decode cX5_child 18 = .ok (.getfield 12, 3) := by decide +kernel
theorem dX5_child_21 : decode cX5_child 21 = .ok (.iload_n 1, 1) := by decide +kernel
theorem dX5_child_22 : decode cX5_child 22 = .ok (.iload_n 2, 1) := by decide +kernel
theorem dX5_child_23 : decode cX5_child 23 = .ok (.invokevirtual 174, 3) := by decide +kernel
theorem dX5_child_26 : decode cX5_child 26 = .ok (.ireturn, 1) := by decide +kernel
set_option maxRecDepth 20000 in
theorem ggX5_below_X4_has : GoodIn wsX5_below wsX4_has := goodIn_r _ [6, 7, 8, 9, 5, 10, 11, 98, 99, 100, 101, 102, 103, 104, 105, 106] rfl (by decide +kernel)
set_option maxRecDepth 20000 in
theorem gX5_below_X4_has : GoodIn wsX5_below (wsV RX5 135 RX4 yX4_has wsX4_has) := goodIn_app (goodIn_of _ (by decide +kernel)) ggX5_below_X4_has
set_option maxRecDepth 20000 in
theorem ggX5_below_X1_placeOfSign : GoodIn wsX5_below wsX1_placeOfSign := goodIn_r _ [16, 17, 18, 19, 15, 20, 21, 22, 23, 24, 25, 26, 27, 28, 29, 30, 31, 32, 33, 34, 35, 36, 37, 38, 39, 40, 41, 42, 43, 44, 45, 46, 47, 48, 49, 50, 101, 102, 103, 104, 105, 106] rfl (by decide +kernel)
set_option maxRecDepth 20000 in
theorem gX5_below_X1_placeOfSign : GoodIn wsX5_below (wsV RX5 102 RX1 yX1_placeOfSign wsX1_placeOfSign) := goodIn_app (goodIn_of _ (by decide +kernel)) ggX5_below_X1_placeOfSign
set_option maxRecDepth 20000 in
theorem ggX5_below_X4_nodeWithPlace : GoodIn wsX5_below wsX4_nodeWithPlace := goodIn_r _ [54, 11, 55, 56, 57, 15, 58, 21, 24, 59, 60, 61, 62, 63, 64, 65, 66, 67, 25, 26, 27, 28, 29, 33, 34, 35, 36, 37, 38, 39, 68, 69, 70, 71, 23, 72, 73, 74, 75, 76, 77, 78, 79, 80, 81, 82, 83, 84, 85, 86, 87, 88, 89, 90, 98, 99, 100, 101, 102, 103, 104, 105, 106] rfl (by decide +kernel)
set_option maxRecDepth 20000 in
theorem gX5_below_X4_nodeWithPlace : GoodIn wsX5_below (wsV RX5 177 RX4 yX4_nodeWithPlace wsX4_nodeWithPlace) := goodIn_app (goodIn_of _ (by decide +kernel)) ggX5_below_X4_nodeWithPlace
theorem dX5_below_0 : decode cX5_below 0 = .ok (.aload_n 0, 1) := by decide +kernel
theorem dX5_below_1 : decode cX5_below 1 = .ok (.getfield 12, 3) := by decide +kernel
theorem dX5_below_4 : decode cX5_below 4 = .ok (.iload_n 1, 1) := by decide +kernel
theorem dX5_below_5 : decode cX5_below 5 = .ok (.invokevirtual 135, 3) := by decide +kernel
theorem dX5_below_8 : decode cX5_below 8 = .ok (.ifCond .ne 5, 3) := by decide +kernel
theorem dX5_below_11 : decode cX5_below 11 = .ok (.iconst (-1), 1) := by decide +kernel
theorem dX5_below_12 : decode cX5_below 12 = .ok (.ireturn, 1) := by decide +kernel
theorem dX5_below_13 : decode cX5_below 13 = .ok (.aload_n 0, 1) := by decide +kernel
theorem dX5_below_14 : decode cX5_below 14 = .ok (.getfield 12, 3) := by decide +kernel
theorem dX5_below_17 : decode cX5_below 17 = .ok (.aload_n 0, 1) := by decide +kernel
theorem dX5_below_18 : decode cX5_below 18 = .ok (.getfield 12, 3) := by decide +kernel
theorem dX5_below_21 : decode cX5_below 21 = .ok (.getfield 70, 3) := by decide +kernel
theorem dX5_below_24 : decode cX5_below 24 = .ok (.iload_n 1, 1) := by decide +kernel
theorem dX5_below_25 : decode cX5_below 25 = .ok (.iconst 1, 1) := by decide +kernel
theorem dX5_below_26 : decode cX5_below 26 = .ok (.invokevirtual 102, 3) := by decide +kernel
theorem dX5_below_29 : decode cX5_below 29 = .ok (.invokevirtual 177, 3) := by decide +kernel
theorem dX5_below_32 : decode cX5_below 32 = .ok (.ireturn, 1) := by decide +kernel
set_option maxRecDepth 20000 in
theorem ggX5_up_X4_has : GoodIn wsX5_up wsX4_has := goodIn_r _ [6, 7, 8, 9, 5, 10, 11, 90, 91, 92, 93, 94, 95, 96, 97, 98] rfl (by decide +kernel)
set_option maxRecDepth 20000 in
theorem gX5_up_X4_has : GoodIn wsX5_up (wsV RX5 135 RX4 yX4_has wsX4_has) := goodIn_app (goodIn_of _ (by decide +kernel)) ggX5_up_X4_has
set_option maxRecDepth 20000 in
theorem ggX5_up_X4_aboveBy : GoodIn wsX5_up wsX4_aboveBy := goodIn_r _ [15, 11, 16, 17, 18, 5, 19, 20, 21, 22, 23, 24, 25, 26, 27, 28, 29, 30, 31, 32, 33, 34, 35, 36, 37, 38, 39, 40, 41, 42, 43, 44, 45, 46, 47, 48, 49, 50, 51, 52, 53, 54, 55, 56, 57, 58, 59, 60, 61, 62, 63, 64, 65, 66, 67, 68, 69, 70, 71, 72, 73, 74, 75, 76, 77, 78, 79, 80, 81, 82, 90, 91, 92, 93, 94, 95, 96, 97, 98] rfl (by decide +kernel)
set_option maxRecDepth 20000 in
theorem gX5_up_X4_aboveBy : GoodIn wsX5_up (wsV RX5 147 RX4 yX4_aboveBy wsX4_aboveBy) := goodIn_app (goodIn_of _ (by decide +kernel)) ggX5_up_X4_aboveBy
theorem dX5_up_0 : decode cX5_up 0 = .ok (.aload_n 0, 1) := by decide +kernel
theorem dX5_up_1 : decode cX5_up 1 = .ok (.getfield 12, 3) := by decide +kernel
theorem dX5_up_4 : decode cX5_up 4 = .ok (.iload_n 1, 1) := by decide +kernel
theorem dX5_up_5 : decode cX5_up 5 = .ok (.invokevirtual 135, 3) := by decide +kernel
theorem dX5_up_8 : decode cX5_up 8 = .ok (.ifCond .eq 7, 3) := by decide +kernel
theorem dX5_up_11 : decode cX5_up 11 = .ok (.iload_n 2, 1) := by decide +kernel
theorem dX5_up_12 : decode cX5_up 12 = .ok (.ifCond .ge 5, 3) := by decide +kernel
theorem dX5_up_15 : decode cX5_up 15 = .ok (.iconst (-1), 1) := by decide +kernel
theorem dX5_up_16 : decode cX5_up 16 = .ok (.ireturn, 1) := by decide +kernel
theorem dX5_up_17 : decode cX5_up 17 = .ok (.aload_n 0, 1) := by decide +kernel
theorem dX5_up_18 : decode cX5_up 18 = .ok (.getfield 12, 3) := by decide +kernel
theorem dX5_up_21 : decode cX5_up 21 = .ok (.iload_n 1, 1) := by decide +kernel
theorem dX5_up_22 : decode cX5_up 22 = .ok (.iload_n 2, 1) := by decide +kernel
theorem dX5_up_23 : decode cX5_up 23 = .ok (.invokevirtual 147, 3) := by decide +kernel
theorem dX5_up_26 : decode cX5_up 26 = .ok (.ireturn, 1) := by decide +kernel
set_option maxRecDepth 20000 in
theorem ggX5_meet_X4_has : GoodIn wsX5_meet wsX4_has := goodIn_r _ [6, 7, 8, 9, 5, 10, 11, 102, 103, 104, 105, 106, 107, 108, 109, 110] rfl (by decide +kernel)
set_option maxRecDepth 20000 in
theorem gX5_meet_X4_has : GoodIn wsX5_meet (wsV RX5 135 RX4 yX4_has wsX4_has) := goodIn_app (goodIn_of _ (by decide +kernel)) ggX5_meet_X4_has
set_option maxRecDepth 20000 in
theorem ggX5_meet_X4_meetingOf : GoodIn wsX5_meet wsX4_meetingOf := goodIn_r _ [15, 16, 17, 18, 19, 20, 21, 22, 11, 23, 24, 25, 5, 26, 27, 28, 29, 30, 31, 32, 33, 34, 35, 36, 37, 38, 39, 40, 41, 42, 43, 44, 45, 46, 47, 48, 49, 50, 51, 52, 53, 54, 55, 56, 57, 58, 59, 60, 61, 62, 63, 64, 65, 66, 67, 68, 69, 70, 71, 72, 73, 74, 75, 76, 77, 78, 79, 80, 81, 82, 83, 84, 85, 86, 87, 88, 89, 90, 91, 92, 93, 94, 102, 103, 104, 105, 106, 107, 108, 109, 110] rfl (by decide +kernel)
set_option maxRecDepth 20000 in
theorem gX5_meet_X4_meetingOf : GoodIn wsX5_meet (wsV RX5 180 RX4 yX4_meetingOf wsX4_meetingOf) := goodIn_app (goodIn_of _ (by decide +kernel)) ggX5_meet_X4_meetingOf
theorem dX5_meet_0 : decode cX5_meet 0 = .ok (.aload_n 0, 1) := by decide +kernel
theorem dX5_meet_1 : decode cX5_meet 1 = .ok (.getfield 12, 3) := by decide +kernel
theorem dX5_meet_4 : decode cX5_meet 4 = .ok (.iload_n 1, 1) := by decide +kernel
theorem dX5_meet_5 : decode cX5_meet 5 = .ok (.invokevirtual 135, 3) := by decide +kernel
theorem dX5_meet_8 : decode cX5_meet 8 = .ok (.ifCond .eq 14, 3) := by decide +kernel
theorem dX5_meet_11 : decode cX5_meet 11 = .ok (.aload_n 0, 1) := by decide +kernel
theorem dX5_meet_12 : decode cX5_meet 12 = .ok (.getfield 12, 3) := by decide +kernel
theorem dX5_meet_15 : decode cX5_meet 15 = .ok (.iload_n 2, 1) := by decide +kernel
theorem dX5_meet_16 : decode cX5_meet 16 = .ok (.invokevirtual 135, 3) := by decide +kernel
theorem dX5_meet_19 : decode cX5_meet 19 = .ok (.ifCond .ne 5, 3) := by decide +kernel
theorem dX5_meet_22 : decode cX5_meet 22 = .ok (.iconst (-1), 1) := by decide +kernel
theorem dX5_meet_23 : decode cX5_meet 23 = .ok (.ireturn, 1) := by decide +kernel
theorem dX5_meet_24 : decode cX5_meet 24 = .ok (.aload_n 0, 1) := by decide +kernel
theorem dX5_meet_25 : decode cX5_meet 25 = .ok (.getfield 12, 3) := by decide +kernel
theorem dX5_meet_28 : decode cX5_meet 28 = .ok (.iload_n 1, 1) := by decide +kernel
theorem dX5_meet_29 : decode cX5_meet 29 = .ok (.iload_n 2, 1) := by decide +kernel
theorem dX5_meet_30 : decode cX5_meet 30 = .ok (.invokevirtual 180, 3) := by decide +kernel
theorem dX5_meet_33 : decode cX5_meet 33 = .ok (.ireturn, 1) := by decide +kernel
set_option maxRecDepth 20000 in
theorem ggX5_way_X4_has : GoodIn wsX5_way wsX4_has := goodIn_r _ [6, 7, 8, 9, 5, 10, 11, 107, 108, 109, 110, 111, 112, 113, 114, 115] rfl (by decide +kernel)
set_option maxRecDepth 20000 in
theorem gX5_way_X4_has : GoodIn wsX5_way (wsV RX5 135 RX4 yX4_has wsX4_has) := goodIn_app (goodIn_of _ (by decide +kernel)) ggX5_way_X4_has
set_option maxRecDepth 20000 in
theorem ggX5_way_X4_depthOf : GoodIn wsX5_way wsX4_depthOf := goodIn_r _ [15, 11, 16, 17, 18, 5, 19, 20, 21, 22, 23, 24, 25, 26, 27, 28, 29, 30, 31, 32, 33, 34, 35, 36, 37, 38, 39, 40, 41, 42, 43, 44, 45, 46, 47, 48, 49, 50, 51, 52, 53, 54, 55, 56, 57, 58, 59, 60, 61, 62, 107, 108, 109, 110, 111, 112, 113, 114, 115] rfl (by decide +kernel)
set_option maxRecDepth 20000 in
theorem gX5_way_X4_depthOf : GoodIn wsX5_way (wsV RX5 144 RX4 yX4_depthOf wsX4_depthOf) := goodIn_app (goodIn_of _ (by decide +kernel)) ggX5_way_X4_depthOf
set_option maxRecDepth 20000 in
theorem ggX5_way_X4_meetingOf : GoodIn wsX5_way wsX4_meetingOf := goodIn_r _ [66, 67, 68, 69, 70, 71, 72, 73, 11, 16, 17, 18, 5, 19, 20, 21, 22, 23, 24, 25, 26, 27, 28, 29, 30, 31, 32, 33, 34, 35, 36, 37, 38, 39, 40, 41, 42, 43, 44, 45, 46, 47, 48, 49, 50, 51, 52, 53, 54, 55, 56, 57, 58, 74, 75, 76, 77, 78, 79, 80, 81, 82, 83, 60, 61, 62, 84, 85, 86, 87, 88, 89, 90, 91, 92, 93, 94, 95, 96, 97, 98, 99, 107, 108, 109, 110, 111, 112, 113, 114, 115] rfl (by decide +kernel)
set_option maxRecDepth 20000 in
theorem gX5_way_X4_meetingOf : GoodIn wsX5_way (wsV RX5 180 RX4 yX4_meetingOf wsX4_meetingOf) := goodIn_app (goodIn_of _ (by decide +kernel)) ggX5_way_X4_meetingOf
theorem dX5_way_0 : decode cX5_way 0 = .ok (.aload_n 0, 1) := by decide +kernel
theorem dX5_way_1 : decode cX5_way 1 = .ok (.getfield 12, 3) := by decide +kernel
theorem dX5_way_4 : decode cX5_way 4 = .ok (.iload_n 1, 1) := by decide +kernel
theorem dX5_way_5 : decode cX5_way 5 = .ok (.invokevirtual 135, 3) := by decide +kernel
theorem dX5_way_8 : decode cX5_way 8 = .ok (.ifCond .eq 14, 3) := by decide +kernel
theorem dX5_way_11 : decode cX5_way 11 = .ok (.aload_n 0, 1) := by decide +kernel
theorem dX5_way_12 : decode cX5_way 12 = .ok (.getfield 12, 3) := by decide +kernel
theorem dX5_way_15 : decode cX5_way 15 = .ok (.iload_n 2, 1) := by decide +kernel
theorem dX5_way_16 : decode cX5_way 16 = .ok (.invokevirtual 135, 3) := by decide +kernel
theorem dX5_way_19 : decode cX5_way 19 = .ok (.ifCond .ne 5, 3) := by decide +kernel
theorem dX5_way_22 : decode cX5_way 22 = .ok (.iconst (-1), 1) := by decide +kernel
theorem dX5_way_23 : decode cX5_way 23 = .ok (.ireturn, 1) := by decide +kernel
theorem dX5_way_24 : decode cX5_way 24 = .ok (.aload_n 0, 1) := by decide +kernel
theorem dX5_way_25 : decode cX5_way 25 = .ok (.getfield 12, 3) := by decide +kernel
theorem dX5_way_28 : decode cX5_way 28 = .ok (.iload_n 1, 1) := by decide +kernel
theorem dX5_way_29 : decode cX5_way 29 = .ok (.invokevirtual 144, 3) := by decide +kernel
theorem dX5_way_32 : decode cX5_way 32 = .ok (.aload_n 0, 1) := by decide +kernel
theorem dX5_way_33 : decode cX5_way 33 = .ok (.getfield 12, 3) := by decide +kernel
theorem dX5_way_36 : decode cX5_way 36 = .ok (.iload_n 2, 1) := by decide +kernel
theorem dX5_way_37 : decode cX5_way 37 = .ok (.invokevirtual 144, 3) := by decide +kernel
theorem dX5_way_40 : decode cX5_way 40 = .ok (.iadd, 1) := by decide +kernel
theorem dX5_way_41 : decode cX5_way 41 = .ok (.iconst 2, 1) := by decide +kernel
theorem dX5_way_42 : decode cX5_way 42 = .ok (.aload_n 0, 1) := by decide +kernel
theorem dX5_way_43 : decode cX5_way 43 = .ok (.getfield 12, 3) := by decide +kernel
theorem dX5_way_46 : decode cX5_way 46 = .ok (.aload_n 0, 1) := by decide +kernel
theorem dX5_way_47 : decode cX5_way 47 = .ok (.getfield 12, 3) := by decide +kernel
theorem dX5_way_50 : decode cX5_way 50 = .ok (.iload_n 1, 1) := by decide +kernel
theorem dX5_way_51 : decode cX5_way 51 = .ok (.iload_n 2, 1) := by decide +kernel
theorem dX5_way_52 : decode cX5_way 52 = .ok (.invokevirtual 180, 3) := by decide +kernel
theorem dX5_way_55 : decode cX5_way 55 = .ok (.invokevirtual 144, 3) := by decide +kernel
theorem dX5_way_58 : decode cX5_way 58 = .ok (.imul, 1) := by decide +kernel
theorem dX5_way_59 : decode cX5_way 59 = .ok (.isub, 1) := by decide +kernel
theorem dX5_way_60 : decode cX5_way 60 = .ok (.ireturn, 1) := by decide +kernel
set_option maxRecDepth 20000 in
theorem ggX5_level_X4_firstOfDepth : GoodIn wsX5_level wsX4_firstOfDepth := goodIn_r _ [6, 7, 8, 9, 10, 11, 12, 13, 14, 15, 16, 17, 18, 19, 20, 21, 22, 23, 24, 25, 26, 27, 28, 29, 30, 31, 32, 33, 34, 35, 36, 37, 38, 39, 40, 41, 42, 43, 44, 45, 46, 82, 83, 84, 85, 86, 87, 88, 89, 90] rfl (by decide +kernel)
set_option maxRecDepth 20000 in
theorem gX5_level_X4_firstOfDepth : GoodIn wsX5_level (wsV RX5 183 RX4 yX4_firstOfDepth wsX4_firstOfDepth) := goodIn_app (goodIn_of _ (by decide +kernel)) ggX5_level_X4_firstOfDepth
set_option maxRecDepth 20000 in
theorem ggX5_level_X4_lastOfDepth : GoodIn wsX5_level wsX4_lastOfDepth := goodIn_r _ [50, 7, 51, 52, 53, 11, 54, 14, 15, 16, 17, 18, 19, 20, 21, 22, 23, 24, 25, 26, 27, 28, 29, 30, 31, 32, 39, 40, 41, 42, 33, 34, 35, 36, 37, 38, 55, 56, 57, 5, 58, 59, 60, 61, 62, 63, 64, 65, 66, 67, 68, 9, 10, 12, 13, 69, 43, 44, 45, 46, 82, 83, 84, 85, 86, 87, 88, 89, 90] rfl (by decide +kernel)
set_option maxRecDepth 20000 in
theorem gX5_level_X4_lastOfDepth : GoodIn wsX5_level (wsV RX5 186 RX4 yX4_lastOfDepth wsX4_lastOfDepth) := goodIn_app (goodIn_of _ (by decide +kernel)) ggX5_level_X4_lastOfDepth
set_option maxRecDepth 20000 in
theorem ggX5_level_X4_howManyOfDepth : GoodIn wsX5_level wsX4_howManyOfDepth := goodIn_r _ [73, 7, 74, 40, 41, 11, 42, 19, 20, 82, 83, 84, 85, 86, 87, 88, 89, 90] rfl (by decide +kernel)
set_option maxRecDepth 20000 in
theorem gX5_level_X4_howManyOfDepth : GoodIn wsX5_level (wsV RX5 189 RX4 yX4_howManyOfDepth wsX4_howManyOfDepth) := goodIn_app (goodIn_of _ (by decide +kernel)) ggX5_level_X4_howManyOfDepth
theorem dX5_level_0 : decode cX5_level 0 = .ok (.iload_n 1, 1) := by decide +kernel
theorem dX5_level_1 : decode cX5_level 1 = .ok (.ifCond .ge 5, 3) := by decide +kernel
theorem dX5_level_4 : decode cX5_level 4 = .ok (.iconst (-1), 1) := by decide +kernel
theorem dX5_level_5 : decode cX5_level 5 = .ok (.ireturn, 1) := by decide +kernel
theorem dX5_level_6 : decode cX5_level 6 = .ok (.iload_n 2, 1) := by decide +kernel
theorem dX5_level_7 : decode cX5_level 7 = .ok (.tableswitch 63 0 2 #[25, 35, 54], 25) := by decide +kernel
theorem dX5_level_32 : decode cX5_level 32 = .ok (.aload_n 0, 1) := by decide +kernel
theorem dX5_level_33 : decode cX5_level 33 = .ok (.getfield 12, 3) := by decide +kernel
theorem dX5_level_36 : decode cX5_level 36 = .ok (.iload_n 1, 1) := by decide +kernel
theorem dX5_level_37 : decode cX5_level 37 = .ok (.iconst 0, 1) := by decide +kernel
theorem dX5_level_38 : decode cX5_level 38 = .ok (.invokevirtual 183, 3) := by decide +kernel
theorem dX5_level_41 : decode cX5_level 41 = .ok (.ireturn, 1) := by decide +kernel
theorem dX5_level_42 : decode cX5_level 42 = .ok (.aload_n 0, 1) := by decide +kernel
theorem dX5_level_43 : decode cX5_level 43 = .ok (.getfield 12, 3) := by decide +kernel
theorem dX5_level_46 : decode cX5_level 46 = .ok (.iload_n 1, 1) := by decide +kernel
theorem dX5_level_47 : decode cX5_level 47 = .ok (.aload_n 0, 1) := by decide +kernel
theorem dX5_level_48 : decode cX5_level 48 = .ok (.getfield 12, 3) := by decide +kernel
theorem dX5_level_51 : decode cX5_level 51 = .ok (.getfield 70, 3) := by decide +kernel
theorem dX5_level_54 : decode cX5_level 54 = .ok (.getfield 74, 3) := by decide +kernel
theorem dX5_level_57 : decode cX5_level 57 = .ok (.invokevirtual 186, 3) := by decide +kernel
theorem dX5_level_60 : decode cX5_level 60 = .ok (.ireturn, 1) := by decide +kernel
theorem dX5_level_61 : decode cX5_level 61 = .ok (.aload_n 0, 1) := by decide +kernel
theorem dX5_level_62 : decode cX5_level 62 = .ok (.getfield 12, 3) := by decide +kernel
theorem dX5_level_65 : decode cX5_level 65 = .ok (.iload_n 1, 1) := by decide +kernel
theorem dX5_level_66 : decode cX5_level 66 = .ok (.invokevirtual 189, 3) := by decide +kernel
theorem dX5_level_69 : decode cX5_level 69 = .ok (.ireturn, 1) := by decide +kernel
theorem dX5_level_70 : decode cX5_level 70 = .ok (.iconst (-1), 1) := by decide +kernel
theorem dX5_level_71 : decode cX5_level 71 = .ok (.ireturn, 1) := by decide +kernel
set_option maxRecDepth 20000 in
theorem ggX5_beside_X4_has : GoodIn wsX5_beside wsX4_has := goodIn_r _ [6, 7, 8, 9, 5, 10, 11, 122, 123, 124, 125, 126, 127, 128, 129, 130] rfl (by decide +kernel)
set_option maxRecDepth 20000 in
theorem gX5_beside_X4_has : GoodIn wsX5_beside (wsV RX5 135 RX4 yX4_has wsX4_has) := goodIn_app (goodIn_of _ (by decide +kernel)) ggX5_beside_X4_has
set_option maxRecDepth 20000 in
theorem ggX5_beside_X4_depthOf : GoodIn wsX5_beside wsX4_depthOf := goodIn_r _ [15, 11, 16, 17, 18, 5, 19, 20, 21, 22, 23, 24, 25, 26, 27, 28, 29, 30, 31, 32, 33, 34, 35, 36, 37, 38, 39, 40, 41, 42, 43, 44, 45, 46, 47, 48, 49, 50, 51, 52, 53, 54, 55, 56, 57, 58, 59, 60, 61, 62, 122, 123, 124, 125, 126, 127, 128, 129, 130] rfl (by decide +kernel)
set_option maxRecDepth 20000 in
theorem gX5_beside_X4_depthOf : GoodIn wsX5_beside (wsV RX5 144 RX4 yX4_depthOf wsX4_depthOf) := goodIn_app (goodIn_of _ (by decide +kernel)) ggX5_beside_X4_depthOf
set_option maxRecDepth 20000 in
theorem ggX5_beside_X4_closeOf : GoodIn wsX5_beside wsX4_closeOf := goodIn_r _ [66, 11, 16, 17, 18, 5, 19, 20, 21, 22, 23, 24, 25, 26, 27, 28, 29, 30, 31, 32, 33, 34, 35, 36, 37, 38, 39, 40, 41, 42, 43, 44, 45, 46, 47, 48, 49, 50, 51, 52, 53, 54, 55, 56, 57, 58, 67, 68, 69, 70, 71, 72, 73, 74, 75, 60, 61, 62, 76, 77, 78, 79, 80, 81, 82, 83, 84, 85, 86, 87, 88, 89, 90, 91, 92, 93, 94, 122, 123, 124, 125, 126, 127, 128, 129, 130] rfl (by decide +kernel)
set_option maxRecDepth 20000 in
theorem gX5_beside_X4_closeOf : GoodIn wsX5_beside (wsV RX5 141 RX4 yX4_closeOf wsX4_closeOf) := goodIn_app (goodIn_of _ (by decide +kernel)) ggX5_beside_X4_closeOf
set_option maxRecDepth 20000 in
theorem ggX5_beside_X4_firstOfDepth : GoodIn wsX5_beside wsX4_firstOfDepth := goodIn_r _ [98, 11, 99, 77, 78, 23, 79, 31, 80, 75, 60, 61, 62, 29, 32, 33, 34, 35, 36, 37, 41, 42, 43, 44, 45, 46, 47, 81, 82, 83, 84, 85, 86, 87, 88, 89, 90, 100, 101, 102, 103, 122, 123, 124, 125, 126, 127, 128, 129, 130] rfl (by decide +kernel)
set_option maxRecDepth 20000 in
theorem gX5_beside_X4_firstOfDepth : GoodIn wsX5_beside (wsV RX5 183 RX4 yX4_firstOfDepth wsX4_firstOfDepth) := goodIn_app (goodIn_of _ (by decide +kernel)) ggX5_beside_X4_firstOfDepth
set_option maxRecDepth 20000 in
theorem ggX5_beside_X4_openOf : GoodIn wsX5_beside wsX4_openOf := goodIn_r _ [19, 11, 20, 21, 22, 23, 24, 25, 26, 27, 28, 29, 30, 31, 32, 33, 34, 35, 36, 37, 38, 39, 40, 41, 42, 43, 44, 45, 46, 47, 48, 49, 50, 51, 52, 53, 54, 55, 56, 57, 58, 122, 123, 124, 125, 126, 127, 128, 129, 130] rfl (by decide +kernel)
set_option maxRecDepth 20000 in
theorem gX5_beside_X4_openOf : GoodIn wsX5_beside (wsV RX5 138 RX4 yX4_openOf wsX4_openOf) := goodIn_app (goodIn_of _ (by decide +kernel)) ggX5_beside_X4_openOf
set_option maxRecDepth 20000 in
theorem ggX5_beside_X4_lastOfDepth : GoodIn wsX5_beside wsX4_lastOfDepth := goodIn_r _ [108, 11, 109, 92, 93, 23, 94, 80, 75, 60, 61, 62, 29, 32, 33, 34, 35, 36, 37, 41, 42, 43, 44, 45, 46, 47, 87, 88, 89, 90, 81, 82, 83, 84, 85, 86, 110, 111, 112, 5, 113, 114, 72, 73, 74, 67, 68, 69, 70, 71, 76, 77, 78, 79, 31, 91, 100, 101, 102, 103, 122, 123, 124, 125, 126, 127, 128, 129, 130] rfl (by decide +kernel)
set_option maxRecDepth 20000 in
theorem gX5_beside_X4_lastOfDepth : GoodIn wsX5_beside (wsV RX5 186 RX4 yX4_lastOfDepth wsX4_lastOfDepth) := goodIn_app (goodIn_of _ (by decide +kernel)) ggX5_beside_X4_lastOfDepth
theorem dX5_beside_0 : decode cX5_beside 0 = .ok (.aload_n 0, 1) := by decide +kernel
theorem dX5_beside_1 : decode cX5_beside 1 = .ok (.getfield 12, 3) := by decide +kernel
theorem dX5_beside_4 : decode cX5_beside 4 = .ok (.iload_n 1, 1) := by decide +kernel
theorem dX5_beside_5 : decode cX5_beside 5 = .ok (.invokevirtual 135, 3) := by decide +kernel
theorem dX5_beside_8 : decode cX5_beside 8 = .ok (.ifCond .ne 5, 3) := by decide +kernel
theorem dX5_beside_11 : decode cX5_beside 11 = .ok (.iconst (-1), 1) := by decide +kernel
theorem dX5_beside_12 : decode cX5_beside 12 = .ok (.ireturn, 1) := by decide +kernel
theorem dX5_beside_13 : decode cX5_beside 13 = .ok (.iload_n 2, 1) := by decide +kernel
theorem dX5_beside_14 : decode cX5_beside 14 = .ok (.lookupswitch 76 #[(0, 26), (1, 52)], 26) := by decide +kernel
theorem dX5_beside_40 : decode cX5_beside 40 = .ok (.aload_n 0, 1) := by decide +kernel
theorem dX5_beside_41 : decode cX5_beside 41 = .ok (.getfield 12, 3) := by decide +kernel
theorem dX5_beside_44 : decode cX5_beside 44 = .ok (.aload_n 0, 1) := by decide +kernel
theorem dX5_beside_45 : decode cX5_beside 45 = .ok (.getfield 12, 3) := by decide +kernel
theorem dX5_beside_48 : decode cX5_beside 48 = .ok (.iload_n 1, 1) := by decide +kernel
theorem dX5_beside_49 : decode cX5_beside 49 = .ok (.invokevirtual 144, 3) := by decide +kernel
theorem dX5_beside_52 : decode cX5_beside 52 = .ok (.aload_n 0, 1) := by decide +kernel
theorem dX5_beside_53 : decode cX5_beside 53 = .ok (.getfield 12, 3) := by decide +kernel
theorem dX5_beside_56 : decode cX5_beside 56 = .ok (.iload_n 1, 1) := by decide +kernel
theorem dX5_beside_57 : decode cX5_beside 57 = .ok (.invokevirtual 141, 3) := by decide +kernel
theorem dX5_beside_60 : decode cX5_beside 60 = .ok (.iconst 1, 1) := by decide +kernel
theorem dX5_beside_61 : decode cX5_beside 61 = .ok (.iadd, 1) := by decide +kernel
theorem dX5_beside_62 : decode cX5_beside 62 = .ok (.invokevirtual 183, 3) := by decide +kernel
theorem dX5_beside_65 : decode cX5_beside 65 = .ok (.ireturn, 1) := by decide +kernel
theorem dX5_beside_66 : decode cX5_beside 66 = .ok (.aload_n 0, 1) := by decide +kernel
theorem dX5_beside_67 : decode cX5_beside 67 = .ok (.getfield 12, 3) := by decide +kernel
theorem dX5_beside_70 : decode cX5_beside 70 = .ok (.aload_n 0, 1) := by decide +kernel
theorem dX5_beside_71 : decode cX5_beside 71 = .ok (.getfield 12, 3) := by decide +kernel
theorem dX5_beside_74 : decode cX5_beside 74 = .ok (.iload_n 1, 1) := by decide +kernel
theorem dX5_beside_75 : decode cX5_beside 75 = .ok (.invokevirtual 144, 3) := by decide +kernel
theorem dX5_beside_78 : decode cX5_beside 78 = .ok (.aload_n 0, 1) := by decide +kernel
theorem dX5_beside_79 : decode cX5_beside 79 = .ok (.getfield 12, 3) := by decide +kernel
theorem dX5_beside_82 : decode cX5_beside 82 = .ok (.iload_n 1, 1) := by decide +kernel
theorem dX5_beside_83 : decode cX5_beside 83 = .ok (.invokevirtual 138, 3) := by decide +kernel
theorem dX5_beside_86 : decode cX5_beside 86 = .ok (.invokevirtual 186, 3) := by decide +kernel
theorem dX5_beside_89 : decode cX5_beside 89 = .ok (.ireturn, 1) := by decide +kernel
theorem dX5_beside_90 : decode cX5_beside 90 = .ok (.iconst (-1), 1) := by decide +kernel
theorem dX5_beside_91 : decode cX5_beside 91 = .ok (.ireturn, 1) := by decide +kernel
set_option maxRecDepth 20000 in
theorem ggX5_deepest_X4_has : GoodIn wsX5_deepest wsX4_has := goodIn_r _ [6, 7, 8, 9, 5, 10, 11, 116, 117, 118, 119, 120, 121, 122, 123, 124] rfl (by decide +kernel)
set_option maxRecDepth 20000 in
theorem gX5_deepest_X4_has : GoodIn wsX5_deepest (wsV RX5 135 RX4 yX4_has wsX4_has) := goodIn_app (goodIn_of _ (by decide +kernel)) ggX5_deepest_X4_has
set_option maxRecDepth 20000 in
theorem ggX5_deepest_X4_deepestOf : GoodIn wsX5_deepest wsX4_deepestOf := goodIn_r _ [15, 11, 16, 17, 18, 5, 19, 20, 21, 22, 23, 24, 25, 26, 27, 28, 29, 30, 31, 32, 33, 34, 35, 36, 37, 38, 39, 40, 41, 42, 43, 44, 45, 46, 47, 48, 49, 50, 51, 52, 53, 54, 55, 56, 57, 58, 59, 60, 61, 62, 63, 64, 65, 66, 67, 68, 69, 70, 71, 72, 73, 74, 75, 76, 77, 78, 79, 80, 81, 82, 83, 84, 85, 86, 87, 88, 89, 90, 91, 92, 93, 94, 95, 96, 97, 98, 99, 100, 101, 102, 103, 104, 105, 106, 107, 108, 116, 117, 118, 119, 120, 121, 122, 123, 124] rfl (by decide +kernel)
set_option maxRecDepth 20000 in
theorem gX5_deepest_X4_deepestOf : GoodIn wsX5_deepest (wsV RX5 192 RX4 yX4_deepestOf wsX4_deepestOf) := goodIn_app (goodIn_of _ (by decide +kernel)) ggX5_deepest_X4_deepestOf
theorem dX5_deepest_0 : decode cX5_deepest 0 = .ok (.aload_n 0, 1) := by decide +kernel
theorem dX5_deepest_1 : decode cX5_deepest 1 = .ok (.getfield 12, 3) := by decide +kernel
theorem dX5_deepest_4 : decode cX5_deepest 4 = .ok (.iload_n 1, 1) := by decide +kernel
theorem dX5_deepest_5 : decode cX5_deepest 5 = .ok (.invokevirtual 135, 3) := by decide +kernel
theorem dX5_deepest_8 : decode cX5_deepest 8 = .ok (.ifCond .eq 14, 3) := by decide +kernel
theorem dX5_deepest_11 : decode cX5_deepest 11 = .ok (.aload_n 0, 1) := by decide +kernel
theorem dX5_deepest_12 : decode cX5_deepest 12 = .ok (.getfield 12, 3) := by decide +kernel
theorem dX5_deepest_15 : decode cX5_deepest 15 = .ok (.iload_n 1, 1) := by decide +kernel
theorem dX5_deepest_16 : decode cX5_deepest 16 = .ok (.invokevirtual 192, 3) := by decide +kernel
theorem dX5_deepest_19 : decode cX5_deepest 19 = .ok (.goto 4, 3) := by decide +kernel
theorem dX5_deepest_22 : decode cX5_deepest 22 = .ok (.iconst (-1), 1) := by decide +kernel
theorem dX5_deepest_23 : decode cX5_deepest 23 = .ok (.ireturn, 1) := by decide +kernel
set_option maxRecDepth 20000 in
theorem ggX5_alike_X4_has : GoodIn wsX5_alike wsX4_has := goodIn_r _ [6, 7, 8, 9, 5, 10, 11, 109, 110, 111, 112, 113, 114, 115, 116, 117] rfl (by decide +kernel)
set_option maxRecDepth 20000 in
theorem gX5_alike_X4_has : GoodIn wsX5_alike (wsV RX5 135 RX4 yX4_has wsX4_has) := goodIn_app (goodIn_of _ (by decide +kernel)) ggX5_alike_X4_has
set_option maxRecDepth 20000 in
theorem ggX5_alike_X4_haveLikeRows : GoodIn wsX5_alike wsX4_haveLikeRows := goodIn_r _ [15, 11, 16, 17, 18, 5, 19, 20, 21, 22, 23, 24, 25, 26, 27, 28, 29, 30, 31, 32, 33, 34, 35, 36, 37, 38, 39, 40, 41, 42, 43, 44, 45, 46, 47, 48, 49, 50, 51, 52, 53, 54, 55, 56, 57, 58, 59, 60, 61, 62, 63, 64, 65, 66, 67, 68, 69, 70, 71, 72, 73, 74, 75, 76, 77, 78, 79, 80, 81, 82, 83, 84, 85, 86, 87, 88, 89, 90, 91, 92, 93, 94, 95, 96, 97, 98, 99, 100, 101, 109, 110, 111, 112, 113, 114, 115, 116, 117] rfl (by decide +kernel)
set_option maxRecDepth 20000 in
theorem gX5_alike_X4_haveLikeRows : GoodIn wsX5_alike (wsV RX5 195 RX4 yX4_haveLikeRows wsX4_haveLikeRows) := goodIn_app (goodIn_of _ (by decide +kernel)) ggX5_alike_X4_haveLikeRows
theorem dX5_alike_0 : decode cX5_alike 0 = .ok (.aload_n 0, 1) := by decide +kernel
theorem dX5_alike_1 : decode cX5_alike 1 = .ok (.getfield 12, 3) := by decide +kernel
theorem dX5_alike_4 : decode cX5_alike 4 = .ok (.iload_n 1, 1) := by decide +kernel
theorem dX5_alike_5 : decode cX5_alike 5 = .ok (.invokevirtual 135, 3) := by decide +kernel
theorem dX5_alike_8 : decode cX5_alike 8 = .ok (.ifCond .eq 14, 3) := by decide +kernel
theorem dX5_alike_11 : decode cX5_alike 11 = .ok (.aload_n 0, 1) := by decide +kernel
theorem dX5_alike_12 : decode cX5_alike 12 = .ok (.getfield 12, 3) := by decide +kernel
theorem dX5_alike_15 : decode cX5_alike 15 = .ok (.iload_n 2, 1) := by decide +kernel
theorem dX5_alike_16 : decode cX5_alike 16 = .ok (.invokevirtual 135, 3) := by decide +kernel
theorem dX5_alike_19 : decode cX5_alike 19 = .ok (.ifCond .ne 5, 3) := by decide +kernel
theorem dX5_alike_22 : decode cX5_alike 22 = .ok (.iconst (-1), 1) := by decide +kernel
theorem dX5_alike_23 : decode cX5_alike 23 = .ok (.ireturn, 1) := by decide +kernel
theorem dX5_alike_24 : decode cX5_alike 24 = .ok (.aload_n 0, 1) := by decide +kernel
theorem dX5_alike_25 : decode cX5_alike 25 = .ok (.getfield 12, 3) := by decide +kernel
theorem dX5_alike_28 : decode cX5_alike 28 = .ok (.iload_n 1, 1) := by decide +kernel
theorem dX5_alike_29 : decode cX5_alike 29 = .ok (.iload_n 2, 1) := by decide +kernel
theorem dX5_alike_30 : decode cX5_alike 30 = .ok (.invokevirtual 195, 3) := by decide +kernel
theorem dX5_alike_33 : decode cX5_alike 33 = .ok (.ifCond .eq 7, 3) := by decide +kernel
theorem dX5_alike_36 : decode cX5_alike 36 = .ok (.iconst 1, 1) := by decide +kernel
theorem dX5_alike_37 : decode cX5_alike 37 = .ok (.goto 4, 3) := by decide +kernel
theorem dX5_alike_40 : decode cX5_alike 40 = .ok (.iconst 0, 1) := by decide +kernel
theorem dX5_alike_41 : decode cX5_alike 41 = .ok (.ireturn, 1) := by decide +kernel
set_option maxRecDepth 20000 in
theorem ggX5_weight_X4_has : GoodIn wsX5_weight wsX4_has := goodIn_r _ [6, 7, 8, 9, 5, 10, 11, 19, 20, 21, 22, 23, 24, 25, 26, 27] rfl (by decide +kernel)
set_option maxRecDepth 20000 in
theorem gX5_weight_X4_has : GoodIn wsX5_weight (wsV RX5 135 RX4 yX4_has wsX4_has) := goodIn_app (goodIn_of _ (by decide +kernel)) ggX5_weight_X4_has
theorem dX5_weight_0 : decode cX5_weight 0 = .ok (.aload_n 0, 1) := by decide +kernel
theorem dX5_weight_1 : decode cX5_weight 1 = .ok (.getfield 12, 3) := by decide +kernel
theorem dX5_weight_4 : decode cX5_weight 4 = .ok (.iload_n 1, 1) := by decide +kernel
theorem dX5_weight_5 : decode cX5_weight 5 = .ok (.invokevirtual 135, 3) := by decide +kernel
theorem dX5_weight_8 : decode cX5_weight 8 = .ok (.ifCond .eq 15, 3) := by decide +kernel
theorem dX5_weight_11 : decode cX5_weight 11 = .ok (.aload_n 0, 1) := by decide +kernel
theorem dX5_weight_12 : decode cX5_weight 12 = .ok (.getfield 12, 3) := by decide +kernel
theorem dX5_weight_15 : decode cX5_weight 15 = .ok (.getfield 199, 3) := by decide +kernel
theorem dX5_weight_18 : decode cX5_weight 18 = .ok (.iload_n 1, 1) := by decide +kernel
theorem dX5_weight_19 : decode cX5_weight 19 = .ok (.iaload, 1) := by decide +kernel
theorem dX5_weight_20 : decode cX5_weight 20 = .ok (.goto 4, 3) := by decide +kernel
theorem dX5_weight_23 : decode cX5_weight 23 = .ok (.iconst (-1), 1) := by decide +kernel
theorem dX5_weight_24 : decode cX5_weight 24 = .ok (.ireturn, 1) := by decide +kernel
set_option maxRecDepth 20000 in
theorem ggX5_set_X4_has : GoodIn wsX5_set wsX4_has := goodIn_r _ [6, 7, 8, 9, 5, 10, 11, 19, 20, 21, 22, 23, 24, 25, 26, 27] rfl (by decide +kernel)
set_option maxRecDepth 20000 in
theorem gX5_set_X4_has : GoodIn wsX5_set (wsV RX5 135 RX4 yX4_has wsX4_has) := goodIn_app (goodIn_of _ (by decide +kernel)) ggX5_set_X4_has
theorem dX5_set_0 : decode cX5_set 0 = .ok (.aload_n 0, 1) := by decide +kernel
theorem dX5_set_1 : decode cX5_set 1 = .ok (.getfield 12, 3) := by decide +kernel
theorem dX5_set_4 : decode cX5_set 4 = .ok (.iload_n 1, 1) := by decide +kernel
theorem dX5_set_5 : decode cX5_set 5 = .ok (.invokevirtual 135, 3) := by decide +kernel
theorem dX5_set_8 : decode cX5_set 8 = .ok (.ifCond .eq 7, 3) := by decide +kernel
theorem dX5_set_11 : decode cX5_set 11 = .ok (.iload_n 2, 1) := by decide +kernel
theorem dX5_set_12 : decode cX5_set 12 = .ok (.ifCond .ge 5, 3) := by decide +kernel
theorem dX5_set_15 : decode cX5_set 15 = .ok (.iconst (-1), 1) := by decide +kernel
theorem dX5_set_16 : decode cX5_set 16 = .ok (.ireturn, 1) := by decide +kernel
theorem dX5_set_17 : decode cX5_set 17 = .ok (.aload_n 0, 1) := by decide +kernel
theorem dX5_set_18 : decode cX5_set 18 = .ok (.getfield 12, 3) := by decide +kernel
