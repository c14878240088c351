theorem dX6_init_0 : decode cX6_init 0 = .ok (.aload_n 0, 1) := by decide +kernel
theorem dX6_init_1 : decode cX6_init 1 = .ok (.invokespecial 1, 3) := by decide +kernel
theorem dX6_init_4 : decode cX6_init 4 = .ok (.aload_n 0, 1) := by decide +kernel
theorem dX6_init_5 : decode cX6_init 5 = .ok (.sipush 579, 3) := by decide +kernel
theorem dX6_init_8 : decode cX6_init 8 = .ok (.newarray .int, 2) := by decide +kernel
theorem dX6_init_10 : decode cX6_init 10 = .ok (.putfield 7, 3) := by decide +kernel
theorem dX6_init_13 : decode cX6_init 13 = .ok (.aload_n 0, 1) := by decide +kernel
theorem dX6_init_14 : decode cX6_init 14 = .ok (.sipush 193, 3) := by decide +kernel
theorem dX6_init_17 : decode cX6_init 17 = .ok (.newarray .int, 2) := by decide +kernel
theorem dX6_init_19 : decode cX6_init 19 = .ok (.putfield 13, 3) := by decide +kernel
theorem dX6_init_22 : decode cX6_init 22 = .ok (.aload_n 0, 1) := by decide +kernel
theorem dX6_init_23 : decode cX6_init 23 = .ok (.sipush 160, 3) := by decide +kernel
theorem dX6_init_26 : decode cX6_init 26 = .ok (.newarray .int, 2) := by decide +kernel
theorem dX6_init_28 : decode cX6_init 28 = .ok (.putfield 16, 3) := by decide +kernel
theorem dX6_init_31 : decode cX6_init 31 = .ok (.aload_n 0, 1) := by decide +kernel
theorem dX6_init_32 : decode cX6_init 32 = .ok (.sipush 128, 3) := by decide +kernel
theorem dX6_init_35 : decode cX6_init 35 = .ok (.newarray .int, 2) := by decide +kernel
theorem dX6_init_37 : decode cX6_init 37 = .ok (.putfield 19, 3) := by decide +kernel
theorem dX6_init_40 : decode cX6_init 40 = .ok (.aload_n 0, 1) := by decide +kernel
theorem dX6_init_41 : decode cX6_init 41 = .ok (.bipush 64, 2) := by decide +kernel
theorem dX6_init_43 : decode cX6_init 43 = .ok (.newarray .int, 2) := by decide +kernel
theorem dX6_init_45 : decode cX6_init 45 = .ok (.putfield 22, 3) := by decide +kernel
theorem dX6_init_48 : decode cX6_init 48 = .ok (.aload_n 0, 1) := by decide +kernel
theorem dX6_init_49 : decode cX6_init 49 = .ok (.iconst 2, 1) := by decide +kernel
theorem dX6_init_50 : decode cX6_init 50 = .ok (.newarray .boolean, 2) := by decide +kernel
theorem dX6_init_52 : decode cX6_init 52 = .ok (.dup, 1) := by decide +kernel
theorem dX6_init_53 : decode cX6_init 53 = .ok (.iconst 0, 1) := by decide +kernel
theorem dX6_init_54 : decode cX6_init 54 = .ok (.iconst 0, 1) := by decide +kernel
theorem dX6_init_55 : decode cX6_init 55 = .ok (.bastore, 1) := by decide +kernel
theorem dX6_init_56 : decode cX6_init 56 = .ok (.dup, 1) := by decide +kernel
theorem dX6_init_57 : decode cX6_init 57 = .ok (.iconst 1, 1) := by decide +kernel
theorem dX6_init_58 : decode cX6_init 58 = .ok (.iconst 0, 1) := by decide +kernel
theorem dX6_init_59 : decode cX6_init 59 = .ok (.bastore, 1) := by decide +kernel
theorem dX6_init_60 : decode cX6_init 60 = .ok (.putfield 25, 3) := by decide +kernel
theorem dX6_init_63 : decode cX6_init 63 = .ok (.aload_n 0, 1) := by decide +kernel
theorem dX6_init_64 : decode cX6_init 64 = .ok (.iconst 4, 1) := by decide +kernel
theorem dX6_init_65 : decode cX6_init 65 = .ok (.newarray .int, 2) := by decide +kernel
theorem dX6_init_67 : decode cX6_init 67 = .ok (.dup, 1) := by decide +kernel
theorem dX6_init_68 : decode cX6_init 68 = .ok (.iconst 0, 1) := by decide +kernel
theorem dX6_init_69 : decode cX6_init 69 = .ok (.bipush (-4), 2) := by decide +kernel
theorem dX6_init_71 : decode cX6_init 71 = .ok (.iastore, 1) := by decide +kernel
theorem dX6_init_72 : decode cX6_init 72 = .ok (.dup, 1) := by decide +kernel
theorem dX6_init_73 : decode cX6_init 73 = .ok (.iconst 1, 1) := by decide +kernel
theorem dX6_init_74 : decode cX6_init 74 = .ok (.bipush (-4), 2) := by decide +kernel
theorem dX6_init_76 : decode cX6_init 76 = .ok (.iastore, 1) := by decide +kernel
theorem dX6_init_77 : decode cX6_init 77 = .ok (.dup, 1) := by decide +kernel
theorem dX6_init_78 : decode cX6_init 78 = .ok (.iconst 2, 1) := by decide +kernel
theorem dX6_init_79 : decode cX6_init 79 = .ok (.bipush (-4), 2) := by decide +kernel
theorem dX6_init_81 : decode cX6_init 81 = .ok (.iastore, 1) := by decide +kernel
theorem dX6_init_82 : decode cX6_init 82 = .ok (.dup, 1) := by decide +kernel
theorem dX6_init_83 : decode cX6_init 83 = .ok (.iconst 3, 1) := by decide +kernel
theorem dX6_init_84 : decode cX6_init 84 = .ok (.bipush (-4), 2) := by decide +kernel
theorem dX6_init_86 : decode cX6_init 86 = .ok (.iastore, 1) := by decide +kernel
theorem dX6_init_87 : decode cX6_init 87 = .ok (.putfield 29, 3) := by decide +kernel
theorem dX6_init_90 : decode cX6_init 90 = .ok (.aload_n 0, 1) := by decide +kernel
theorem dX6_init_91 : decode cX6_init 91 = .ok (.iconst 4, 1) := by decide +kernel
theorem dX6_init_92 : decode cX6_init 92 = .ok (.newarray .int, 2) := by decide +kernel
theorem dX6_init_94 : decode cX6_init 94 = .ok (.dup, 1) := by decide +kernel
theorem dX6_init_95 : decode cX6_init 95 = .ok (.iconst 0, 1) := by decide +kernel
theorem dX6_init_96 : decode cX6_init 96 = .ok (.iconst 0, 1) := by decide +kernel
theorem dX6_init_97 : decode cX6_init 97 = .ok (.iastore, 1) := by decide +kernel
theorem dX6_init_98 : decode cX6_init 98 = .ok (.dup, 1) := by decide +kernel
theorem dX6_init_99 : decode cX6_init 99 = .ok (.iconst 1, 1) := by decide +kernel
theorem dX6_init_100 : decode cX6_init 100 = .ok (.iconst 0, 1) := by decide +kernel
theorem dX6_init_101 : decode cX6_init 101 = .ok (.iastore, 1) := by decide +kernel
theorem dX6_init_102 : decode cX6_init 102 = .ok (.dup, 1) := by decide +kernel
theorem dX6_init_103 : decode cX6_init 103 = .ok (.iconst 2, 1) := by decide +kernel
theorem dX6_init_104 : decode cX6_init 104 = .ok (.iconst 0, 1) := by decide +kernel
theorem dX6_init_105 : decode cX6_init 105 = .ok (.iastore, 1) := by decide +kernel
theorem dX6_init_106 : decode cX6_init 106 = .ok (.dup, 1) := by decide +kernel
theorem dX6_init_107 : decode cX6_init 107 = .ok (.iconst 3, 1) := by decide +kernel
theorem dX6_init_108 : decode cX6_init 108 = .ok (.iconst 0, 1) := by decide +kernel
theorem dX6_init_109 : decode cX6_init 109 = .ok (.iastore, 1) := by decide +kernel
theorem dX6_init_110 : decode cX6_init 110 = .ok (.putfield 32, 3) := by decide +kernel
theorem dX6_init_113 : decode cX6_init 113 = .ok (.aload_n 0, 1) := by decide +kernel
theorem dX6_init_114 : decode cX6_init 114 = .ok (.sipush 160, 3) := by decide +kernel
theorem dX6_init_117 : decode cX6_init 117 = .ok (.newarray .long, 2) := by decide +kernel
theorem dX6_init_119 : decode cX6_init 119 = .ok (.putfield 35, 3) := by decide +kernel
theorem dX6_init_122 : decode cX6_init 122 = .ok (.return_, 1) := by decide +kernel
theorem dX6_in_0 : decode cX6_in 0 = .ok (.lload_n 0, 1) := by decide +kernel
theorem dX6_in_1 : decode cX6_in 1 = .ok (.lload_n 2, 1) := by decide +kernel
theorem dX6_in_2 : decode cX6_in 2 = .ok (.lcmp, 1) := by decide +kernel
theorem dX6_in_3 : decode cX6_in 3 = .ok (.ifCond .lt 14, 3) := by decide +kernel
theorem dX6_in_6 : decode cX6_in 6 = .ok (.lload_n 0, 1) := by decide +kernel
theorem dX6_in_7 : decode cX6_in 7 = .ok (.lload 4, 2) := by decide +kernel
theorem dX6_in_9 : decode cX6_in 9 = .ok (.lcmp, 1) := by decide +kernel
theorem dX6_in_10 : decode cX6_in 10 = .ok (.ifCond .gt 7, 3) := by decide +kernel
theorem dX6_in_13 : decode cX6_in 13 = .ok (.iconst 1, 1) := by decide +kernel
theorem dX6_in_14 : decode cX6_in 14 = .ok (.goto 4, 3) := by decide +kernel
theorem dX6_in_17 : decode cX6_in 17 = .ok (.iconst 0, 1) := by decide +kernel
theorem dX6_in_18 : decode cX6_in 18 = .ok (.ireturn, 1) := by decide +kernel
set_option maxRecDepth 20000 in
theorem ggX6_feed_X6_in : GoodIn wsX6_feed wsX6_in := goodIn_r _ [7] rfl (by decide +kernel)
set_option maxRecDepth 20000 in
theorem gX6_feed_X6_in : GoodIn wsX6_feed (va_wsS RX6 41 yX6_in wsX6_in) := goodIn_app (goodIn_of _ (by decide +kernel)) ggX6_feed_X6_in
theorem dX6_feed_0 : decode cX6_feed 0 = .ok (.iload_n 1, 1) := by decide +kernel
theorem dX6_feed_1 : decode cX6_feed 1 = .ok (.i2l, 1) := by decide +kernel
theorem dX6_feed_2 : decode cX6_feed 2 = .ok (.lconst 0, 1) := by decide +kernel
theorem dX6_feed_3 : decode cX6_feed 3 = .ok (.ldc2_w 39, 3) := by decide +kernel
theorem dX6_feed_6 : decode cX6_feed 6 = .ok (.invokestatic 41, 3) := by decide +kernel
theorem dX6_feed_9 : decode cX6_feed 9 = .ok (.ifCond .ne 5, 3) := by decide +kernel
theorem dX6_feed_12 : decode cX6_feed 12 = .ok (.iconst (-1), 1) := by decide +kernel
theorem dX6_feed_13 : decode cX6_feed 13 = .ok (.ireturn, 1) := by decide +kernel
theorem dX6_feed_14 : decode cX6_feed 14 = .ok (.aload_n 0, 1) := by decide +kernel
theorem dX6_feed_15 : decode cX6_feed 15 = .ok (.getfield 45, 3) := by decide +kernel
theorem dX6_feed_18 : decode cX6_feed 18 = .ok (.sipush 160, 3) := by decide +kernel
theorem dX6_feed_21 : decode cX6_feed 21 = .ok (.if_icmp .ne 6, 3) := by decide +kernel
theorem dX6_feed_24 : decode cX6_feed 24 = .ok (.bipush (-3), 2) := by decide +kernel
theorem dX6_feed_26 : decode cX6_feed 26 = .ok (.ireturn, 1) := by decide +kernel
theorem dX6_feed_27 : decode cX6_feed 27 = .ok (.aload_n 0, 1) := by decide +kernel
theorem dX6_feed_28 : decode cX6_feed 28 = .ok (.getfield 16, 3) := by decide +kernel
theorem dX6_feed_31 : decode cX6_feed 31 = .ok (.aload_n 0, 1) := by decide +kernel
theorem dX6_feed_32 : decode cX6_feed 32 = .ok (.getfield 45, 3) := by decide +kernel
theorem dX6_feed_35 : decode cX6_feed 35 = .ok (.iload_n 1, 1) := by decide +kernel
theorem dX6_feed_36 : decode cX6_feed 36 = .ok (.iastore, 1) := by decide +kernel
theorem dX6_feed_37 : decode cX6_feed 37 = .ok (.aload_n 0, 1) := by decide +kernel
theorem dX6_feed_38 : decode cX6_feed 38 = .ok (.dup, 1) := by decide +kernel
theorem dX6_feed_39 : decode cX6_feed 39 = .ok (.getfield 45, 3) := by decide +kernel
theorem dX6_feed_42 : decode cX6_feed 42 = .ok (.iconst 1, 1) := by decide +kernel
theorem dX6_feed_43 : decode cX6_feed 43 = .ok (.iadd, 1) := by decide +kernel
theorem dX6_feed_44 : decode cX6_feed 44 = .ok (.putfield 45, 3) := by decide +kernel
theorem dX6_feed_47 : decode cX6_feed 47 = .ok (.aload_n 0, 1) := by decide +kernel
theorem dX6_feed_48 : decode cX6_feed 48 = .ok (.getfield 45, 3) := by decide +kernel
theorem dX6_feed_51 : decode cX6_feed 51 = .ok (.ireturn, 1) := by decide +kernel
set_option maxRecDepth 20000 in
theorem ggX6_end_X6_in : GoodIn wsX6_end wsX6_in := goodIn_r _ [5] rfl (by decide +kernel)
set_option maxRecDepth 20000 in
theorem gX6_end_X6_in : GoodIn wsX6_end (va_wsS RX6 41 yX6_in wsX6_in) := goodIn_app (goodIn_of _ (by decide +kernel)) ggX6_end_X6_in
theorem dX6_end_0 : decode cX6_end 0 = .ok (.iload_n 1, 1) := by decide +kernel
theorem dX6_end_1 : decode cX6_end 1 = .ok (.i2l, 1) := by decide +kernel
theorem dX6_end_2 : decode cX6_end 2 = .ok (.lconst 0, 1) := by decide +kernel
theorem dX6_end_3 : decode cX6_end 3 = .ok (.aload_n 0, 1) := by decide +kernel
theorem dX6_end_4 : decode cX6_end 4 = .ok (.getfield 45, 3) := by decide +kernel
theorem dX6_end_7 : decode cX6_end 7 = .ok (.i2l, 1) := by decide +kernel
theorem dX6_end_8 : decode cX6_end 8 = .ok (.invokestatic 41, 3) := by decide +kernel
theorem dX6_end_11 : decode cX6_end 11 = .ok (.ifCond .ne 5, 3) := by decide +kernel
theorem dX6_end_14 : decode cX6_end 14 = .ok (.iconst (-1), 1) := by decide +kernel
theorem dX6_end_15 : decode cX6_end 15 = .ok (.ireturn, 1) := by decide +kernel
theorem dX6_end_16 : decode cX6_end 16 = .ok (.aload_n 0, 1) := by decide +kernel
theorem dX6_end_17 : decode cX6_end 17 = .ok (.getfield 45, 3) := by decide +kernel
theorem dX6_end_20 : decode cX6_end 20 = .ok (.istore_n 2, 1) := by decide +kernel
theorem dX6_end_21 : decode cX6_end 21 = .ok (.aload_n 0, 1) := by decide +kernel
theorem dX6_end_22 : decode cX6_end 22 = .ok (.iload_n 1, 1) := by decide +kernel
theorem dX6_end_23 : decode cX6_end 23 = .ok (.putfield 45, 3) := by decide +kernel
theorem dX6_end_26 : decode cX6_end 26 = .ok (.iload_n 2, 1) := by decide +kernel
theorem dX6_end_27 : decode cX6_end 27 = .ok (.ireturn, 1) := by decide +kernel
theorem dX6_byteAt_0 : decode cX6_byteAt 0 = .ok (.iload_n 1, 1) := by decide +kernel
theorem dX6_byteAt_1 : decode cX6_byteAt 1 = .ok (.aload_n 0, 1) := by decide +kernel
theorem dX6_byteAt_2 : decode cX6_byteAt 2 = .ok (.getfield 45, 3) := by decide +kernel
theorem dX6_byteAt_5 : decode cX6_byteAt 5 = .ok (.if_icmp .ge 12, 3) := by decide +kernel
theorem dX6_byteAt_8 : decode cX6_byteAt 8 = .ok (.aload_n 0, 1) := by decide +kernel
theorem dX6_byteAt_9 : decode cX6_byteAt 9 = .ok (.getfield 16, 3) := by decide +kernel
theorem dX6_byteAt_12 : decode cX6_byteAt 12 = .ok (.iload_n 1, 1) := by decide +kernel
theorem dX6_byteAt_13 : decode cX6_byteAt 13 = .ok (.iaload, 1) := by decide +kernel
theorem dX6_byteAt_14 : decode cX6_byteAt 14 = .ok (.goto 5, 3) := by decide +kernel
theorem dX6_byteAt_17 : decode cX6_byteAt 17 = .ok (.bipush (-4), 2) := by decide +kernel
theorem dX6_byteAt_19 : decode cX6_byteAt 19 = .ok (.ireturn, 1) := by decide +kernel
theorem dX6_fails_0 : decode cX6_fails 0 = .ok (.aload_n 0, 1) := by decide +kernel
theorem dX6_fails_1 : decode cX6_fails 1 = .ok (.getfield 49, 3) := by decide +kernel
theorem dX6_fails_4 : decode cX6_fails 4 = .ok (.ifCond .ne 16, 3) := by decide +kernel
theorem dX6_fails_7 : decode cX6_fails 7 = .ok (.aload_n 0, 1) := by decide +kernel
theorem dX6_fails_8 : decode cX6_fails 8 = .ok (.iload_n 1, 1) := by decide +kernel
theorem dX6_fails_9 : decode cX6_fails 9 = .ok (.putfield 49, 3) := by decide +kernel
theorem dX6_fails_12 : decode cX6_fails 12 = .ok (.aload_n 0, 1) := by decide +kernel
theorem dX6_fails_13 : decode cX6_fails 13 = .ok (.aload_n 0, 1) := by decide +kernel
theorem dX6_fails_14 : decode cX6_fails 14 = .ok (.getfield 52, 3) := by decide +kernel
theorem dX6_fails_17 : decode cX6_fails 17 = .ok (.putfield 55, 3) := by decide +kernel
theorem dX6_fails_20 : decode cX6_fails 20 = .ok (.return_, 1) := by decide +kernel
set_option maxRecDepth 20000 in
theorem ggX6_readsOn_X6_byteAt : GoodIn wsX6_readsOn wsX6_byteAt := goodIn_r _ [12, 13, 14, 23, 24, 25, 26, 27, 28, 29, 30, 31, 32, 33, 34, 35, 36, 37, 38, 39, 40] rfl (by decide +kernel)
set_option maxRecDepth 20000 in
theorem gX6_readsOn_X6_byteAt : GoodIn wsX6_readsOn (wsV RX6 61 RX6 yX6_byteAt wsX6_byteAt) := goodIn_app (goodIn_of _ (by decide +kernel)) ggX6_readsOn_X6_byteAt
set_option maxRecDepth 20000 in
theorem ggX6_readsOn_X6_in : GoodIn wsX6_readsOn wsX6_in := goodIn_r _ [17] rfl (by decide +kernel)
set_option maxRecDepth 20000 in
theorem gX6_readsOn_X6_in : GoodIn wsX6_readsOn (va_wsS RX6 41 yX6_in wsX6_in) := goodIn_app (goodIn_of _ (by decide +kernel)) ggX6_readsOn_X6_in
set_option maxRecDepth 20000 in
theorem ggX6_readsOn_X6_fails : GoodIn wsX6_readsOn wsX6_fails := goodIn_r _ [21, 1, 3, 22, 23, 24, 25, 26, 27, 28, 29, 30, 31, 32, 33, 34, 35, 36, 37, 38, 39, 40] rfl (by decide +kernel)
set_option maxRecDepth 20000 in
theorem gX6_readsOn_X6_fails : GoodIn wsX6_readsOn (wsV RX6 75 RX6 yX6_fails wsX6_fails) := goodIn_app (goodIn_of _ (by decide +kernel)) ggX6_readsOn_X6_fails
theorem dX6_readsOn_0 : decode cX6_readsOn 0 = .ok (.aload_n 0, 1) := by decide +kernel
theorem dX6_readsOn_1 : decode cX6_readsOn 1 = .ok (.getfield 49, 3) := by decide +kernel
theorem dX6_readsOn_4 : decode cX6_readsOn 4 = .ok (.ifCond .le 4, 3) := by decide +kernel
theorem dX6_readsOn_7 : decode cX6_readsOn 7 = .ok (.return_, 1) := by decide +kernel
theorem dX6_readsOn_8 : decode cX6_readsOn 8 = .ok (.aload_n 0, 1) := by decide +kernel
theorem dX6_readsOn_9 : decode cX6_readsOn 9 = .ok (.aload_n 0, 1) := by decide +kernel
theorem dX6_readsOn_10 : decode cX6_readsOn 10 = .ok (.getfield 58, 3) := by decide +kernel
theorem dX6_readsOn_13 : decode cX6_readsOn 13 = .ok (.invokevirtual 61, 3) := by decide +kernel
theorem dX6_readsOn_16 : decode cX6_readsOn 16 = .ok (.bipush 32, 2) := by decide +kernel
theorem dX6_readsOn_18 : decode cX6_readsOn 18 = .ok (.if_icmp .ne 16, 3) := by decide +kernel
theorem dX6_readsOn_21 : decode cX6_readsOn 21 = .ok (.aload_n 0, 1) := by decide +kernel
theorem dX6_readsOn_22 : decode cX6_readsOn 22 = .ok (.dup, 1) := by decide +kernel
theorem dX6_readsOn_23 : decode cX6_readsOn 23 = .ok (.getfield 58, 3) := by decide +kernel
theorem dX6_readsOn_26 : decode cX6_readsOn 26 = .ok (.iconst 1, 1) := by decide +kernel
theorem dX6_readsOn_27 : decode cX6_readsOn 27 = .ok (.iadd, 1) := by decide +kernel
theorem dX6_readsOn_28 : decode cX6_readsOn 28 = .ok (.putfield 58, 3) := by decide +kernel
theorem dX6_readsOn_31 : decode cX6_readsOn 31 = .ok (.goto (-23), 3) := by decide +kernel
theorem dX6_readsOn_34 : decode cX6_readsOn 34 = .ok (.aload_n 0, 1) := by decide +kernel
theorem dX6_readsOn_35 : decode cX6_readsOn 35 = .ok (.aload_n 0, 1) := by decide +kernel
theorem dX6_readsOn_36 : decode cX6_readsOn 36 = .ok (.getfield 58, 3) := by decide +kernel
theorem dX6_readsOn_39 : decode cX6_readsOn 39 = .ok (.putfield 52, 3) := by decide +kernel
theorem dX6_readsOn_42 : decode cX6_readsOn 42 = .ok (.aload_n 0, 1) := by decide +kernel
theorem dX6_readsOn_43 : decode cX6_readsOn 43 = .ok (.aload_n 0, 1) := by decide +kernel
theorem dX6_readsOn_44 : decode cX6_readsOn 44 = .ok (.getfield 58, 3) := by decide +kernel
theorem dX6_readsOn_47 : decode cX6_readsOn 47 = .ok (.invokevirtual 61, 3) := by decide +kernel
theorem dX6_readsOn_50 : decode cX6_readsOn 50 = .ok (.istore_n 1, 1) := by decide +kernel
theorem dX6_readsOn_51 : decode cX6_readsOn 51 = .ok (.aload_n 0, 1) := by decide +kernel
theorem dX6_readsOn_52 : decode cX6_readsOn 52 = .ok (.iconst 0, 1) := by decide +kernel
theorem dX6_readsOn_53 : decode cX6_readsOn 53 = .ok (.putfield 65, 3) := by decide +kernel
theorem dX6_readsOn_56 : decode cX6_readsOn 56 = .ok (.iload_n 1, 1) := by decide +kernel
theorem dX6_readsOn_57 : decode cX6_readsOn 57 = .ok (.bipush (-4), 2) := by decide +kernel
theorem dX6_readsOn_59 : decode cX6_readsOn 59 = .ok (.if_icmp .ne 11, 3) := by decide +kernel
theorem dX6_readsOn_62 : decode cX6_readsOn 62 = .ok (.aload_n 0, 1) := by decide +kernel
theorem dX6_readsOn_63 : decode cX6_readsOn 63 = .ok (.iconst 0, 1) := by decide +kernel
theorem dX6_readsOn_64 : decode cX6_readsOn 64 = .ok (.putfield 68, 3) := by decide +kernel
theorem dX6_readsOn_67 : decode cX6_readsOn 67 = .ok (.goto 162, 3) := by decide +kernel
theorem dX6_readsOn_70 : decode cX6_readsOn 70 = .ok (.iload_n 1, 1) := by decide +kernel
theorem dX6_readsOn_71 : decode cX6_readsOn 71 = .ok (.i2l, 1) := by decide +kernel
theorem dX6_readsOn_72 : decode cX6_readsOn 72 = .ok (.ldc2_w 71, 3) := by decide +kernel
theorem dX6_readsOn_75 : decode cX6_readsOn 75 = .ok (.ldc2_w 73, 3) := by decide +kernel
theorem dX6_readsOn_78 : decode cX6_readsOn 78 = .ok (.invokestatic 41, 3) := by decide +kernel
theorem dX6_readsOn_81 : decode cX6_readsOn 81 = .ok (.ifCond .eq 106, 3) := by decide +kernel
theorem dX6_readsOn_84 : decode cX6_readsOn 84 = .ok (.aload_n 0, 1) := by decide +kernel
theorem dX6_readsOn_85 : decode cX6_readsOn 85 = .ok (.aload_n 0, 1) := by decide +kernel
theorem dX6_readsOn_86 : decode cX6_readsOn 86 = .ok (.getfield 58, 3) := by decide +kernel
theorem dX6_readsOn_89 : decode cX6_readsOn 89 = .ok (.invokevirtual 61, 3) := by decide +kernel
theorem dX6_readsOn_92 : decode cX6_readsOn 92 = .ok (.i2l, 1) := by decide +kernel
theorem dX6_readsOn_93 : decode cX6_readsOn 93 = .ok (.ldc2_w 71, 3) := by decide +kernel
theorem dX6_readsOn_96 : decode cX6_readsOn 96 = .ok (.ldc2_w 73, 3) := by decide +kernel
theorem dX6_readsOn_99 : decode cX6_readsOn 99 = .ok (.invokestatic 41, 3) := by decide +kernel
theorem dX6_readsOn_102 : decode cX6_readsOn 102 = .ok (.ifCond .eq 59, 3) := by decide +kernel
theorem dX6_readsOn_105 : decode cX6_readsOn 105 = .ok (.aload_n 0, 1) := by decide +kernel
theorem dX6_readsOn_106 : decode cX6_readsOn 106 = .ok (.aload_n 0, 1) := by decide +kernel
theorem dX6_readsOn_107 : decode cX6_readsOn 107 = .ok (.getfield 58, 3) := by decide +kernel
theorem dX6_readsOn_110 : decode cX6_readsOn 110 = .ok (.aload_n 0, 1) := by decide +kernel
theorem dX6_readsOn_111 : decode cX6_readsOn 111 = .ok (.getfield 52, 3) := by decide +kernel
theorem dX6_readsOn_114 : decode cX6_readsOn 114 = .ok (.isub, 1) := by decide +kernel
theorem dX6_readsOn_115 : decode cX6_readsOn 115 = .ok (.iconst 4, 1) := by decide +kernel
theorem dX6_readsOn_116 : decode cX6_readsOn 116 = .ok (.if_icmp .ge 25, 3) := by decide +kernel
theorem dX6_readsOn_119 : decode cX6_readsOn 119 = .ok (.bipush 10, 2) := by decide +kernel
theorem dX6_readsOn_121 : decode cX6_readsOn 121 = .ok (.aload_n 0, 1) := by decide +kernel
theorem dX6_readsOn_122 : decode cX6_readsOn 122 = .ok (.getfield 65, 3) := by decide +kernel
theorem dX6_readsOn_125 : decode cX6_readsOn 125 = .ok (.imul, 1) := by decide +kernel
theorem dX6_readsOn_126 : decode cX6_readsOn 126 = .ok (.aload_n 0, 1) := by decide +kernel
theorem dX6_readsOn_127 : decode cX6_readsOn 127 = .ok (.aload_n 0, 1) := by decide +kernel
theorem dX6_readsOn_128 : decode cX6_readsOn 128 = .ok (.getfield 58, 3) := by decide +kernel
theorem dX6_readsOn_131 : decode cX6_readsOn 131 = .ok (.invokevirtual 61, 3) := by decide +kernel
theorem dX6_readsOn_134 : decode cX6_readsOn 134 = .ok (.iadd, 1) := by decide +kernel
theorem dX6_readsOn_135 : decode cX6_readsOn 135 = .ok (.bipush 48, 2) := by decide +kernel
theorem dX6_readsOn_137 : decode cX6_readsOn 137 = .ok (.isub, 1) := by decide +kernel
theorem dX6_readsOn_138 : decode cX6_readsOn 138 = .ok (.goto 7, 3) := by decide +kernel
theorem dX6_readsOn_141 : decode cX6_readsOn 141 = .ok (.aload_n 0, 1) := by decide +kernel
theorem dX6_readsOn_142 : decode cX6_readsOn 142 = .ok (.getfield 65, 3) := by decide +kernel
theorem dX6_readsOn_145 : decode cX6_readsOn 145 = .ok (.putfield 65, 3) := by decide +kernel
theorem dX6_readsOn_148 : decode cX6_readsOn 148 = .ok (.aload_n 0, 1) := by decide +kernel
theorem dX6_readsOn_149 : decode cX6_readsOn 149 = .ok (.dup, 1) := by decide +kernel
theorem dX6_readsOn_150 : decode cX6_readsOn 150 = .ok (.getfield 58, 3) := by decide +kernel
theorem dX6_readsOn_153 : decode cX6_readsOn 153 = .ok (.iconst 1, 1) := by decide +kernel
theorem dX6_readsOn_154 : decode cX6_readsOn 154 = .ok (.iadd, 1) := by decide +kernel
theorem dX6_readsOn_155 : decode cX6_readsOn 155 = .ok (.putfield 58, 3) := by decide +kernel
theorem dX6_readsOn_158 : decode cX6_readsOn 158 = .ok (.goto (-74), 3) := by decide +kernel
theorem dX6_readsOn_161 : decode cX6_readsOn 161 = .ok (.aload_n 0, 1) := by decide +kernel
theorem dX6_readsOn_162 : decode cX6_readsOn 162 = .ok (.iconst 1, 1) := by decide +kernel
theorem dX6_readsOn_163 : decode cX6_readsOn 163 = .ok (.putfield 68, 3) := by decide +kernel
theorem dX6_readsOn_166 : decode cX6_readsOn 166 = .ok (.aload_n 0, 1) := by decide +kernel
theorem dX6_readsOn_167 : decode cX6_readsOn 167 = .ok (.getfield 58, 3) := by decide +kernel
theorem dX6_readsOn_170 : decode cX6_readsOn 170 = .ok (.aload_n 0, 1) := by decide +kernel
theorem dX6_readsOn_171 : decode cX6_readsOn 171 = .ok (.getfield 52, 3) := by decide +kernel
theorem dX6_readsOn_174 : decode cX6_readsOn 174 = .ok (.isub, 1) := by decide +kernel
theorem dX6_readsOn_175 : decode cX6_readsOn 175 = .ok (.iconst 4, 1) := by decide +kernel
theorem dX6_readsOn_176 : decode cX6_readsOn 176 = .ok (.if_icmp .le 53, 3) := by decide +kernel
theorem dX6_readsOn_179 : decode cX6_readsOn 179 = .ok (.aload_n 0, 1) := by decide +kernel
theorem dX6_readsOn_180 : decode cX6_readsOn 180 = .ok (.iconst 1, 1) := by decide +kernel
theorem dX6_readsOn_181 : decode cX6_readsOn 181 = .ok (.invokevirtual 75, 3) := by decide +kernel
theorem dX6_readsOn_184 : decode cX6_readsOn 184 = .ok (.goto 45, 3) := by decide +kernel
theorem dX6_readsOn_187 : decode cX6_readsOn 187 = .ok (.aload_n 0, 1) := by decide +kernel
theorem dX6_readsOn_188 : decode cX6_readsOn 188 = .ok (.iload_n 1, 1) := by decide +kernel
theorem dX6_readsOn_189 : decode cX6_readsOn 189 = .ok (.bipush 40, 2) := by decide +kernel
theorem dX6_readsOn_191 : decode cX6_readsOn 191 = .ok (.if_icmp .ne 7, 3) := by decide +kernel
theorem dX6_readsOn_194 : decode cX6_readsOn 194 = .ok (.iconst 2, 1) := by decide +kernel
theorem dX6_readsOn_195 : decode cX6_readsOn 195 = .ok (.goto 4, 3) := by decide +kernel
theorem dX6_readsOn_198 : decode cX6_readsOn 198 = .ok (.iconst 3, 1) := by decide +kernel
theorem dX6_readsOn_199 : decode cX6_readsOn 199 = .ok (.putfield 68, 3) := by decide +kernel
theorem dX6_readsOn_202 : decode cX6_readsOn 202 = .ok (.aload_n 0, 1) := by decide +kernel
theorem dX6_readsOn_203 : decode cX6_readsOn 203 = .ok (.dup, 1) := by decide +kernel
theorem dX6_readsOn_204 : decode cX6_readsOn 204 = .ok (.getfield 58, 3) := by decide +kernel
theorem dX6_readsOn_207 : decode cX6_readsOn 207 = .ok (.iconst 1, 1) := by decide +kernel
theorem dX6_readsOn_208 : decode cX6_readsOn 208 = .ok (.iadd, 1) := by decide +kernel
theorem dX6_readsOn_209 : decode cX6_readsOn 209 = .ok (.putfield 58, 3) := by decide +kernel
theorem dX6_readsOn_212 : decode cX6_readsOn 212 = .ok (.iload_n 1, 1) := by decide +kernel
theorem dX6_readsOn_213 : decode cX6_readsOn 213 = .ok (.bipush 40, 2) := by decide +kernel
theorem dX6_readsOn_215 : decode cX6_readsOn 215 = .ok (.if_icmp .eq 14, 3) := by decide +kernel
theorem dX6_readsOn_218 : decode cX6_readsOn 218 = .ok (.iload_n 1, 1) := by decide +kernel
theorem dX6_readsOn_219 : decode cX6_readsOn 219 = .ok (.bipush 41, 2) := by decide +kernel
theorem dX6_readsOn_221 : decode cX6_readsOn 221 = .ok (.if_icmp .eq 8, 3) := by decide +kernel
theorem dX6_readsOn_224 : decode cX6_readsOn 224 = .ok (.aload_n 0, 1) := by decide +kernel
theorem dX6_readsOn_225 : decode cX6_readsOn 225 = .ok (.iconst 1, 1) := by decide +kernel
theorem dX6_readsOn_226 : decode cX6_readsOn 226 = .ok (.invokevirtual 75, 3) := by decide +kernel
theorem dX6_readsOn_229 : decode cX6_readsOn 229 = .ok (.return_, 1) := by decide +kernel
set_option maxRecDepth 20000 in
theorem ggX6_takes_X6_fails : GoodIn wsX6_takes wsX6_fails := goodIn_r _ [9, 3, 10, 11, 28, 29, 30, 31, 32, 33, 34, 35, 36, 37, 38, 39, 40, 41, 42, 43, 44, 45] rfl (by decide +kernel)
set_option maxRecDepth 20000 in
theorem gX6_takes_X6_fails : GoodIn wsX6_takes (wsV RX6 75 RX6 yX6_fails wsX6_fails) := goodIn_app (goodIn_of _ (by decide +kernel)) ggX6_takes_X6_fails
set_option maxRecDepth 20000 in
theorem ggX6_takes_X6_readsOn : GoodIn wsX6_takes wsX6_readsOn := goodIn_r _ [15, 3, 16, 10, 4, 1, 17, 18, 19, 20, 21, 8, 22, 23, 24, 25, 26, 27, 5, 6, 7, 9, 11, 28, 29, 30, 31, 32, 33, 34, 35, 36, 37, 38, 39, 40, 41, 42, 43, 44, 45] rfl (by decide +kernel)
set_option maxRecDepth 20000 in
theorem gX6_takes_X6_readsOn : GoodIn wsX6_takes (wsV RX6 79 RX6 yX6_readsOn wsX6_readsOn) := goodIn_app (goodIn_of _ (by decide +kernel)) ggX6_takes_X6_readsOn
theorem dX6_takes_0 : decode cX6_takes 0 = .ok (.aload_n 0, 1) := by decide +kernel
theorem dX6_takes_1 : decode cX6_takes 1 = .ok (.getfield 68, 3) := by decide +kernel
theorem dX6_takes_4 : decode cX6_takes 4 = .ok (.iconst 3, 1) := by decide +kernel
theorem dX6_takes_5 : decode cX6_takes 5 = .ok (.if_icmp .ne 27, 3) := by decide +kernel
theorem dX6_takes_8 : decode cX6_takes 8 = .ok (.iload_n 1, 1) := by decide +kernel
theorem dX6_takes_9 : decode cX6_takes 9 = .ok (.ifCond .ne 8, 3) := by decide +kernel
theorem dX6_takes_12 : decode cX6_takes 12 = .ok (.aload_n 0, 1) := by decide +kernel
theorem dX6_takes_13 : decode cX6_takes 13 = .ok (.iconst 2, 1) := by decide +kernel
theorem dX6_takes_14 : decode cX6_takes 14 = .ok (.invokevirtual 75, 3) := by decide +kernel
theorem dX6_takes_17 : decode cX6_takes 17 = .ok (.aload_n 0, 1) := by decide +kernel
theorem dX6_takes_18 : decode cX6_takes 18 = .ok (.getfield 13, 3) := by decide +kernel
theorem dX6_takes_21 : decode cX6_takes 21 = .ok (.iload_n 2, 1) := by decide +kernel
theorem dX6_takes_22 : decode cX6_takes 22 = .ok (.iconst 0, 1) := by decide +kernel
theorem dX6_takes_23 : decode cX6_takes 23 = .ok (.iastore, 1) := by decide +kernel
theorem dX6_takes_24 : decode cX6_takes 24 = .ok (.aload_n 0, 1) := by decide +kernel
theorem dX6_takes_25 : decode cX6_takes 25 = .ok (.invokevirtual 79, 3) := by decide +kernel
theorem dX6_takes_28 : decode cX6_takes 28 = .ok (.iload_n 1, 1) := by decide +kernel
theorem dX6_takes_29 : decode cX6_takes 29 = .ok (.iconst 1, 1) := by decide +kernel
theorem dX6_takes_30 : decode cX6_takes 30 = .ok (.isub, 1) := by decide +kernel
theorem dX6_takes_31 : decode cX6_takes 31 = .ok (.ireturn, 1) := by decide +kernel
theorem dX6_takes_32 : decode cX6_takes 32 = .ok (.aload_n 0, 1) := by decide +kernel
theorem dX6_takes_33 : decode cX6_takes 33 = .ok (.getfield 68, 3) := by decide +kernel
theorem dX6_takes_36 : decode cX6_takes 36 = .ok (.iconst 2, 1) := by decide +kernel
theorem dX6_takes_37 : decode cX6_takes 37 = .ok (.if_icmp .ne 11, 3) := by decide +kernel
theorem dX6_takes_40 : decode cX6_takes 40 = .ok (.iload_n 1, 1) := by decide +kernel
theorem dX6_takes_41 : decode cX6_takes 41 = .ok (.ifCond .ne 14, 3) := by decide +kernel
theorem dX6_takes_44 : decode cX6_takes 44 = .ok (.iload_n 2, 1) := by decide +kernel
theorem dX6_takes_45 : decode cX6_takes 45 = .ok (.ifCond .le 10, 3) := by decide +kernel
theorem dX6_takes_48 : decode cX6_takes 48 = .ok (.aload_n 0, 1) := by decide +kernel
theorem dX6_takes_49 : decode cX6_takes 49 = .ok (.iconst 2, 1) := by decide +kernel
theorem dX6_takes_50 : decode cX6_takes 50 = .ok (.invokevirtual 75, 3) := by decide +kernel
theorem dX6_takes_53 : decode cX6_takes 53 = .ok (.iload_n 1, 1) := by decide +kernel
theorem dX6_takes_54 : decode cX6_takes 54 = .ok (.ireturn, 1) := by decide +kernel
theorem dX6_takes_55 : decode cX6_takes 55 = .ok (.aload_n 0, 1) := by decide +kernel
theorem dX6_takes_56 : decode cX6_takes 56 = .ok (.getfield 13, 3) := by decide +kernel
theorem dX6_takes_59 : decode cX6_takes 59 = .ok (.sipush 192, 3) := by decide +kernel
theorem dX6_takes_62 : decode cX6_takes 62 = .ok (.iaload, 1) := by decide +kernel
theorem dX6_takes_63 : decode cX6_takes 63 = .ok (.bipush 64, 2) := by decide +kernel
theorem dX6_takes_65 : decode cX6_takes 65 = .ok (.if_icmp .ne 10, 3) := by decide +kernel
theorem dX6_takes_68 : decode cX6_takes 68 = .ok (.aload_n 0, 1) := by decide +kernel
theorem dX6_takes_69 : decode cX6_takes 69 = .ok (.iconst 5, 1) := by decide +kernel
theorem dX6_takes_70 : decode cX6_takes 70 = .ok (.invokevirtual 75, 3) := by decide +kernel
theorem dX6_takes_73 : decode cX6_takes 73 = .ok (.iload_n 1, 1) := by decide +kernel
theorem dX6_takes_74 : decode cX6_takes 74 = .ok (.ireturn, 1) := by decide +kernel
theorem dX6_takes_75 : decode cX6_takes 75 = .ok (.aload_n 0, 1) := by decide +kernel
theorem dX6_takes_76 : decode cX6_takes 76 = .ok (.getfield 13, 3) := by decide +kernel
theorem dX6_takes_79 : decode cX6_takes 79 = .ok (.iload_n 2, 1) := by decide +kernel
theorem dX6_takes_80 : decode cX6_takes 80 = .ok (.iconst 1, 1) := by decide +kernel
theorem dX6_takes_81 : decode cX6_takes 81 = .ok (.iastore, 1) := by decide +kernel
theorem dX6_takes_82 : decode cX6_takes 82 = .ok (.aload_n 0, 1) := by decide +kernel
theorem dX6_takes_83 : decode cX6_takes 83 = .ok (.getfield 13, 3) := by decide +kernel
theorem dX6_takes_86 : decode cX6_takes 86 = .ok (.sipush 128, 3) := by decide +kernel
theorem dX6_takes_89 : decode cX6_takes 89 = .ok (.aload_n 0, 1) := by decide +kernel
theorem dX6_takes_90 : decode cX6_takes 90 = .ok (.getfield 13, 3) := by decide +kernel
theorem dX6_takes_93 : decode cX6_takes 93 = .ok (.sipush 192, 3) := by decide +kernel
theorem dX6_takes_96 : decode cX6_takes 96 = .ok (.iaload, 1) := by decide +kernel
theorem dX6_takes_97 : decode cX6_takes 97 = .ok (.iadd, 1) := by decide +kernel
theorem dX6_takes_98 : decode cX6_takes 98 = .ok (.iconst 0, 1) := by decide +kernel
theorem dX6_takes_99 : decode cX6_takes 99 = .ok (.iastore, 1) := by decide +kernel
theorem dX6_takes_100 : decode cX6_takes 100 = .ok (.aload_n 0, 1) := by decide +kernel
theorem dX6_takes_101 : decode cX6_takes 101 = .ok (.invokevirtual 79, 3) := by decide +kernel
theorem dX6_takes_104 : decode cX6_takes 104 = .ok (.aload_n 0, 1) := by decide +kernel
theorem dX6_takes_105 : decode cX6_takes 105 = .ok (.getfield 49, 3) := by decide +kernel
theorem dX6_takes_108 : decode cX6_takes 108 = .ok (.ifCond .ne 36, 3) := by decide +kernel
theorem dX6_takes_111 : decode cX6_takes 111 = .ok (.aload_n 0, 1) := by decide +kernel
theorem dX6_takes_112 : decode cX6_takes 112 = .ok (.getfield 68, 3) := by decide +kernel
theorem dX6_takes_115 : decode cX6_takes 115 = .ok (.iconst 1, 1) := by decide +kernel
theorem dX6_takes_116 : decode cX6_takes 116 = .ok (.if_icmp .ne 28, 3) := by decide +kernel
theorem dX6_takes_119 : decode cX6_takes 119 = .ok (.aload_n 0, 1) := by decide +kernel
theorem dX6_takes_120 : decode cX6_takes 120 = .ok (.getfield 13, 3) := by decide +kernel
theorem dX6_takes_123 : decode cX6_takes 123 = .ok (.sipush 128, 3) := by decide +kernel
theorem dX6_takes_126 : decode cX6_takes 126 = .ok (.aload_n 0, 1) := by decide +kernel
theorem dX6_takes_127 : decode cX6_takes 127 = .ok (.getfield 13, 3) := by decide +kernel
theorem dX6_takes_130 : decode cX6_takes 130 = .ok (.sipush 192, 3) := by decide +kernel
theorem dX6_takes_133 : decode cX6_takes 133 = .ok (.iaload, 1) := by decide +kernel
theorem dX6_takes_134 : decode cX6_takes 134 = .ok (.iadd, 1) := by decide +kernel
theorem dX6_takes_135 : decode cX6_takes 135 = .ok (.aload_n 0, 1) := by decide +kernel
theorem dX6_takes_136 : decode cX6_takes 136 = .ok (.getfield 65, 3) := by decide +kernel
theorem dX6_takes_139 : decode cX6_takes 139 = .ok (.iastore, 1) := by decide +kernel
theorem dX6_takes_140 : decode cX6_takes 140 = .ok (.aload_n 0, 1) := by decide +kernel
theorem dX6_takes_141 : decode cX6_takes 141 = .ok (.invokevirtual 79, 3) := by decide +kernel
theorem dX6_takes_144 : decode cX6_takes 144 = .ok (.aload_n 0, 1) := by decide +kernel
theorem dX6_takes_145 : decode cX6_takes 145 = .ok (.getfield 13, 3) := by decide +kernel
theorem dX6_takes_148 : decode cX6_takes 148 = .ok (.sipush 192, 3) := by decide +kernel
theorem dX6_takes_151 : decode cX6_takes 151 = .ok (.dup2, 1) := by decide +kernel
theorem dX6_takes_152 : decode cX6_takes 152 = .ok (.iaload, 1) := by decide +kernel
theorem dX6_takes_153 : decode cX6_takes 153 = .ok (.iconst 1, 1) := by decide +kernel
theorem dX6_takes_154 : decode cX6_takes 154 = .ok (.iadd, 1) := by decide +kernel
theorem dX6_takes_155 : decode cX6_takes 155 = .ok (.iastore, 1) := by decide +kernel
theorem dX6_takes_156 : decode cX6_takes 156 = .ok (.iload_n 1, 1) := by decide +kernel
theorem dX6_takes_157 : decode cX6_takes 157 = .ok (.iconst 1, 1) := by decide +kernel
theorem dX6_takes_158 : decode cX6_takes 158 = .ok (.iadd, 1) := by decide +kernel
theorem dX6_takes_159 : decode cX6_takes 159 = .ok (.ireturn, 1) := by decide +kernel
set_option maxRecDepth 20000 in
theorem ggX6_text_X6_readsOn : GoodIn wsX6_text wsX6_readsOn := goodIn_r _ [14, 1, 2, 15, 16, 4, 17, 18, 19, 20, 21, 13, 22, 5, 23, 24, 25, 26, 27, 28, 29, 30, 7, 35, 36, 37, 38, 39, 40, 41, 42, 43, 44, 45, 46, 47, 48, 49, 50, 51, 52] rfl (by decide +kernel)
set_option maxRecDepth 20000 in
theorem gX6_text_X6_readsOn : GoodIn wsX6_text (wsV RX6 79 RX6 yX6_readsOn wsX6_readsOn) := goodIn_app (goodIn_of _ (by decide +kernel)) ggX6_text_X6_readsOn
set_option maxRecDepth 20000 in
theorem ggX6_text_X6_takes : GoodIn wsX6_text wsX6_takes := goodIn_r _ [34, 4, 3, 1, 16, 27, 28, 29, 13, 30, 15, 7, 10, 11, 12, 14, 2, 17, 18, 19, 20, 21, 22, 5, 23, 24, 25, 26, 35, 36, 37, 38, 39, 40, 41, 42, 43, 44, 45, 46, 47, 48, 49, 50, 51, 52] rfl (by decide +kernel)
set_option maxRecDepth 20000 in
theorem gX6_text_X6_takes : GoodIn wsX6_text (wsV RX6 82 RX6 yX6_takes wsX6_takes) := goodIn_app (goodIn_of _ (by decide +kernel)) ggX6_text_X6_takes
theorem dX6_text_0 : decode cX6_text 0 = .ok (.aload_n 0, 1) := by decide +kernel
theorem dX6_text_1 : decode cX6_text 1 = .ok (.iconst 0, 1) := by decide +kernel
theorem dX6_text_2 : decode cX6_text 2 = .ok (.putfield 49, 3) := by decide +kernel
theorem dX6_text_5 : decode cX6_text 5 = .ok (.aload_n 0, 1) := by decide +kernel
theorem dX6_text_6 : decode cX6_text 6 = .ok (.iconst 0, 1) := by decide +kernel
theorem dX6_text_7 : decode cX6_text 7 = .ok (.putfield 58, 3) := by decide +kernel
theorem dX6_text_10 : decode cX6_text 10 = .ok (.iconst 0, 1) := by decide +kernel
theorem dX6_text_11 : decode cX6_text 11 = .ok (.istore_n 1, 1) := by decide +kernel
theorem dX6_text_12 : decode cX6_text 12 = .ok (.iconst 0, 1) := by decide +kernel
theorem dX6_text_13 : decode cX6_text 13 = .ok (.istore_n 2, 1) := by decide +kernel
theorem dX6_text_14 : decode cX6_text 14 = .ok (.aload_n 0, 1) := by decide +kernel
theorem dX6_text_15 : decode cX6_text 15 = .ok (.getfield 13, 3) := by decide +kernel
theorem dX6_text_18 : decode cX6_text 18 = .ok (.sipush 192, 3) := by decide +kernel
theorem dX6_text_21 : decode cX6_text 21 = .ok (.iconst 0, 1) := by decide +kernel
theorem dX6_text_22 : decode cX6_text 22 = .ok (.iastore, 1) := by decide +kernel
theorem dX6_text_23 : decode cX6_text 23 = .ok (.aload_n 0, 1) := by decide +kernel
theorem dX6_text_24 : decode cX6_text 24 = .ok (.invokevirtual 79, 3) := by decide +kernel
theorem dX6_text_27 : decode cX6_text 27 = .ok (.aload_n 0, 1) := by decide +kernel
theorem dX6_text_28 : decode cX6_text 28 = .ok (.getfield 49, 3) := by decide +kernel
theorem dX6_text_31 : decode cX6_text 31 = .ok (.ifCond .ne 27, 3) := by decide +kernel
theorem dX6_text_34 : decode cX6_text 34 = .ok (.aload_n 0, 1) := by decide +kernel
theorem dX6_text_35 : decode cX6_text 35 = .ok (.getfield 68, 3) := by decide +kernel
theorem dX6_text_38 : decode cX6_text 38 = .ok (.ifCond .ne 7, 3) := by decide +kernel
theorem dX6_text_41 : decode cX6_text 41 = .ok (.iload_n 1, 1) := by decide +kernel
theorem dX6_text_42 : decode cX6_text 42 = .ok (.ifCond .le 16, 3) := by decide +kernel
theorem dX6_text_45 : decode cX6_text 45 = .ok (.aload_n 0, 1) := by decide +kernel
theorem dX6_text_46 : decode cX6_text 46 = .ok (.iload_n 1, 1) := by decide +kernel
theorem dX6_text_47 : decode cX6_text 47 = .ok (.iload_n 2, 1) := by decide +kernel
theorem dX6_text_48 : decode cX6_text 48 = .ok (.invokevirtual 82, 3) := by decide +kernel
theorem dX6_text_51 : decode cX6_text 51 = .ok (.istore_n 1, 1) := by decide +kernel
theorem dX6_text_52 : decode cX6_text 52 = .ok (.iinc 2 1, 3) := by decide +kernel
theorem dX6_text_55 : decode cX6_text 55 = .ok (.goto (-28), 3) := by decide +kernel
theorem dX6_text_58 : decode cX6_text 58 = .ok (.aload_n 0, 1) := by decide +kernel
theorem dX6_text_59 : decode cX6_text 59 = .ok (.iconst 0, 1) := by decide +kernel
theorem dX6_text_60 : decode cX6_text 60 = .ok (.putfield 45, 3) := by decide +kernel
theorem dX6_text_63 : decode cX6_text 63 = .ok (.aload_n 0, 1) := by decide +kernel
theorem dX6_text_64 : decode cX6_text 64 = .ok (.aload_n 0, 1) := by decide +kernel
theorem dX6_text_65 : decode cX6_text 65 = .ok (.getfield 49, 3) := by decide +kernel
theorem dX6_text_68 : decode cX6_text 68 = .ok (.putfield 86, 3) := by decide +kernel
theorem dX6_text_71 : decode cX6_text 71 = .ok (.aload_n 0, 1) := by decide +kernel
theorem dX6_text_72 : decode cX6_text 72 = .ok (.getfield 49, 3) := by decide +kernel
theorem dX6_text_75 : decode cX6_text 75 = .ok (.ifCond .le 11, 3) := by decide +kernel
theorem dX6_text_78 : decode cX6_text 78 = .ok (.bipush (-10), 2) := by decide +kernel
theorem dX6_text_80 : decode cX6_text 80 = .ok (.aload_n 0, 1) := by decide +kernel
theorem dX6_text_81 : decode cX6_text 81 = .ok (.getfield 55, 3) := by decide +kernel
theorem dX6_text_84 : decode cX6_text 84 = .ok (.isub, 1) := by decide +kernel
theorem dX6_text_85 : decode cX6_text 85 = .ok (.ireturn, 1) := by decide +kernel
theorem dX6_text_86 : decode cX6_text 86 = .ok (.iconst 0, 1) := by decide +kernel
theorem dX6_text_87 : decode cX6_text 87 = .ok (.istore_n 3, 1) := by decide +kernel
theorem dX6_text_88 : decode cX6_text 88 = .ok (.iload_n 3, 1) := by decide +kernel
theorem dX6_text_89 : decode cX6_text 89 = .ok (.sipush 193, 3) := by decide +kernel
theorem dX6_text_92 : decode cX6_text 92 = .ok (.if_icmp .ge 21, 3) := by decide +kernel
theorem dX6_text_95 : decode cX6_text 95 = .ok (.aload_n 0, 1) := by decide +kernel
theorem dX6_text_96 : decode cX6_text 96 = .ok (.getfield 7, 3) := by decide +kernel
theorem dX6_text_99 : decode cX6_text 99 = .ok (.iload_n 3, 1) := by decide +kernel
theorem dX6_text_100 : decode cX6_text 100 = .ok (.aload_n 0, 1) := by decide +kernel
theorem dX6_text_101 : decode cX6_text 101 = .ok (.getfield 13, 3) := by decide +kernel
theorem dX6_text_104 : decode cX6_text 104 = .ok (.iload_n 3, 1) := by decide +kernel
theorem dX6_text_105 : decode cX6_text 105 = .ok (.iaload, 1) := by decide +kernel
theorem dX6_text_106 : decode cX6_text 106 = .ok (.iastore, 1) := by decide +kernel
theorem dX6_text_107 : decode cX6_text 107 = .ok (.iinc 3 1, 3) := by decide +kernel
theorem dX6_text_110 : decode cX6_text 110 = .ok (.goto (-22), 3) := by decide +kernel
theorem dX6_text_113 : decode cX6_text 113 = .ok (.aload_n 0, 1) := by decide +kernel
theorem dX6_text_114 : decode cX6_text 114 = .ok (.getfield 25, 3) := by decide +kernel
theorem dX6_text_117 : decode cX6_text 117 = .ok (.iconst 0, 1) := by decide +kernel
theorem dX6_text_118 : decode cX6_text 118 = .ok (.iconst 0, 1) := by decide +kernel
theorem dX6_text_119 : decode cX6_text 119 = .ok (.bastore, 1) := by decide +kernel
theorem dX6_text_120 : decode cX6_text 120 = .ok (.aload_n 0, 1) := by decide +kernel
theorem dX6_text_121 : decode cX6_text 121 = .ok (.getfield 25, 3) := by decide +kernel
theorem dX6_text_124 : decode cX6_text 124 = .ok (.iconst 1, 1) := by decide +kernel
theorem dX6_text_125 : decode cX6_text 125 = .ok (.iconst 0, 1) := by decide +kernel
theorem dX6_text_126 : decode cX6_text 126 = .ok (.bastore, 1) := by decide +kernel
theorem dX6_text_127 : decode cX6_text 127 = .ok (.aload_n 0, 1) := by decide +kernel
theorem dX6_text_128 : decode cX6_text 128 = .ok (.getfield 7, 3) := by decide +kernel
theorem dX6_text_131 : decode cX6_text 131 = .ok (.sipush 192, 3) := by decide +kernel
theorem dX6_text_134 : decode cX6_text 134 = .ok (.iaload, 1) := by decide +kernel
theorem dX6_text_135 : decode cX6_text 135 = .ok (.ireturn, 1) := by decide +kernel
theorem dX6_fault_0 : decode cX6_fault 0 = .ok (.aload_n 0, 1) := by decide +kernel
theorem dX6_fault_1 : decode cX6_fault 1 = .ok (.getfield 86, 3) := by decide +kernel
theorem dX6_fault_4 : decode cX6_fault 4 = .ok (.ireturn, 1) := by decide +kernel
theorem dX6_many_0 : decode cX6_many 0 = .ok (.aload_n 0, 1) := by decide +kernel
theorem dX6_many_1 : decode cX6_many 1 = .ok (.getfield 7, 3) := by decide +kernel
theorem dX6_many_4 : decode cX6_many 4 = .ok (.sipush 192, 3) := by decide +kernel
theorem dX6_many_7 : decode cX6_many 7 = .ok (.iaload, 1) := by decide +kernel
theorem dX6_many_8 : decode cX6_many 8 = .ok (.ireturn, 1) := by decide +kernel
theorem dX6_places_0 : decode cX6_places 0 = .ok (.iconst 2, 1) := by decide +kernel
theorem dX6_places_1 : decode cX6_places 1 = .ok (.aload_n 0, 1) := by decide +kernel
theorem dX6_places_2 : decode cX6_places 2 = .ok (.getfield 7, 3) := by decide +kernel
theorem dX6_places_5 : decode cX6_places 5 = .ok (.sipush 192, 3) := by decide +kernel
theorem dX6_places_8 : decode cX6_places 8 = .ok (.iaload, 1) := by decide +kernel
theorem dX6_places_9 : decode cX6_places 9 = .ok (.imul, 1) := by decide +kernel
theorem dX6_places_10 : decode cX6_places 10 = .ok (.ireturn, 1) := by decide +kernel
set_option maxRecDepth 20000 in
theorem ggX6_isNode_X6_many : GoodIn wsX6_isNode wsX6_many := goodIn_r _ [5, 6, 10, 11, 12, 13, 14, 15, 16, 17, 18, 19, 20, 21, 22, 23, 24, 25, 26, 27] rfl (by decide +kernel)
set_option maxRecDepth 20000 in
theorem gX6_isNode_X6_many : GoodIn wsX6_isNode (wsV RX6 89 RX6 yX6_many wsX6_many) := goodIn_app (goodIn_of _ (by decide +kernel)) ggX6_isNode_X6_many
set_option maxRecDepth 20000 in
theorem ggX6_isNode_X6_in : GoodIn wsX6_isNode wsX6_in := goodIn_r _ [9] rfl (by decide +kernel)
set_option maxRecDepth 20000 in
theorem gX6_isNode_X6_in : GoodIn wsX6_isNode (va_wsS RX6 41 yX6_in wsX6_in) := goodIn_app (goodIn_of _ (by decide +kernel)) ggX6_isNode_X6_in
theorem dX6_isNode_0 : decode cX6_isNode 0 = .ok (.iload_n 1, 1) := by decide +kernel
theorem dX6_isNode_1 : decode cX6_isNode 1 = .ok (.i2l, 1) := by decide +kernel
theorem dX6_isNode_2 : decode cX6_isNode 2 = .ok (.lconst 0, 1) := by decide +kernel
theorem dX6_isNode_3 : decode cX6_isNode 3 = .ok (.aload_n 0, 1) := by decide +kernel
theorem dX6_isNode_4 : decode cX6_isNode 4 = .ok (.invokevirtual 89, 3) := by decide +kernel
theorem dX6_isNode_7 : decode cX6_isNode 7 = .ok (.iconst 1, 1) := by decide +kernel
theorem dX6_isNode_8 : decode cX6_isNode 8 = .ok (.isub, 1) := by decide +kernel
theorem dX6_isNode_9 : decode cX6_isNode 9 = .ok (.i2l, 1) := by decide +kernel
theorem dX6_isNode_10 : decode cX6_isNode 10 = .ok (.invokestatic 41, 3) := by decide +kernel
theorem dX6_isNode_13 : decode cX6_isNode 13 = .ok (.ireturn, 1) := by decide +kernel
set_option maxRecDepth 20000 in
theorem ggX6_isMark_X6_places : GoodIn wsX6_isMark wsX6_places := goodIn_r _ [5, 6, 10, 11, 12, 13, 14, 15, 16, 17, 18, 19, 20, 21, 22, 23, 24, 25, 26, 27] rfl (by decide +kernel)
set_option maxRecDepth 20000 in
theorem gX6_isMark_X6_places : GoodIn wsX6_isMark (wsV RX6 93 RX6 yX6_places wsX6_places) := goodIn_app (goodIn_of _ (by decide +kernel)) ggX6_isMark_X6_places
set_option maxRecDepth 20000 in
theorem ggX6_isMark_X6_in : GoodIn wsX6_isMark wsX6_in := goodIn_r _ [9] rfl (by decide +kernel)
set_option maxRecDepth 20000 in
theorem gX6_isMark_X6_in : GoodIn wsX6_isMark (va_wsS RX6 41 yX6_in wsX6_in) := goodIn_app (goodIn_of _ (by decide +kernel)) ggX6_isMark_X6_in
theorem dX6_isMark_0 : decode cX6_isMark 0 = .ok (.iload_n 1, 1) := by decide +kernel
theorem dX6_isMark_1 : decode cX6_isMark 1 = .ok (.i2l, 1) := by decide +kernel
theorem dX6_isMark_2 : decode cX6_isMark 2 = .ok (.lconst 0, 1) := by decide +kernel
theorem dX6_isMark_3 : decode cX6_isMark 3 = .ok (.aload_n 0, 1) := by decide +kernel
theorem dX6_isMark_4 : decode cX6_isMark 4 = .ok (.invokevirtual 93, 3) := by decide +kernel
theorem dX6_isMark_7 : decode cX6_isMark 7 = .ok (.i2l, 1) := by decide +kernel
theorem dX6_isMark_8 : decode cX6_isMark 8 = .ok (.invokestatic 41, 3) := by decide +kernel
theorem dX6_isMark_11 : decode cX6_isMark 11 = .ok (.ireturn, 1) := by decide +kernel
theorem dX6_excessAt_0 : decode cX6_excessAt 0 = .ok (.iconst 0, 1) := by decide +kernel
theorem dX6_excessAt_1 : decode cX6_excessAt 1 = .ok (.istore_n 2, 1) := by decide +kernel
theorem dX6_excessAt_2 : decode cX6_excessAt 2 = .ok (.iconst 0, 1) := by decide +kernel
theorem dX6_excessAt_3 : decode cX6_excessAt 3 = .ok (.istore_n 3, 1) := by decide +kernel
theorem dX6_excessAt_4 : decode cX6_excessAt 4 = .ok (.iload_n 3, 1) := by decide +kernel
theorem dX6_excessAt_5 : decode cX6_excessAt 5 = .ok (.iload_n 1, 1) := by decide +kernel
theorem dX6_excessAt_6 : decode cX6_excessAt 6 = .ok (.if_icmp .ge 27, 3) := by decide +kernel
theorem dX6_excessAt_9 : decode cX6_excessAt 9 = .ok (.iload_n 2, 1) := by decide +kernel
theorem dX6_excessAt_10 : decode cX6_excessAt 10 = .ok (.aload_n 0, 1) := by decide +kernel
theorem dX6_excessAt_11 : decode cX6_excessAt 11 = .ok (.getfield 7, 3) := by decide +kernel
theorem dX6_excessAt_14 : decode cX6_excessAt 14 = .ok (.iload_n 3, 1) := by decide +kernel
theorem dX6_excessAt_15 : decode cX6_excessAt 15 = .ok (.iaload, 1) := by decide +kernel
theorem dX6_excessAt_16 : decode cX6_excessAt 16 = .ok (.iconst 1, 1) := by decide +kernel
theorem dX6_excessAt_17 : decode cX6_excessAt 17 = .ok (.if_icmp .ne 7, 3) := by decide +kernel
theorem dX6_excessAt_20 : decode cX6_excessAt 20 = .ok (.iconst 1, 1) := by decide +kernel
theorem dX6_excessAt_21 : decode cX6_excessAt 21 = .ok (.goto 4, 3) := by decide +kernel
theorem dX6_excessAt_24 : decode cX6_excessAt 24 = .ok (.iconst (-1), 1) := by decide +kernel
theorem dX6_excessAt_25 : decode cX6_excessAt 25 = .ok (.iadd, 1) := by decide +kernel
theorem dX6_excessAt_26 : decode cX6_excessAt 26 = .ok (.istore_n 2, 1) := by decide +kernel
theorem dX6_excessAt_27 : decode cX6_excessAt 27 = .ok (.iinc 3 1, 3) := by decide +kernel
theorem dX6_excessAt_30 : decode cX6_excessAt 30 = .ok (.goto (-26), 3) := by decide +kernel
theorem dX6_excessAt_33 : decode cX6_excessAt 33 = .ok (.iload_n 2, 1) := by decide +kernel
theorem dX6_excessAt_34 : decode cX6_excessAt 34 = .ok (.ireturn, 1) := by decide +kernel
set_option maxRecDepth 20000 in
theorem ggX6_opensAt_X6_excessAt : GoodIn wsX6_opensAt wsX6_excessAt := goodIn_r _ [5, 6, 7, 8, 9, 10, 11, 12, 13, 14, 15, 16, 17, 18, 19, 20, 21, 22, 23, 24] rfl (by decide +kernel)
set_option maxRecDepth 20000 in
theorem gX6_opensAt_X6_excessAt : GoodIn wsX6_opensAt (wsV RX6 96 RX6 yX6_excessAt wsX6_excessAt) := goodIn_app (goodIn_of _ (by decide +kernel)) ggX6_opensAt_X6_excessAt
theorem dX6_opensAt_0 : decode cX6_opensAt 0 = .ok (.iload_n 1, 1) := by decide +kernel
theorem dX6_opensAt_1 : decode cX6_opensAt 1 = .ok (.aload_n 0, 1) := by decide +kernel
theorem dX6_opensAt_2 : decode cX6_opensAt 2 = .ok (.iload_n 1, 1) := by decide +kernel
theorem dX6_opensAt_3 : decode cX6_opensAt 3 = .ok (.invokevirtual 96, 3) := by decide +kernel
theorem dX6_opensAt_6 : decode cX6_opensAt 6 = .ok (.iadd, 1) := by decide +kernel
theorem dX6_opensAt_7 : decode cX6_opensAt 7 = .ok (.iconst 2, 1) := by decide +kernel
theorem dX6_opensAt_8 : decode cX6_opensAt 8 = .ok (.idiv, 1) := by decide +kernel
theorem dX6_opensAt_9 : decode cX6_opensAt 9 = .ok (.ireturn, 1) := by decide +kernel
theorem dX6_openOf_0 : decode cX6_openOf 0 = .ok (.iconst (-1), 1) := by decide +kernel
theorem dX6_openOf_1 : decode cX6_openOf 1 = .ok (.istore_n 2, 1) := by decide +kernel
theorem dX6_openOf_2 : decode cX6_openOf 2 = .ok (.iload_n 1, 1) := by decide +kernel
theorem dX6_openOf_3 : decode cX6_openOf 3 = .ok (.istore_n 3, 1) := by decide +kernel
theorem dX6_openOf_4 : decode cX6_openOf 4 = .ok (.iload_n 3, 1) := by decide +kernel
theorem dX6_openOf_5 : decode cX6_openOf 5 = .ok (.ifCond .lt 27, 3) := by decide +kernel
theorem dX6_openOf_8 : decode cX6_openOf 8 = .ok (.iinc 2 1, 3) := by decide +kernel
theorem dX6_openOf_11 : decode cX6_openOf 11 = .ok (.aload_n 0, 1) := by decide +kernel
theorem dX6_openOf_12 : decode cX6_openOf 12 = .ok (.getfield 7, 3) := by decide +kernel
theorem dX6_openOf_15 : decode cX6_openOf 15 = .ok (.iload_n 2, 1) := by decide +kernel
theorem dX6_openOf_16 : decode cX6_openOf 16 = .ok (.iaload, 1) := by decide +kernel
theorem dX6_openOf_17 : decode cX6_openOf 17 = .ok (.ifCond .ne 9, 3) := by decide +kernel
theorem dX6_openOf_20 : decode cX6_openOf 20 = .ok (.iinc 2 1, 3) := by decide +kernel
theorem dX6_openOf_23 : decode cX6_openOf 23 = .ok (.goto (-12), 3) := by decide +kernel
theorem dX6_openOf_26 : decode cX6_openOf 26 = .ok (.iinc 3 (-1), 3) := by decide +kernel
theorem dX6_openOf_29 : decode cX6_openOf 29 = .ok (.goto (-25), 3) := by decide +kernel
theorem dX6_openOf_32 : decode cX6_openOf 32 = .ok (.iload_n 2, 1) := by decide +kernel
theorem dX6_openOf_33 : decode cX6_openOf 33 = .ok (.ireturn, 1) := by decide +kernel
theorem dX6_shutOf_0 : decode cX6_shutOf 0 = .ok (.iconst 1, 1) := by decide +kernel
theorem dX6_shutOf_1 : decode cX6_shutOf 1 = .ok (.istore_n 2, 1) := by decide +kernel
theorem dX6_shutOf_2 : decode cX6_shutOf 2 = .ok (.iload_n 1, 1) := by decide +kernel
theorem dX6_shutOf_3 : decode cX6_shutOf 3 = .ok (.istore_n 3, 1) := by decide +kernel
theorem dX6_shutOf_4 : decode cX6_shutOf 4 = .ok (.iload_n 2, 1) := by decide +kernel
theorem dX6_shutOf_5 : decode cX6_shutOf 5 = .ok (.ifCond .le 27, 3) := by decide +kernel
theorem dX6_shutOf_8 : decode cX6_shutOf 8 = .ok (.iinc 3 1, 3) := by decide +kernel
theorem dX6_shutOf_11 : decode cX6_shutOf 11 = .ok (.iload_n 2, 1) := by decide +kernel
theorem dX6_shutOf_12 : decode cX6_shutOf 12 = .ok (.aload_n 0, 1) := by decide +kernel
theorem dX6_shutOf_13 : decode cX6_shutOf 13 = .ok (.getfield 7, 3) := by decide +kernel
theorem dX6_shutOf_16 : decode cX6_shutOf 16 = .ok (.iload_n 3, 1) := by decide +kernel
theorem dX6_shutOf_17 : decode cX6_shutOf 17 = .ok (.iaload, 1) := by decide +kernel
theorem dX6_shutOf_18 : decode cX6_shutOf 18 = .ok (.iconst 1, 1) := by decide +kernel
theorem dX6_shutOf_19 : decode cX6_shutOf 19 = .ok (.if_icmp .ne 7, 3) := by decide +kernel
theorem dX6_shutOf_22 : decode cX6_shutOf 22 = .ok (.iconst 1, 1) := by decide +kernel
theorem dX6_shutOf_23 : decode cX6_shutOf 23 = .ok (.goto 4, 3) := by decide +kernel
theorem dX6_shutOf_26 : decode cX6_shutOf 26 = .ok (.iconst (-1), 1) := by decide +kernel
theorem dX6_shutOf_27 : decode cX6_shutOf 27 = .ok (.iadd, 1) := by decide +kernel
theorem dX6_shutOf_28 : decode cX6_shutOf 28 = .ok (.istore_n 2, 1) := by decide +kernel
theorem dX6_shutOf_29 : decode cX6_shutOf 29 = .ok (.goto (-25), 3) := by decide +kernel
theorem dX6_shutOf_32 : decode cX6_shutOf 32 = .ok (.iload_n 3, 1) := by decide +kernel
theorem dX6_shutOf_33 : decode cX6_shutOf 33 = .ok (.ireturn, 1) := by decide +kernel
set_option maxRecDepth 20000 in
theorem ggX6_depthOf_X6_openOf : GoodIn wsX6_depthOf wsX6_openOf := goodIn_r _ [5, 6, 11, 12, 13, 14, 15, 16, 17, 18, 19, 20, 21, 22, 23, 24, 25, 26, 27, 28] rfl (by decide +kernel)
set_option maxRecDepth 20000 in
theorem gX6_depthOf_X6_openOf : GoodIn wsX6_depthOf (wsV RX6 99 RX6 yX6_openOf wsX6_openOf) := goodIn_app (goodIn_of _ (by decide +kernel)) ggX6_depthOf_X6_openOf
set_option maxRecDepth 20000 in
theorem ggX6_depthOf_X6_excessAt : GoodIn wsX6_depthOf wsX6_excessAt := goodIn_r _ [10, 6, 11, 12, 13, 14, 15, 16, 17, 18, 19, 20, 21, 22, 23, 24, 25, 26, 27, 28] rfl (by decide +kernel)
set_option maxRecDepth 20000 in
theorem gX6_depthOf_X6_excessAt : GoodIn wsX6_depthOf (wsV RX6 96 RX6 yX6_excessAt wsX6_excessAt) := goodIn_app (goodIn_of _ (by decide +kernel)) ggX6_depthOf_X6_excessAt
theorem dX6_depthOf_0 : decode cX6_depthOf 0 = .ok (.aload_n 0, 1) := by decide +kernel
theorem dX6_depthOf_1 : decode cX6_depthOf 1 = .ok (.aload_n 0, 1) := by decide +kernel
theorem dX6_depthOf_2 : decode cX6_depthOf 2 = .ok (.iload_n 1, 1) := by decide +kernel
theorem dX6_depthOf_3 : decode cX6_depthOf 3 = .ok (.invokevirtual 99, 3) := by decide +kernel
theorem dX6_depthOf_6 : decode cX6_depthOf 6 = .ok (.invokevirtual 96, 3) := by decide +kernel
theorem dX6_depthOf_9 : decode cX6_depthOf 9 = .ok (.ireturn, 1) := by decide +kernel
set_option maxRecDepth 20000 in
theorem ggX6_isPair_X6_places : GoodIn wsX6_isPair wsX6_places := goodIn_r _ [6, 1, 7, 8, 9, 10, 11, 12, 13, 14, 15, 16, 17, 18, 19, 20, 21, 22, 23, 24] rfl (by decide +kernel)
set_option maxRecDepth 20000 in
theorem gX6_isPair_X6_places : GoodIn wsX6_isPair (wsV RX6 93 RX6 yX6_places wsX6_places) := goodIn_app (goodIn_of _ (by decide +kernel)) ggX6_isPair_X6_places
theorem dX6_isPair_0 : decode cX6_isPair 0 = .ok (.iload_n 1, 1) := by decide +kernel
theorem dX6_isPair_1 : decode cX6_isPair 1 = .ok (.iconst 1, 1) := by decide +kernel
theorem dX6_isPair_2 : decode cX6_isPair 2 = .ok (.iadd, 1) := by decide +kernel
theorem dX6_isPair_3 : decode cX6_isPair 3 = .ok (.aload_n 0, 1) := by decide +kernel
theorem dX6_isPair_4 : decode cX6_isPair 4 = .ok (.invokevirtual 93, 3) := by decide +kernel
theorem dX6_isPair_7 : decode cX6_isPair 7 = .ok (.if_icmp .ge 28, 3) := by decide +kernel
theorem dX6_isPair_10 : decode cX6_isPair 10 = .ok (.aload_n 0, 1) := by decide +kernel
theorem dX6_isPair_11 : decode cX6_isPair 11 = .ok (.getfield 7, 3) := by decide +kernel
theorem dX6_isPair_14 : decode cX6_isPair 14 = .ok (.iload_n 1, 1) := by decide +kernel
theorem dX6_isPair_15 : decode cX6_isPair 15 = .ok (.iaload, 1) := by decide +kernel
theorem dX6_isPair_16 : decode cX6_isPair 16 = .ok (.iconst 1, 1) := by decide +kernel
theorem dX6_isPair_17 : decode cX6_isPair 17 = .ok (.if_icmp .ne 18, 3) := by decide +kernel
theorem dX6_isPair_20 : decode cX6_isPair 20 = .ok (.aload_n 0, 1) := by decide +kernel
theorem dX6_isPair_21 : decode cX6_isPair 21 = .ok (.getfield 7, 3) := by decide +kernel
theorem dX6_isPair_24 : decode cX6_isPair 24 = .ok (.iload_n 1, 1) := by decide +kernel
theorem dX6_isPair_25 : decode cX6_isPair 25 = .ok (.iconst 1, 1) := by decide +kernel
theorem dX6_isPair_26 : decode cX6_isPair 26 = .ok (.iadd, 1) := by decide +kernel
theorem dX6_isPair_27 : decode cX6_isPair 27 = .ok (.iaload, 1) := by decide +kernel
theorem dX6_isPair_28 : decode cX6_isPair 28 = .ok (.ifCond .ne 7, 3) := by decide +kernel
theorem dX6_isPair_31 : decode cX6_isPair 31 = .ok (.iconst 1, 1) := by decide +kernel
theorem dX6_isPair_32 : decode cX6_isPair 32 = .ok (.goto 4, 3) := by decide +kernel
theorem dX6_isPair_35 : decode cX6_isPair 35 = .ok (.iconst 0, 1) := by decide +kernel
theorem dX6_isPair_36 : decode cX6_isPair 36 = .ok (.ireturn, 1) := by decide +kernel
set_option maxRecDepth 20000 in
theorem ggX6_isSort_X6_isPair : GoodIn wsX6_isSort wsX6_isPair := goodIn_r _ [6, 1, 7, 8, 9, 5, 10, 11, 12, 13, 14, 15, 16, 17, 18, 19, 20, 21, 22, 23, 24, 25, 26, 27, 28] rfl (by decide +kernel)
set_option maxRecDepth 20000 in
theorem gX6_isSort_X6_isPair : GoodIn wsX6_isSort (wsV RX6 102 RX6 yX6_isPair wsX6_isPair) := goodIn_app (goodIn_of _ (by decide +kernel)) ggX6_isSort_X6_isPair
theorem dX6_isSort_0 : decode cX6_isSort 0 = .ok (.iload_n 2, 1) := by decide +kernel
theorem dX6_isSort_1 : decode cX6_isSort 1 = .ok (.iconst 2, 1) := by decide +kernel
theorem dX6_isSort_2 : decode cX6_isSort 2 = .ok (.if_icmp .ne 11, 3) := by decide +kernel
theorem dX6_isSort_5 : decode cX6_isSort 5 = .ok (.aload_n 0, 1) := by decide +kernel
theorem dX6_isSort_6 : decode cX6_isSort 6 = .ok (.iload_n 1, 1) := by decide +kernel
theorem dX6_isSort_7 : decode cX6_isSort 7 = .ok (.invokevirtual 102, 3) := by decide +kernel
theorem dX6_isSort_10 : decode cX6_isSort 10 = .ok (.goto 20, 3) := by decide +kernel
theorem dX6_isSort_13 : decode cX6_isSort 13 = .ok (.aload_n 0, 1) := by decide +kernel
theorem dX6_isSort_14 : decode cX6_isSort 14 = .ok (.getfield 7, 3) := by decide +kernel
theorem dX6_isSort_17 : decode cX6_isSort 17 = .ok (.iload_n 1, 1) := by decide +kernel
theorem dX6_isSort_18 : decode cX6_isSort 18 = .ok (.iaload, 1) := by decide +kernel
theorem dX6_isSort_19 : decode cX6_isSort 19 = .ok (.iconst 1, 1) := by decide +kernel
theorem dX6_isSort_20 : decode cX6_isSort 20 = .ok (.iload_n 2, 1) := by decide +kernel
theorem dX6_isSort_21 : decode cX6_isSort 21 = .ok (.isub, 1) := by decide +kernel
theorem dX6_isSort_22 : decode cX6_isSort 22 = .ok (.if_icmp .ne 7, 3) := by decide +kernel
theorem dX6_isSort_25 : decode cX6_isSort 25 = .ok (.iconst 1, 1) := by decide +kernel
theorem dX6_isSort_26 : decode cX6_isSort 26 = .ok (.goto 4, 3) := by decide +kernel
theorem dX6_isSort_29 : decode cX6_isSort 29 = .ok (.iconst 0, 1) := by decide +kernel
theorem dX6_isSort_30 : decode cX6_isSort 30 = .ok (.ireturn, 1) := by decide +kernel
set_option maxRecDepth 20000 in
theorem ggX6_size_X6_places : GoodIn wsX6_size wsX6_places := goodIn_r _ [5, 6, 19, 20, 21, 22, 23, 24, 25, 26, 27, 28, 29, 30, 31, 32, 33, 34, 35, 36] rfl (by decide +kernel)
set_option maxRecDepth 20000 in
theorem gX6_size_X6_places : GoodIn wsX6_size (wsV RX6 93 RX6 yX6_places wsX6_places) := goodIn_app (goodIn_of _ (by decide +kernel)) ggX6_size_X6_places
set_option maxRecDepth 20000 in
theorem ggX6_size_X6_isPair : GoodIn wsX6_size wsX6_isPair := goodIn_r _ [10, 6, 1, 2, 3, 4, 5, 19, 20, 21, 22, 23, 24, 25, 26, 27, 28, 29, 30, 31, 32, 33, 34, 35, 36] rfl (by decide +kernel)
set_option maxRecDepth 20000 in
theorem gX6_size_X6_isPair : GoodIn wsX6_size (wsV RX6 102 RX6 yX6_isPair wsX6_isPair) := goodIn_app (goodIn_of _ (by decide +kernel)) ggX6_size_X6_isPair
set_option maxRecDepth 20000 in
theorem ggX6_size_X6_excessAt : GoodIn wsX6_size wsX6_excessAt := goodIn_r _ [14, 6, 19, 20, 21, 22, 23, 24, 25, 26, 27, 28, 29, 30, 31, 32, 33, 34, 35, 36] rfl (by decide +kernel)
set_option maxRecDepth 20000 in
theorem gX6_size_X6_excessAt : GoodIn wsX6_size (wsV RX6 96 RX6 yX6_excessAt wsX6_excessAt) := goodIn_app (goodIn_of _ (by decide +kernel)) ggX6_size_X6_excessAt
set_option maxRecDepth 20000 in
theorem ggX6_size_X6_many : GoodIn wsX6_size wsX6_many := goodIn_r _ [18, 6, 19, 20, 21, 22, 23, 24, 25, 26, 27, 28, 29, 30, 31, 32, 33, 34, 35, 36] rfl (by decide +kernel)
set_option maxRecDepth 20000 in
theorem gX6_size_X6_many : GoodIn wsX6_size (wsV RX6 89 RX6 yX6_many wsX6_many) := goodIn_app (goodIn_of _ (by decide +kernel)) ggX6_size_X6_many
theorem dX6_size_0 : decode cX6_size 0 = .ok (.iconst 0, 1) := by decide +kernel
theorem dX6_size_1 : decode cX6_size 1 = .ok (.istore_n 2, 1) := by decide +kernel
theorem dX6_size_2 : decode cX6_size 2 = .ok (.iconst 0, 1) := by decide +kernel
theorem dX6_size_3 : decode cX6_size 3 = .ok (.istore_n 3, 1) := by decide +kernel
theorem dX6_size_4 : decode cX6_size 4 = .ok (.iconst 0, 1) := by decide +kernel
theorem dX6_size_5 : decode cX6_size 5 = .ok (.istore 4, 2) := by decide +kernel
theorem dX6_size_7 : decode cX6_size 7 = .ok (.iload 4, 2) := by decide +kernel
theorem dX6_size_9 : decode cX6_size 9 = .ok (.aload_n 0, 1) := by decide +kernel
theorem dX6_size_10 : decode cX6_size 10 = .ok (.invokevirtual 93, 3) := by decide +kernel
theorem dX6_size_13 : decode cX6_size 13 = .ok (.if_icmp .ge 51, 3) := by decide +kernel
theorem dX6_size_16 : decode cX6_size 16 = .ok (.iload_n 2, 1) := by decide +kernel
theorem dX6_size_17 : decode cX6_size 17 = .ok (.aload_n 0, 1) := by decide +kernel
theorem dX6_size_18 : decode cX6_size 18 = .ok (.iload 4, 2) := by decide +kernel
theorem dX6_size_20 : decode cX6_size 20 = .ok (.invokevirtual 102, 3) := by decide +kernel
theorem dX6_size_23 : decode cX6_size 23 = .ok (.ifCond .eq 7, 3) := by decide +kernel
theorem dX6_size_26 : decode cX6_size 26 = .ok (.iconst 1, 1) := by decide +kernel
theorem dX6_size_27 : decode cX6_size 27 = .ok (.goto 4, 3) := by decide +kernel
theorem dX6_size_30 : decode cX6_size 30 = .ok (.iconst 0, 1) := by decide +kernel
theorem dX6_size_31 : decode cX6_size 31 = .ok (.iadd, 1) := by decide +kernel
theorem dX6_size_32 : decode cX6_size 32 = .ok (.istore_n 2, 1) := by decide +kernel
theorem dX6_size_33 : decode cX6_size 33 = .ok (.aload_n 0, 1) := by decide +kernel
theorem dX6_size_34 : decode cX6_size 34 = .ok (.iload 4, 2) := by decide +kernel
theorem dX6_size_36 : decode cX6_size 36 = .ok (.iconst 1, 1) := by decide +kernel
theorem dX6_size_37 : decode cX6_size 37 = .ok (.iadd, 1) := by decide +kernel
theorem dX6_size_38 : decode cX6_size 38 = .ok (.invokevirtual 96, 3) := by decide +kernel
theorem dX6_size_41 : decode cX6_size 41 = .ok (.iload_n 3, 1) := by decide +kernel
theorem dX6_size_42 : decode cX6_size 42 = .ok (.if_icmp .le 14, 3) := by decide +kernel
theorem dX6_size_45 : decode cX6_size 45 = .ok (.aload_n 0, 1) := by decide +kernel
theorem dX6_size_46 : decode cX6_size 46 = .ok (.iload 4, 2) := by decide +kernel
theorem dX6_size_48 : decode cX6_size 48 = .ok (.iconst 1, 1) := by decide +kernel
theorem dX6_size_49 : decode cX6_size 49 = .ok (.iadd, 1) := by decide +kernel
theorem dX6_size_50 : decode cX6_size 50 = .ok (.invokevirtual 96, 3) := by decide +kernel
theorem dX6_size_53 : decode cX6_size 53 = .ok (.goto 4, 3) := by decide +kernel
theorem dX6_size_56 : decode cX6_size 56 = .ok (.iload_n 3, 1) := by decide +kernel
theorem dX6_size_57 : decode cX6_size 57 = .ok (.istore_n 3, 1) := by decide +kernel
theorem dX6_size_58 : decode cX6_size 58 = .ok (.iinc 4 1, 3) := by decide +kernel
theorem dX6_size_61 : decode cX6_size 61 = .ok (.goto (-54), 3) := by decide +kernel
theorem dX6_size_64 : decode cX6_size 64 = .ok (.iload_n 1, 1) := by decide +kernel
theorem dX6_size_65 : decode cX6_size 65 = .ok (.tableswitch 76 0 4 #[35, 40, 42, 58, 63], 35) := by decide +kernel
theorem dX6_size_100 : decode cX6_size 100 = .ok (.aload_n 0, 1) := by decide +kernel
theorem dX6_size_101 : decode cX6_size 101 = .ok (.invokevirtual 89, 3) := by decide +kernel
theorem dX6_size_104 : decode cX6_size 104 = .ok (.ireturn, 1) := by decide +kernel
theorem dX6_size_105 : decode cX6_size 105 = .ok (.iload_n 2, 1) := by decide +kernel
theorem dX6_size_106 : decode cX6_size 106 = .ok (.ireturn, 1) := by decide +kernel
theorem dX6_size_107 : decode cX6_size 107 = .ok (.aload_n 0, 1) := by decide +kernel
theorem dX6_size_108 : decode cX6_size 108 = .ok (.invokevirtual 89, 3) := by decide +kernel
theorem dX6_size_111 : decode cX6_size 111 = .ok (.ifCond .ne 8, 3) := by decide +kernel
theorem dX6_size_114 : decode cX6_size 114 = .ok (.bipush (-4), 2) := by decide +kernel
theorem dX6_size_116 : decode cX6_size 116 = .ok (.goto 6, 3) := by decide +kernel
theorem dX6_size_119 : decode cX6_size 119 = .ok (.iload_n 3, 1) := by decide +kernel
theorem dX6_size_120 : decode cX6_size 120 = .ok (.iconst 1, 1) := by decide +kernel
theorem dX6_size_121 : decode cX6_size 121 = .ok (.isub, 1) := by decide +kernel
theorem dX6_size_122 : decode cX6_size 122 = .ok (.ireturn, 1) := by decide +kernel
theorem dX6_size_123 : decode cX6_size 123 = .ok (.aload_n 0, 1) := by decide +kernel
theorem dX6_size_124 : decode cX6_size 124 = .ok (.invokevirtual 93, 3) := by decide +kernel
theorem dX6_size_127 : decode cX6_size 127 = .ok (.ireturn, 1) := by decide +kernel
theorem dX6_size_128 : decode cX6_size 128 = .ok (.aload_n 0, 1) := by decide +kernel
theorem dX6_size_129 : decode cX6_size 129 = .ok (.invokevirtual 93, 3) := by decide +kernel
theorem dX6_size_132 : decode cX6_size 132 = .ok (.bipush 16, 2) := by decide +kernel
theorem dX6_size_134 : decode cX6_size 134 = .ok (.iadd, 1) := by decide +kernel
theorem dX6_size_135 : decode cX6_size 135 = .ok (.iconst 1, 1) := by decide +kernel
theorem dX6_size_136 : decode cX6_size 136 = .ok (.isub, 1) := by decide +kernel
theorem dX6_size_137 : decode cX6_size 137 = .ok (.bipush 16, 2) := by decide +kernel
theorem dX6_size_139 : decode cX6_size 139 = .ok (.idiv, 1) := by decide +kernel
theorem dX6_size_140 : decode cX6_size 140 = .ok (.ireturn, 1) := by decide +kernel
theorem dX6_size_141 : decode cX6_size 141 = .ok (.iconst (-1), 1) := by decide +kernel
theorem dX6_size_142 : decode cX6_size 142 = .ok (.ireturn, 1) := by decide +kernel
set_option maxRecDepth 20000 in
theorem ggX6_bit_X6_places : GoodIn wsX6_bit wsX6_places := goodIn_r _ [6, 1, 10, 11, 12, 13, 14, 15, 16, 17, 18, 19, 20, 21, 22, 23, 24, 25, 26, 27] rfl (by decide +kernel)
set_option maxRecDepth 20000 in
theorem gX6_bit_X6_places : GoodIn wsX6_bit (wsV RX6 93 RX6 yX6_places wsX6_places) := goodIn_app (goodIn_of _ (by decide +kernel)) ggX6_bit_X6_places
set_option maxRecDepth 20000 in
theorem ggX6_bit_X6_in : GoodIn wsX6_bit wsX6_in := goodIn_r _ [9] rfl (by decide +kernel)
set_option maxRecDepth 20000 in
theorem gX6_bit_X6_in : GoodIn wsX6_bit (va_wsS RX6 41 yX6_in wsX6_in) := goodIn_app (goodIn_of _ (by decide +kernel)) ggX6_bit_X6_in
theorem dX6_bit_0 : decode cX6_bit 0 = .ok (.iload_n 1, 1) := by decide +kernel
theorem dX6_bit_1 : decode cX6_bit 1 = .ok (.i2l, 1) := by decide +kernel
theorem dX6_bit_2 : decode cX6_bit 2 = .ok (.lconst 0, 1) := by decide +kernel
theorem dX6_bit_3 : decode cX6_bit 3 = .ok (.aload_n 0, 1) := by decide +kernel
theorem dX6_bit_4 : decode cX6_bit 4 = .ok (.invokevirtual 93, 3) := by decide +kernel
theorem dX6_bit_7 : decode cX6_bit 7 = .ok (.iconst 1, 1) := by decide +kernel
theorem dX6_bit_8 : decode cX6_bit 8 = .ok (.isub, 1) := by decide +kernel
theorem dX6_bit_9 : decode cX6_bit 9 = .ok (.i2l, 1) := by decide +kernel
theorem dX6_bit_10 : decode cX6_bit 10 = .ok (.invokestatic 41, 3) := by decide +kernel
theorem dX6_bit_13 : decode cX6_bit 13 = .ok (.ifCond .eq 12, 3) := by decide +kernel
theorem dX6_bit_16 : decode cX6_bit 16 = .ok (.aload_n 0, 1) := by decide +kernel
theorem dX6_bit_17 : decode cX6_bit 17 = .ok (.getfield 7, 3) := by decide +kernel
theorem dX6_bit_20 : decode cX6_bit 20 = .ok (.iload_n 1, 1) := by decide +kernel
theorem dX6_bit_21 : decode cX6_bit 21 = .ok (.iaload, 1) := by decide +kernel
theorem dX6_bit_22 : decode cX6_bit 22 = .ok (.goto 4, 3) := by decide +kernel
theorem dX6_bit_25 : decode cX6_bit 25 = .ok (.iconst (-1), 1) := by decide +kernel
theorem dX6_bit_26 : decode cX6_bit 26 = .ok (.ireturn, 1) := by decide +kernel
set_option maxRecDepth 20000 in
theorem ggX6_excess_X6_isMark : GoodIn wsX6_excess wsX6_isMark := goodIn_r _ [5, 6, 7, 8, 4, 9, 10, 11, 12, 13, 18, 19, 20, 21, 22, 23, 24, 25, 26, 27, 28, 29, 30, 31, 32, 33, 34, 35] rfl (by decide +kernel)
set_option maxRecDepth 20000 in
theorem gX6_excess_X6_isMark : GoodIn wsX6_excess (wsV RX6 106 RX6 yX6_isMark wsX6_isMark) := goodIn_app (goodIn_of _ (by decide +kernel)) ggX6_excess_X6_isMark
set_option maxRecDepth 20000 in
theorem ggX6_excess_X6_excessAt : GoodIn wsX6_excess wsX6_excessAt := goodIn_r _ [17, 10, 18, 19, 20, 21, 22, 23, 24, 25, 26, 27, 28, 29, 30, 31, 32, 33, 34, 35] rfl (by decide +kernel)
set_option maxRecDepth 20000 in
theorem gX6_excess_X6_excessAt : GoodIn wsX6_excess (wsV RX6 96 RX6 yX6_excessAt wsX6_excessAt) := goodIn_app (goodIn_of _ (by decide +kernel)) ggX6_excess_X6_excessAt
theorem dX6_excess_0 : decode cX6_excess 0 = .ok (.aload_n 0, 1) := by decide +kernel
theorem dX6_excess_1 : decode cX6_excess 1 = .ok (.iload_n 1, 1) := by decide +kernel
theorem dX6_excess_2 : decode cX6_excess 2 = .ok (.invokevirtual 106, 3) := by decide +kernel
theorem dX6_excess_5 : decode cX6_excess 5 = .ok (.ifCond .eq 11, 3) := by decide +kernel
theorem dX6_excess_8 : decode cX6_excess 8 = .ok (.aload_n 0, 1) := by decide +kernel
theorem dX6_excess_9 : decode cX6_excess 9 = .ok (.iload_n 1, 1) := by decide +kernel
theorem dX6_excess_10 : decode cX6_excess 10 = .ok (.invokevirtual 96, 3) := by decide +kernel
theorem dX6_excess_13 : decode cX6_excess 13 = .ok (.goto 4, 3) := by decide +kernel
theorem dX6_excess_16 : decode cX6_excess 16 = .ok (.iconst (-1), 1) := by decide +kernel
theorem dX6_excess_17 : decode cX6_excess 17 = .ok (.ireturn, 1) := by decide +kernel
set_option maxRecDepth 20000 in
theorem ggX6_rank_X6_isMark : GoodIn wsX6_rank wsX6_isMark := goodIn_r _ [6, 7, 8, 9, 5, 10, 11, 12, 13, 14, 23, 24, 25, 26, 27, 28, 29, 30, 31, 32, 33, 34, 35, 36, 37, 38, 39, 40] rfl (by decide +kernel)
set_option maxRecDepth 20000 in
theorem gX6_rank_X6_isMark : GoodIn wsX6_rank (wsV RX6 106 RX6 yX6_isMark wsX6_isMark) := goodIn_app (goodIn_of _ (by decide +kernel)) ggX6_rank_X6_isMark
set_option maxRecDepth 20000 in
theorem ggX6_rank_X6_in : GoodIn wsX6_rank wsX6_in := goodIn_r _ [14] rfl (by decide +kernel)
set_option maxRecDepth 20000 in
theorem gX6_rank_X6_in : GoodIn wsX6_rank (va_wsS RX6 41 yX6_in wsX6_in) := goodIn_app (goodIn_of _ (by decide +kernel)) ggX6_rank_X6_in
set_option maxRecDepth 20000 in
theorem ggX6_rank_X6_isSort : GoodIn wsX6_rank wsX6_isSort := goodIn_r _ [18, 11, 19, 20, 21, 5, 22, 7, 8, 9, 10, 23, 24, 25, 26, 27, 28, 29, 30, 31, 32, 33, 34, 35, 36, 37, 38, 39, 40] rfl (by decide +kernel)
set_option maxRecDepth 20000 in
theorem gX6_rank_X6_isSort : GoodIn wsX6_rank (wsV RX6 111 RX6 yX6_isSort wsX6_isSort) := goodIn_app (goodIn_of _ (by decide +kernel)) ggX6_rank_X6_isSort
theorem dX6_rank_0 : decode cX6_rank 0 = .ok (.aload_n 0, 1) := by decide +kernel
theorem dX6_rank_1 : decode cX6_rank 1 = .ok (.iload_n 1, 1) := by decide +kernel
theorem dX6_rank_2 : decode cX6_rank 2 = .ok (.invokevirtual 106, 3) := by decide +kernel
theorem dX6_rank_5 : decode cX6_rank 5 = .ok (.ifCond .eq 15, 3) := by decide +kernel
theorem dX6_rank_8 : decode cX6_rank 8 = .ok (.iload_n 2, 1) := by decide +kernel
theorem dX6_rank_9 : decode cX6_rank 9 = .ok (.i2l, 1) := by decide +kernel
theorem dX6_rank_10 : decode cX6_rank 10 = .ok (.lconst 0, 1) := by decide +kernel
theorem dX6_rank_11 : decode cX6_rank 11 = .ok (.ldc2_w 109, 3) := by decide +kernel
theorem dX6_rank_14 : decode cX6_rank 14 = .ok (.invokestatic 41, 3) := by decide +kernel
theorem dX6_rank_17 : decode cX6_rank 17 = .ok (.ifCond .ne 5, 3) := by decide +kernel
theorem dX6_rank_20 : decode cX6_rank 20 = .ok (.iconst (-1), 1) := by decide +kernel
theorem dX6_rank_21 : decode cX6_rank 21 = .ok (.ireturn, 1) := by decide +kernel
theorem dX6_rank_22 : decode cX6_rank 22 = .ok (.iconst 0, 1) := by decide +kernel
theorem dX6_rank_23 : decode cX6_rank 23 = .ok (.istore_n 3, 1) := by decide +kernel
theorem dX6_rank_24 : decode cX6_rank 24 = .ok (.iconst 0, 1) := by decide +kernel
theorem dX6_rank_25 : decode cX6_rank 25 = .ok (.istore 4, 2) := by decide +kernel
theorem dX6_rank_27 : decode cX6_rank 27 = .ok (.iload 4, 2) := by decide +kernel
theorem dX6_rank_29 : decode cX6_rank 29 = .ok (.iload_n 1, 1) := by decide +kernel
theorem dX6_rank_30 : decode cX6_rank 30 = .ok (.if_icmp .ge 40, 3) := by decide +kernel
theorem dX6_rank_33 : decode cX6_rank 33 = .ok (.iload_n 3, 1) := by decide +kernel
theorem dX6_rank_34 : decode cX6_rank 34 = .ok (.aload_n 0, 1) := by decide +kernel
theorem dX6_rank_35 : decode cX6_rank 35 = .ok (.iload 4, 2) := by decide +kernel
theorem dX6_rank_37 : decode cX6_rank 37 = .ok (.iload_n 2, 1) := by decide +kernel
theorem dX6_rank_38 : decode cX6_rank 38 = .ok (.invokevirtual 111, 3) := by decide +kernel
theorem dX6_rank_41 : decode cX6_rank 41 = .ok (.ifCond .eq 20, 3) := by decide +kernel
theorem dX6_rank_44 : decode cX6_rank 44 = .ok (.iload_n 2, 1) := by decide +kernel
theorem dX6_rank_45 : decode cX6_rank 45 = .ok (.iconst 2, 1) := by decide +kernel
theorem dX6_rank_46 : decode cX6_rank 46 = .ok (.if_icmp .lt 11, 3) := by decide +kernel
theorem dX6_rank_49 : decode cX6_rank 49 = .ok (.iload 4, 2) := by decide +kernel
theorem dX6_rank_51 : decode cX6_rank 51 = .ok (.iconst 1, 1) := by decide +kernel
theorem dX6_rank_52 : decode cX6_rank 52 = .ok (.iadd, 1) := by decide +kernel
theorem dX6_rank_53 : decode cX6_rank 53 = .ok (.iload_n 1, 1) := by decide +kernel
theorem dX6_rank_54 : decode cX6_rank 54 = .ok (.if_icmp .ge 7, 3) := by decide +kernel
theorem dX6_rank_57 : decode cX6_rank 57 = .ok (.iconst 1, 1) := by decide +kernel
theorem dX6_rank_58 : decode cX6_rank 58 = .ok (.goto 4, 3) := by decide +kernel
theorem dX6_rank_61 : decode cX6_rank 61 = .ok (.iconst 0, 1) := by decide +kernel
theorem dX6_rank_62 : decode cX6_rank 62 = .ok (.iadd, 1) := by decide +kernel
theorem dX6_rank_63 : decode cX6_rank 63 = .ok (.istore_n 3, 1) := by decide +kernel
theorem dX6_rank_64 : decode cX6_rank 64 = .ok (.iinc 4 1, 3) := by decide +kernel
theorem dX6_rank_67 : decode cX6_rank 67 = .ok (.goto (-40), 3) := by decide +kernel
theorem dX6_rank_70 : decode cX6_rank 70 = .ok (.iload_n 3, 1) := by decide +kernel
theorem dX6_rank_71 : decode cX6_rank 71 = .ok (.ireturn, 1) := by decide +kernel
set_option maxRecDepth 20000 in
theorem ggX6_select_X6_in : GoodIn wsX6_select wsX6_in := goodIn_r _ [5] rfl (by decide +kernel)
set_option maxRecDepth 20000 in
theorem gX6_select_X6_in : GoodIn wsX6_select (va_wsS RX6 41 yX6_in wsX6_in) := goodIn_app (goodIn_of _ (by decide +kernel)) ggX6_select_X6_in
set_option maxRecDepth 20000 in
theorem ggX6_select_X6_places : GoodIn wsX6_select wsX6_places := goodIn_r _ [9, 10, 19, 20, 21, 22, 23, 24, 25, 26, 27, 28, 29, 30, 31, 32, 33, 34, 35, 36] rfl (by decide +kernel)
set_option maxRecDepth 20000 in
theorem gX6_select_X6_places : GoodIn wsX6_select (wsV RX6 93 RX6 yX6_places wsX6_places) := goodIn_app (goodIn_of _ (by decide +kernel)) ggX6_select_X6_places
set_option maxRecDepth 20000 in
theorem ggX6_select_X6_isSort : GoodIn wsX6_select wsX6_isSort := goodIn_r _ [14, 10, 15, 16, 17, 4, 18, 6, 7, 8, 9, 19, 20, 21, 22, 23, 24, 25, 26, 27, 28, 29, 30, 31, 32, 33, 34, 35, 36] rfl (by decide +kernel)
set_option maxRecDepth 20000 in
theorem gX6_select_X6_isSort : GoodIn wsX6_select (wsV RX6 111 RX6 yX6_isSort wsX6_isSort) := goodIn_app (goodIn_of _ (by decide +kernel)) ggX6_select_X6_isSort
theorem dX6_select_0 : decode cX6_select 0 = .ok (.iload_n 1, 1) := by decide +kernel
theorem dX6_select_1 : decode cX6_select 1 = .ok (.ifCond .lt 15, 3) := by decide +kernel
theorem dX6_select_4 : decode cX6_select 4 = .ok (.iload_n 2, 1) := by decide +kernel
theorem dX6_select_5 : decode cX6_select 5 = .ok (.i2l, 1) := by decide +kernel
theorem dX6_select_6 : decode cX6_select 6 = .ok (.lconst 0, 1) := by decide +kernel
theorem dX6_select_7 : decode cX6_select 7 = .ok (.ldc2_w 109, 3) := by decide +kernel
theorem dX6_select_10 : decode cX6_select 10 = .ok (.invokestatic 41, 3) := by decide +kernel
theorem dX6_select_13 : decode cX6_select 13 = .ok (.ifCond .ne 5, 3) := by decide +kernel
theorem dX6_select_16 : decode cX6_select 16 = .ok (.iconst (-1), 1) := by decide +kernel
theorem dX6_select_17 : decode cX6_select 17 = .ok (.ireturn, 1) := by decide +kernel
theorem dX6_select_18 : decode cX6_select 18 = .ok (.iload_n 1, 1) := by decide +kernel
theorem dX6_select_19 : decode cX6_select 19 = .ok (.istore_n 3, 1) := by decide +kernel
theorem dX6_select_20 : decode cX6_select 20 = .ok (.iconst 0, 1) := by decide +kernel
theorem dX6_select_21 : decode cX6_select 21 = .ok (.istore 4, 2) := by decide +kernel
theorem dX6_select_23 : decode cX6_select 23 = .ok (.iload 4, 2) := by decide +kernel
theorem dX6_select_25 : decode cX6_select 25 = .ok (.aload_n 0, 1) := by decide +kernel
theorem dX6_select_26 : decode cX6_select 26 = .ok (.invokevirtual 93, 3) := by decide +kernel
theorem dX6_select_29 : decode cX6_select 29 = .ok (.if_icmp .ge 29, 3) := by decide +kernel
theorem dX6_select_32 : decode cX6_select 32 = .ok (.aload_n 0, 1) := by decide +kernel
theorem dX6_select_33 : decode cX6_select 33 = .ok (.iload 4, 2) := by decide +kernel
theorem dX6_select_35 : decode cX6_select 35 = .ok (.iload_n 2, 1) := by decide +kernel
theorem dX6_select_36 : decode cX6_select 36 = .ok (.invokevirtual 111, 3) := by decide +kernel
theorem dX6_select_39 : decode cX6_select 39 = .ok (.ifCond .eq 13, 3) := by decide +kernel
theorem dX6_select_42 : decode cX6_select 42 = .ok (.iload_n 3, 1) := by decide +kernel
theorem dX6_select_43 : decode cX6_select 43 = .ok (.ifCond .ne 6, 3) := by decide +kernel
theorem dX6_select_46 : decode cX6_select 46 = .ok (.iload 4, 2) := by decide +kernel
theorem dX6_select_48 : decode cX6_select 48 = .ok (.ireturn, 1) := by decide +kernel
theorem dX6_select_49 : decode cX6_select 49 = .ok (.iinc 3 (-1), 3) := by decide +kernel
theorem dX6_select_52 : decode cX6_select 52 = .ok (.iinc 4 1, 3) := by decide +kernel
theorem dX6_select_55 : decode cX6_select 55 = .ok (.goto (-32), 3) := by decide +kernel
theorem dX6_select_58 : decode cX6_select 58 = .ok (.bipush (-4), 2) := by decide +kernel
theorem dX6_select_60 : decode cX6_select 60 = .ok (.ireturn, 1) := by decide +kernel
set_option maxRecDepth 20000 in
theorem ggX6_forward_X6_isMark : GoodIn wsX6_forward wsX6_isMark := goodIn_r _ [5, 6, 7, 8, 4, 9, 10, 11, 12, 13, 18, 19, 20, 21, 22, 23, 24, 25, 26, 27, 28, 29, 30, 31, 32, 33, 34, 35] rfl (by decide +kernel)
set_option maxRecDepth 20000 in
theorem gX6_forward_X6_isMark : GoodIn wsX6_forward (wsV RX6 106 RX6 yX6_isMark wsX6_isMark) := goodIn_app (goodIn_of _ (by decide +kernel)) ggX6_forward_X6_isMark
set_option maxRecDepth 20000 in
theorem ggX6_forward_X6_places : GoodIn wsX6_forward wsX6_places := goodIn_r _ [9, 10, 18, 19, 20, 21, 22, 23, 24, 25, 26, 27, 28, 29, 30, 31, 32, 33, 34, 35] rfl (by decide +kernel)
set_option maxRecDepth 20000 in
theorem gX6_forward_X6_places : GoodIn wsX6_forward (wsV RX6 93 RX6 yX6_places wsX6_places) := goodIn_app (goodIn_of _ (by decide +kernel)) ggX6_forward_X6_places
set_option maxRecDepth 20000 in
theorem ggX6_forward_X6_excessAt : GoodIn wsX6_forward wsX6_excessAt := goodIn_r _ [17, 10, 18, 19, 20, 21, 22, 23, 24, 25, 26, 27, 28, 29, 30, 31, 32, 33, 34, 35] rfl (by decide +kernel)
set_option maxRecDepth 20000 in
theorem gX6_forward_X6_excessAt : GoodIn wsX6_forward (wsV RX6 96 RX6 yX6_excessAt wsX6_excessAt) := goodIn_app (goodIn_of _ (by decide +kernel)) ggX6_forward_X6_excessAt
theorem dX6_forward_0 : decode cX6_forward 0 = .ok (.aload_n 0, 1) := by decide +kernel
theorem dX6_forward_1 : decode cX6_forward 1 = .ok (.iload_n 1, 1) := by decide +kernel
theorem dX6_forward_2 : decode cX6_forward 2 = .ok (.invokevirtual 106, 3) := by decide +kernel
theorem dX6_forward_5 : decode cX6_forward 5 = .ok (.ifCond .ne 5, 3) := by decide +kernel
theorem dX6_forward_8 : decode cX6_forward 8 = .ok (.iconst (-1), 1) := by decide +kernel
theorem dX6_forward_9 : decode cX6_forward 9 = .ok (.ireturn, 1) := by decide +kernel
theorem dX6_forward_10 : decode cX6_forward 10 = .ok (.iload_n 1, 1) := by decide +kernel
theorem dX6_forward_11 : decode cX6_forward 11 = .ok (.iconst 1, 1) := by decide +kernel
theorem dX6_forward_12 : decode cX6_forward 12 = .ok (.iadd, 1) := by decide +kernel
theorem dX6_forward_13 : decode cX6_forward 13 = .ok (.istore_n 3, 1) := by decide +kernel
theorem dX6_forward_14 : decode cX6_forward 14 = .ok (.iload_n 3, 1) := by decide +kernel
theorem dX6_forward_15 : decode cX6_forward 15 = .ok (.aload_n 0, 1) := by decide +kernel
theorem dX6_forward_16 : decode cX6_forward 16 = .ok (.invokevirtual 93, 3) := by decide +kernel
theorem dX6_forward_19 : decode cX6_forward 19 = .ok (.if_icmp .gt 20, 3) := by decide +kernel
theorem dX6_forward_22 : decode cX6_forward 22 = .ok (.aload_n 0, 1) := by decide +kernel
theorem dX6_forward_23 : decode cX6_forward 23 = .ok (.iload_n 3, 1) := by decide +kernel
theorem dX6_forward_24 : decode cX6_forward 24 = .ok (.invokevirtual 96, 3) := by decide +kernel
theorem dX6_forward_27 : decode cX6_forward 27 = .ok (.iload_n 2, 1) := by decide +kernel
theorem dX6_forward_28 : decode cX6_forward 28 = .ok (.if_icmp .ne 5, 3) := by decide +kernel
theorem dX6_forward_31 : decode cX6_forward 31 = .ok (.iload_n 3, 1) := by decide +kernel
theorem dX6_forward_32 : decode cX6_forward 32 = .ok (.ireturn, 1) := by decide +kernel
theorem dX6_forward_33 : decode cX6_forward 33 = .ok (.iinc 3 1, 3) := by decide +kernel
theorem dX6_forward_36 : decode cX6_forward 36 = .ok (.goto (-22), 3) := by decide +kernel
theorem dX6_forward_39 : decode cX6_forward 39 = .ok (.bipush (-4), 2) := by decide +kernel
theorem dX6_forward_41 : decode cX6_forward 41 = .ok (.ireturn, 1) := by decide +kernel
set_option maxRecDepth 20000 in
theorem ggX6_backward_X6_isMark : GoodIn wsX6_backward wsX6_isMark := goodIn_r _ [5, 6, 7, 8, 4, 9, 10, 11, 12, 13, 18, 19, 20, 21, 22, 23, 24, 25, 26, 27, 28, 29, 30, 31, 32, 33, 34, 35] rfl (by decide +kernel)
set_option maxRecDepth 20000 in
theorem gX6_backward_X6_isMark : GoodIn wsX6_backward (wsV RX6 106 RX6 yX6_isMark wsX6_isMark) := goodIn_app (goodIn_of _ (by decide +kernel)) ggX6_backward_X6_isMark
set_option maxRecDepth 20000 in
theorem ggX6_backward_X6_excessAt : GoodIn wsX6_backward wsX6_excessAt := goodIn_r _ [17, 10, 18, 19, 20, 21, 22, 23, 24, 25, 26, 27, 28, 29, 30, 31, 32, 33, 34, 35] rfl (by decide +kernel)
set_option maxRecDepth 20000 in
theorem gX6_backward_X6_excessAt : GoodIn wsX6_backward (wsV RX6 96 RX6 yX6_excessAt wsX6_excessAt) := goodIn_app (goodIn_of _ (by decide +kernel)) ggX6_backward_X6_excessAt
theorem dX6_backward_0 : decode cX6_backward 0 = .ok (.aload_n 0, 1) := by decide +kernel
theorem dX6_backward_1 : decode cX6_backward 1 = .ok (.iload_n 1, 1) := by decide +kernel
theorem dX6_backward_2 : decode cX6_backward 2 = .ok (.invokevirtual 106, 3) := by decide +kernel
theorem dX6_backward_5 : decode cX6_backward 5 = .ok (.ifCond .ne 5, 3) := by decide +kernel
theorem dX6_backward_8 : decode cX6_backward 8 = .ok (.iconst (-1), 1) := by decide +kernel
theorem dX6_backward_9 : decode cX6_backward 9 = .ok (.ireturn, 1) := by decide +kernel
theorem dX6_backward_10 : decode cX6_backward 10 = .ok (.iload_n 1, 1) := by decide +kernel
theorem dX6_backward_11 : decode cX6_backward 11 = .ok (.iconst 1, 1) := by decide +kernel
theorem dX6_backward_12 : decode cX6_backward 12 = .ok (.isub, 1) := by decide +kernel
theorem dX6_backward_13 : decode cX6_backward 13 = .ok (.istore_n 3, 1) := by decide +kernel
theorem dX6_backward_14 : decode cX6_backward 14 = .ok (.iload_n 3, 1) := by decide +kernel
theorem dX6_backward_15 : decode cX6_backward 15 = .ok (.ifCond .lt 20, 3) := by decide +kernel
theorem dX6_backward_18 : decode cX6_backward 18 = .ok (.aload_n 0, 1) := by decide +kernel
theorem dX6_backward_19 : decode cX6_backward 19 = .ok (.iload_n 3, 1) := by decide +kernel
theorem dX6_backward_20 : decode cX6_backward 20 = .ok (.invokevirtual 96, 3) := by decide +kernel
theorem dX6_backward_23 : decode cX6_backward 23 = .ok (.iload_n 2, 1) := by decide +kernel
theorem dX6_backward_24 : decode cX6_backward 24 = .ok (.if_icmp .ne 5, 3) := by decide +kernel
theorem dX6_backward_27 : decode cX6_backward 27 = .ok (.iload_n 3, 1) := by decide +kernel
theorem dX6_backward_28 : decode cX6_backward 28 = .ok (.ireturn, 1) := by decide +kernel
theorem dX6_backward_29 : decode cX6_backward 29 = .ok (.iinc 3 (-1), 3) := by decide +kernel
theorem dX6_backward_32 : decode cX6_backward 32 = .ok (.goto (-18), 3) := by decide +kernel
theorem dX6_backward_35 : decode cX6_backward 35 = .ok (.bipush (-4), 2) := by decide +kernel
theorem dX6_backward_37 : decode cX6_backward 37 = .ok (.ireturn, 1) := by decide +kernel
set_option maxRecDepth 20000 in
theorem ggX6_match_X6_places : GoodIn wsX6_match wsX6_places := goodIn_r _ [6, 1, 14, 15, 16, 17, 18, 19, 20, 21, 22, 23, 24, 25, 26, 27, 28, 29, 30, 31] rfl (by decide +kernel)
set_option maxRecDepth 20000 in
theorem gX6_match_X6_places : GoodIn wsX6_match (wsV RX6 93 RX6 yX6_places wsX6_places) := goodIn_app (goodIn_of _ (by decide +kernel)) ggX6_match_X6_places
set_option maxRecDepth 20000 in
theorem ggX6_match_X6_in : GoodIn wsX6_match wsX6_in := goodIn_r _ [9] rfl (by decide +kernel)
set_option maxRecDepth 20000 in
theorem gX6_match_X6_in : GoodIn wsX6_match (va_wsS RX6 41 yX6_in wsX6_in) := goodIn_app (goodIn_of _ (by decide +kernel)) ggX6_match_X6_in
set_option maxRecDepth 20000 in
theorem ggX6_match_X6_shutOf : GoodIn wsX6_match wsX6_shutOf := goodIn_r _ [13, 1, 14, 15, 16, 17, 18, 19, 20, 21, 22, 23, 24, 25, 26, 27, 28, 29, 30, 31] rfl (by decide +kernel)
set_option maxRecDepth 20000 in
theorem gX6_match_X6_shutOf : GoodIn wsX6_match (wsV RX6 115 RX6 yX6_shutOf wsX6_shutOf) := goodIn_app (goodIn_of _ (by decide +kernel)) ggX6_match_X6_shutOf
theorem dX6_match_0 : decode cX6_match 0 = .ok (.iload_n 1, 1) := by decide +kernel
theorem dX6_match_1 : decode cX6_match 1 = .ok (.i2l, 1) := by decide +kernel
theorem dX6_match_2 : decode cX6_match 2 = .ok (.lconst 0, 1) := by decide +kernel
theorem dX6_match_3 : decode cX6_match 3 = .ok (.aload_n 0, 1) := by decide +kernel
theorem dX6_match_4 : decode cX6_match 4 = .ok (.invokevirtual 93, 3) := by decide +kernel
theorem dX6_match_7 : decode cX6_match 7 = .ok (.iconst 1, 1) := by decide +kernel
theorem dX6_match_8 : decode cX6_match 8 = .ok (.isub, 1) := by decide +kernel
theorem dX6_match_9 : decode cX6_match 9 = .ok (.i2l, 1) := by decide +kernel
theorem dX6_match_10 : decode cX6_match 10 = .ok (.invokestatic 41, 3) := by decide +kernel
theorem dX6_match_13 : decode cX6_match 13 = .ok (.ifCond .ne 5, 3) := by decide +kernel
theorem dX6_match_16 : decode cX6_match 16 = .ok (.iconst (-1), 1) := by decide +kernel
theorem dX6_match_17 : decode cX6_match 17 = .ok (.ireturn, 1) := by decide +kernel
theorem dX6_match_18 : decode cX6_match 18 = .ok (.aload_n 0, 1) := by decide +kernel
theorem dX6_match_19 : decode cX6_match 19 = .ok (.getfield 7, 3) := by decide +kernel
theorem dX6_match_22 : decode cX6_match 22 = .ok (.iload_n 1, 1) := by decide +kernel
theorem dX6_match_23 : decode cX6_match 23 = .ok (.iaload, 1) := by decide +kernel
theorem dX6_match_24 : decode cX6_match 24 = .ok (.iconst 1, 1) := by decide +kernel
theorem dX6_match_25 : decode cX6_match 25 = .ok (.if_icmp .ne 9, 3) := by decide +kernel
theorem dX6_match_28 : decode cX6_match 28 = .ok (.aload_n 0, 1) := by decide +kernel
theorem dX6_match_29 : decode cX6_match 29 = .ok (.iload_n 1, 1) := by decide +kernel
theorem dX6_match_30 : decode cX6_match 30 = .ok (.invokevirtual 115, 3) := by decide +kernel
theorem dX6_match_33 : decode cX6_match 33 = .ok (.ireturn, 1) := by decide +kernel
theorem dX6_match_34 : decode cX6_match 34 = .ok (.iload_n 1, 1) := by decide +kernel
theorem dX6_match_35 : decode cX6_match 35 = .ok (.istore_n 2, 1) := by decide +kernel
theorem dX6_match_36 : decode cX6_match 36 = .ok (.iconst 1, 1) := by decide +kernel
theorem dX6_match_37 : decode cX6_match 37 = .ok (.istore_n 3, 1) := by decide +kernel
theorem dX6_match_38 : decode cX6_match 38 = .ok (.iload_n 3, 1) := by decide +kernel
theorem dX6_match_39 : decode cX6_match 39 = .ok (.ifCond .le 27, 3) := by decide +kernel
theorem dX6_match_42 : decode cX6_match 42 = .ok (.iinc 2 (-1), 3) := by decide +kernel
theorem dX6_match_45 : decode cX6_match 45 = .ok (.iload_n 3, 1) := by decide +kernel
theorem dX6_match_46 : decode cX6_match 46 = .ok (.aload_n 0, 1) := by decide +kernel
theorem dX6_match_47 : decode cX6_match 47 = .ok (.getfield 7, 3) := by decide +kernel
theorem dX6_match_50 : decode cX6_match 50 = .ok (.iload_n 2, 1) := by decide +kernel
theorem dX6_match_51 : decode cX6_match 51 = .ok (.iaload, 1) := by decide +kernel
theorem dX6_match_52 : decode cX6_match 52 = .ok (.iconst 1, 1) := by decide +kernel
theorem dX6_match_53 : decode cX6_match 53 = .ok (.if_icmp .ne 7, 3) := by decide +kernel
theorem dX6_match_56 : decode cX6_match 56 = .ok (.iconst (-1), 1) := by decide +kernel
theorem dX6_match_57 : decode cX6_match 57 = .ok (.goto 4, 3) := by decide +kernel
theorem dX6_match_60 : decode cX6_match 60 = .ok (.iconst 1, 1) := by decide +kernel
theorem dX6_match_61 : decode cX6_match 61 = .ok (.iadd, 1) := by decide +kernel
theorem dX6_match_62 : decode cX6_match 62 = .ok (.istore_n 3, 1) := by decide +kernel
theorem dX6_match_63 : decode cX6_match 63 = .ok (.goto (-25), 3) := by decide +kernel
theorem dX6_match_66 : decode cX6_match 66 = .ok (.iload_n 2, 1) := by decide +kernel
theorem dX6_match_67 : decode cX6_match 67 = .ok (.ireturn, 1) := by decide +kernel
set_option maxRecDepth 20000 in
theorem ggX6_least_X6_isMark : GoodIn wsX6_least wsX6_isMark := goodIn_r _ [6, 7, 8, 9, 5, 10, 11, 12, 13, 14, 19, 20, 21, 22, 23, 24, 25, 26, 27, 28, 29, 30, 31, 32, 33, 34, 35, 36] rfl (by decide +kernel)
set_option maxRecDepth 20000 in
theorem gX6_least_X6_isMark : GoodIn wsX6_least (wsV RX6 106 RX6 yX6_isMark wsX6_isMark) := goodIn_app (goodIn_of _ (by decide +kernel)) ggX6_least_X6_isMark
set_option maxRecDepth 20000 in
theorem ggX6_least_X6_in : GoodIn wsX6_least wsX6_in := goodIn_r _ [14] rfl (by decide +kernel)
set_option maxRecDepth 20000 in
theorem gX6_least_X6_in : GoodIn wsX6_least (va_wsS RX6 41 yX6_in wsX6_in) := goodIn_app (goodIn_of _ (by decide +kernel)) ggX6_least_X6_in
set_option maxRecDepth 20000 in
theorem ggX6_least_X6_excessAt : GoodIn wsX6_least wsX6_excessAt := goodIn_r _ [18, 11, 19, 20, 21, 22, 23, 24, 25, 26, 27, 28, 29, 30, 31, 32, 33, 34, 35, 36] rfl (by decide +kernel)
set_option maxRecDepth 20000 in
theorem gX6_least_X6_excessAt : GoodIn wsX6_least (wsV RX6 96 RX6 yX6_excessAt wsX6_excessAt) := goodIn_app (goodIn_of _ (by decide +kernel)) ggX6_least_X6_excessAt
theorem dX6_least_0 : decode cX6_least 0 = .ok (.aload_n 0, 1) := by decide +kernel
theorem dX6_least_1 : decode cX6_least 1 = .ok (.iload_n 1, 1) := by decide +kernel
theorem dX6_least_2 : decode cX6_least 2 = .ok (.invokevirtual 106, 3) := by decide +kernel
theorem dX6_least_5 : decode cX6_least 5 = .ok (.ifCond .eq 28, 3) := by decide +kernel
theorem dX6_least_8 : decode cX6_least 8 = .ok (.aload_n 0, 1) := by decide +kernel
theorem dX6_least_9 : decode cX6_least 9 = .ok (.iload_n 2, 1) := by decide +kernel
theorem dX6_least_10 : decode cX6_least 10 = .ok (.invokevirtual 106, 3) := by decide +kernel
theorem dX6_least_13 : decode cX6_least 13 = .ok (.ifCond .eq 20, 3) := by decide +kernel
theorem dX6_least_16 : decode cX6_least 16 = .ok (.iload_n 1, 1) := by decide +kernel
theorem dX6_least_17 : decode cX6_least 17 = .ok (.iload_n 2, 1) := by decide +kernel
theorem dX6_least_18 : decode cX6_least 18 = .ok (.if_icmp .gt 15, 3) := by decide +kernel
theorem dX6_least_21 : decode cX6_least 21 = .ok (.iload_n 3, 1) := by decide +kernel
theorem dX6_least_22 : decode cX6_least 22 = .ok (.i2l, 1) := by decide +kernel
theorem dX6_least_23 : decode cX6_least 23 = .ok (.lconst 0, 1) := by decide +kernel
theorem dX6_least_24 : decode cX6_least 24 = .ok (.ldc2_w 118, 3) := by decide +kernel
theorem dX6_least_27 : decode cX6_least 27 = .ok (.invokestatic 41, 3) := by decide +kernel
theorem dX6_least_30 : decode cX6_least 30 = .ok (.ifCond .ne 5, 3) := by decide +kernel
theorem dX6_least_33 : decode cX6_least 33 = .ok (.iconst (-1), 1) := by decide +kernel
theorem dX6_least_34 : decode cX6_least 34 = .ok (.ireturn, 1) := by decide +kernel
theorem dX6_least_35 : decode cX6_least 35 = .ok (.aload_n 0, 1) := by decide +kernel
theorem dX6_least_36 : decode cX6_least 36 = .ok (.iload_n 1, 1) := by decide +kernel
theorem dX6_least_37 : decode cX6_least 37 = .ok (.invokevirtual 96, 3) := by decide +kernel
theorem dX6_least_40 : decode cX6_least 40 = .ok (.istore 4, 2) := by decide +kernel
theorem dX6_least_42 : decode cX6_least 42 = .ok (.iload 4, 2) := by decide +kernel
theorem dX6_least_44 : decode cX6_least 44 = .ok (.istore 5, 2) := by decide +kernel
theorem dX6_least_46 : decode cX6_least 46 = .ok (.iload_n 1, 1) := by decide +kernel
theorem dX6_least_47 : decode cX6_least 47 = .ok (.istore 6, 2) := by decide +kernel
theorem dX6_least_49 : decode cX6_least 49 = .ok (.iconst 0, 1) := by decide +kernel
theorem dX6_least_50 : decode cX6_least 50 = .ok (.istore 7, 2) := by decide +kernel
theorem dX6_least_52 : decode cX6_least 52 = .ok (.iload_n 1, 1) := by decide +kernel
theorem dX6_least_53 : decode cX6_least 53 = .ok (.istore 8, 2) := by decide +kernel
theorem dX6_least_55 : decode cX6_least 55 = .ok (.iload 8, 2) := by decide +kernel
theorem dX6_least_57 : decode cX6_least 57 = .ok (.iload_n 2, 1) := by decide +kernel
theorem dX6_least_58 : decode cX6_least 58 = .ok (.if_icmp .gt 94, 3) := by decide +kernel
theorem dX6_least_61 : decode cX6_least 61 = .ok (.aload_n 0, 1) := by decide +kernel
theorem dX6_least_62 : decode cX6_least 62 = .ok (.iload 8, 2) := by decide +kernel
theorem dX6_least_64 : decode cX6_least 64 = .ok (.invokevirtual 96, 3) := by decide +kernel
theorem dX6_least_67 : decode cX6_least 67 = .ok (.istore 9, 2) := by decide +kernel
theorem dX6_least_69 : decode cX6_least 69 = .ok (.iload 9, 2) := by decide +kernel
theorem dX6_least_71 : decode cX6_least 71 = .ok (.iload 4, 2) := by decide +kernel
theorem dX6_least_73 : decode cX6_least 73 = .ok (.if_icmp .ge 7, 3) := by decide +kernel
theorem dX6_least_76 : decode cX6_least 76 = .ok (.iconst 1, 1) := by decide +kernel
theorem dX6_least_77 : decode cX6_least 77 = .ok (.goto 19, 3) := by decide +kernel
theorem dX6_least_80 : decode cX6_least 80 = .ok (.iload 9, 2) := by decide +kernel
theorem dX6_least_82 : decode cX6_least 82 = .ok (.iload 4, 2) := by decide +kernel
theorem dX6_least_84 : decode cX6_least 84 = .ok (.if_icmp .ne 10, 3) := by decide +kernel
theorem dX6_least_87 : decode cX6_least 87 = .ok (.iload 7, 2) := by decide +kernel
theorem dX6_least_89 : decode cX6_least 89 = .ok (.iconst 1, 1) := by decide +kernel
theorem dX6_least_90 : decode cX6_least 90 = .ok (.iadd, 1) := by decide +kernel
theorem dX6_least_91 : decode cX6_least 91 = .ok (.goto 5, 3) := by decide +kernel
theorem dX6_least_94 : decode cX6_least 94 = .ok (.iload 7, 2) := by decide +kernel
theorem dX6_least_96 : decode cX6_least 96 = .ok (.istore 7, 2) := by decide +kernel
theorem dX6_least_98 : decode cX6_least 98 = .ok (.iload 9, 2) := by decide +kernel
theorem dX6_least_100 : decode cX6_least 100 = .ok (.iload 4, 2) := by decide +kernel
theorem dX6_least_102 : decode cX6_least 102 = .ok (.if_icmp .ge 8, 3) := by decide +kernel
theorem dX6_least_105 : decode cX6_least 105 = .ok (.iload 8, 2) := by decide +kernel
theorem dX6_least_107 : decode cX6_least 107 = .ok (.goto 5, 3) := by decide +kernel
theorem dX6_least_110 : decode cX6_least 110 = .ok (.iload 6, 2) := by decide +kernel
theorem dX6_least_112 : decode cX6_least 112 = .ok (.istore 6, 2) := by decide +kernel
theorem dX6_least_114 : decode cX6_least 114 = .ok (.iload 9, 2) := by decide +kernel
theorem dX6_least_116 : decode cX6_least 116 = .ok (.iload 4, 2) := by decide +kernel
theorem dX6_least_118 : decode cX6_least 118 = .ok (.if_icmp .ge 8, 3) := by decide +kernel
theorem dX6_least_121 : decode cX6_least 121 = .ok (.iload 9, 2) := by decide +kernel
theorem dX6_least_123 : decode cX6_least 123 = .ok (.goto 5, 3) := by decide +kernel
theorem dX6_least_126 : decode cX6_least 126 = .ok (.iload 4, 2) := by decide +kernel
theorem dX6_least_128 : decode cX6_least 128 = .ok (.istore 4, 2) := by decide +kernel
theorem dX6_least_130 : decode cX6_least 130 = .ok (.iload 9, 2) := by decide +kernel
theorem dX6_least_132 : decode cX6_least 132 = .ok (.iload 5, 2) := by decide +kernel
theorem dX6_least_134 : decode cX6_least 134 = .ok (.if_icmp .le 8, 3) := by decide +kernel
theorem dX6_least_137 : decode cX6_least 137 = .ok (.iload 9, 2) := by decide +kernel
theorem dX6_least_139 : decode cX6_least 139 = .ok (.goto 5, 3) := by decide +kernel
theorem dX6_least_142 : decode cX6_least 142 = .ok (.iload 5, 2) := by decide +kernel
theorem dX6_least_144 : decode cX6_least 144 = .ok (.istore 5, 2) := by decide +kernel
theorem dX6_least_146 : decode cX6_least 146 = .ok (.iinc 8 1, 3) := by decide +kernel
theorem dX6_least_149 : decode cX6_least 149 = .ok (.goto (-94), 3) := by decide +kernel
theorem dX6_least_152 : decode cX6_least 152 = .ok (.iload_n 3, 1) := by decide +kernel
theorem dX6_least_153 : decode cX6_least 153 = .ok (.ifCond .ne 8, 3) := by decide +kernel
theorem dX6_least_156 : decode cX6_least 156 = .ok (.iload 4, 2) := by decide +kernel
theorem dX6_least_158 : decode cX6_least 158 = .ok (.goto 25, 3) := by decide +kernel
theorem dX6_least_161 : decode cX6_least 161 = .ok (.iload_n 3, 1) := by decide +kernel
theorem dX6_least_162 : decode cX6_least 162 = .ok (.iconst 1, 1) := by decide +kernel
theorem dX6_least_163 : decode cX6_least 163 = .ok (.if_icmp .ne 8, 3) := by decide +kernel
theorem dX6_least_166 : decode cX6_least 166 = .ok (.iload 6, 2) := by decide +kernel
theorem dX6_least_168 : decode cX6_least 168 = .ok (.goto 15, 3) := by decide +kernel
theorem dX6_least_171 : decode cX6_least 171 = .ok (.iload_n 3, 1) := by decide +kernel
theorem dX6_least_172 : decode cX6_least 172 = .ok (.iconst 2, 1) := by decide +kernel
theorem dX6_least_173 : decode cX6_least 173 = .ok (.if_icmp .ne 8, 3) := by decide +kernel
theorem dX6_least_176 : decode cX6_least 176 = .ok (.iload 7, 2) := by decide +kernel
theorem dX6_least_178 : decode cX6_least 178 = .ok (.goto 5, 3) := by decide +kernel
theorem dX6_least_181 : decode cX6_least 181 = .ok (.iload 5, 2) := by decide +kernel
theorem dX6_least_183 : decode cX6_least 183 = .ok (.ireturn, 1) := by decide +kernel
set_option maxRecDepth 20000 in
theorem ggX6_block_X6_places : GoodIn wsX6_block wsX6_places := goodIn_r _ [7, 8, 16, 17, 18, 19, 20, 21, 22, 23, 24, 25, 26, 27, 28, 29, 30, 31, 32, 33] rfl (by decide +kernel)
set_option maxRecDepth 20000 in
theorem gX6_block_X6_places : GoodIn wsX6_block (wsV RX6 93 RX6 yX6_places wsX6_places) := goodIn_app (goodIn_of _ (by decide +kernel)) ggX6_block_X6_places
set_option maxRecDepth 20000 in
theorem ggX6_block_X6_in : GoodIn wsX6_block wsX6_in := goodIn_r _ [11] rfl (by decide +kernel)
set_option maxRecDepth 20000 in
theorem gX6_block_X6_in : GoodIn wsX6_block (va_wsS RX6 41 yX6_in wsX6_in) := goodIn_app (goodIn_of _ (by decide +kernel)) ggX6_block_X6_in
set_option maxRecDepth 20000 in
theorem ggX6_block_X6_excessAt : GoodIn wsX6_block wsX6_excessAt := goodIn_r _ [15, 8, 16, 17, 18, 19, 20, 21, 22, 23, 24, 25, 26, 27, 28, 29, 30, 31, 32, 33] rfl (by decide +kernel)
set_option maxRecDepth 20000 in
theorem gX6_block_X6_excessAt : GoodIn wsX6_block (wsV RX6 96 RX6 yX6_excessAt wsX6_excessAt) := goodIn_app (goodIn_of _ (by decide +kernel)) ggX6_block_X6_excessAt
theorem dX6_block_0 : decode cX6_block 0 = .ok (.iload_n 1, 1) := by decide +kernel
theorem dX6_block_1 : decode cX6_block 1 = .ok (.ifCond .lt 30, 3) := by decide +kernel
theorem dX6_block_4 : decode cX6_block 4 = .ok (.ldc2_w 120, 3) := by decide +kernel
theorem dX6_block_7 : decode cX6_block 7 = .ok (.iload_n 1, 1) := by decide +kernel
theorem dX6_block_8 : decode cX6_block 8 = .ok (.i2l, 1) := by decide +kernel
theorem dX6_block_9 : decode cX6_block 9 = .ok (.lmul, 1) := by decide +kernel
theorem dX6_block_10 : decode cX6_block 10 = .ok (.aload_n 0, 1) := by decide +kernel
theorem dX6_block_11 : decode cX6_block 11 = .ok (.invokevirtual 93, 3) := by decide +kernel
theorem dX6_block_14 : decode cX6_block 14 = .ok (.i2l, 1) := by decide +kernel
theorem dX6_block_15 : decode cX6_block 15 = .ok (.lcmp, 1) := by decide +kernel
theorem dX6_block_16 : decode cX6_block 16 = .ok (.ifCond .ge 15, 3) := by decide +kernel
theorem dX6_block_19 : decode cX6_block 19 = .ok (.iload_n 2, 1) := by decide +kernel
theorem dX6_block_20 : decode cX6_block 20 = .ok (.i2l, 1) := by decide +kernel
theorem dX6_block_21 : decode cX6_block 21 = .ok (.lconst 0, 1) := by decide +kernel
theorem dX6_block_22 : decode cX6_block 22 = .ok (.ldc2_w 109, 3) := by decide +kernel
theorem dX6_block_25 : decode cX6_block 25 = .ok (.invokestatic 41, 3) := by decide +kernel
theorem dX6_block_28 : decode cX6_block 28 = .ok (.ifCond .ne 5, 3) := by decide +kernel
theorem dX6_block_31 : decode cX6_block 31 = .ok (.iconst (-1), 1) := by decide +kernel
theorem dX6_block_32 : decode cX6_block 32 = .ok (.ireturn, 1) := by decide +kernel
theorem dX6_block_33 : decode cX6_block 33 = .ok (.aload_n 0, 1) := by decide +kernel
theorem dX6_block_34 : decode cX6_block 34 = .ok (.bipush 16, 2) := by decide +kernel
theorem dX6_block_36 : decode cX6_block 36 = .ok (.iload_n 1, 1) := by decide +kernel
theorem dX6_block_37 : decode cX6_block 37 = .ok (.imul, 1) := by decide +kernel
theorem dX6_block_38 : decode cX6_block 38 = .ok (.invokevirtual 96, 3) := by decide +kernel
theorem dX6_block_41 : decode cX6_block 41 = .ok (.istore_n 3, 1) := by decide +kernel
theorem dX6_block_42 : decode cX6_block 42 = .ok (.iconst 0, 1) := by decide +kernel
theorem dX6_block_43 : decode cX6_block 43 = .ok (.istore 4, 2) := by decide +kernel
theorem dX6_block_45 : decode cX6_block 45 = .ok (.sipush 1000, 3) := by decide +kernel
theorem dX6_block_48 : decode cX6_block 48 = .ok (.istore 5, 2) := by decide +kernel
theorem dX6_block_50 : decode cX6_block 50 = .ok (.sipush (-1000), 3) := by decide +kernel
theorem dX6_block_53 : decode cX6_block 53 = .ok (.istore 6, 2) := by decide +kernel
theorem dX6_block_55 : decode cX6_block 55 = .ok (.bipush 16, 2) := by decide +kernel
theorem dX6_block_57 : decode cX6_block 57 = .ok (.iload_n 1, 1) := by decide +kernel
theorem dX6_block_58 : decode cX6_block 58 = .ok (.imul, 1) := by decide +kernel
theorem dX6_block_59 : decode cX6_block 59 = .ok (.istore 7, 2) := by decide +kernel
theorem dX6_block_61 : decode cX6_block 61 = .ok (.iload 7, 2) := by decide +kernel
theorem dX6_block_63 : decode cX6_block 63 = .ok (.bipush 16, 2) := by decide +kernel
theorem dX6_block_65 : decode cX6_block 65 = .ok (.iload_n 1, 1) := by decide +kernel
theorem dX6_block_66 : decode cX6_block 66 = .ok (.imul, 1) := by decide +kernel
theorem dX6_block_67 : decode cX6_block 67 = .ok (.bipush 16, 2) := by decide +kernel
theorem dX6_block_69 : decode cX6_block 69 = .ok (.iadd, 1) := by decide +kernel
theorem dX6_block_70 : decode cX6_block 70 = .ok (.if_icmp .ge 62, 3) := by decide +kernel
theorem dX6_block_73 : decode cX6_block 73 = .ok (.iload 7, 2) := by decide +kernel
theorem dX6_block_75 : decode cX6_block 75 = .ok (.aload_n 0, 1) := by decide +kernel
theorem dX6_block_76 : decode cX6_block 76 = .ok (.invokevirtual 93, 3) := by decide +kernel
theorem dX6_block_79 : decode cX6_block 79 = .ok (.if_icmp .ge 53, 3) := by decide +kernel
theorem dX6_block_82 : decode cX6_block 82 = .ok (.aload_n 0, 1) := by decide +kernel
theorem dX6_block_83 : decode cX6_block 83 = .ok (.iload 7, 2) := by decide +kernel
theorem dX6_block_85 : decode cX6_block 85 = .ok (.iconst 1, 1) := by decide +kernel
theorem dX6_block_86 : decode cX6_block 86 = .ok (.iadd, 1) := by decide +kernel
theorem dX6_block_87 : decode cX6_block 87 = .ok (.invokevirtual 96, 3) := by decide +kernel
theorem dX6_block_90 : decode cX6_block 90 = .ok (.iload_n 3, 1) := by decide +kernel
theorem dX6_block_91 : decode cX6_block 91 = .ok (.isub, 1) := by decide +kernel
theorem dX6_block_92 : decode cX6_block 92 = .ok (.istore 4, 2) := by decide +kernel
theorem dX6_block_94 : decode cX6_block 94 = .ok (.iload 4, 2) := by decide +kernel
theorem dX6_block_96 : decode cX6_block 96 = .ok (.iload 5, 2) := by decide +kernel
theorem dX6_block_98 : decode cX6_block 98 = .ok (.if_icmp .ge 8, 3) := by decide +kernel
theorem dX6_block_101 : decode cX6_block 101 = .ok (.iload 4, 2) := by decide +kernel
theorem dX6_block_103 : decode cX6_block 103 = .ok (.goto 5, 3) := by decide +kernel
theorem dX6_block_106 : decode cX6_block 106 = .ok (.iload 5, 2) := by decide +kernel
theorem dX6_block_108 : decode cX6_block 108 = .ok (.istore 5, 2) := by decide +kernel
theorem dX6_block_110 : decode cX6_block 110 = .ok (.iload 4, 2) := by decide +kernel
theorem dX6_block_112 : decode cX6_block 112 = .ok (.iload 6, 2) := by decide +kernel
theorem dX6_block_114 : decode cX6_block 114 = .ok (.if_icmp .le 8, 3) := by decide +kernel
theorem dX6_block_117 : decode cX6_block 117 = .ok (.iload 4, 2) := by decide +kernel
theorem dX6_block_119 : decode cX6_block 119 = .ok (.goto 5, 3) := by decide +kernel
theorem dX6_block_122 : decode cX6_block 122 = .ok (.iload 6, 2) := by decide +kernel
theorem dX6_block_124 : decode cX6_block 124 = .ok (.istore 6, 2) := by decide +kernel
theorem dX6_block_126 : decode cX6_block 126 = .ok (.iinc 7 1, 3) := by decide +kernel
theorem dX6_block_129 : decode cX6_block 129 = .ok (.goto (-68), 3) := by decide +kernel
theorem dX6_block_132 : decode cX6_block 132 = .ok (.bipush 100, 2) := by decide +kernel
