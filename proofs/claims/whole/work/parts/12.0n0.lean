theorem dX2_init_0 : decode cX2_init 0 = .ok (.aload_n 0, 1) := by decide +kernel
theorem dX2_init_1 : decode cX2_init 1 = .ok (.invokespecial 3, 3) := by decide +kernel
theorem dX2_init_4 : decode cX2_init 4 = .ok (.aload_n 0, 1) := by decide +kernel
theorem dX2_init_5 : decode cX2_init 5 = .ok (.bipush 40, 2) := by decide +kernel
theorem dX2_init_7 : decode cX2_init 7 = .ok (.newarray .long, 2) := by decide +kernel
theorem dX2_init_9 : decode cX2_init 9 = .ok (.putfield 9, 3) := by decide +kernel
theorem dX2_init_12 : decode cX2_init 12 = .ok (.aload_n 0, 1) := by decide +kernel
theorem dX2_init_13 : decode cX2_init 13 = .ok (.iconst (-1), 1) := by decide +kernel
theorem dX2_init_14 : decode cX2_init 14 = .ok (.putfield 15, 3) := by decide +kernel
theorem dX2_init_17 : decode cX2_init 17 = .ok (.return_, 1) := by decide +kernel
theorem dX2_isNothing_0 : decode cX2_isNothing 0 = .ok (.aload_n 0, 1) := by decide +kernel
theorem dX2_isNothing_1 : decode cX2_isNothing 1 = .ok (.getfield 15, 3) := by decide +kernel
theorem dX2_isNothing_4 : decode cX2_isNothing 4 = .ok (.iconst (-1), 1) := by decide +kernel
theorem dX2_isNothing_5 : decode cX2_isNothing 5 = .ok (.if_icmp .ne 7, 3) := by decide +kernel
theorem dX2_isNothing_8 : decode cX2_isNothing 8 = .ok (.iconst 1, 1) := by decide +kernel
theorem dX2_isNothing_9 : decode cX2_isNothing 9 = .ok (.goto 4, 3) := by decide +kernel
theorem dX2_isNothing_12 : decode cX2_isNothing 12 = .ok (.iconst 0, 1) := by decide +kernel
theorem dX2_isNothing_13 : decode cX2_isNothing 13 = .ok (.ireturn, 1) := by decide +kernel
theorem dX2_hasCell_0 : decode cX2_hasCell 0 = .ok (.iload_n 1, 1) := by decide +kernel
theorem dX2_hasCell_1 : decode cX2_hasCell 1 = .ok (.ifCond .lt 15, 3) := by decide +kernel
theorem dX2_hasCell_4 : decode cX2_hasCell 4 = .ok (.iload_n 1, 1) := by decide +kernel
theorem dX2_hasCell_5 : decode cX2_hasCell 5 = .ok (.aload_n 0, 1) := by decide +kernel
theorem dX2_hasCell_6 : decode cX2_hasCell 6 = .ok (.getfield 19, 3) := by decide +kernel
theorem dX2_hasCell_9 : decode cX2_hasCell 9 = .ok (.if_icmp .ge 7, 3) := by decide +kernel
theorem dX2_hasCell_12 : decode cX2_hasCell 12 = .ok (.iconst 1, 1) := by decide +kernel
theorem dX2_hasCell_13 : decode cX2_hasCell 13 = .ok (.goto 4, 3) := by decide +kernel
theorem dX2_hasCell_16 : decode cX2_hasCell 16 = .ok (.iconst 0, 1) := by decide +kernel
theorem dX2_hasCell_17 : decode cX2_hasCell 17 = .ok (.ireturn, 1) := by decide +kernel
theorem dX2_renew_0 : decode cX2_renew 0 = .ok (.aload_n 0, 1) := by decide +kernel
theorem dX2_renew_1 : decode cX2_renew 1 = .ok (.iload_n 1, 1) := by decide +kernel
theorem dX2_renew_2 : decode cX2_renew 2 = .ok (.putfield 15, 3) := by decide +kernel
theorem dX2_renew_5 : decode cX2_renew 5 = .ok (.aload_n 0, 1) := by decide +kernel
theorem dX2_renew_6 : decode cX2_renew 6 = .ok (.iload_n 2, 1) := by decide +kernel
theorem dX2_renew_7 : decode cX2_renew 7 = .ok (.putfield 19, 3) := by decide +kernel
theorem dX2_renew_10 : decode cX2_renew 10 = .ok (.iconst 0, 1) := by decide +kernel
theorem dX2_renew_11 : decode cX2_renew 11 = .ok (.istore_n 3, 1) := by decide +kernel
theorem dX2_renew_12 : decode cX2_renew 12 = .ok (.iload_n 3, 1) := by decide +kernel
theorem dX2_renew_13 : decode cX2_renew 13 = .ok (.bipush 40, 2) := by decide +kernel
theorem dX2_renew_15 : decode cX2_renew 15 = .ok (.if_icmp .ge 16, 3) := by decide +kernel
theorem dX2_renew_18 : decode cX2_renew 18 = .ok (.aload_n 0, 1) := by decide +kernel
theorem dX2_renew_19 : decode cX2_renew 19 = .ok (.getfield 9, 3) := by decide +kernel
theorem dX2_renew_22 : decode cX2_renew 22 = .ok (.iload_n 3, 1) := by decide +kernel
theorem dX2_renew_23 : decode cX2_renew 23 = .ok (.lconst 0, 1) := by decide +kernel
theorem dX2_renew_24 : decode cX2_renew 24 = .ok (.lastore, 1) := by decide +kernel
theorem dX2_renew_25 : decode cX2_renew 25 = .ok (.iinc 3 1, 3) := by decide +kernel
theorem dX2_renew_28 : decode cX2_renew 28 = .ok (.goto (-16), 3) := by decide +kernel
theorem dX2_renew_31 : decode cX2_renew 31 = .ok (.return_, 1) := by decide +kernel
theorem dX2_put_0 : decode cX2_put 0 = .ok (.aload_n 0, 1) := by decide +kernel
theorem dX2_put_1 : decode cX2_put 1 = .ok (.getfield 15, 3) := by decide +kernel
theorem dX2_put_4 : decode cX2_put 4 = .ok (.ifCond .ne 16, 3) := by decide +kernel
theorem dX2_put_7 : decode cX2_put 7 = .ok (.aload_n 0, 1) := by decide +kernel
theorem dX2_put_8 : decode cX2_put 8 = .ok (.getfield 9, 3) := by decide +kernel
theorem dX2_put_11 : decode cX2_put 11 = .ok (.iload_n 1, 1) := by decide +kernel
theorem dX2_put_12 : decode cX2_put 12 = .ok (.lload_n 2, 1) := by decide +kernel
theorem dX2_put_13 : decode cX2_put 13 = .ok (.l2i, 1) := by decide +kernel
theorem dX2_put_14 : decode cX2_put 14 = .ok (.i2b, 1) := by decide +kernel
theorem dX2_put_15 : decode cX2_put 15 = .ok (.i2l, 1) := by decide +kernel
theorem dX2_put_16 : decode cX2_put 16 = .ok (.lastore, 1) := by decide +kernel
theorem dX2_put_17 : decode cX2_put 17 = .ok (.goto 30, 3) := by decide +kernel
theorem dX2_put_20 : decode cX2_put 20 = .ok (.aload_n 0, 1) := by decide +kernel
theorem dX2_put_21 : decode cX2_put 21 = .ok (.getfield 15, 3) := by decide +kernel
theorem dX2_put_24 : decode cX2_put 24 = .ok (.iconst 1, 1) := by decide +kernel
theorem dX2_put_25 : decode cX2_put 25 = .ok (.if_icmp .ne 15, 3) := by decide +kernel
theorem dX2_put_28 : decode cX2_put 28 = .ok (.aload_n 0, 1) := by decide +kernel
theorem dX2_put_29 : decode cX2_put 29 = .ok (.getfield 9, 3) := by decide +kernel
theorem dX2_put_32 : decode cX2_put 32 = .ok (.iload_n 1, 1) := by decide +kernel
theorem dX2_put_33 : decode cX2_put 33 = .ok (.lload_n 2, 1) := by decide +kernel
theorem dX2_put_34 : decode cX2_put 34 = .ok (.l2i, 1) := by decide +kernel
theorem dX2_put_35 : decode cX2_put 35 = .ok (.i2l, 1) := by decide +kernel
theorem dX2_put_36 : decode cX2_put 36 = .ok (.lastore, 1) := by decide +kernel
theorem dX2_put_37 : decode cX2_put 37 = .ok (.goto 10, 3) := by decide +kernel
theorem dX2_put_40 : decode cX2_put 40 = .ok (.aload_n 0, 1) := by decide +kernel
theorem dX2_put_41 : decode cX2_put 41 = .ok (.getfield 9, 3) := by decide +kernel
theorem dX2_put_44 : decode cX2_put 44 = .ok (.iload_n 1, 1) := by decide +kernel
theorem dX2_put_45 : decode cX2_put 45 = .ok (.lload_n 2, 1) := by decide +kernel
theorem dX2_put_46 : decode cX2_put 46 = .ok (.lastore, 1) := by decide +kernel
theorem dX2_put_47 : decode cX2_put 47 = .ok (.return_, 1) := by decide +kernel
theorem dX2_bitsOfCell_0 : decode cX2_bitsOfCell 0 = .ok (.aload_n 0, 1) := by decide +kernel
theorem dX2_bitsOfCell_1 : decode cX2_bitsOfCell 1 = .ok (.getfield 15, 3) := by decide +kernel
theorem dX2_bitsOfCell_4 : decode cX2_bitsOfCell 4 = .ok (.ifCond .ne 6, 3) := by decide +kernel
theorem dX2_bitsOfCell_7 : decode cX2_bitsOfCell 7 = .ok (.bipush 8, 2) := by decide +kernel
theorem dX2_bitsOfCell_9 : decode cX2_bitsOfCell 9 = .ok (.ireturn, 1) := by decide +kernel
theorem dX2_bitsOfCell_10 : decode cX2_bitsOfCell 10 = .ok (.aload_n 0, 1) := by decide +kernel
theorem dX2_bitsOfCell_11 : decode cX2_bitsOfCell 11 = .ok (.getfield 15, 3) := by decide +kernel
theorem dX2_bitsOfCell_14 : decode cX2_bitsOfCell 14 = .ok (.iconst 1, 1) := by decide +kernel
theorem dX2_bitsOfCell_15 : decode cX2_bitsOfCell 15 = .ok (.if_icmp .ne 8, 3) := by decide +kernel
theorem dX2_bitsOfCell_18 : decode cX2_bitsOfCell 18 = .ok (.bipush 32, 2) := by decide +kernel
theorem dX2_bitsOfCell_20 : decode cX2_bitsOfCell 20 = .ok (.goto 5, 3) := by decide +kernel
theorem dX2_bitsOfCell_23 : decode cX2_bitsOfCell 23 = .ok (.bipush 64, 2) := by decide +kernel
theorem dX2_bitsOfCell_25 : decode cX2_bitsOfCell 25 = .ok (.ireturn, 1) := by decide +kernel
set_option maxRecDepth 20000 in
theorem ggX2_faultOfBit_X2_isNothing : GoodIn wsX2_faultOfBit wsX2_isNothing := goodIn_r _ [7, 1, 12, 13, 14] rfl (by decide +kernel)
set_option maxRecDepth 20000 in
theorem gX2_faultOfBit_X2_isNothing : GoodIn wsX2_faultOfBit (wsV RX2 22 RX2 yX2_isNothing wsX2_isNothing) := goodIn_app (goodIn_of _ (by decide +kernel)) ggX2_faultOfBit_X2_isNothing
set_option maxRecDepth 20000 in
theorem ggX2_faultOfBit_X2_bitsOfCell : GoodIn wsX2_faultOfBit wsX2_bitsOfCell := goodIn_r _ [11, 1, 12, 13, 14] rfl (by decide +kernel)
set_option maxRecDepth 20000 in
theorem gX2_faultOfBit_X2_bitsOfCell : GoodIn wsX2_faultOfBit (wsV RX2 26 RX2 yX2_bitsOfCell wsX2_bitsOfCell) := goodIn_app (goodIn_of _ (by decide +kernel)) ggX2_faultOfBit_X2_bitsOfCell
theorem dX2_faultOfBit_0 : decode cX2_faultOfBit 0 = .ok (.aload_n 0, 1) := by decide +kernel
theorem dX2_faultOfBit_1 : decode cX2_faultOfBit 1 = .ok (.invokevirtual 22, 3) := by decide +kernel
theorem dX2_faultOfBit_4 : decode cX2_faultOfBit 4 = .ok (.ifCond .eq 5, 3) := by decide +kernel
theorem dX2_faultOfBit_7 : decode cX2_faultOfBit 7 = .ok (.iconst 1, 1) := by decide +kernel
theorem dX2_faultOfBit_8 : decode cX2_faultOfBit 8 = .ok (.ireturn, 1) := by decide +kernel
theorem dX2_faultOfBit_9 : decode cX2_faultOfBit 9 = .ok (.aload_n 0, 1) := by decide +kernel
theorem dX2_faultOfBit_10 : decode cX2_faultOfBit 10 = .ok (.getfield 15, 3) := by decide +kernel
theorem dX2_faultOfBit_13 : decode cX2_faultOfBit 13 = .ok (.iload_n 1, 1) := by decide +kernel
theorem dX2_faultOfBit_14 : decode cX2_faultOfBit 14 = .ok (.if_icmp .eq 5, 3) := by decide +kernel
theorem dX2_faultOfBit_17 : decode cX2_faultOfBit 17 = .ok (.iconst 3, 1) := by decide +kernel
theorem dX2_faultOfBit_18 : decode cX2_faultOfBit 18 = .ok (.ireturn, 1) := by decide +kernel
theorem dX2_faultOfBit_19 : decode cX2_faultOfBit 19 = .ok (.lload_n 2, 1) := by decide +kernel
theorem dX2_faultOfBit_20 : decode cX2_faultOfBit 20 = .ok (.aload_n 0, 1) := by decide +kernel
theorem dX2_faultOfBit_21 : decode cX2_faultOfBit 21 = .ok (.invokevirtual 26, 3) := by decide +kernel
theorem dX2_faultOfBit_24 : decode cX2_faultOfBit 24 = .ok (.i2l, 1) := by decide +kernel
theorem dX2_faultOfBit_25 : decode cX2_faultOfBit 25 = .ok (.ldiv, 1) := by decide +kernel
theorem dX2_faultOfBit_26 : decode cX2_faultOfBit 26 = .ok (.aload_n 0, 1) := by decide +kernel
theorem dX2_faultOfBit_27 : decode cX2_faultOfBit 27 = .ok (.getfield 19, 3) := by decide +kernel
theorem dX2_faultOfBit_30 : decode cX2_faultOfBit 30 = .ok (.i2l, 1) := by decide +kernel
theorem dX2_faultOfBit_31 : decode cX2_faultOfBit 31 = .ok (.lcmp, 1) := by decide +kernel
theorem dX2_faultOfBit_32 : decode cX2_faultOfBit 32 = .ok (.ifCond .ge 7, 3) := by decide +kernel
theorem dX2_faultOfBit_35 : decode cX2_faultOfBit 35 = .ok (.iconst 0, 1) := by decide +kernel
theorem dX2_faultOfBit_36 : decode cX2_faultOfBit 36 = .ok (.goto 4, 3) := by decide +kernel
theorem dX2_faultOfBit_39 : decode cX2_faultOfBit 39 = .ok (.iconst 2, 1) := by decide +kernel
theorem dX2_faultOfBit_40 : decode cX2_faultOfBit 40 = .ok (.ireturn, 1) := by decide +kernel
set_option maxRecDepth 20000 in
theorem ggX2_bitAt_X2_bitsOfCell : GoodIn wsX2_bitAt wsX2_bitsOfCell := goodIn_r _ [6, 7, 8, 9, 10] rfl (by decide +kernel)
set_option maxRecDepth 20000 in
theorem gX2_bitAt_X2_bitsOfCell : GoodIn wsX2_bitAt (wsV RX2 26 RX2 yX2_bitsOfCell wsX2_bitsOfCell) := goodIn_app (goodIn_of _ (by decide +kernel)) ggX2_bitAt_X2_bitsOfCell
theorem dX2_bitAt_0 : decode cX2_bitAt 0 = .ok (.aload_n 0, 1) := by decide +kernel
theorem dX2_bitAt_1 : decode cX2_bitAt 1 = .ok (.invokevirtual 26, 3) := by decide +kernel
theorem dX2_bitAt_4 : decode cX2_bitAt 4 = .ok (.istore_n 2, 1) := by decide +kernel
theorem dX2_bitAt_5 : decode cX2_bitAt 5 = .ok (.aload_n 0, 1) := by decide +kernel
theorem dX2_bitAt_6 : decode cX2_bitAt 6 = .ok (.getfield 9, 3) := by decide +kernel
theorem dX2_bitAt_9 : decode cX2_bitAt 9 = .ok (.iload_n 1, 1) := by decide +kernel
theorem dX2_bitAt_10 : decode cX2_bitAt 10 = .ok (.iload_n 2, 1) := by decide +kernel
theorem dX2_bitAt_11 : decode cX2_bitAt 11 = .ok (.idiv, 1) := by decide +kernel
theorem dX2_bitAt_12 : decode cX2_bitAt 12 = .ok (.laload, 1) := by decide +kernel
theorem dX2_bitAt_13 : decode cX2_bitAt 13 = .ok (.iload_n 1, 1) := by decide +kernel
theorem dX2_bitAt_14 : decode cX2_bitAt 14 = .ok (.iload_n 2, 1) := by decide +kernel
theorem dX2_bitAt_15 : decode cX2_bitAt 15 = .ok (.irem, 1) := by decide +kernel
theorem dX2_bitAt_16 : decode cX2_bitAt 16 = .ok (.lushr, 1) := by decide +kernel
theorem dX2_bitAt_17 : decode cX2_bitAt 17 = .ok (.l2i, 1) := by decide +kernel
theorem dX2_bitAt_18 : decode cX2_bitAt 18 = .ok (.iconst 1, 1) := by decide +kernel
theorem dX2_bitAt_19 : decode cX2_bitAt 19 = .ok (.iand, 1) := by decide +kernel
theorem dX2_bitAt_20 : decode cX2_bitAt 20 = .ok (.ireturn, 1) := by decide +kernel
set_option maxRecDepth 20000 in
theorem ggX2_putBit_X2_bitsOfCell : GoodIn wsX2_putBit wsX2_bitsOfCell := goodIn_r _ [7, 8, 13, 14, 15] rfl (by decide +kernel)
set_option maxRecDepth 20000 in
theorem gX2_putBit_X2_bitsOfCell : GoodIn wsX2_putBit (wsV RX2 26 RX2 yX2_bitsOfCell wsX2_bitsOfCell) := goodIn_app (goodIn_of _ (by decide +kernel)) ggX2_putBit_X2_bitsOfCell
set_option maxRecDepth 20000 in
theorem ggX2_putBit_X2_put : GoodIn wsX2_putBit wsX2_put := goodIn_r _ [12, 8, 1, 13, 14, 15] rfl (by decide +kernel)
set_option maxRecDepth 20000 in
theorem gX2_putBit_X2_put : GoodIn wsX2_putBit (wsV RX2 32 RX2 yX2_put wsX2_put) := goodIn_app (goodIn_of _ (by decide +kernel)) ggX2_putBit_X2_put
theorem dX2_putBit_0 : decode cX2_putBit 0 = .ok (.iload_n 1, 1) := by decide +kernel
theorem dX2_putBit_1 : decode cX2_putBit 1 = .ok (.aload_n 0, 1) := by decide +kernel
theorem dX2_putBit_2 : decode cX2_putBit 2 = .ok (.invokevirtual 26, 3) := by decide +kernel
theorem dX2_putBit_5 : decode cX2_putBit 5 = .ok (.idiv, 1) := by decide +kernel
theorem dX2_putBit_6 : decode cX2_putBit 6 = .ok (.istore_n 3, 1) := by decide +kernel
theorem dX2_putBit_7 : decode cX2_putBit 7 = .ok (.lconst 1, 1) := by decide +kernel
theorem dX2_putBit_8 : decode cX2_putBit 8 = .ok (.iload_n 1, 1) := by decide +kernel
theorem dX2_putBit_9 : decode cX2_putBit 9 = .ok (.aload_n 0, 1) := by decide +kernel
theorem dX2_putBit_10 : decode cX2_putBit 10 = .ok (.invokevirtual 26, 3) := by decide +kernel
theorem dX2_putBit_13 : decode cX2_putBit 13 = .ok (.irem, 1) := by decide +kernel
theorem dX2_putBit_14 : decode cX2_putBit 14 = .ok (.lshl, 1) := by decide +kernel
theorem dX2_putBit_15 : decode cX2_putBit 15 = .ok (.lstore 4, 2) := by decide +kernel
theorem dX2_putBit_17 : decode cX2_putBit 17 = .ok (.aload_n 0, 1) := by decide +kernel
theorem dX2_putBit_18 : decode cX2_putBit 18 = .ok (.iload_n 3, 1) := by decide +kernel
theorem dX2_putBit_19 : decode cX2_putBit 19 = .ok (.iload_n 2, 1) := by decide +kernel
theorem dX2_putBit_20 : decode cX2_putBit 20 = .ok (.iconst 1, 1) := by decide +kernel
theorem dX2_putBit_21 : decode cX2_putBit 21 = .ok (.if_icmp .ne 15, 3) := by decide +kernel
theorem dX2_putBit_24 : decode cX2_putBit 24 = .ok (.aload_n 0, 1) := by decide +kernel
theorem dX2_putBit_25 : decode cX2_putBit 25 = .ok (.getfield 9, 3) := by decide +kernel
theorem dX2_putBit_28 : decode cX2_putBit 28 = .ok (.iload_n 3, 1) := by decide +kernel
theorem dX2_putBit_29 : decode cX2_putBit 29 = .ok (.laload, 1) := by decide +kernel
theorem dX2_putBit_30 : decode cX2_putBit 30 = .ok (.lload 4, 2) := by decide +kernel
theorem dX2_putBit_32 : decode cX2_putBit 32 = .ok (.lor, 1) := by decide +kernel
theorem dX2_putBit_33 : decode cX2_putBit 33 = .ok (.goto 16, 3) := by decide +kernel
theorem dX2_putBit_36 : decode cX2_putBit 36 = .ok (.aload_n 0, 1) := by decide +kernel
theorem dX2_putBit_37 : decode cX2_putBit 37 = .ok (.getfield 9, 3) := by decide +kernel
theorem dX2_putBit_40 : decode cX2_putBit 40 = .ok (.iload_n 3, 1) := by decide +kernel
theorem dX2_putBit_41 : decode cX2_putBit 41 = .ok (.laload, 1) := by decide +kernel
theorem dX2_putBit_42 : decode cX2_putBit 42 = .ok (.lload 4, 2) := by decide +kernel
theorem dX2_putBit_44 : decode cX2_putBit 44 = .ok (.ldc2_w 30, 3) := by decide +kernel
theorem dX2_putBit_47 : decode cX2_putBit 47 = .ok (.lxor, 1) := by decide +kernel
theorem dX2_putBit_48 : decode cX2_putBit 48 = .ok (.land, 1) := by decide +kernel
theorem dX2_putBit_49 : decode cX2_putBit 49 = .ok (.invokevirtual 32, 3) := by decide +kernel
theorem dX2_putBit_52 : decode cX2_putBit 52 = .ok (.return_, 1) := by decide +kernel
