theorem dX3_init__58 : decode cX3_init_ 58 = .ok (.lrem, 1) := by decide +kernel
theorem dX3_init__59 : decode cX3_init_ 59 = .ok (.lconst 0, 1) := by decide +kernel
theorem dX3_init__60 : decode cX3_init_ 60 = .ok (.lcmp, 1) := by decide +kernel
theorem dX3_init__61 : decode cX3_init_ 61 = .ok (.ifCond .eq 20, 3) := by decide +kernel
theorem dX3_init__64 : decode cX3_init_ 64 = .ok (.iload_n 1, 1) := by decide +kernel
theorem dX3_init__65 : decode cX3_init_ 65 = .ok (.ifCond .eq 18, 3) := by decide +kernel
theorem dX3_init__68 : decode cX3_init_ 68 = .ok (.aload_n 0, 1) := by decide +kernel
theorem dX3_init__69 : decode cX3_init_ 69 = .ok (.getfield 13, 3) := by decide +kernel
theorem dX3_init__72 : decode cX3_init_ 72 = .ok (.iconst 0, 1) := by decide +kernel
theorem dX3_init__73 : decode cX3_init_ 73 = .ok (.laload, 1) := by decide +kernel
theorem dX3_init__74 : decode cX3_init_ 74 = .ok (.ldc2_w 65, 3) := by decide +kernel
theorem dX3_init__77 : decode cX3_init_ 77 = .ok (.lcmp, 1) := by decide +kernel
theorem dX3_init__78 : decode cX3_init_ 78 = .ok (.ifCond .ge 5, 3) := by decide +kernel
theorem dX3_init__81 : decode cX3_init_ 81 = .ok (.iconst 1, 1) := by decide +kernel
theorem dX3_init__82 : decode cX3_init_ 82 = .ok (.ireturn, 1) := by decide +kernel
theorem dX3_init__83 : decode cX3_init_ 83 = .ok (.aload_n 0, 1) := by decide +kernel
theorem dX3_init__84 : decode cX3_init_ 84 = .ok (.iconst 1, 1) := by decide +kernel
theorem dX3_init__85 : decode cX3_init_ 85 = .ok (.putfield 55, 3) := by decide +kernel
theorem dX3_init__88 : decode cX3_init_ 88 = .ok (.iconst 0, 1) := by decide +kernel
theorem dX3_init__89 : decode cX3_init_ 89 = .ok (.ireturn, 1) := by decide +kernel
theorem dX3_ready_0 : decode cX3_ready 0 = .ok (.aload_n 0, 1) := by decide +kernel
theorem dX3_ready_1 : decode cX3_ready 1 = .ok (.getfield 55, 3) := by decide +kernel
theorem dX3_ready_4 : decode cX3_ready 4 = .ok (.ireturn, 1) := by decide +kernel
set_option maxRecDepth 20000 in
theorem ggX3_poke_X3_isRegister : GoodIn wsX3_poke wsX3_isRegister := goodIn_r _ [7, 8, 18, 19, 20, 21, 22, 23, 24, 25, 26, 27, 28] (by decide +kernel) (by decide +kernel)
set_option maxRecDepth 20000 in
theorem gX3_poke_X3_isRegister : GoodIn wsX3_poke (wsV RX3 67 RX3 yX3_isRegister wsX3_isRegister) := goodIn_app (goodIn_of _ (by decide +kernel)) ggX3_poke_X3_isRegister
set_option maxRecDepth 20000 in
theorem ggX3_poke_X3_isLimb : GoodIn wsX3_poke wsX3_isLimb := goodIn_r _ [12, 13, 18, 19, 20, 21, 22, 23, 24, 25, 26, 27, 28] (by decide +kernel) (by decide +kernel)
set_option maxRecDepth 20000 in
theorem gX3_poke_X3_isLimb : GoodIn wsX3_poke (wsV RX3 45 RX3 yX3_isLimb wsX3_isLimb) := goodIn_app (goodIn_of _ (by decide +kernel)) ggX3_poke_X3_isLimb
set_option maxRecDepth 20000 in
theorem ggX3_poke_X3_placeOf : GoodIn wsX3_poke wsX3_placeOf := goodIn_r _ [17] (by decide +kernel) (by decide +kernel)
set_option maxRecDepth 20000 in
theorem gX3_poke_X3_placeOf : GoodIn wsX3_poke (wsV RX3 70 RX3 yX3_placeOf wsX3_placeOf) := goodIn_app (goodIn_of _ (by decide +kernel)) ggX3_poke_X3_placeOf
theorem dX3_poke_0 : decode cX3_poke 0 = .ok (.aload_n 0, 1) := by decide +kernel
theorem dX3_poke_1 : decode cX3_poke 1 = .ok (.iload_n 1, 1) := by decide +kernel
theorem dX3_poke_2 : decode cX3_poke 2 = .ok (.invokevirtual 67, 3) := by decide +kernel
theorem dX3_poke_5 : decode cX3_poke 5 = .ok (.ifCond .eq 11, 3) := by decide +kernel
theorem dX3_poke_8 : decode cX3_poke 8 = .ok (.aload_n 0, 1) := by decide +kernel
theorem dX3_poke_9 : decode cX3_poke 9 = .ok (.iload_n 2, 1) := by decide +kernel
theorem dX3_poke_10 : decode cX3_poke 10 = .ok (.invokevirtual 45, 3) := by decide +kernel
theorem dX3_poke_13 : decode cX3_poke 13 = .ok (.ifCond .ne 5, 3) := by decide +kernel
theorem dX3_poke_16 : decode cX3_poke 16 = .ok (.iconst 0, 1) := by decide +kernel
theorem dX3_poke_17 : decode cX3_poke 17 = .ok (.ireturn, 1) := by decide +kernel
theorem dX3_poke_18 : decode cX3_poke 18 = .ok (.aload_n 0, 1) := by decide +kernel
theorem dX3_poke_19 : decode cX3_poke 19 = .ok (.getfield 7, 3) := by decide +kernel
theorem dX3_poke_22 : decode cX3_poke 22 = .ok (.aload_n 0, 1) := by decide +kernel
theorem dX3_poke_23 : decode cX3_poke 23 = .ok (.iload_n 1, 1) := by decide +kernel
theorem dX3_poke_24 : decode cX3_poke 24 = .ok (.invokevirtual 70, 3) := by decide +kernel
theorem dX3_poke_27 : decode cX3_poke 27 = .ok (.iload_n 2, 1) := by decide +kernel
theorem dX3_poke_28 : decode cX3_poke 28 = .ok (.iadd, 1) := by decide +kernel
theorem dX3_poke_29 : decode cX3_poke 29 = .ok (.iload_n 3, 1) := by decide +kernel
theorem dX3_poke_30 : decode cX3_poke 30 = .ok (.i2l, 1) := by decide +kernel
theorem dX3_poke_31 : decode cX3_poke 31 = .ok (.ldc2_w 53, 3) := by decide +kernel
theorem dX3_poke_34 : decode cX3_poke 34 = .ok (.land, 1) := by decide +kernel
theorem dX3_poke_35 : decode cX3_poke 35 = .ok (.lastore, 1) := by decide +kernel
theorem dX3_poke_36 : decode cX3_poke 36 = .ok (.iconst 1, 1) := by decide +kernel
theorem dX3_poke_37 : decode cX3_poke 37 = .ok (.ireturn, 1) := by decide +kernel
set_option maxRecDepth 20000 in
theorem ggX3_peek_X3_isRegister : GoodIn wsX3_peek wsX3_isRegister := goodIn_r _ [6, 7, 17, 18, 19, 20, 21, 22, 23, 24, 25, 26, 27] (by decide +kernel) (by decide +kernel)
set_option maxRecDepth 20000 in
theorem gX3_peek_X3_isRegister : GoodIn wsX3_peek (wsV RX3 67 RX3 yX3_isRegister wsX3_isRegister) := goodIn_app (goodIn_of _ (by decide +kernel)) ggX3_peek_X3_isRegister
set_option maxRecDepth 20000 in
theorem ggX3_peek_X3_isLimb : GoodIn wsX3_peek wsX3_isLimb := goodIn_r _ [11, 12, 17, 18, 19, 20, 21, 22, 23, 24, 25, 26, 27] (by decide +kernel) (by decide +kernel)
set_option maxRecDepth 20000 in
theorem gX3_peek_X3_isLimb : GoodIn wsX3_peek (wsV RX3 45 RX3 yX3_isLimb wsX3_isLimb) := goodIn_app (goodIn_of _ (by decide +kernel)) ggX3_peek_X3_isLimb
set_option maxRecDepth 20000 in
theorem ggX3_peek_X3_placeOf : GoodIn wsX3_peek wsX3_placeOf := goodIn_r _ [16] (by decide +kernel) (by decide +kernel)
set_option maxRecDepth 20000 in
theorem gX3_peek_X3_placeOf : GoodIn wsX3_peek (wsV RX3 70 RX3 yX3_placeOf wsX3_placeOf) := goodIn_app (goodIn_of _ (by decide +kernel)) ggX3_peek_X3_placeOf
theorem dX3_peek_0 : decode cX3_peek 0 = .ok (.aload_n 0, 1) := by decide +kernel
theorem dX3_peek_1 : decode cX3_peek 1 = .ok (.iload_n 1, 1) := by decide +kernel
theorem dX3_peek_2 : decode cX3_peek 2 = .ok (.invokevirtual 67, 3) := by decide +kernel
theorem dX3_peek_5 : decode cX3_peek 5 = .ok (.ifCond .eq 27, 3) := by decide +kernel
theorem dX3_peek_8 : decode cX3_peek 8 = .ok (.aload_n 0, 1) := by decide +kernel
theorem dX3_peek_9 : decode cX3_peek 9 = .ok (.iload_n 2, 1) := by decide +kernel
theorem dX3_peek_10 : decode cX3_peek 10 = .ok (.invokevirtual 45, 3) := by decide +kernel
theorem dX3_peek_13 : decode cX3_peek 13 = .ok (.ifCond .eq 19, 3) := by decide +kernel
theorem dX3_peek_16 : decode cX3_peek 16 = .ok (.aload_n 0, 1) := by decide +kernel
theorem dX3_peek_17 : decode cX3_peek 17 = .ok (.getfield 7, 3) := by decide +kernel
theorem dX3_peek_20 : decode cX3_peek 20 = .ok (.aload_n 0, 1) := by decide +kernel
theorem dX3_peek_21 : decode cX3_peek 21 = .ok (.iload_n 1, 1) := by decide +kernel
theorem dX3_peek_22 : decode cX3_peek 22 = .ok (.invokevirtual 70, 3) := by decide +kernel
theorem dX3_peek_25 : decode cX3_peek 25 = .ok (.iload_n 2, 1) := by decide +kernel
theorem dX3_peek_26 : decode cX3_peek 26 = .ok (.iadd, 1) := by decide +kernel
theorem dX3_peek_27 : decode cX3_peek 27 = .ok (.laload, 1) := by decide +kernel
theorem dX3_peek_28 : decode cX3_peek 28 = .ok (.l2i, 1) := by decide +kernel
theorem dX3_peek_29 : decode cX3_peek 29 = .ok (.goto 4, 3) := by decide +kernel
theorem dX3_peek_32 : decode cX3_peek 32 = .ok (.iconst 0, 1) := by decide +kernel
theorem dX3_peek_33 : decode cX3_peek 33 = .ok (.ireturn, 1) := by decide +kernel
theorem dX3_read_0 : decode cX3_read 0 = .ok (.iconst 0, 1) := by decide +kernel
theorem dX3_read_1 : decode cX3_read 1 = .ok (.istore_n 3, 1) := by decide +kernel
theorem dX3_read_2 : decode cX3_read 2 = .ok (.iload_n 3, 1) := by decide +kernel
theorem dX3_read_3 : decode cX3_read 3 = .ok (.bipush 9, 2) := by decide +kernel
theorem dX3_read_5 : decode cX3_read 5 = .ok (.if_icmp .ge 20, 3) := by decide +kernel
theorem dX3_read_8 : decode cX3_read 8 = .ok (.aload_n 1, 1) := by decide +kernel
theorem dX3_read_9 : decode cX3_read 9 = .ok (.iload_n 3, 1) := by decide +kernel
theorem dX3_read_10 : decode cX3_read 10 = .ok (.aload_n 0, 1) := by decide +kernel
theorem dX3_read_11 : decode cX3_read 11 = .ok (.getfield 7, 3) := by decide +kernel
theorem dX3_read_14 : decode cX3_read 14 = .ok (.iload_n 2, 1) := by decide +kernel
theorem dX3_read_15 : decode cX3_read 15 = .ok (.iload_n 3, 1) := by decide +kernel
theorem dX3_read_16 : decode cX3_read 16 = .ok (.iadd, 1) := by decide +kernel
theorem dX3_read_17 : decode cX3_read 17 = .ok (.laload, 1) := by decide +kernel
theorem dX3_read_18 : decode cX3_read 18 = .ok (.lastore, 1) := by decide +kernel
theorem dX3_read_19 : decode cX3_read 19 = .ok (.iinc 3 1, 3) := by decide +kernel
theorem dX3_read_22 : decode cX3_read 22 = .ok (.goto (-20), 3) := by decide +kernel
theorem dX3_read_25 : decode cX3_read 25 = .ok (.return_, 1) := by decide +kernel
set_option maxRecDepth 20000 in
theorem ggX3_write_X3_placeOf : GoodIn wsX3_write wsX3_placeOf := goodIn_r _ [6] (by decide +kernel) (by decide +kernel)
set_option maxRecDepth 20000 in
theorem gX3_write_X3_placeOf : GoodIn wsX3_write (wsV RX3 70 RX3 yX3_placeOf wsX3_placeOf) := goodIn_app (goodIn_of _ (by decide +kernel)) ggX3_write_X3_placeOf
theorem dX3_write_0 : decode cX3_write 0 = .ok (.iconst 0, 1) := by decide +kernel
theorem dX3_write_1 : decode cX3_write 1 = .ok (.istore_n 3, 1) := by decide +kernel
theorem dX3_write_2 : decode cX3_write 2 = .ok (.iload_n 3, 1) := by decide +kernel
theorem dX3_write_3 : decode cX3_write 3 = .ok (.bipush 9, 2) := by decide +kernel
theorem dX3_write_5 : decode cX3_write 5 = .ok (.if_icmp .ge 24, 3) := by decide +kernel
theorem dX3_write_8 : decode cX3_write 8 = .ok (.aload_n 0, 1) := by decide +kernel
theorem dX3_write_9 : decode cX3_write 9 = .ok (.getfield 7, 3) := by decide +kernel
theorem dX3_write_12 : decode cX3_write 12 = .ok (.aload_n 0, 1) := by decide +kernel
theorem dX3_write_13 : decode cX3_write 13 = .ok (.iload_n 1, 1) := by decide +kernel
theorem dX3_write_14 : decode cX3_write 14 = .ok (.invokevirtual 70, 3) := by decide +kernel
theorem dX3_write_17 : decode cX3_write 17 = .ok (.iload_n 3, 1) := by decide +kernel
theorem dX3_write_18 : decode cX3_write 18 = .ok (.iadd, 1) := by decide +kernel
theorem dX3_write_19 : decode cX3_write 19 = .ok (.aload_n 2, 1) := by decide +kernel
theorem dX3_write_20 : decode cX3_write 20 = .ok (.iload_n 3, 1) := by decide +kernel
theorem dX3_write_21 : decode cX3_write 21 = .ok (.laload, 1) := by decide +kernel
theorem dX3_write_22 : decode cX3_write 22 = .ok (.lastore, 1) := by decide +kernel
theorem dX3_write_23 : decode cX3_write 23 = .ok (.iinc 3 1, 3) := by decide +kernel
theorem dX3_write_26 : decode cX3_write 26 = .ok (.goto (-24), 3) := by decide +kernel
theorem dX3_write_29 : decode cX3_write 29 = .ok (.return_, 1) := by decide +kernel
theorem dX3_copy_0 : decode cX3_copy 0 = .ok (.iconst 0, 1) := by decide +kernel
theorem dX3_copy_1 : decode cX3_copy 1 = .ok (.istore_n 2, 1) := by decide +kernel
theorem dX3_copy_2 : decode cX3_copy 2 = .ok (.iload_n 2, 1) := by decide +kernel
theorem dX3_copy_3 : decode cX3_copy 3 = .ok (.bipush 9, 2) := by decide +kernel
theorem dX3_copy_5 : decode cX3_copy 5 = .ok (.if_icmp .ge 15, 3) := by decide +kernel
theorem dX3_copy_8 : decode cX3_copy 8 = .ok (.aload_n 0, 1) := by decide +kernel
theorem dX3_copy_9 : decode cX3_copy 9 = .ok (.iload_n 2, 1) := by decide +kernel
theorem dX3_copy_10 : decode cX3_copy 10 = .ok (.aload_n 1, 1) := by decide +kernel
theorem dX3_copy_11 : decode cX3_copy 11 = .ok (.iload_n 2, 1) := by decide +kernel
theorem dX3_copy_12 : decode cX3_copy 12 = .ok (.laload, 1) := by decide +kernel
theorem dX3_copy_13 : decode cX3_copy 13 = .ok (.lastore, 1) := by decide +kernel
theorem dX3_copy_14 : decode cX3_copy 14 = .ok (.iinc 2 1, 3) := by decide +kernel
theorem dX3_copy_17 : decode cX3_copy 17 = .ok (.goto (-15), 3) := by decide +kernel
theorem dX3_copy_20 : decode cX3_copy 20 = .ok (.return_, 1) := by decide +kernel
theorem dX3_be_0 : decode cX3_be 0 = .ok (.iconst 0, 1) := by decide +kernel
theorem dX3_be_1 : decode cX3_be 1 = .ok (.istore_n 3, 1) := by decide +kernel
theorem dX3_be_2 : decode cX3_be 2 = .ok (.iload_n 3, 1) := by decide +kernel
theorem dX3_be_3 : decode cX3_be 3 = .ok (.bipush 9, 2) := by decide +kernel
theorem dX3_be_5 : decode cX3_be 5 = .ok (.if_icmp .ge 21, 3) := by decide +kernel
theorem dX3_be_8 : decode cX3_be 8 = .ok (.aload_n 0, 1) := by decide +kernel
theorem dX3_be_9 : decode cX3_be 9 = .ok (.iload_n 3, 1) := by decide +kernel
theorem dX3_be_10 : decode cX3_be 10 = .ok (.iload_n 3, 1) := by decide +kernel
theorem dX3_be_11 : decode cX3_be 11 = .ok (.ifCond .ne 7, 3) := by decide +kernel
theorem dX3_be_14 : decode cX3_be 14 = .ok (.lload_n 1, 1) := by decide +kernel
theorem dX3_be_15 : decode cX3_be 15 = .ok (.goto 4, 3) := by decide +kernel
theorem dX3_be_18 : decode cX3_be 18 = .ok (.lconst 0, 1) := by decide +kernel
theorem dX3_be_19 : decode cX3_be 19 = .ok (.lastore, 1) := by decide +kernel
theorem dX3_be_20 : decode cX3_be 20 = .ok (.iinc 3 1, 3) := by decide +kernel
theorem dX3_be_23 : decode cX3_be 23 = .ok (.goto (-21), 3) := by decide +kernel
theorem dX3_be_26 : decode cX3_be 26 = .ok (.return_, 1) := by decide +kernel
theorem dX3_compared_0 : decode cX3_compared 0 = .ok (.bipush 8, 2) := by decide +kernel
theorem dX3_compared_2 : decode cX3_compared 2 = .ok (.istore_n 2, 1) := by decide +kernel
theorem dX3_compared_3 : decode cX3_compared 3 = .ok (.iload_n 2, 1) := by decide +kernel
theorem dX3_compared_4 : decode cX3_compared 4 = .ok (.ifCond .lt 35, 3) := by decide +kernel
theorem dX3_compared_7 : decode cX3_compared 7 = .ok (.aload_n 0, 1) := by decide +kernel
theorem dX3_compared_8 : decode cX3_compared 8 = .ok (.iload_n 2, 1) := by decide +kernel
theorem dX3_compared_9 : decode cX3_compared 9 = .ok (.laload, 1) := by decide +kernel
theorem dX3_compared_10 : decode cX3_compared 10 = .ok (.aload_n 1, 1) := by decide +kernel
theorem dX3_compared_11 : decode cX3_compared 11 = .ok (.iload_n 2, 1) := by decide +kernel
theorem dX3_compared_12 : decode cX3_compared 12 = .ok (.laload, 1) := by decide +kernel
theorem dX3_compared_13 : decode cX3_compared 13 = .ok (.lcmp, 1) := by decide +kernel
theorem dX3_compared_14 : decode cX3_compared 14 = .ok (.ifCond .eq 19, 3) := by decide +kernel
theorem dX3_compared_17 : decode cX3_compared 17 = .ok (.aload_n 0, 1) := by decide +kernel
theorem dX3_compared_18 : decode cX3_compared 18 = .ok (.iload_n 2, 1) := by decide +kernel
theorem dX3_compared_19 : decode cX3_compared 19 = .ok (.laload, 1) := by decide +kernel
theorem dX3_compared_20 : decode cX3_compared 20 = .ok (.aload_n 1, 1) := by decide +kernel
theorem dX3_compared_21 : decode cX3_compared 21 = .ok (.iload_n 2, 1) := by decide +kernel
theorem dX3_compared_22 : decode cX3_compared 22 = .ok (.laload, 1) := by decide +kernel
theorem dX3_compared_23 : decode cX3_compared 23 = .ok (.lcmp, 1) := by decide +kernel
theorem dX3_compared_24 : decode cX3_compared 24 = .ok (.ifCond .ge 7, 3) := by decide +kernel
theorem dX3_compared_27 : decode cX3_compared 27 = .ok (.iconst (-1), 1) := by decide +kernel
theorem dX3_compared_28 : decode cX3_compared 28 = .ok (.goto 4, 3) := by decide +kernel
theorem dX3_compared_31 : decode cX3_compared 31 = .ok (.iconst 1, 1) := by decide +kernel
theorem dX3_compared_32 : decode cX3_compared 32 = .ok (.ireturn, 1) := by decide +kernel
theorem dX3_compared_33 : decode cX3_compared 33 = .ok (.iinc 2 (-1), 3) := by decide +kernel
theorem dX3_compared_36 : decode cX3_compared 36 = .ok (.goto (-33), 3) := by decide +kernel
theorem dX3_compared_39 : decode cX3_compared 39 = .ok (.iconst 0, 1) := by decide +kernel
theorem dX3_compared_40 : decode cX3_compared 40 = .ok (.ireturn, 1) := by decide +kernel
theorem dX3_isNought_0 : decode cX3_isNought 0 = .ok (.iconst 1, 1) := by decide +kernel
theorem dX3_isNought_1 : decode cX3_isNought 1 = .ok (.istore_n 1, 1) := by decide +kernel
theorem dX3_isNought_2 : decode cX3_isNought 2 = .ok (.iconst 0, 1) := by decide +kernel
theorem dX3_isNought_3 : decode cX3_isNought 3 = .ok (.istore_n 2, 1) := by decide +kernel
theorem dX3_isNought_4 : decode cX3_isNought 4 = .ok (.iload_n 2, 1) := by decide +kernel
theorem dX3_isNought_5 : decode cX3_isNought 5 = .ok (.bipush 9, 2) := by decide +kernel
theorem dX3_isNought_7 : decode cX3_isNought 7 = .ok (.if_icmp .ge 27, 3) := by decide +kernel
theorem dX3_isNought_10 : decode cX3_isNought 10 = .ok (.iload_n 1, 1) := by decide +kernel
theorem dX3_isNought_11 : decode cX3_isNought 11 = .ok (.ifCond .eq 15, 3) := by decide +kernel
theorem dX3_isNought_14 : decode cX3_isNought 14 = .ok (.aload_n 0, 1) := by decide +kernel
theorem dX3_isNought_15 : decode cX3_isNought 15 = .ok (.iload_n 2, 1) := by decide +kernel
theorem dX3_isNought_16 : decode cX3_isNought 16 = .ok (.laload, 1) := by decide +kernel
theorem dX3_isNought_17 : decode cX3_isNought 17 = .ok (.lconst 0, 1) := by decide +kernel
theorem dX3_isNought_18 : decode cX3_isNought 18 = .ok (.lcmp, 1) := by decide +kernel
theorem dX3_isNought_19 : decode cX3_isNought 19 = .ok (.ifCond .ne 7, 3) := by decide +kernel
theorem dX3_isNought_22 : decode cX3_isNought 22 = .ok (.iconst 1, 1) := by decide +kernel
theorem dX3_isNought_23 : decode cX3_isNought 23 = .ok (.goto 4, 3) := by decide +kernel
theorem dX3_isNought_26 : decode cX3_isNought 26 = .ok (.iconst 0, 1) := by decide +kernel
theorem dX3_isNought_27 : decode cX3_isNought 27 = .ok (.istore_n 1, 1) := by decide +kernel
theorem dX3_isNought_28 : decode cX3_isNought 28 = .ok (.iinc 2 1, 3) := by decide +kernel
theorem dX3_isNought_31 : decode cX3_isNought 31 = .ok (.goto (-27), 3) := by decide +kernel
theorem dX3_isNought_34 : decode cX3_isNought 34 = .ok (.iload_n 1, 1) := by decide +kernel
theorem dX3_isNought_35 : decode cX3_isNought 35 = .ok (.ireturn, 1) := by decide +kernel
theorem dX3_isOne_0 : decode cX3_isOne 0 = .ok (.aload_n 0, 1) := by decide +kernel
theorem dX3_isOne_1 : decode cX3_isOne 1 = .ok (.iconst 0, 1) := by decide +kernel
theorem dX3_isOne_2 : decode cX3_isOne 2 = .ok (.laload, 1) := by decide +kernel
theorem dX3_isOne_3 : decode cX3_isOne 3 = .ok (.lconst 1, 1) := by decide +kernel
theorem dX3_isOne_4 : decode cX3_isOne 4 = .ok (.lcmp, 1) := by decide +kernel
theorem dX3_isOne_5 : decode cX3_isOne 5 = .ok (.ifCond .ne 7, 3) := by decide +kernel
theorem dX3_isOne_8 : decode cX3_isOne 8 = .ok (.iconst 1, 1) := by decide +kernel
theorem dX3_isOne_9 : decode cX3_isOne 9 = .ok (.goto 4, 3) := by decide +kernel
theorem dX3_isOne_12 : decode cX3_isOne 12 = .ok (.iconst 0, 1) := by decide +kernel
theorem dX3_isOne_13 : decode cX3_isOne 13 = .ok (.istore_n 1, 1) := by decide +kernel
theorem dX3_isOne_14 : decode cX3_isOne 14 = .ok (.iconst 1, 1) := by decide +kernel
theorem dX3_isOne_15 : decode cX3_isOne 15 = .ok (.istore_n 2, 1) := by decide +kernel
theorem dX3_isOne_16 : decode cX3_isOne 16 = .ok (.iload_n 2, 1) := by decide +kernel
theorem dX3_isOne_17 : decode cX3_isOne 17 = .ok (.bipush 9, 2) := by decide +kernel
theorem dX3_isOne_19 : decode cX3_isOne 19 = .ok (.if_icmp .ge 27, 3) := by decide +kernel
theorem dX3_isOne_22 : decode cX3_isOne 22 = .ok (.iload_n 1, 1) := by decide +kernel
theorem dX3_isOne_23 : decode cX3_isOne 23 = .ok (.ifCond .eq 15, 3) := by decide +kernel
theorem dX3_isOne_26 : decode cX3_isOne 26 = .ok (.aload_n 0, 1) := by decide +kernel
theorem dX3_isOne_27 : decode cX3_isOne 27 = .ok (.iload_n 2, 1) := by decide +kernel
theorem dX3_isOne_28 : decode cX3_isOne 28 = .ok (.laload, 1) := by decide +kernel
theorem dX3_isOne_29 : decode cX3_isOne 29 = .ok (.lconst 0, 1) := by decide +kernel
theorem dX3_isOne_30 : decode cX3_isOne 30 = .ok (.lcmp, 1) := by decide +kernel
theorem dX3_isOne_31 : decode cX3_isOne 31 = .ok (.ifCond .ne 7, 3) := by decide +kernel
theorem dX3_isOne_34 : decode cX3_isOne 34 = .ok (.iconst 1, 1) := by decide +kernel
theorem dX3_isOne_35 : decode cX3_isOne 35 = .ok (.goto 4, 3) := by decide +kernel
theorem dX3_isOne_38 : decode cX3_isOne 38 = .ok (.iconst 0, 1) := by decide +kernel
theorem dX3_isOne_39 : decode cX3_isOne 39 = .ok (.istore_n 1, 1) := by decide +kernel
theorem dX3_isOne_40 : decode cX3_isOne 40 = .ok (.iinc 2 1, 3) := by decide +kernel
theorem dX3_isOne_43 : decode cX3_isOne 43 = .ok (.goto (-27), 3) := by decide +kernel
theorem dX3_isOne_46 : decode cX3_isOne 46 = .ok (.iload_n 1, 1) := by decide +kernel
theorem dX3_isOne_47 : decode cX3_isOne 47 = .ok (.ireturn, 1) := by decide +kernel
theorem dX3_plus_0 : decode cX3_plus 0 = .ok (.lconst 0, 1) := by decide +kernel
theorem dX3_plus_1 : decode cX3_plus 1 = .ok (.lstore_n 2, 1) := by decide +kernel
theorem dX3_plus_2 : decode cX3_plus 2 = .ok (.iconst 0, 1) := by decide +kernel
theorem dX3_plus_3 : decode cX3_plus 3 = .ok (.istore 4, 2) := by decide +kernel
theorem dX3_plus_5 : decode cX3_plus 5 = .ok (.iload 4, 2) := by decide +kernel
theorem dX3_plus_7 : decode cX3_plus 7 = .ok (.bipush 9, 2) := by decide +kernel
theorem dX3_plus_9 : decode cX3_plus 9 = .ok (.if_icmp .ge 38, 3) := by decide +kernel
theorem dX3_plus_12 : decode cX3_plus 12 = .ok (.aload_n 0, 1) := by decide +kernel
theorem dX3_plus_13 : decode cX3_plus 13 = .ok (.iload 4, 2) := by decide +kernel
theorem dX3_plus_15 : decode cX3_plus 15 = .ok (.laload, 1) := by decide +kernel
theorem dX3_plus_16 : decode cX3_plus 16 = .ok (.aload_n 1, 1) := by decide +kernel
theorem dX3_plus_17 : decode cX3_plus 17 = .ok (.iload 4, 2) := by decide +kernel
theorem dX3_plus_19 : decode cX3_plus 19 = .ok (.laload, 1) := by decide +kernel
theorem dX3_plus_20 : decode cX3_plus 20 = .ok (.ladd, 1) := by decide +kernel
theorem dX3_plus_21 : decode cX3_plus 21 = .ok (.lload_n 2, 1) := by decide +kernel
theorem dX3_plus_22 : decode cX3_plus 22 = .ok (.ladd, 1) := by decide +kernel
theorem dX3_plus_23 : decode cX3_plus 23 = .ok (.lstore 5, 2) := by decide +kernel
theorem dX3_plus_25 : decode cX3_plus 25 = .ok (.aload_n 0, 1) := by decide +kernel
theorem dX3_plus_26 : decode cX3_plus 26 = .ok (.iload 4, 2) := by decide +kernel
theorem dX3_plus_28 : decode cX3_plus 28 = .ok (.lload 5, 2) := by decide +kernel
theorem dX3_plus_30 : decode cX3_plus 30 = .ok (.ldc2_w 53, 3) := by decide +kernel
theorem dX3_plus_33 : decode cX3_plus 33 = .ok (.land, 1) := by decide +kernel
theorem dX3_plus_34 : decode cX3_plus 34 = .ok (.lastore, 1) := by decide +kernel
theorem dX3_plus_35 : decode cX3_plus 35 = .ok (.lload 5, 2) := by decide +kernel
theorem dX3_plus_37 : decode cX3_plus 37 = .ok (.bipush 32, 2) := by decide +kernel
theorem dX3_plus_39 : decode cX3_plus 39 = .ok (.lushr, 1) := by decide +kernel
theorem dX3_plus_40 : decode cX3_plus 40 = .ok (.lstore_n 2, 1) := by decide +kernel
theorem dX3_plus_41 : decode cX3_plus 41 = .ok (.iinc 4 1, 3) := by decide +kernel
theorem dX3_plus_44 : decode cX3_plus 44 = .ok (.goto (-39), 3) := by decide +kernel
theorem dX3_plus_47 : decode cX3_plus 47 = .ok (.return_, 1) := by decide +kernel
theorem dX3_minus_0 : decode cX3_minus 0 = .ok (.lconst 0, 1) := by decide +kernel
theorem dX3_minus_1 : decode cX3_minus 1 = .ok (.lstore_n 2, 1) := by decide +kernel
theorem dX3_minus_2 : decode cX3_minus 2 = .ok (.iconst 0, 1) := by decide +kernel
theorem dX3_minus_3 : decode cX3_minus 3 = .ok (.istore 4, 2) := by decide +kernel
theorem dX3_minus_5 : decode cX3_minus 5 = .ok (.iload 4, 2) := by decide +kernel
theorem dX3_minus_7 : decode cX3_minus 7 = .ok (.bipush 9, 2) := by decide +kernel
theorem dX3_minus_9 : decode cX3_minus 9 = .ok (.if_icmp .ge 45, 3) := by decide +kernel
theorem dX3_minus_12 : decode cX3_minus 12 = .ok (.aload_n 0, 1) := by decide +kernel
theorem dX3_minus_13 : decode cX3_minus 13 = .ok (.iload 4, 2) := by decide +kernel
theorem dX3_minus_15 : decode cX3_minus 15 = .ok (.laload, 1) := by decide +kernel
theorem dX3_minus_16 : decode cX3_minus 16 = .ok (.aload_n 1, 1) := by decide +kernel
theorem dX3_minus_17 : decode cX3_minus 17 = .ok (.iload 4, 2) := by decide +kernel
theorem dX3_minus_19 : decode cX3_minus 19 = .ok (.laload, 1) := by decide +kernel
theorem dX3_minus_20 : decode cX3_minus 20 = .ok (.lsub, 1) := by decide +kernel
theorem dX3_minus_21 : decode cX3_minus 21 = .ok (.lload_n 2, 1) := by decide +kernel
theorem dX3_minus_22 : decode cX3_minus 22 = .ok (.lsub, 1) := by decide +kernel
theorem dX3_minus_23 : decode cX3_minus 23 = .ok (.lstore 5, 2) := by decide +kernel
theorem dX3_minus_25 : decode cX3_minus 25 = .ok (.aload_n 0, 1) := by decide +kernel
theorem dX3_minus_26 : decode cX3_minus 26 = .ok (.iload 4, 2) := by decide +kernel
theorem dX3_minus_28 : decode cX3_minus 28 = .ok (.lload 5, 2) := by decide +kernel
theorem dX3_minus_30 : decode cX3_minus 30 = .ok (.ldc2_w 53, 3) := by decide +kernel
theorem dX3_minus_33 : decode cX3_minus 33 = .ok (.land, 1) := by decide +kernel
theorem dX3_minus_34 : decode cX3_minus 34 = .ok (.lastore, 1) := by decide +kernel
theorem dX3_minus_35 : decode cX3_minus 35 = .ok (.lload 5, 2) := by decide +kernel
theorem dX3_minus_37 : decode cX3_minus 37 = .ok (.lconst 0, 1) := by decide +kernel
theorem dX3_minus_38 : decode cX3_minus 38 = .ok (.lcmp, 1) := by decide +kernel
theorem dX3_minus_39 : decode cX3_minus 39 = .ok (.ifCond .ge 7, 3) := by decide +kernel
theorem dX3_minus_42 : decode cX3_minus 42 = .ok (.lconst 1, 1) := by decide +kernel
theorem dX3_minus_43 : decode cX3_minus 43 = .ok (.goto 4, 3) := by decide +kernel
theorem dX3_minus_46 : decode cX3_minus 46 = .ok (.lconst 0, 1) := by decide +kernel
theorem dX3_minus_47 : decode cX3_minus 47 = .ok (.lstore_n 2, 1) := by decide +kernel
theorem dX3_minus_48 : decode cX3_minus 48 = .ok (.iinc 4 1, 3) := by decide +kernel
theorem dX3_minus_51 : decode cX3_minus 51 = .ok (.goto (-46), 3) := by decide +kernel
theorem dX3_minus_54 : decode cX3_minus 54 = .ok (.return_, 1) := by decide +kernel
theorem dX3_half_0 : decode cX3_half 0 = .ok (.lconst 0, 1) := by decide +kernel
theorem dX3_half_1 : decode cX3_half 1 = .ok (.lstore_n 1, 1) := by decide +kernel
theorem dX3_half_2 : decode cX3_half 2 = .ok (.bipush 8, 2) := by decide +kernel
theorem dX3_half_4 : decode cX3_half 4 = .ok (.istore_n 3, 1) := by decide +kernel
theorem dX3_half_5 : decode cX3_half 5 = .ok (.iload_n 3, 1) := by decide +kernel
theorem dX3_half_6 : decode cX3_half 6 = .ok (.ifCond .lt 31, 3) := by decide +kernel
theorem dX3_half_9 : decode cX3_half 9 = .ok (.aload_n 0, 1) := by decide +kernel
theorem dX3_half_10 : decode cX3_half 10 = .ok (.iload_n 3, 1) := by decide +kernel
theorem dX3_half_11 : decode cX3_half 11 = .ok (.laload, 1) := by decide +kernel
theorem dX3_half_12 : decode cX3_half 12 = .ok (.lload_n 1, 1) := by decide +kernel
theorem dX3_half_13 : decode cX3_half 13 = .ok (.bipush 32, 2) := by decide +kernel
theorem dX3_half_15 : decode cX3_half 15 = .ok (.lshl, 1) := by decide +kernel
theorem dX3_half_16 : decode cX3_half 16 = .ok (.ladd, 1) := by decide +kernel
theorem dX3_half_17 : decode cX3_half 17 = .ok (.lstore 4, 2) := by decide +kernel
theorem dX3_half_19 : decode cX3_half 19 = .ok (.aload_n 0, 1) := by decide +kernel
theorem dX3_half_20 : decode cX3_half 20 = .ok (.iload_n 3, 1) := by decide +kernel
theorem dX3_half_21 : decode cX3_half 21 = .ok (.lload 4, 2) := by decide +kernel
theorem dX3_half_23 : decode cX3_half 23 = .ok (.iconst 1, 1) := by decide +kernel
theorem dX3_half_24 : decode cX3_half 24 = .ok (.lushr, 1) := by decide +kernel
theorem dX3_half_25 : decode cX3_half 25 = .ok (.lastore, 1) := by decide +kernel
theorem dX3_half_26 : decode cX3_half 26 = .ok (.lload 4, 2) := by decide +kernel
theorem dX3_half_28 : decode cX3_half 28 = .ok (.lconst 1, 1) := by decide +kernel
theorem dX3_half_29 : decode cX3_half 29 = .ok (.land, 1) := by decide +kernel
theorem dX3_half_30 : decode cX3_half 30 = .ok (.lstore_n 1, 1) := by decide +kernel
theorem dX3_half_31 : decode cX3_half 31 = .ok (.iinc 3 (-1), 3) := by decide +kernel
theorem dX3_half_34 : decode cX3_half 34 = .ok (.goto (-29), 3) := by decide +kernel
theorem dX3_half_37 : decode cX3_half 37 = .ok (.return_, 1) := by decide +kernel
theorem dX3_bit_0 : decode cX3_bit 0 = .ok (.aload_n 0, 1) := by decide +kernel
theorem dX3_bit_1 : decode cX3_bit 1 = .ok (.iload_n 1, 1) := by decide +kernel
theorem dX3_bit_2 : decode cX3_bit 2 = .ok (.bipush 32, 2) := by decide +kernel
theorem dX3_bit_4 : decode cX3_bit 4 = .ok (.idiv, 1) := by decide +kernel
theorem dX3_bit_5 : decode cX3_bit 5 = .ok (.laload, 1) := by decide +kernel
theorem dX3_bit_6 : decode cX3_bit 6 = .ok (.iload_n 1, 1) := by decide +kernel
theorem dX3_bit_7 : decode cX3_bit 7 = .ok (.bipush 32, 2) := by decide +kernel
theorem dX3_bit_9 : decode cX3_bit 9 = .ok (.irem, 1) := by decide +kernel
theorem dX3_bit_10 : decode cX3_bit 10 = .ok (.lushr, 1) := by decide +kernel
theorem dX3_bit_11 : decode cX3_bit 11 = .ok (.lconst 1, 1) := by decide +kernel
theorem dX3_bit_12 : decode cX3_bit 12 = .ok (.land, 1) := by decide +kernel
theorem dX3_bit_13 : decode cX3_bit 13 = .ok (.lconst 1, 1) := by decide +kernel
theorem dX3_bit_14 : decode cX3_bit 14 = .ok (.lcmp, 1) := by decide +kernel
theorem dX3_bit_15 : decode cX3_bit 15 = .ok (.ifCond .ne 7, 3) := by decide +kernel
theorem dX3_bit_18 : decode cX3_bit 18 = .ok (.iconst 1, 1) := by decide +kernel
theorem dX3_bit_19 : decode cX3_bit 19 = .ok (.goto 4, 3) := by decide +kernel
theorem dX3_bit_22 : decode cX3_bit 22 = .ok (.iconst 0, 1) := by decide +kernel
theorem dX3_bit_23 : decode cX3_bit 23 = .ok (.ireturn, 1) := by decide +kernel
theorem dX3_bits_0 : decode cX3_bits 0 = .ok (.bipush 32, 2) := by decide +kernel
theorem dX3_bits_2 : decode cX3_bits 2 = .ok (.aload_n 0, 1) := by decide +kernel
theorem dX3_bits_3 : decode cX3_bits 3 = .ok (.getfield 38, 3) := by decide +kernel
theorem dX3_bits_6 : decode cX3_bits 6 = .ok (.imul, 1) := by decide +kernel
theorem dX3_bits_7 : decode cX3_bits 7 = .ok (.ireturn, 1) := by decide +kernel
set_option maxRecDepth 20000 in
theorem ggX3_sum_X3_plus : GoodIn wsX3_sum wsX3_plus := goodIn_r _ [5, 6] (by decide +kernel) (by decide +kernel)
set_option maxRecDepth 20000 in
theorem gX3_sum_X3_plus : GoodIn wsX3_sum (va_wsS RX3 73 yX3_plus wsX3_plus) := goodIn_app (goodIn_of _ (by decide +kernel)) ggX3_sum_X3_plus
set_option maxRecDepth 20000 in
theorem ggX3_sum_X3_compared : GoodIn wsX3_sum wsX3_compared := goodIn_r _ [9] (by decide +kernel) (by decide +kernel)
set_option maxRecDepth 20000 in
theorem gX3_sum_X3_compared : GoodIn wsX3_sum (va_wsS RX3 77 yX3_compared wsX3_compared) := goodIn_app (goodIn_of _ (by decide +kernel)) ggX3_sum_X3_compared
set_option maxRecDepth 20000 in
theorem ggX3_sum_X3_minus : GoodIn wsX3_sum wsX3_minus := goodIn_r _ [12, 6] (by decide +kernel) (by decide +kernel)
set_option maxRecDepth 20000 in
theorem gX3_sum_X3_minus : GoodIn wsX3_sum (va_wsS RX3 81 yX3_minus wsX3_minus) := goodIn_app (goodIn_of _ (by decide +kernel)) ggX3_sum_X3_minus
theorem dX3_sum_0 : decode cX3_sum 0 = .ok (.aload_n 1, 1) := by decide +kernel
theorem dX3_sum_1 : decode cX3_sum 1 = .ok (.aload_n 2, 1) := by decide +kernel
theorem dX3_sum_2 : decode cX3_sum 2 = .ok (.invokestatic 73, 3) := by decide +kernel
theorem dX3_sum_5 : decode cX3_sum 5 = .ok (.aload_n 1, 1) := by decide +kernel
theorem dX3_sum_6 : decode cX3_sum 6 = .ok (.aload_n 0, 1) := by decide +kernel
theorem dX3_sum_7 : decode cX3_sum 7 = .ok (.getfield 13, 3) := by decide +kernel
theorem dX3_sum_10 : decode cX3_sum 10 = .ok (.invokestatic 77, 3) := by decide +kernel
theorem dX3_sum_13 : decode cX3_sum 13 = .ok (.ifCond .lt 11, 3) := by decide +kernel
theorem dX3_sum_16 : decode cX3_sum 16 = .ok (.aload_n 1, 1) := by decide +kernel
theorem dX3_sum_17 : decode cX3_sum 17 = .ok (.aload_n 0, 1) := by decide +kernel
theorem dX3_sum_18 : decode cX3_sum 18 = .ok (.getfield 13, 3) := by decide +kernel
theorem dX3_sum_21 : decode cX3_sum 21 = .ok (.invokestatic 81, 3) := by decide +kernel
theorem dX3_sum_24 : decode cX3_sum 24 = .ok (.return_, 1) := by decide +kernel
set_option maxRecDepth 20000 in
theorem ggX3_difference_X3_compared : GoodIn wsX3_difference wsX3_compared := goodIn_r _ [5] (by decide +kernel) (by decide +kernel)
set_option maxRecDepth 20000 in
theorem gX3_difference_X3_compared : GoodIn wsX3_difference (va_wsS RX3 77 yX3_compared wsX3_compared) := goodIn_app (goodIn_of _ (by decide +kernel)) ggX3_difference_X3_compared
set_option maxRecDepth 20000 in
theorem ggX3_difference_X3_plus : GoodIn wsX3_difference wsX3_plus := goodIn_r _ [8, 9] (by decide +kernel) (by decide +kernel)
set_option maxRecDepth 20000 in
theorem gX3_difference_X3_plus : GoodIn wsX3_difference (va_wsS RX3 73 yX3_plus wsX3_plus) := goodIn_app (goodIn_of _ (by decide +kernel)) ggX3_difference_X3_plus
set_option maxRecDepth 20000 in
theorem ggX3_difference_X3_minus : GoodIn wsX3_difference wsX3_minus := goodIn_r _ [12, 9] (by decide +kernel) (by decide +kernel)
set_option maxRecDepth 20000 in
theorem gX3_difference_X3_minus : GoodIn wsX3_difference (va_wsS RX3 81 yX3_minus wsX3_minus) := goodIn_app (goodIn_of _ (by decide +kernel)) ggX3_difference_X3_minus
theorem dX3_difference_0 : decode cX3_difference 0 = .ok (.aload_n 1, 1) := by decide +kernel
theorem dX3_difference_1 : decode cX3_difference 1 = .ok (.aload_n 2, 1) := by decide +kernel
theorem dX3_difference_2 : decode cX3_difference 2 = .ok (.invokestatic 77, 3) := by decide +kernel
theorem dX3_difference_5 : decode cX3_difference 5 = .ok (.ifCond .ge 11, 3) := by decide +kernel
theorem dX3_difference_8 : decode cX3_difference 8 = .ok (.aload_n 1, 1) := by decide +kernel
theorem dX3_difference_9 : decode cX3_difference 9 = .ok (.aload_n 0, 1) := by decide +kernel
theorem dX3_difference_10 : decode cX3_difference 10 = .ok (.getfield 13, 3) := by decide +kernel
theorem dX3_difference_13 : decode cX3_difference 13 = .ok (.invokestatic 73, 3) := by decide +kernel
theorem dX3_difference_16 : decode cX3_difference 16 = .ok (.aload_n 1, 1) := by decide +kernel
theorem dX3_difference_17 : decode cX3_difference 17 = .ok (.aload_n 2, 1) := by decide +kernel
theorem dX3_difference_18 : decode cX3_difference 18 = .ok (.invokestatic 81, 3) := by decide +kernel
theorem dX3_difference_21 : decode cX3_difference 21 = .ok (.return_, 1) := by decide +kernel
set_option maxRecDepth 20000 in
theorem ggX3_rest_X3_copy : GoodIn wsX3_rest wsX3_copy := goodIn_r _ [6] (by decide +kernel) (by decide +kernel)
set_option maxRecDepth 20000 in
theorem gX3_rest_X3_copy : GoodIn wsX3_rest (va_wsS RX3 84 yX3_copy wsX3_copy) := goodIn_app (goodIn_of _ (by decide +kernel)) ggX3_rest_X3_copy
set_option maxRecDepth 20000 in
theorem ggX3_rest_X3_be : GoodIn wsX3_rest wsX3_be := goodIn_r _ [9] (by decide +kernel) (by decide +kernel)
set_option maxRecDepth 20000 in
theorem gX3_rest_X3_be : GoodIn wsX3_rest (va_wsS RX3 87 yX3_be wsX3_be) := goodIn_app (goodIn_of _ (by decide +kernel)) ggX3_rest_X3_be
set_option maxRecDepth 20000 in
theorem ggX3_rest_X3_bits : GoodIn wsX3_rest wsX3_bits := goodIn_r _ [13, 14, 28, 29, 30, 31, 32, 33, 34, 35, 36, 37, 38] (by decide +kernel) (by decide +kernel)
set_option maxRecDepth 20000 in
theorem gX3_rest_X3_bits : GoodIn wsX3_rest (wsV RX3 91 RX3 yX3_bits wsX3_bits) := goodIn_app (goodIn_of _ (by decide +kernel)) ggX3_rest_X3_bits
set_option maxRecDepth 20000 in
theorem ggX3_rest_X3_plus : GoodIn wsX3_rest wsX3_plus := goodIn_r _ [17, 18] (by decide +kernel) (by decide +kernel)
set_option maxRecDepth 20000 in
theorem gX3_rest_X3_plus : GoodIn wsX3_rest (va_wsS RX3 73 yX3_plus wsX3_plus) := goodIn_app (goodIn_of _ (by decide +kernel)) ggX3_rest_X3_plus
set_option maxRecDepth 20000 in
theorem ggX3_rest_X3_bit : GoodIn wsX3_rest wsX3_bit := goodIn_r _ [21] (by decide +kernel) (by decide +kernel)
set_option maxRecDepth 20000 in
theorem gX3_rest_X3_bit : GoodIn wsX3_rest (va_wsS RX3 94 yX3_bit wsX3_bit) := goodIn_app (goodIn_of _ (by decide +kernel)) ggX3_rest_X3_bit
set_option maxRecDepth 20000 in
theorem ggX3_rest_X3_compared : GoodIn wsX3_rest wsX3_compared := goodIn_r _ [24] (by decide +kernel) (by decide +kernel)
set_option maxRecDepth 20000 in
theorem gX3_rest_X3_compared : GoodIn wsX3_rest (va_wsS RX3 77 yX3_compared wsX3_compared) := goodIn_app (goodIn_of _ (by decide +kernel)) ggX3_rest_X3_compared
set_option maxRecDepth 20000 in
theorem ggX3_rest_X3_minus : GoodIn wsX3_rest wsX3_minus := goodIn_r _ [27, 18] (by decide +kernel) (by decide +kernel)
set_option maxRecDepth 20000 in
theorem gX3_rest_X3_minus : GoodIn wsX3_rest (va_wsS RX3 81 yX3_minus wsX3_minus) := goodIn_app (goodIn_of _ (by decide +kernel)) ggX3_rest_X3_minus
theorem dX3_rest_0 : decode cX3_rest 0 = .ok (.aload_n 0, 1) := by decide +kernel
theorem dX3_rest_1 : decode cX3_rest 1 = .ok (.getfield 25, 3) := by decide +kernel
theorem dX3_rest_4 : decode cX3_rest 4 = .ok (.aload_n 1, 1) := by decide +kernel
theorem dX3_rest_5 : decode cX3_rest 5 = .ok (.invokestatic 84, 3) := by decide +kernel
theorem dX3_rest_8 : decode cX3_rest 8 = .ok (.aload_n 1, 1) := by decide +kernel
theorem dX3_rest_9 : decode cX3_rest 9 = .ok (.lconst 0, 1) := by decide +kernel
theorem dX3_rest_10 : decode cX3_rest 10 = .ok (.invokestatic 87, 3) := by decide +kernel
theorem dX3_rest_13 : decode cX3_rest 13 = .ok (.aload_n 0, 1) := by decide +kernel
theorem dX3_rest_14 : decode cX3_rest 14 = .ok (.invokevirtual 91, 3) := by decide +kernel
theorem dX3_rest_17 : decode cX3_rest 17 = .ok (.iconst 1, 1) := by decide +kernel
theorem dX3_rest_18 : decode cX3_rest 18 = .ok (.isub, 1) := by decide +kernel
theorem dX3_rest_19 : decode cX3_rest 19 = .ok (.istore_n 2, 1) := by decide +kernel
theorem dX3_rest_20 : decode cX3_rest 20 = .ok (.iload_n 2, 1) := by decide +kernel
theorem dX3_rest_21 : decode cX3_rest 21 = .ok (.ifCond .lt 51, 3) := by decide +kernel
theorem dX3_rest_24 : decode cX3_rest 24 = .ok (.aload_n 1, 1) := by decide +kernel
theorem dX3_rest_25 : decode cX3_rest 25 = .ok (.aload_n 1, 1) := by decide +kernel
theorem dX3_rest_26 : decode cX3_rest 26 = .ok (.invokestatic 73, 3) := by decide +kernel
theorem dX3_rest_29 : decode cX3_rest 29 = .ok (.aload_n 0, 1) := by decide +kernel
theorem dX3_rest_30 : decode cX3_rest 30 = .ok (.getfield 25, 3) := by decide +kernel
theorem dX3_rest_33 : decode cX3_rest 33 = .ok (.iload_n 2, 1) := by decide +kernel
theorem dX3_rest_34 : decode cX3_rest 34 = .ok (.invokestatic 94, 3) := by decide +kernel
theorem dX3_rest_37 : decode cX3_rest 37 = .ok (.ifCond .eq 10, 3) := by decide +kernel
theorem dX3_rest_40 : decode cX3_rest 40 = .ok (.aload_n 1, 1) := by decide +kernel
theorem dX3_rest_41 : decode cX3_rest 41 = .ok (.iconst 0, 1) := by decide +kernel
theorem dX3_rest_42 : decode cX3_rest 42 = .ok (.dup2, 1) := by decide +kernel
theorem dX3_rest_43 : decode cX3_rest 43 = .ok (.laload, 1) := by decide +kernel
theorem dX3_rest_44 : decode cX3_rest 44 = .ok (.lconst 1, 1) := by decide +kernel
theorem dX3_rest_45 : decode cX3_rest 45 = .ok (.lor, 1) := by decide +kernel
theorem dX3_rest_46 : decode cX3_rest 46 = .ok (.lastore, 1) := by decide +kernel
theorem dX3_rest_47 : decode cX3_rest 47 = .ok (.aload_n 1, 1) := by decide +kernel
theorem dX3_rest_48 : decode cX3_rest 48 = .ok (.aload_n 0, 1) := by decide +kernel
theorem dX3_rest_49 : decode cX3_rest 49 = .ok (.getfield 13, 3) := by decide +kernel
theorem dX3_rest_52 : decode cX3_rest 52 = .ok (.invokestatic 77, 3) := by decide +kernel
theorem dX3_rest_55 : decode cX3_rest 55 = .ok (.ifCond .lt 11, 3) := by decide +kernel
theorem dX3_rest_58 : decode cX3_rest 58 = .ok (.aload_n 1, 1) := by decide +kernel
theorem dX3_rest_59 : decode cX3_rest 59 = .ok (.aload_n 0, 1) := by decide +kernel
theorem dX3_rest_60 : decode cX3_rest 60 = .ok (.getfield 13, 3) := by decide +kernel
theorem dX3_rest_63 : decode cX3_rest 63 = .ok (.invokestatic 81, 3) := by decide +kernel
theorem dX3_rest_66 : decode cX3_rest 66 = .ok (.iinc 2 (-1), 3) := by decide +kernel
theorem dX3_rest_69 : decode cX3_rest 69 = .ok (.goto (-49), 3) := by decide +kernel
theorem dX3_rest_72 : decode cX3_rest 72 = .ok (.return_, 1) := by decide +kernel
set_option maxRecDepth 20000 in
theorem ggX3_product_X3_copy : GoodIn wsX3_product wsX3_copy := goodIn_r _ [6] (by decide +kernel) (by decide +kernel)
set_option maxRecDepth 20000 in
theorem gX3_product_X3_copy : GoodIn wsX3_product (va_wsS RX3 84 yX3_copy wsX3_copy) := goodIn_app (goodIn_of _ (by decide +kernel)) ggX3_product_X3_copy
set_option maxRecDepth 20000 in
theorem ggX3_product_X3_be : GoodIn wsX3_product wsX3_be := goodIn_r _ [9] (by decide +kernel) (by decide +kernel)
set_option maxRecDepth 20000 in
theorem gX3_product_X3_be : GoodIn wsX3_product (va_wsS RX3 87 yX3_be wsX3_be) := goodIn_app (goodIn_of _ (by decide +kernel)) ggX3_product_X3_be
set_option maxRecDepth 20000 in
theorem ggX3_product_X3_bits : GoodIn wsX3_product wsX3_bits := goodIn_r _ [13, 14, 33, 34, 35, 36, 37, 38, 39, 40, 41, 42, 43] (by decide +kernel) (by decide +kernel)
set_option maxRecDepth 20000 in
theorem gX3_product_X3_bits : GoodIn wsX3_product (wsV RX3 91 RX3 yX3_bits wsX3_bits) := goodIn_app (goodIn_of _ (by decide +kernel)) ggX3_product_X3_bits
set_option maxRecDepth 20000 in
theorem ggX3_product_X3_sum : GoodIn wsX3_product wsX3_sum := goodIn_r _ [18, 19, 20, 21, 5, 22, 23, 24, 25, 26, 27, 28, 29, 33, 34, 35, 36, 37, 38, 39, 40, 41, 42, 43] (by decide +kernel) (by decide +kernel)
set_option maxRecDepth 20000 in
theorem gX3_product_X3_sum : GoodIn wsX3_product (wsV RX3 98 RX3 yX3_sum wsX3_sum) := goodIn_app (goodIn_of _ (by decide +kernel)) ggX3_product_X3_sum
set_option maxRecDepth 20000 in
theorem ggX3_product_X3_bit : GoodIn wsX3_product wsX3_bit := goodIn_r _ [32] (by decide +kernel) (by decide +kernel)
set_option maxRecDepth 20000 in
theorem gX3_product_X3_bit : GoodIn wsX3_product (va_wsS RX3 94 yX3_bit wsX3_bit) := goodIn_app (goodIn_of _ (by decide +kernel)) ggX3_product_X3_bit
theorem dX3_product_0 : decode cX3_product 0 = .ok (.aload_n 0, 1) := by decide +kernel
theorem dX3_product_1 : decode cX3_product 1 = .ok (.getfield 25, 3) := by decide +kernel
theorem dX3_product_4 : decode cX3_product 4 = .ok (.aload_n 1, 1) := by decide +kernel
theorem dX3_product_5 : decode cX3_product 5 = .ok (.invokestatic 84, 3) := by decide +kernel
theorem dX3_product_8 : decode cX3_product 8 = .ok (.aload_n 0, 1) := by decide +kernel
theorem dX3_product_9 : decode cX3_product 9 = .ok (.getfield 19, 3) := by decide +kernel
theorem dX3_product_12 : decode cX3_product 12 = .ok (.aload_n 2, 1) := by decide +kernel
theorem dX3_product_13 : decode cX3_product 13 = .ok (.invokestatic 84, 3) := by decide +kernel
theorem dX3_product_16 : decode cX3_product 16 = .ok (.aload_n 1, 1) := by decide +kernel
theorem dX3_product_17 : decode cX3_product 17 = .ok (.lconst 0, 1) := by decide +kernel
theorem dX3_product_18 : decode cX3_product 18 = .ok (.invokestatic 87, 3) := by decide +kernel
theorem dX3_product_21 : decode cX3_product 21 = .ok (.aload_n 0, 1) := by decide +kernel
theorem dX3_product_22 : decode cX3_product 22 = .ok (.invokevirtual 91, 3) := by decide +kernel
theorem dX3_product_25 : decode cX3_product 25 = .ok (.iconst 1, 1) := by decide +kernel
theorem dX3_product_26 : decode cX3_product 26 = .ok (.isub, 1) := by decide +kernel
theorem dX3_product_27 : decode cX3_product 27 = .ok (.istore_n 3, 1) := by decide +kernel
theorem dX3_product_28 : decode cX3_product 28 = .ok (.iload_n 3, 1) := by decide +kernel
theorem dX3_product_29 : decode cX3_product 29 = .ok (.ifCond .lt 35, 3) := by decide +kernel
theorem dX3_product_32 : decode cX3_product 32 = .ok (.aload_n 0, 1) := by decide +kernel
theorem dX3_product_33 : decode cX3_product 33 = .ok (.aload_n 1, 1) := by decide +kernel
theorem dX3_product_34 : decode cX3_product 34 = .ok (.aload_n 1, 1) := by decide +kernel
theorem dX3_product_35 : decode cX3_product 35 = .ok (.invokevirtual 98, 3) := by decide +kernel
theorem dX3_product_38 : decode cX3_product 38 = .ok (.aload_n 0, 1) := by decide +kernel
theorem dX3_product_39 : decode cX3_product 39 = .ok (.getfield 25, 3) := by decide +kernel
theorem dX3_product_42 : decode cX3_product 42 = .ok (.iload_n 3, 1) := by decide +kernel
theorem dX3_product_43 : decode cX3_product 43 = .ok (.invokestatic 94, 3) := by decide +kernel
theorem dX3_product_46 : decode cX3_product 46 = .ok (.ifCond .eq 12, 3) := by decide +kernel
theorem dX3_product_49 : decode cX3_product 49 = .ok (.aload_n 0, 1) := by decide +kernel
theorem dX3_product_50 : decode cX3_product 50 = .ok (.aload_n 1, 1) := by decide +kernel
theorem dX3_product_51 : decode cX3_product 51 = .ok (.aload_n 0, 1) := by decide +kernel
theorem dX3_product_52 : decode cX3_product 52 = .ok (.getfield 19, 3) := by decide +kernel
theorem dX3_product_55 : decode cX3_product 55 = .ok (.invokevirtual 98, 3) := by decide +kernel
theorem dX3_product_58 : decode cX3_product 58 = .ok (.iinc 3 (-1), 3) := by decide +kernel
theorem dX3_product_61 : decode cX3_product 61 = .ok (.goto (-33), 3) := by decide +kernel
theorem dX3_product_64 : decode cX3_product 64 = .ok (.return_, 1) := by decide +kernel
set_option maxRecDepth 20000 in
theorem ggX3_halfOf_X3_bit : GoodIn wsX3_halfOf wsX3_bit := goodIn_r _ [5] (by decide +kernel) (by decide +kernel)
set_option maxRecDepth 20000 in
theorem gX3_halfOf_X3_bit : GoodIn wsX3_halfOf (va_wsS RX3 94 yX3_bit wsX3_bit) := goodIn_app (goodIn_of _ (by decide +kernel)) ggX3_halfOf_X3_bit
set_option maxRecDepth 20000 in
theorem ggX3_halfOf_X3_plus : GoodIn wsX3_halfOf wsX3_plus := goodIn_r _ [8, 9] (by decide +kernel) (by decide +kernel)
set_option maxRecDepth 20000 in
theorem gX3_halfOf_X3_plus : GoodIn wsX3_halfOf (va_wsS RX3 73 yX3_plus wsX3_plus) := goodIn_app (goodIn_of _ (by decide +kernel)) ggX3_halfOf_X3_plus
set_option maxRecDepth 20000 in
theorem ggX3_halfOf_X3_half : GoodIn wsX3_halfOf wsX3_half := goodIn_r _ [12] (by decide +kernel) (by decide +kernel)
set_option maxRecDepth 20000 in
theorem gX3_halfOf_X3_half : GoodIn wsX3_halfOf (va_wsS RX3 101 yX3_half wsX3_half) := goodIn_app (goodIn_of _ (by decide +kernel)) ggX3_halfOf_X3_half
theorem dX3_halfOf_0 : decode cX3_halfOf 0 = .ok (.aload_n 1, 1) := by decide +kernel
theorem dX3_halfOf_1 : decode cX3_halfOf 1 = .ok (.iconst 0, 1) := by decide +kernel
theorem dX3_halfOf_2 : decode cX3_halfOf 2 = .ok (.invokestatic 94, 3) := by decide +kernel
theorem dX3_halfOf_5 : decode cX3_halfOf 5 = .ok (.ifCond .eq 11, 3) := by decide +kernel
theorem dX3_halfOf_8 : decode cX3_halfOf 8 = .ok (.aload_n 1, 1) := by decide +kernel
theorem dX3_halfOf_9 : decode cX3_halfOf 9 = .ok (.aload_n 0, 1) := by decide +kernel
theorem dX3_halfOf_10 : decode cX3_halfOf 10 = .ok (.getfield 13, 3) := by decide +kernel
theorem dX3_halfOf_13 : decode cX3_halfOf 13 = .ok (.invokestatic 73, 3) := by decide +kernel
theorem dX3_halfOf_16 : decode cX3_halfOf 16 = .ok (.aload_n 1, 1) := by decide +kernel
theorem dX3_halfOf_17 : decode cX3_halfOf 17 = .ok (.invokestatic 101, 3) := by decide +kernel
theorem dX3_halfOf_20 : decode cX3_halfOf 20 = .ok (.return_, 1) := by decide +kernel
set_option maxRecDepth 20000 in
theorem ggX3_isAsked_X3_isRegister : GoodIn wsX3_isAsked wsX3_isRegister := goodIn_r _ [6, 7, 8, 9, 10, 11, 12, 13, 14, 15, 16, 17, 18] (by decide +kernel) (by decide +kernel)
set_option maxRecDepth 20000 in
theorem gX3_isAsked_X3_isRegister : GoodIn wsX3_isAsked (wsV RX3 67 RX3 yX3_isRegister wsX3_isRegister) := goodIn_app (goodIn_of _ (by decide +kernel)) ggX3_isAsked_X3_isRegister
theorem dX3_isAsked_0 : decode cX3_isAsked 0 = .ok (.aload_n 0, 1) := by decide +kernel
theorem dX3_isAsked_1 : decode cX3_isAsked 1 = .ok (.getfield 55, 3) := by decide +kernel
theorem dX3_isAsked_4 : decode cX3_isAsked 4 = .ok (.ifCond .eq 31, 3) := by decide +kernel
theorem dX3_isAsked_7 : decode cX3_isAsked 7 = .ok (.aload_n 0, 1) := by decide +kernel
theorem dX3_isAsked_8 : decode cX3_isAsked 8 = .ok (.iload_n 1, 1) := by decide +kernel
theorem dX3_isAsked_9 : decode cX3_isAsked 9 = .ok (.invokevirtual 67, 3) := by decide +kernel
theorem dX3_isAsked_12 : decode cX3_isAsked 12 = .ok (.ifCond .eq 23, 3) := by decide +kernel
theorem dX3_isAsked_15 : decode cX3_isAsked 15 = .ok (.aload_n 0, 1) := by decide +kernel
theorem dX3_isAsked_16 : decode cX3_isAsked 16 = .ok (.iload_n 2, 1) := by decide +kernel
theorem dX3_isAsked_17 : decode cX3_isAsked 17 = .ok (.invokevirtual 67, 3) := by decide +kernel
theorem dX3_isAsked_20 : decode cX3_isAsked 20 = .ok (.ifCond .eq 15, 3) := by decide +kernel
theorem dX3_isAsked_23 : decode cX3_isAsked 23 = .ok (.aload_n 0, 1) := by decide +kernel
theorem dX3_isAsked_24 : decode cX3_isAsked 24 = .ok (.iload_n 3, 1) := by decide +kernel
theorem dX3_isAsked_25 : decode cX3_isAsked 25 = .ok (.invokevirtual 67, 3) := by decide +kernel
theorem dX3_isAsked_28 : decode cX3_isAsked 28 = .ok (.ifCond .eq 7, 3) := by decide +kernel
theorem dX3_isAsked_31 : decode cX3_isAsked 31 = .ok (.iconst 1, 1) := by decide +kernel
theorem dX3_isAsked_32 : decode cX3_isAsked 32 = .ok (.goto 4, 3) := by decide +kernel
theorem dX3_isAsked_35 : decode cX3_isAsked 35 = .ok (.iconst 0, 1) := by decide +kernel
theorem dX3_isAsked_36 : decode cX3_isAsked 36 = .ok (.ireturn, 1) := by decide +kernel
set_option maxRecDepth 20000 in
theorem ggX3_takes_X3_placeOfModulus : GoodIn wsX3_takes wsX3_placeOfModulus := goodIn_r _ [8] (by decide +kernel) (by decide +kernel)
set_option maxRecDepth 20000 in
theorem gX3_takes_X3_placeOfModulus : GoodIn wsX3_takes (wsV RX3 49 RX3 yX3_placeOfModulus wsX3_placeOfModulus) := goodIn_app (goodIn_of _ (by decide +kernel)) ggX3_takes_X3_placeOfModulus
set_option maxRecDepth 20000 in
theorem ggX3_takes_X3_read : GoodIn wsX3_takes wsX3_read := goodIn_r _ [12, 13, 47, 48, 49, 50, 51, 52, 53, 54, 55, 56, 57] (by decide +kernel) (by decide +kernel)
set_option maxRecDepth 20000 in
theorem gX3_takes_X3_read : GoodIn wsX3_takes (wsV RX3 59 RX3 yX3_read wsX3_read) := goodIn_app (goodIn_of _ (by decide +kernel)) ggX3_takes_X3_read
set_option maxRecDepth 20000 in
theorem ggX3_takes_X3_placeOf : GoodIn wsX3_takes wsX3_placeOf := goodIn_r _ [17] (by decide +kernel) (by decide +kernel)
set_option maxRecDepth 20000 in
theorem gX3_takes_X3_placeOf : GoodIn wsX3_takes (wsV RX3 70 RX3 yX3_placeOf wsX3_placeOf) := goodIn_app (goodIn_of _ (by decide +kernel)) ggX3_takes_X3_placeOf
set_option maxRecDepth 20000 in
theorem ggX3_takes_X3_rest : GoodIn wsX3_takes wsX3_rest := goodIn_r _ [21, 22, 1, 23, 24, 7, 25, 26, 27, 28, 29, 30, 31, 32, 33, 34, 35, 36, 37, 38, 39, 40, 41, 42, 43, 44, 45, 46, 47, 48, 49, 50, 51, 52, 53, 54, 55, 56, 57] (by decide +kernel) (by decide +kernel)
set_option maxRecDepth 20000 in
theorem gX3_takes_X3_rest : GoodIn wsX3_takes (wsV RX3 105 RX3 yX3_rest wsX3_rest) := goodIn_app (goodIn_of _ (by decide +kernel)) ggX3_takes_X3_rest
theorem dX3_takes_0 : decode cX3_takes 0 = .ok (.aload_n 0, 1) := by decide +kernel
theorem dX3_takes_1 : decode cX3_takes 1 = .ok (.aload_n 0, 1) := by decide +kernel
theorem dX3_takes_2 : decode cX3_takes 2 = .ok (.getfield 13, 3) := by decide +kernel
theorem dX3_takes_5 : decode cX3_takes 5 = .ok (.aload_n 0, 1) := by decide +kernel
theorem dX3_takes_6 : decode cX3_takes 6 = .ok (.invokevirtual 49, 3) := by decide +kernel
theorem dX3_takes_9 : decode cX3_takes 9 = .ok (.invokevirtual 59, 3) := by decide +kernel
theorem dX3_takes_12 : decode cX3_takes 12 = .ok (.aload_n 0, 1) := by decide +kernel
theorem dX3_takes_13 : decode cX3_takes 13 = .ok (.aload_n 0, 1) := by decide +kernel
theorem dX3_takes_14 : decode cX3_takes 14 = .ok (.getfield 16, 3) := by decide +kernel
theorem dX3_takes_17 : decode cX3_takes 17 = .ok (.aload_n 0, 1) := by decide +kernel
theorem dX3_takes_18 : decode cX3_takes 18 = .ok (.iload_n 1, 1) := by decide +kernel
theorem dX3_takes_19 : decode cX3_takes 19 = .ok (.invokevirtual 70, 3) := by decide +kernel
theorem dX3_takes_22 : decode cX3_takes 22 = .ok (.invokevirtual 59, 3) := by decide +kernel
theorem dX3_takes_25 : decode cX3_takes 25 = .ok (.aload_n 0, 1) := by decide +kernel
theorem dX3_takes_26 : decode cX3_takes 26 = .ok (.aload_n 0, 1) := by decide +kernel
theorem dX3_takes_27 : decode cX3_takes 27 = .ok (.getfield 16, 3) := by decide +kernel
theorem dX3_takes_30 : decode cX3_takes 30 = .ok (.invokevirtual 105, 3) := by decide +kernel
theorem dX3_takes_33 : decode cX3_takes 33 = .ok (.aload_n 0, 1) := by decide +kernel
theorem dX3_takes_34 : decode cX3_takes 34 = .ok (.aload_n 0, 1) := by decide +kernel
theorem dX3_takes_35 : decode cX3_takes 35 = .ok (.getfield 22, 3) := by decide +kernel
theorem dX3_takes_38 : decode cX3_takes 38 = .ok (.aload_n 0, 1) := by decide +kernel
theorem dX3_takes_39 : decode cX3_takes 39 = .ok (.iload_n 2, 1) := by decide +kernel
theorem dX3_takes_40 : decode cX3_takes 40 = .ok (.invokevirtual 70, 3) := by decide +kernel
theorem dX3_takes_43 : decode cX3_takes 43 = .ok (.invokevirtual 59, 3) := by decide +kernel
theorem dX3_takes_46 : decode cX3_takes 46 = .ok (.aload_n 0, 1) := by decide +kernel
theorem dX3_takes_47 : decode cX3_takes 47 = .ok (.aload_n 0, 1) := by decide +kernel
theorem dX3_takes_48 : decode cX3_takes 48 = .ok (.getfield 22, 3) := by decide +kernel
theorem dX3_takes_51 : decode cX3_takes 51 = .ok (.invokevirtual 105, 3) := by decide +kernel
theorem dX3_takes_54 : decode cX3_takes 54 = .ok (.return_, 1) := by decide +kernel
set_option maxRecDepth 20000 in
theorem ggX3_reduce_X3_isAsked : GoodIn wsX3_reduce wsX3_isAsked := goodIn_r _ [6, 7, 8, 9, 10, 5, 11, 12, 65, 66, 67, 68, 69, 70, 71, 72, 73, 74, 75] (by decide +kernel) (by decide +kernel)
set_option maxRecDepth 20000 in
theorem gX3_reduce_X3_isAsked : GoodIn wsX3_reduce (wsV RX3 108 RX3 yX3_isAsked wsX3_isAsked) := goodIn_app (goodIn_of _ (by decide +kernel)) ggX3_reduce_X3_isAsked
set_option maxRecDepth 20000 in
theorem ggX3_reduce_X3_takes : GoodIn wsX3_reduce wsX3_takes := goodIn_r _ [16, 17, 1, 18, 19, 20, 21, 5, 22, 23, 24, 25, 26, 27, 28, 29, 30, 31, 32, 33, 34, 35, 36, 37, 38, 39, 40, 41, 42, 43, 44, 45, 46, 47, 48, 49, 50, 51, 52, 53, 54, 55, 56, 57, 58, 59, 60, 65, 66, 67, 68, 69, 70, 71, 72, 73, 74, 75] (by decide +kernel) (by decide +kernel)
set_option maxRecDepth 20000 in
theorem gX3_reduce_X3_takes : GoodIn wsX3_reduce (wsV RX3 112 RX3 yX3_takes wsX3_takes) := goodIn_app (goodIn_of _ (by decide +kernel)) ggX3_reduce_X3_takes
set_option maxRecDepth 20000 in
theorem ggX3_reduce_X3_write : GoodIn wsX3_reduce wsX3_write := goodIn_r _ [64, 27, 28, 29, 30, 5, 31, 65, 66, 67, 68, 69, 70, 71, 72, 73, 74, 75] (by decide +kernel) (by decide +kernel)
set_option maxRecDepth 20000 in
theorem gX3_reduce_X3_write : GoodIn wsX3_reduce (wsV RX3 116 RX3 yX3_write wsX3_write) := goodIn_app (goodIn_of _ (by decide +kernel)) ggX3_reduce_X3_write
theorem dX3_reduce_0 : decode cX3_reduce 0 = .ok (.aload_n 0, 1) := by decide +kernel
theorem dX3_reduce_1 : decode cX3_reduce 1 = .ok (.iload_n 1, 1) := by decide +kernel
theorem dX3_reduce_2 : decode cX3_reduce 2 = .ok (.iload_n 1, 1) := by decide +kernel
theorem dX3_reduce_3 : decode cX3_reduce 3 = .ok (.iload_n 1, 1) := by decide +kernel
theorem dX3_reduce_4 : decode cX3_reduce 4 = .ok (.invokevirtual 108, 3) := by decide +kernel
theorem dX3_reduce_7 : decode cX3_reduce 7 = .ok (.ifCond .ne 5, 3) := by decide +kernel
theorem dX3_reduce_10 : decode cX3_reduce 10 = .ok (.iconst 0, 1) := by decide +kernel
theorem dX3_reduce_11 : decode cX3_reduce 11 = .ok (.ireturn, 1) := by decide +kernel
theorem dX3_reduce_12 : decode cX3_reduce 12 = .ok (.aload_n 0, 1) := by decide +kernel
theorem dX3_reduce_13 : decode cX3_reduce 13 = .ok (.iload_n 1, 1) := by decide +kernel
theorem dX3_reduce_14 : decode cX3_reduce 14 = .ok (.iload_n 1, 1) := by decide +kernel
theorem dX3_reduce_15 : decode cX3_reduce 15 = .ok (.invokevirtual 112, 3) := by decide +kernel
theorem dX3_reduce_18 : decode cX3_reduce 18 = .ok (.aload_n 0, 1) := by decide +kernel
theorem dX3_reduce_19 : decode cX3_reduce 19 = .ok (.iload_n 1, 1) := by decide +kernel
theorem dX3_reduce_20 : decode cX3_reduce 20 = .ok (.aload_n 0, 1) := by decide +kernel
theorem dX3_reduce_21 : decode cX3_reduce 21 = .ok (.getfield 16, 3) := by decide +kernel
theorem dX3_reduce_24 : decode cX3_reduce 24 = .ok (.invokevirtual 116, 3) := by decide +kernel
theorem dX3_reduce_27 : decode cX3_reduce 27 = .ok (.iconst 1, 1) := by decide +kernel
theorem dX3_reduce_28 : decode cX3_reduce 28 = .ok (.ireturn, 1) := by decide +kernel
set_option maxRecDepth 20000 in
theorem ggX3_addMod_X3_isAsked : GoodIn wsX3_addMod wsX3_isAsked := goodIn_r _ [7, 8, 9, 10, 11, 6, 12, 13, 69, 70, 71, 72, 73, 74, 75, 76, 77, 78, 79] (by decide +kernel) (by decide +kernel)
set_option maxRecDepth 20000 in
theorem gX3_addMod_X3_isAsked : GoodIn wsX3_addMod (wsV RX3 108 RX3 yX3_isAsked wsX3_isAsked) := goodIn_app (goodIn_of _ (by decide +kernel)) ggX3_addMod_X3_isAsked
set_option maxRecDepth 20000 in
theorem ggX3_addMod_X3_takes : GoodIn wsX3_addMod wsX3_takes := goodIn_r _ [17, 18, 1, 2, 19, 20, 21, 6, 22, 23, 24, 25, 26, 27, 28, 29, 30, 31, 32, 33, 34, 35, 36, 37, 38, 39, 40, 41, 42, 43, 44, 45, 46, 47, 48, 49, 50, 51, 52, 53, 54, 55, 56, 57, 58, 59, 60, 69, 70, 71, 72, 73, 74, 75, 76, 77, 78, 79] (by decide +kernel) (by decide +kernel)
set_option maxRecDepth 20000 in
theorem gX3_addMod_X3_takes : GoodIn wsX3_addMod (wsV RX3 112 RX3 yX3_takes wsX3_takes) := goodIn_app (goodIn_of _ (by decide +kernel)) ggX3_addMod_X3_takes
set_option maxRecDepth 20000 in
theorem ggX3_addMod_X3_sum : GoodIn wsX3_addMod wsX3_sum := goodIn_r _ [64, 18, 48, 49, 6, 50, 51, 55, 56, 57, 58, 59, 60, 69, 70, 71, 72, 73, 74, 75, 76, 77, 78, 79] (by decide +kernel) (by decide +kernel)
set_option maxRecDepth 20000 in
theorem gX3_addMod_X3_sum : GoodIn wsX3_addMod (wsV RX3 98 RX3 yX3_sum wsX3_sum) := goodIn_app (goodIn_of _ (by decide +kernel)) ggX3_addMod_X3_sum
set_option maxRecDepth 20000 in
theorem ggX3_addMod_X3_write : GoodIn wsX3_addMod wsX3_write := goodIn_r _ [68, 27, 28, 29, 30, 6, 31, 69, 70, 71, 72, 73, 74, 75, 76, 77, 78, 79] (by decide +kernel) (by decide +kernel)
set_option maxRecDepth 20000 in
theorem gX3_addMod_X3_write : GoodIn wsX3_addMod (wsV RX3 116 RX3 yX3_write wsX3_write) := goodIn_app (goodIn_of _ (by decide +kernel)) ggX3_addMod_X3_write
theorem dX3_addMod_0 : decode cX3_addMod 0 = .ok (.aload_n 0, 1) := by decide +kernel
theorem dX3_addMod_1 : decode cX3_addMod 1 = .ok (.iload_n 1, 1) := by decide +kernel
theorem dX3_addMod_2 : decode cX3_addMod 2 = .ok (.iload_n 2, 1) := by decide +kernel
theorem dX3_addMod_3 : decode cX3_addMod 3 = .ok (.iload_n 3, 1) := by decide +kernel
theorem dX3_addMod_4 : decode cX3_addMod 4 = .ok (.invokevirtual 108, 3) := by decide +kernel
theorem dX3_addMod_7 : decode cX3_addMod 7 = .ok (.ifCond .ne 5, 3) := by decide +kernel
theorem dX3_addMod_10 : decode cX3_addMod 10 = .ok (.iconst 0, 1) := by decide +kernel
theorem dX3_addMod_11 : decode cX3_addMod 11 = .ok (.ireturn, 1) := by decide +kernel
theorem dX3_addMod_12 : decode cX3_addMod 12 = .ok (.aload_n 0, 1) := by decide +kernel
theorem dX3_addMod_13 : decode cX3_addMod 13 = .ok (.iload_n 2, 1) := by decide +kernel
theorem dX3_addMod_14 : decode cX3_addMod 14 = .ok (.iload_n 3, 1) := by decide +kernel
theorem dX3_addMod_15 : decode cX3_addMod 15 = .ok (.invokevirtual 112, 3) := by decide +kernel
theorem dX3_addMod_18 : decode cX3_addMod 18 = .ok (.aload_n 0, 1) := by decide +kernel
theorem dX3_addMod_19 : decode cX3_addMod 19 = .ok (.aload_n 0, 1) := by decide +kernel
theorem dX3_addMod_20 : decode cX3_addMod 20 = .ok (.getfield 16, 3) := by decide +kernel
theorem dX3_addMod_23 : decode cX3_addMod 23 = .ok (.aload_n 0, 1) := by decide +kernel
theorem dX3_addMod_24 : decode cX3_addMod 24 = .ok (.getfield 22, 3) := by decide +kernel
theorem dX3_addMod_27 : decode cX3_addMod 27 = .ok (.invokevirtual 98, 3) := by decide +kernel
theorem dX3_addMod_30 : decode cX3_addMod 30 = .ok (.aload_n 0, 1) := by decide +kernel
theorem dX3_addMod_31 : decode cX3_addMod 31 = .ok (.iload_n 1, 1) := by decide +kernel
theorem dX3_addMod_32 : decode cX3_addMod 32 = .ok (.aload_n 0, 1) := by decide +kernel
theorem dX3_addMod_33 : decode cX3_addMod 33 = .ok (.getfield 16, 3) := by decide +kernel
theorem dX3_addMod_36 : decode cX3_addMod 36 = .ok (.invokevirtual 116, 3) := by decide +kernel
theorem dX3_addMod_39 : decode cX3_addMod 39 = .ok (.iconst 1, 1) := by decide +kernel
theorem dX3_addMod_40 : decode cX3_addMod 40 = .ok (.ireturn, 1) := by decide +kernel
set_option maxRecDepth 20000 in
theorem ggX3_subMod_X3_isAsked : GoodIn wsX3_subMod wsX3_isAsked := goodIn_r _ [7, 8, 9, 10, 11, 6, 12, 13, 69, 70, 71, 72, 73, 74, 75, 76, 77, 78, 79] (by decide +kernel) (by decide +kernel)
set_option maxRecDepth 20000 in
theorem gX3_subMod_X3_isAsked : GoodIn wsX3_subMod (wsV RX3 108 RX3 yX3_isAsked wsX3_isAsked) := goodIn_app (goodIn_of _ (by decide +kernel)) ggX3_subMod_X3_isAsked
set_option maxRecDepth 20000 in
theorem ggX3_subMod_X3_takes : GoodIn wsX3_subMod wsX3_takes := goodIn_r _ [17, 18, 1, 2, 19, 20, 21, 6, 22, 23, 24, 25, 26, 27, 28, 29, 30, 31, 32, 33, 34, 35, 36, 37, 38, 39, 40, 41, 42, 43, 44, 45, 46, 47, 48, 49, 50, 51, 52, 53, 54, 55, 56, 57, 58, 59, 60, 69, 70, 71, 72, 73, 74, 75, 76, 77, 78, 79] (by decide +kernel) (by decide +kernel)
set_option maxRecDepth 20000 in
theorem gX3_subMod_X3_takes : GoodIn wsX3_subMod (wsV RX3 112 RX3 yX3_takes wsX3_takes) := goodIn_app (goodIn_of _ (by decide +kernel)) ggX3_subMod_X3_takes
set_option maxRecDepth 20000 in
theorem ggX3_subMod_X3_difference : GoodIn wsX3_subMod wsX3_difference := goodIn_r _ [64, 18, 55, 56, 6, 57, 48, 49, 50, 51, 58, 59, 60, 69, 70, 71, 72, 73, 74, 75, 76, 77, 78, 79] (by decide +kernel) (by decide +kernel)
set_option maxRecDepth 20000 in
theorem gX3_subMod_X3_difference : GoodIn wsX3_subMod (wsV RX3 120 RX3 yX3_difference wsX3_difference) := goodIn_app (goodIn_of _ (by decide +kernel)) ggX3_subMod_X3_difference
set_option maxRecDepth 20000 in
theorem ggX3_subMod_X3_write : GoodIn wsX3_subMod wsX3_write := goodIn_r _ [68, 27, 28, 29, 30, 6, 31, 69, 70, 71, 72, 73, 74, 75, 76, 77, 78, 79] (by decide +kernel) (by decide +kernel)
set_option maxRecDepth 20000 in
theorem gX3_subMod_X3_write : GoodIn wsX3_subMod (wsV RX3 116 RX3 yX3_write wsX3_write) := goodIn_app (goodIn_of _ (by decide +kernel)) ggX3_subMod_X3_write
theorem dX3_subMod_0 : decode cX3_subMod 0 = .ok (.aload_n 0, 1) := by decide +kernel
theorem dX3_subMod_1 : decode cX3_subMod 1 = .ok (.iload_n 1, 1) := by decide +kernel
theorem dX3_subMod_2 : decode cX3_subMod 2 = .ok (.iload_n 2, 1) := by decide +kernel
theorem dX3_subMod_3 : decode cX3_subMod 3 = .ok (.iload_n 3, 1) := by decide +kernel
theorem dX3_subMod_4 : decode cX3_subMod 4 = .ok (.invokevirtual 108, 3) := by decide +kernel
theorem dX3_subMod_7 : decode cX3_subMod 7 = .ok (.ifCond .ne 5, 3) := by decide +kernel
theorem dX3_subMod_10 : decode cX3_subMod 10 = .ok (.iconst 0, 1) := by decide +kernel
theorem dX3_subMod_11 : decode cX3_subMod 11 = .ok (.ireturn, 1) := by decide +kernel
theorem dX3_subMod_12 : decode cX3_subMod 12 = .ok (.aload_n 0, 1) := by decide +kernel
theorem dX3_subMod_13 : decode cX3_subMod 13 = .ok (.iload_n 2, 1) := by decide +kernel
theorem dX3_subMod_14 : decode cX3_subMod 14 = .ok (.iload_n 3, 1) := by decide +kernel
theorem dX3_subMod_15 : decode cX3_subMod 15 = .ok (.invokevirtual 112, 3) := by decide +kernel
theorem dX3_subMod_18 : decode cX3_subMod 18 = .ok (.aload_n 0, 1) := by decide +kernel
theorem dX3_subMod_19 : decode cX3_subMod 19 = .ok (.aload_n 0, 1) := by decide +kernel
theorem dX3_subMod_20 : decode cX3_subMod 20 = .ok (.getfield 16, 3) := by decide +kernel
theorem dX3_subMod_23 : decode cX3_subMod 23 = .ok (.aload_n 0, 1) := by decide +kernel
theorem dX3_subMod_24 : decode cX3_subMod 24 = .ok (.getfield 22, 3) := by decide +kernel
theorem dX3_subMod_27 : decode cX3_subMod 27 = .ok (.invokevirtual 120, 3) := by decide +kernel
theorem dX3_subMod_30 : decode cX3_subMod 30 = .ok (.aload_n 0, 1) := by decide +kernel
theorem dX3_subMod_31 : decode cX3_subMod 31 = .ok (.iload_n 1, 1) := by decide +kernel
theorem dX3_subMod_32 : decode cX3_subMod 32 = .ok (.aload_n 0, 1) := by decide +kernel
theorem dX3_subMod_33 : decode cX3_subMod 33 = .ok (.getfield 16, 3) := by decide +kernel
theorem dX3_subMod_36 : decode cX3_subMod 36 = .ok (.invokevirtual 116, 3) := by decide +kernel
theorem dX3_subMod_39 : decode cX3_subMod 39 = .ok (.iconst 1, 1) := by decide +kernel
theorem dX3_subMod_40 : decode cX3_subMod 40 = .ok (.ireturn, 1) := by decide +kernel
set_option maxRecDepth 20000 in
theorem ggX3_mulMod_X3_isAsked : GoodIn wsX3_mulMod wsX3_isAsked := goodIn_r _ [7, 8, 9, 10, 11, 6, 12, 13, 74, 75, 76, 77, 78, 79, 80, 81, 82, 83, 84] (by decide +kernel) (by decide +kernel)
set_option maxRecDepth 20000 in
theorem gX3_mulMod_X3_isAsked : GoodIn wsX3_mulMod (wsV RX3 108 RX3 yX3_isAsked wsX3_isAsked) := goodIn_app (goodIn_of _ (by decide +kernel)) ggX3_mulMod_X3_isAsked
set_option maxRecDepth 20000 in
theorem ggX3_mulMod_X3_takes : GoodIn wsX3_mulMod wsX3_takes := goodIn_r _ [17, 18, 1, 2, 19, 20, 21, 6, 22, 23, 24, 25, 26, 27, 28, 29, 30, 31, 32, 33, 34, 35, 36, 37, 38, 39, 40, 41, 42, 43, 44, 45, 46, 47, 48, 49, 50, 51, 52, 53, 54, 55, 56, 57, 58, 59, 60, 74, 75, 76, 77, 78, 79, 80, 81, 82, 83, 84] (by decide +kernel) (by decide +kernel)
set_option maxRecDepth 20000 in
theorem gX3_mulMod_X3_takes : GoodIn wsX3_mulMod (wsV RX3 112 RX3 yX3_takes wsX3_takes) := goodIn_app (goodIn_of _ (by decide +kernel)) ggX3_mulMod_X3_takes
set_option maxRecDepth 20000 in
theorem ggX3_mulMod_X3_product : GoodIn wsX3_mulMod wsX3_product := goodIn_r _ [64, 36, 65, 37, 38, 6, 39, 40, 41, 42, 43, 44, 45, 46, 47, 66, 67, 68, 69, 18, 48, 49, 50, 51, 55, 56, 57, 58, 59, 60, 52, 53, 54, 74, 75, 76, 77, 78, 79, 80, 81, 82, 83, 84] (by decide +kernel) (by decide +kernel)
set_option maxRecDepth 20000 in
theorem gX3_mulMod_X3_product : GoodIn wsX3_mulMod (wsV RX3 123 RX3 yX3_product wsX3_product) := goodIn_app (goodIn_of _ (by decide +kernel)) ggX3_mulMod_X3_product
set_option maxRecDepth 20000 in
theorem ggX3_mulMod_X3_write : GoodIn wsX3_mulMod wsX3_write := goodIn_r _ [73, 27, 28, 29, 30, 6, 31, 74, 75, 76, 77, 78, 79, 80, 81, 82, 83, 84] (by decide +kernel) (by decide +kernel)
set_option maxRecDepth 20000 in
theorem gX3_mulMod_X3_write : GoodIn wsX3_mulMod (wsV RX3 116 RX3 yX3_write wsX3_write) := goodIn_app (goodIn_of _ (by decide +kernel)) ggX3_mulMod_X3_write
theorem dX3_mulMod_0 : decode cX3_mulMod 0 = .ok (.aload_n 0, 1) := by decide +kernel
theorem dX3_mulMod_1 : decode cX3_mulMod 1 = .ok (.iload_n 1, 1) := by decide +kernel
theorem dX3_mulMod_2 : decode cX3_mulMod 2 = .ok (.iload_n 2, 1) := by decide +kernel
theorem dX3_mulMod_3 : decode cX3_mulMod 3 = .ok (.iload_n 3, 1) := by decide +kernel
theorem dX3_mulMod_4 : decode cX3_mulMod 4 = .ok (.invokevirtual 108, 3) := by decide +kernel
theorem dX3_mulMod_7 : decode cX3_mulMod 7 = .ok (.ifCond .ne 5, 3) := by decide +kernel
theorem dX3_mulMod_10 : decode cX3_mulMod 10 = .ok (.iconst 0, 1) := by decide +kernel
theorem dX3_mulMod_11 : decode cX3_mulMod 11 = .ok (.ireturn, 1) := by decide +kernel
theorem dX3_mulMod_12 : decode cX3_mulMod 12 = .ok (.aload_n 0, 1) := by decide +kernel
theorem dX3_mulMod_13 : decode cX3_mulMod 13 = .ok (.iload_n 2, 1) := by decide +kernel
theorem dX3_mulMod_14 : decode cX3_mulMod 14 = .ok (.iload_n 3, 1) := by decide +kernel
theorem dX3_mulMod_15 : decode cX3_mulMod 15 = .ok (.invokevirtual 112, 3) := by decide +kernel
theorem dX3_mulMod_18 : decode cX3_mulMod 18 = .ok (.aload_n 0, 1) := by decide +kernel
theorem dX3_mulMod_19 : decode cX3_mulMod 19 = .ok (.aload_n 0, 1) := by decide +kernel
theorem dX3_mulMod_20 : decode cX3_mulMod 20 = .ok (.getfield 16, 3) := by decide +kernel
theorem dX3_mulMod_23 : decode cX3_mulMod 23 = .ok (.aload_n 0, 1) := by decide +kernel
theorem dX3_mulMod_24 : decode cX3_mulMod 24 = .ok (.getfield 22, 3) := by decide +kernel
theorem dX3_mulMod_27 : decode cX3_mulMod 27 = .ok (.invokevirtual 123, 3) := by decide +kernel
theorem dX3_mulMod_30 : decode cX3_mulMod 30 = .ok (.aload_n 0, 1) := by decide +kernel
theorem dX3_mulMod_31 : decode cX3_mulMod 31 = .ok (.iload_n 1, 1) := by decide +kernel
theorem dX3_mulMod_32 : decode cX3_mulMod 32 = .ok (.aload_n 0, 1) := by decide +kernel
theorem dX3_mulMod_33 : decode cX3_mulMod 33 = .ok (.getfield 16, 3) := by decide +kernel
theorem dX3_mulMod_36 : decode cX3_mulMod 36 = .ok (.invokevirtual 116, 3) := by decide +kernel
theorem dX3_mulMod_39 : decode cX3_mulMod 39 = .ok (.iconst 1, 1) := by decide +kernel
theorem dX3_mulMod_40 : decode cX3_mulMod 40 = .ok (.ireturn, 1) := by decide +kernel
set_option maxRecDepth 20000 in
theorem ggX3_montMod_X3_isAsked : GoodIn wsX3_montMod wsX3_isAsked := goodIn_r _ [7, 8, 9, 10, 11, 6, 12, 13, 81, 82, 83, 84, 85, 86, 87, 88, 89, 90, 91] (by decide +kernel) (by decide +kernel)
set_option maxRecDepth 20000 in
theorem gX3_montMod_X3_isAsked : GoodIn wsX3_montMod (wsV RX3 108 RX3 yX3_isAsked wsX3_isAsked) := goodIn_app (goodIn_of _ (by decide +kernel)) ggX3_montMod_X3_isAsked
set_option maxRecDepth 20000 in
theorem ggX3_montMod_X3_takes : GoodIn wsX3_montMod wsX3_takes := goodIn_r _ [17, 18, 1, 2, 19, 20, 21, 6, 22, 23, 24, 25, 26, 27, 28, 29, 30, 31, 32, 33, 34, 35, 36, 37, 38, 39, 40, 41, 42, 43, 44, 45, 46, 47, 48, 49, 50, 51, 52, 53, 54, 55, 56, 57, 58, 59, 60, 81, 82, 83, 84, 85, 86, 87, 88, 89, 90, 91] (by decide +kernel) (by decide +kernel)
set_option maxRecDepth 20000 in
theorem gX3_montMod_X3_takes : GoodIn wsX3_montMod (wsV RX3 112 RX3 yX3_takes wsX3_takes) := goodIn_app (goodIn_of _ (by decide +kernel)) ggX3_montMod_X3_takes
set_option maxRecDepth 20000 in
theorem ggX3_montMod_X3_product : GoodIn wsX3_montMod wsX3_product := goodIn_r _ [64, 36, 65, 37, 38, 6, 39, 40, 41, 42, 43, 44, 45, 46, 47, 66, 67, 68, 69, 18, 48, 49, 50, 51, 55, 56, 57, 58, 59, 60, 52, 53, 54, 81, 82, 83, 84, 85, 86, 87, 88, 89, 90, 91] (by decide +kernel) (by decide +kernel)
set_option maxRecDepth 20000 in
theorem gX3_montMod_X3_product : GoodIn wsX3_montMod (wsV RX3 123 RX3 yX3_product wsX3_product) := goodIn_app (goodIn_of _ (by decide +kernel)) ggX3_montMod_X3_product
set_option maxRecDepth 20000 in
theorem ggX3_montMod_X3_bits : GoodIn wsX3_montMod wsX3_bits := goodIn_r _ [46, 47, 81, 82, 83, 84, 85, 86, 87, 88, 89, 90, 91] (by decide +kernel) (by decide +kernel)
set_option maxRecDepth 20000 in
theorem gX3_montMod_X3_bits : GoodIn wsX3_montMod (wsV RX3 91 RX3 yX3_bits wsX3_bits) := goodIn_app (goodIn_of _ (by decide +kernel)) ggX3_montMod_X3_bits
set_option maxRecDepth 20000 in
theorem ggX3_montMod_X3_halfOf : GoodIn wsX3_montMod wsX3_halfOf := goodIn_r _ [73, 18, 52, 53, 6, 54, 48, 49, 50, 51, 74, 75, 76, 81, 82, 83, 84, 85, 86, 87, 88, 89, 90, 91] (by decide +kernel) (by decide +kernel)
set_option maxRecDepth 20000 in
theorem gX3_montMod_X3_halfOf : GoodIn wsX3_montMod (wsV RX3 126 RX3 yX3_halfOf wsX3_halfOf) := goodIn_app (goodIn_of _ (by decide +kernel)) ggX3_montMod_X3_halfOf
set_option maxRecDepth 20000 in
theorem ggX3_montMod_X3_write : GoodIn wsX3_montMod wsX3_write := goodIn_r _ [80, 27, 28, 29, 30, 6, 31, 81, 82, 83, 84, 85, 86, 87, 88, 89, 90, 91] (by decide +kernel) (by decide +kernel)
set_option maxRecDepth 20000 in
theorem gX3_montMod_X3_write : GoodIn wsX3_montMod (wsV RX3 116 RX3 yX3_write wsX3_write) := goodIn_app (goodIn_of _ (by decide +kernel)) ggX3_montMod_X3_write
theorem dX3_montMod_0 : decode cX3_montMod 0 = .ok (.aload_n 0, 1) := by decide +kernel
theorem dX3_montMod_1 : decode cX3_montMod 1 = .ok (.iload_n 1, 1) := by decide +kernel
theorem dX3_montMod_2 : decode cX3_montMod 2 = .ok (.iload_n 2, 1) := by decide +kernel
theorem dX3_montMod_3 : decode cX3_montMod 3 = .ok (.iload_n 3, 1) := by decide +kernel
theorem dX3_montMod_4 : decode cX3_montMod 4 = .ok (.invokevirtual 108, 3) := by decide +kernel
theorem dX3_montMod_7 : decode cX3_montMod 7 = .ok (.ifCond .ne 5, 3) := by decide +kernel
theorem dX3_montMod_10 : decode cX3_montMod 10 = .ok (.iconst 0, 1) := by decide +kernel
theorem dX3_montMod_11 : decode cX3_montMod 11 = .ok (.ireturn, 1) := by decide +kernel
theorem dX3_montMod_12 : decode cX3_montMod 12 = .ok (.aload_n 0, 1) := by decide +kernel
theorem dX3_montMod_13 : decode cX3_montMod 13 = .ok (.iload_n 2, 1) := by decide +kernel
theorem dX3_montMod_14 : decode cX3_montMod 14 = .ok (.iload_n 3, 1) := by decide +kernel
theorem dX3_montMod_15 : decode cX3_montMod 15 = .ok (.invokevirtual 112, 3) := by decide +kernel
theorem dX3_montMod_18 : decode cX3_montMod 18 = .ok (.aload_n 0, 1) := by decide +kernel
theorem dX3_montMod_19 : decode cX3_montMod 19 = .ok (.aload_n 0, 1) := by decide +kernel
theorem dX3_montMod_20 : decode cX3_montMod 20 = .ok (.getfield 16, 3) := by decide +kernel
theorem dX3_montMod_23 : decode cX3_montMod 23 = .ok (.aload_n 0, 1) := by decide +kernel
theorem dX3_montMod_24 : decode cX3_montMod 24 = .ok (.getfield 22, 3) := by decide +kernel
theorem dX3_montMod_27 : decode cX3_montMod 27 = .ok (.invokevirtual 123, 3) := by decide +kernel
theorem dX3_montMod_30 : decode cX3_montMod 30 = .ok (.iconst 0, 1) := by decide +kernel
theorem dX3_montMod_31 : decode cX3_montMod 31 = .ok (.istore 4, 2) := by decide +kernel
theorem dX3_montMod_33 : decode cX3_montMod 33 = .ok (.iload 4, 2) := by decide +kernel
theorem dX3_montMod_35 : decode cX3_montMod 35 = .ok (.aload_n 0, 1) := by decide +kernel
theorem dX3_montMod_36 : decode cX3_montMod 36 = .ok (.invokevirtual 91, 3) := by decide +kernel
theorem dX3_montMod_39 : decode cX3_montMod 39 = .ok (.if_icmp .ge 17, 3) := by decide +kernel
theorem dX3_montMod_42 : decode cX3_montMod 42 = .ok (.aload_n 0, 1) := by decide +kernel
theorem dX3_montMod_43 : decode cX3_montMod 43 = .ok (.aload_n 0, 1) := by decide +kernel
theorem dX3_montMod_44 : decode cX3_montMod 44 = .ok (.getfield 16, 3) := by decide +kernel
theorem dX3_montMod_47 : decode cX3_montMod 47 = .ok (.invokevirtual 126, 3) := by decide +kernel
theorem dX3_montMod_50 : decode cX3_montMod 50 = .ok (.iinc 4 1, 3) := by decide +kernel
theorem dX3_montMod_53 : decode cX3_montMod 53 = .ok (.goto (-20), 3) := by decide +kernel
theorem dX3_montMod_56 : decode cX3_montMod 56 = .ok (.aload_n 0, 1) := by decide +kernel
theorem dX3_montMod_57 : decode cX3_montMod 57 = .ok (.iload_n 1, 1) := by decide +kernel
theorem dX3_montMod_58 : decode cX3_montMod 58 = .ok (.aload_n 0, 1) := by decide +kernel
theorem dX3_montMod_59 : decode cX3_montMod 59 = .ok (.getfield 16, 3) := by decide +kernel
theorem dX3_montMod_62 : decode cX3_montMod 62 = .ok (.invokevirtual 116, 3) := by decide +kernel
theorem dX3_montMod_65 : decode cX3_montMod 65 = .ok (.iconst 1, 1) := by decide +kernel
theorem dX3_montMod_66 : decode cX3_montMod 66 = .ok (.ireturn, 1) := by decide +kernel
set_option maxRecDepth 20000 in
theorem ggX3_raise_X3_copy : GoodIn wsX3_raise wsX3_copy := goodIn_r _ [6] (by decide +kernel) (by decide +kernel)
set_option maxRecDepth 20000 in
theorem gX3_raise_X3_copy : GoodIn wsX3_raise (va_wsS RX3 84 yX3_copy wsX3_copy) := goodIn_app (goodIn_of _ (by decide +kernel)) ggX3_raise_X3_copy
set_option maxRecDepth 20000 in
theorem ggX3_raise_X3_be : GoodIn wsX3_raise wsX3_be := goodIn_r _ [9] (by decide +kernel) (by decide +kernel)
set_option maxRecDepth 20000 in
theorem gX3_raise_X3_be : GoodIn wsX3_raise (va_wsS RX3 87 yX3_be wsX3_be) := goodIn_app (goodIn_of _ (by decide +kernel)) ggX3_raise_X3_be
set_option maxRecDepth 20000 in
theorem ggX3_raise_X3_bits : GoodIn wsX3_raise wsX3_bits := goodIn_r _ [13, 14, 39, 40, 41, 42, 43, 44, 45, 46, 47, 48, 49] (by decide +kernel) (by decide +kernel)
set_option maxRecDepth 20000 in
theorem gX3_raise_X3_bits : GoodIn wsX3_raise (wsV RX3 91 RX3 yX3_bits wsX3_bits) := goodIn_app (goodIn_of _ (by decide +kernel)) ggX3_raise_X3_bits
set_option maxRecDepth 20000 in
theorem ggX3_raise_X3_bit : GoodIn wsX3_raise wsX3_bit := goodIn_r _ [17] (by decide +kernel) (by decide +kernel)
set_option maxRecDepth 20000 in
theorem gX3_raise_X3_bit : GoodIn wsX3_raise (va_wsS RX3 94 yX3_bit wsX3_bit) := goodIn_app (goodIn_of _ (by decide +kernel)) ggX3_raise_X3_bit
set_option maxRecDepth 20000 in
theorem ggX3_raise_X3_product : GoodIn wsX3_raise wsX3_product := goodIn_r _ [21, 22, 23, 3, 4, 5, 6, 7, 8, 9, 10, 11, 12, 13, 14, 24, 25, 26, 27, 28, 29, 30, 31, 32, 33, 34, 35, 36, 37, 38, 15, 16, 17, 39, 40, 41, 42, 43, 44, 45, 46, 47, 48, 49] (by decide +kernel) (by decide +kernel)
set_option maxRecDepth 20000 in
theorem gX3_raise_X3_product : GoodIn wsX3_raise (wsV RX3 123 RX3 yX3_product wsX3_product) := goodIn_app (goodIn_of _ (by decide +kernel)) ggX3_raise_X3_product
theorem dX3_raise_0 : decode cX3_raise 0 = .ok (.aload_n 0, 1) := by decide +kernel
theorem dX3_raise_1 : decode cX3_raise 1 = .ok (.getfield 28, 3) := by decide +kernel
theorem dX3_raise_4 : decode cX3_raise 4 = .ok (.aload_n 1, 1) := by decide +kernel
theorem dX3_raise_5 : decode cX3_raise 5 = .ok (.invokestatic 84, 3) := by decide +kernel
theorem dX3_raise_8 : decode cX3_raise 8 = .ok (.aload_n 1, 1) := by decide +kernel
theorem dX3_raise_9 : decode cX3_raise 9 = .ok (.lconst 1, 1) := by decide +kernel
theorem dX3_raise_10 : decode cX3_raise 10 = .ok (.invokestatic 87, 3) := by decide +kernel
theorem dX3_raise_13 : decode cX3_raise 13 = .ok (.iconst 0, 1) := by decide +kernel
theorem dX3_raise_14 : decode cX3_raise 14 = .ok (.istore_n 2, 1) := by decide +kernel
theorem dX3_raise_15 : decode cX3_raise 15 = .ok (.iload_n 2, 1) := by decide +kernel
theorem dX3_raise_16 : decode cX3_raise 16 = .ok (.aload_n 0, 1) := by decide +kernel
theorem dX3_raise_17 : decode cX3_raise 17 = .ok (.invokevirtual 91, 3) := by decide +kernel
theorem dX3_raise_20 : decode cX3_raise 20 = .ok (.if_icmp .ge 41, 3) := by decide +kernel
theorem dX3_raise_23 : decode cX3_raise 23 = .ok (.aload_n 0, 1) := by decide +kernel
theorem dX3_raise_24 : decode cX3_raise 24 = .ok (.getfield 31, 3) := by decide +kernel
theorem dX3_raise_27 : decode cX3_raise 27 = .ok (.iload_n 2, 1) := by decide +kernel
theorem dX3_raise_28 : decode cX3_raise 28 = .ok (.invokestatic 94, 3) := by decide +kernel
theorem dX3_raise_31 : decode cX3_raise 31 = .ok (.ifCond .eq 12, 3) := by decide +kernel
theorem dX3_raise_34 : decode cX3_raise 34 = .ok (.aload_n 0, 1) := by decide +kernel
theorem dX3_raise_35 : decode cX3_raise 35 = .ok (.aload_n 1, 1) := by decide +kernel
theorem dX3_raise_36 : decode cX3_raise 36 = .ok (.aload_n 0, 1) := by decide +kernel
theorem dX3_raise_37 : decode cX3_raise 37 = .ok (.getfield 28, 3) := by decide +kernel
theorem dX3_raise_40 : decode cX3_raise 40 = .ok (.invokevirtual 123, 3) := by decide +kernel
theorem dX3_raise_43 : decode cX3_raise 43 = .ok (.aload_n 0, 1) := by decide +kernel
theorem dX3_raise_44 : decode cX3_raise 44 = .ok (.aload_n 0, 1) := by decide +kernel
theorem dX3_raise_45 : decode cX3_raise 45 = .ok (.getfield 28, 3) := by decide +kernel
theorem dX3_raise_48 : decode cX3_raise 48 = .ok (.aload_n 0, 1) := by decide +kernel
theorem dX3_raise_49 : decode cX3_raise 49 = .ok (.getfield 28, 3) := by decide +kernel
theorem dX3_raise_52 : decode cX3_raise 52 = .ok (.invokevirtual 123, 3) := by decide +kernel
theorem dX3_raise_55 : decode cX3_raise 55 = .ok (.iinc 2 1, 3) := by decide +kernel
theorem dX3_raise_58 : decode cX3_raise 58 = .ok (.goto (-43), 3) := by decide +kernel
theorem dX3_raise_61 : decode cX3_raise 61 = .ok (.return_, 1) := by decide +kernel
set_option maxRecDepth 20000 in
theorem ggX3_powMod_X3_isAsked : GoodIn wsX3_powMod wsX3_isAsked := goodIn_r _ [7, 8, 9, 10, 11, 6, 12, 13, 80, 81, 82, 83, 84, 85, 86, 87, 88, 89, 90] (by decide +kernel) (by decide +kernel)
set_option maxRecDepth 20000 in
theorem gX3_powMod_X3_isAsked : GoodIn wsX3_powMod (wsV RX3 108 RX3 yX3_isAsked wsX3_isAsked) := goodIn_app (goodIn_of _ (by decide +kernel)) ggX3_powMod_X3_isAsked
set_option maxRecDepth 20000 in
theorem ggX3_powMod_X3_takes : GoodIn wsX3_powMod wsX3_takes := goodIn_r _ [17, 18, 2, 19, 20, 21, 22, 6, 23, 24, 25, 26, 27, 28, 29, 30, 31, 32, 33, 34, 35, 36, 37, 38, 39, 40, 41, 42, 43, 44, 45, 46, 47, 48, 49, 50, 51, 52, 53, 54, 55, 56, 57, 58, 59, 60, 61, 80, 81, 82, 83, 84, 85, 86, 87, 88, 89, 90] (by decide +kernel) (by decide +kernel)
set_option maxRecDepth 20000 in
theorem gX3_powMod_X3_takes : GoodIn wsX3_powMod (wsV RX3 112 RX3 yX3_takes wsX3_takes) := goodIn_app (goodIn_of _ (by decide +kernel)) ggX3_powMod_X3_takes
set_option maxRecDepth 20000 in
theorem ggX3_powMod_X3_placeOf : GoodIn wsX3_powMod wsX3_placeOf := goodIn_r _ [32] (by decide +kernel) (by decide +kernel)
set_option maxRecDepth 20000 in
theorem gX3_powMod_X3_placeOf : GoodIn wsX3_powMod (wsV RX3 70 RX3 yX3_placeOf wsX3_placeOf) := goodIn_app (goodIn_of _ (by decide +kernel)) ggX3_powMod_X3_placeOf
set_option maxRecDepth 20000 in
theorem ggX3_powMod_X3_read : GoodIn wsX3_powMod wsX3_read := goodIn_r _ [27, 28, 80, 81, 82, 83, 84, 85, 86, 87, 88, 89, 90] (by decide +kernel) (by decide +kernel)
set_option maxRecDepth 20000 in
theorem gX3_powMod_X3_read : GoodIn wsX3_powMod (wsV RX3 59 RX3 yX3_read wsX3_read) := goodIn_app (goodIn_of _ (by decide +kernel)) ggX3_powMod_X3_read
set_option maxRecDepth 20000 in
theorem ggX3_powMod_X3_raise : GoodIn wsX3_powMod wsX3_raise := goodIn_r _ [65, 66, 1, 38, 39, 6, 40, 41, 42, 43, 44, 45, 46, 47, 48, 53, 54, 55, 67, 68, 69, 70, 37, 71, 72, 73, 74, 75, 18, 49, 50, 51, 52, 56, 57, 58, 59, 60, 61, 80, 81, 82, 83, 84, 85, 86, 87, 88, 89, 90] (by decide +kernel) (by decide +kernel)
set_option maxRecDepth 20000 in
theorem gX3_powMod_X3_raise : GoodIn wsX3_powMod (wsV RX3 129 RX3 yX3_raise wsX3_raise) := goodIn_app (goodIn_of _ (by decide +kernel)) ggX3_powMod_X3_raise
set_option maxRecDepth 20000 in
theorem ggX3_powMod_X3_write : GoodIn wsX3_powMod wsX3_write := goodIn_r _ [79, 28, 29, 30, 31, 6, 32, 80, 81, 82, 83, 84, 85, 86, 87, 88, 89, 90] (by decide +kernel) (by decide +kernel)
set_option maxRecDepth 20000 in
theorem gX3_powMod_X3_write : GoodIn wsX3_powMod (wsV RX3 116 RX3 yX3_write wsX3_write) := goodIn_app (goodIn_of _ (by decide +kernel)) ggX3_powMod_X3_write
theorem dX3_powMod_0 : decode cX3_powMod 0 = .ok (.aload_n 0, 1) := by decide +kernel
theorem dX3_powMod_1 : decode cX3_powMod 1 = .ok (.iload_n 1, 1) := by decide +kernel
theorem dX3_powMod_2 : decode cX3_powMod 2 = .ok (.iload_n 2, 1) := by decide +kernel
theorem dX3_powMod_3 : decode cX3_powMod 3 = .ok (.iload_n 3, 1) := by decide +kernel
theorem dX3_powMod_4 : decode cX3_powMod 4 = .ok (.invokevirtual 108, 3) := by decide +kernel
theorem dX3_powMod_7 : decode cX3_powMod 7 = .ok (.ifCond .ne 5, 3) := by decide +kernel
theorem dX3_powMod_10 : decode cX3_powMod 10 = .ok (.iconst 0, 1) := by decide +kernel
theorem dX3_powMod_11 : decode cX3_powMod 11 = .ok (.ireturn, 1) := by decide +kernel
theorem dX3_powMod_12 : decode cX3_powMod 12 = .ok (.aload_n 0, 1) := by decide +kernel
theorem dX3_powMod_13 : decode cX3_powMod 13 = .ok (.iload_n 2, 1) := by decide +kernel
theorem dX3_powMod_14 : decode cX3_powMod 14 = .ok (.iload_n 2, 1) := by decide +kernel
theorem dX3_powMod_15 : decode cX3_powMod 15 = .ok (.invokevirtual 112, 3) := by decide +kernel
theorem dX3_powMod_18 : decode cX3_powMod 18 = .ok (.aload_n 0, 1) := by decide +kernel
theorem dX3_powMod_19 : decode cX3_powMod 19 = .ok (.aload_n 0, 1) := by decide +kernel
theorem dX3_powMod_20 : decode cX3_powMod 20 = .ok (.getfield 31, 3) := by decide +kernel
theorem dX3_powMod_23 : decode cX3_powMod 23 = .ok (.aload_n 0, 1) := by decide +kernel
theorem dX3_powMod_24 : decode cX3_powMod 24 = .ok (.iload_n 3, 1) := by decide +kernel
theorem dX3_powMod_25 : decode cX3_powMod 25 = .ok (.invokevirtual 70, 3) := by decide +kernel
theorem dX3_powMod_28 : decode cX3_powMod 28 = .ok (.invokevirtual 59, 3) := by decide +kernel
theorem dX3_powMod_31 : decode cX3_powMod 31 = .ok (.aload_n 0, 1) := by decide +kernel
theorem dX3_powMod_32 : decode cX3_powMod 32 = .ok (.aload_n 0, 1) := by decide +kernel
theorem dX3_powMod_33 : decode cX3_powMod 33 = .ok (.getfield 16, 3) := by decide +kernel
theorem dX3_powMod_36 : decode cX3_powMod 36 = .ok (.invokevirtual 129, 3) := by decide +kernel
theorem dX3_powMod_39 : decode cX3_powMod 39 = .ok (.aload_n 0, 1) := by decide +kernel
theorem dX3_powMod_40 : decode cX3_powMod 40 = .ok (.iload_n 1, 1) := by decide +kernel
theorem dX3_powMod_41 : decode cX3_powMod 41 = .ok (.aload_n 0, 1) := by decide +kernel
theorem dX3_powMod_42 : decode cX3_powMod 42 = .ok (.getfield 16, 3) := by decide +kernel
theorem dX3_powMod_45 : decode cX3_powMod 45 = .ok (.invokevirtual 116, 3) := by decide +kernel
theorem dX3_powMod_48 : decode cX3_powMod 48 = .ok (.iconst 1, 1) := by decide +kernel
theorem dX3_powMod_49 : decode cX3_powMod 49 = .ok (.ireturn, 1) := by decide +kernel
set_option maxRecDepth 20000 in
theorem ggX3_invMod_X3_isAsked : GoodIn wsX3_invMod wsX3_isAsked := goodIn_r _ [10, 11, 12, 13, 14, 9, 15, 16, 84, 85, 86, 87, 88, 89, 90, 91, 92, 93, 94] (by decide +kernel) (by decide +kernel)
set_option maxRecDepth 20000 in
theorem gX3_invMod_X3_isAsked : GoodIn wsX3_invMod (wsV RX3 108 RX3 yX3_isAsked wsX3_isAsked) := goodIn_app (goodIn_of _ (by decide +kernel)) ggX3_invMod_X3_isAsked
set_option maxRecDepth 20000 in
theorem ggX3_invMod_X3_takes : GoodIn wsX3_invMod wsX3_takes := goodIn_r _ [20, 2, 5, 3, 21, 22, 23, 9, 24, 25, 26, 27, 28, 29, 30, 31, 32, 33, 34, 35, 36, 37, 38, 39, 40, 41, 42, 43, 44, 45, 46, 47, 48, 49, 50, 51, 52, 53, 54, 55, 56, 57, 58, 59, 60, 61, 62, 84, 85, 86, 87, 88, 89, 90, 91, 92, 93, 94] (by decide +kernel) (by decide +kernel)
set_option maxRecDepth 20000 in
theorem gX3_invMod_X3_takes : GoodIn wsX3_invMod (wsV RX3 112 RX3 yX3_takes wsX3_takes) := goodIn_app (goodIn_of _ (by decide +kernel)) ggX3_invMod_X3_takes
set_option maxRecDepth 20000 in
theorem ggX3_invMod_X3_copy : GoodIn wsX3_invMod wsX3_copy := goodIn_r _ [41] (by decide +kernel) (by decide +kernel)
set_option maxRecDepth 20000 in
theorem gX3_invMod_X3_copy : GoodIn wsX3_invMod (va_wsS RX3 84 yX3_copy wsX3_copy) := goodIn_app (goodIn_of _ (by decide +kernel)) ggX3_invMod_X3_copy
set_option maxRecDepth 20000 in
theorem ggX3_invMod_X3_be : GoodIn wsX3_invMod wsX3_be := goodIn_r _ [44] (by decide +kernel) (by decide +kernel)
set_option maxRecDepth 20000 in
theorem gX3_invMod_X3_be : GoodIn wsX3_invMod (va_wsS RX3 87 yX3_be wsX3_be) := goodIn_app (goodIn_of _ (by decide +kernel)) ggX3_invMod_X3_be
set_option maxRecDepth 20000 in
theorem ggX3_invMod_X3_isNought : GoodIn wsX3_invMod wsX3_isNought := goodIn_r _ [65] (by decide +kernel) (by decide +kernel)
set_option maxRecDepth 20000 in
theorem gX3_invMod_X3_isNought : GoodIn wsX3_invMod (va_wsS RX3 132 yX3_isNought wsX3_isNought) := goodIn_app (goodIn_of _ (by decide +kernel)) ggX3_invMod_X3_isNought
set_option maxRecDepth 20000 in
theorem ggX3_invMod_X3_bit : GoodIn wsX3_invMod wsX3_bit := goodIn_r _ [56] (by decide +kernel) (by decide +kernel)
set_option maxRecDepth 20000 in
theorem gX3_invMod_X3_bit : GoodIn wsX3_invMod (va_wsS RX3 94 yX3_bit wsX3_bit) := goodIn_app (goodIn_of _ (by decide +kernel)) ggX3_invMod_X3_bit
set_option maxRecDepth 20000 in
theorem ggX3_invMod_X3_half : GoodIn wsX3_invMod wsX3_half := goodIn_r _ [68] (by decide +kernel) (by decide +kernel)
set_option maxRecDepth 20000 in
theorem gX3_invMod_X3_half : GoodIn wsX3_invMod (va_wsS RX3 101 yX3_half wsX3_half) := goodIn_app (goodIn_of _ (by decide +kernel)) ggX3_invMod_X3_half
set_option maxRecDepth 20000 in
theorem ggX3_invMod_X3_halfOf : GoodIn wsX3_invMod wsX3_halfOf := goodIn_r _ [72, 2, 54, 55, 9, 56, 50, 51, 52, 53, 66, 67, 68, 84, 85, 86, 87, 88, 89, 90, 91, 92, 93, 94] (by decide +kernel) (by decide +kernel)
set_option maxRecDepth 20000 in
theorem gX3_invMod_X3_halfOf : GoodIn wsX3_invMod (wsV RX3 126 RX3 yX3_halfOf wsX3_halfOf) := goodIn_app (goodIn_of _ (by decide +kernel)) ggX3_invMod_X3_halfOf
set_option maxRecDepth 20000 in
theorem ggX3_invMod_X3_compared : GoodIn wsX3_invMod wsX3_compared := goodIn_r _ [59] (by decide +kernel) (by decide +kernel)
set_option maxRecDepth 20000 in
theorem gX3_invMod_X3_compared : GoodIn wsX3_invMod (va_wsS RX3 77 yX3_compared wsX3_compared) := goodIn_app (goodIn_of _ (by decide +kernel)) ggX3_invMod_X3_compared
set_option maxRecDepth 20000 in
theorem ggX3_invMod_X3_minus : GoodIn wsX3_invMod wsX3_minus := goodIn_r _ [62, 53] (by decide +kernel) (by decide +kernel)
set_option maxRecDepth 20000 in
theorem gX3_invMod_X3_minus : GoodIn wsX3_invMod (va_wsS RX3 81 yX3_minus wsX3_minus) := goodIn_app (goodIn_of _ (by decide +kernel)) ggX3_invMod_X3_minus
set_option maxRecDepth 20000 in
theorem ggX3_invMod_X3_difference : GoodIn wsX3_invMod wsX3_difference := goodIn_r _ [76, 2, 57, 58, 9, 59, 50, 51, 52, 53, 60, 61, 62, 84, 85, 86, 87, 88, 89, 90, 91, 92, 93, 94] (by decide +kernel) (by decide +kernel)
set_option maxRecDepth 20000 in
theorem gX3_invMod_X3_difference : GoodIn wsX3_invMod (wsV RX3 120 RX3 yX3_difference wsX3_difference) := goodIn_app (goodIn_of _ (by decide +kernel)) ggX3_invMod_X3_difference
set_option maxRecDepth 20000 in
theorem ggX3_invMod_X3_isOne : GoodIn wsX3_invMod wsX3_isOne := goodIn_r _ [79] (by decide +kernel) (by decide +kernel)
set_option maxRecDepth 20000 in
theorem gX3_invMod_X3_isOne : GoodIn wsX3_invMod (va_wsS RX3 136 yX3_isOne wsX3_isOne) := goodIn_app (goodIn_of _ (by decide +kernel)) ggX3_invMod_X3_isOne
set_option maxRecDepth 20000 in
theorem ggX3_invMod_X3_write : GoodIn wsX3_invMod wsX3_write := goodIn_r _ [83, 29, 30, 31, 32, 9, 33, 84, 85, 86, 87, 88, 89, 90, 91, 92, 93, 94] (by decide +kernel) (by decide +kernel)
set_option maxRecDepth 20000 in
theorem gX3_invMod_X3_write : GoodIn wsX3_invMod (wsV RX3 116 RX3 yX3_write wsX3_write) := goodIn_app (goodIn_of _ (by decide +kernel)) ggX3_invMod_X3_write
theorem dX3_invMod_0 : decode cX3_invMod 0 = .ok (.aload_n 0, 1) := by decide +kernel
theorem dX3_invMod_1 : decode cX3_invMod 1 = .ok (.iload_n 1, 1) := by decide +kernel
theorem dX3_invMod_2 : decode cX3_invMod 2 = .ok (.iload_n 2, 1) := by decide +kernel
theorem dX3_invMod_3 : decode cX3_invMod 3 = .ok (.iload_n 2, 1) := by decide +kernel
theorem dX3_invMod_4 : decode cX3_invMod 4 = .ok (.invokevirtual 108, 3) := by decide +kernel
theorem dX3_invMod_7 : decode cX3_invMod 7 = .ok (.ifCond .ne 5, 3) := by decide +kernel
