theorem dX1_montgomery_29 : decode cX1_montgomery 29 = .ok (.aload_n 0, 1) := by decide +kernel
theorem dX1_montgomery_30 : decode cX1_montgomery 30 = .ok (.getfield 31, 3) := by decide +kernel
theorem dX1_montgomery_33 : decode cX1_montgomery 33 = .ok (.aload_n 3, 1) := by decide +kernel
theorem dX1_montgomery_34 : decode cX1_montgomery 34 = .ok (.aload_n 2, 1) := by decide +kernel
theorem dX1_montgomery_35 : decode cX1_montgomery 35 = .ok (.iload 6, 2) := by decide +kernel
theorem dX1_montgomery_37 : decode cX1_montgomery 37 = .ok (.iaload, 1) := by decide +kernel
theorem dX1_montgomery_38 : decode cX1_montgomery 38 = .ok (.aload_n 0, 1) := by decide +kernel
theorem dX1_montgomery_39 : decode cX1_montgomery 39 = .ok (.getfield 9, 3) := by decide +kernel
theorem dX1_montgomery_42 : decode cX1_montgomery 42 = .ok (.invokestatic 107, 3) := by decide +kernel
theorem dX1_montgomery_45 : decode cX1_montgomery 45 = .ok (.ladd, 1) := by decide +kernel
theorem dX1_montgomery_46 : decode cX1_montgomery 46 = .ok (.lstore 4, 2) := by decide +kernel
theorem dX1_montgomery_48 : decode cX1_montgomery 48 = .ok (.lload 4, 2) := by decide +kernel
theorem dX1_montgomery_50 : decode cX1_montgomery 50 = .ok (.aload_n 0, 1) := by decide +kernel
theorem dX1_montgomery_51 : decode cX1_montgomery 51 = .ok (.getfield 31, 3) := by decide +kernel
theorem dX1_montgomery_54 : decode cX1_montgomery 54 = .ok (.aload_n 0, 1) := by decide +kernel
theorem dX1_montgomery_55 : decode cX1_montgomery 55 = .ok (.getfield 18, 3) := by decide +kernel
theorem dX1_montgomery_58 : decode cX1_montgomery 58 = .ok (.aload_n 0, 1) := by decide +kernel
theorem dX1_montgomery_59 : decode cX1_montgomery 59 = .ok (.getfield 31, 3) := by decide +kernel
theorem dX1_montgomery_62 : decode cX1_montgomery 62 = .ok (.iconst 0, 1) := by decide +kernel
theorem dX1_montgomery_63 : decode cX1_montgomery 63 = .ok (.iaload, 1) := by decide +kernel
theorem dX1_montgomery_64 : decode cX1_montgomery 64 = .ok (.aload_n 0, 1) := by decide +kernel
theorem dX1_montgomery_65 : decode cX1_montgomery 65 = .ok (.getfield 46, 3) := by decide +kernel
theorem dX1_montgomery_68 : decode cX1_montgomery 68 = .ok (.imul, 1) := by decide +kernel
theorem dX1_montgomery_69 : decode cX1_montgomery 69 = .ok (.aload_n 0, 1) := by decide +kernel
theorem dX1_montgomery_70 : decode cX1_montgomery 70 = .ok (.getfield 9, 3) := by decide +kernel
theorem dX1_montgomery_73 : decode cX1_montgomery 73 = .ok (.invokestatic 107, 3) := by decide +kernel
theorem dX1_montgomery_76 : decode cX1_montgomery 76 = .ok (.ladd, 1) := by decide +kernel
theorem dX1_montgomery_77 : decode cX1_montgomery 77 = .ok (.lstore 4, 2) := by decide +kernel
theorem dX1_montgomery_79 : decode cX1_montgomery 79 = .ok (.aload_n 0, 1) := by decide +kernel
theorem dX1_montgomery_80 : decode cX1_montgomery 80 = .ok (.getfield 31, 3) := by decide +kernel
theorem dX1_montgomery_83 : decode cX1_montgomery 83 = .ok (.lload 4, 2) := by decide +kernel
theorem dX1_montgomery_85 : decode cX1_montgomery 85 = .ok (.aload_n 0, 1) := by decide +kernel
theorem dX1_montgomery_86 : decode cX1_montgomery 86 = .ok (.getfield 9, 3) := by decide +kernel
theorem dX1_montgomery_89 : decode cX1_montgomery 89 = .ok (.invokestatic 111, 3) := by decide +kernel
theorem dX1_montgomery_92 : decode cX1_montgomery 92 = .ok (.lstore 4, 2) := by decide +kernel
theorem dX1_montgomery_94 : decode cX1_montgomery 94 = .ok (.iinc 6 1, 3) := by decide +kernel
theorem dX1_montgomery_97 : decode cX1_montgomery 97 = .ok (.goto (-79), 3) := by decide +kernel
theorem dX1_montgomery_100 : decode cX1_montgomery 100 = .ok (.aload_n 1, 1) := by decide +kernel
theorem dX1_montgomery_101 : decode cX1_montgomery 101 = .ok (.aload_n 0, 1) := by decide +kernel
theorem dX1_montgomery_102 : decode cX1_montgomery 102 = .ok (.getfield 31, 3) := by decide +kernel
theorem dX1_montgomery_105 : decode cX1_montgomery 105 = .ok (.aload_n 0, 1) := by decide +kernel
theorem dX1_montgomery_106 : decode cX1_montgomery 106 = .ok (.getfield 9, 3) := by decide +kernel
theorem dX1_montgomery_109 : decode cX1_montgomery 109 = .ok (.invokestatic 63, 3) := by decide +kernel
theorem dX1_montgomery_112 : decode cX1_montgomery 112 = .ok (.aload_n 0, 1) := by decide +kernel
theorem dX1_montgomery_113 : decode cX1_montgomery 113 = .ok (.aload_n 1, 1) := by decide +kernel
theorem dX1_montgomery_114 : decode cX1_montgomery 114 = .ok (.lload 4, 2) := by decide +kernel
theorem dX1_montgomery_116 : decode cX1_montgomery 116 = .ok (.invokevirtual 115, 3) := by decide +kernel
theorem dX1_montgomery_119 : decode cX1_montgomery 119 = .ok (.return_, 1) := by decide +kernel
set_option maxRecDepth 20000 in
theorem ggX1_raise_X0_copy : GoodIn wsX1_raise wsX0_copy := goodIn_r _ [6] (by decide +kernel) (by decide +kernel)
set_option maxRecDepth 20000 in
theorem gX1_raise_X0_copy : GoodIn wsX1_raise (va_wsS RX1 63 yX0_copy wsX0_copy) := goodIn_app (goodIn_of _ (by decide +kernel)) ggX1_raise_X0_copy
set_option maxRecDepth 20000 in
theorem ggX1_raise_X0_highestBit : GoodIn wsX1_raise wsX0_highestBit := goodIn_r _ [9, 10, 11, 5, 12] (by decide +kernel) (by decide +kernel)
set_option maxRecDepth 20000 in
theorem gX1_raise_X0_highestBit : GoodIn wsX1_raise (va_wsS RX1 119 yX0_highestBit wsX0_highestBit) := goodIn_app (goodIn_of _ (by decide +kernel)) ggX1_raise_X0_highestBit
set_option maxRecDepth 20000 in
theorem ggX1_raise_X1_montgomery : GoodIn wsX1_raise wsX1_montgomery := goodIn_r _ [17, 18, 2, 19, 20, 21, 22, 5, 23, 24, 25, 26, 27, 28, 29, 30, 3, 4, 6, 31, 32, 33, 16, 34, 35, 36, 37, 38, 39, 40, 42, 43, 44, 45, 46, 47, 48, 49, 50, 51, 52, 53] (by decide +kernel) (by decide +kernel)
set_option maxRecDepth 20000 in
theorem gX1_raise_X1_montgomery : GoodIn wsX1_raise (wsV RX1 71 RX1 yX1_montgomery wsX1_montgomery) := goodIn_app (goodIn_of _ (by decide +kernel)) ggX1_raise_X1_montgomery
set_option maxRecDepth 20000 in
theorem ggX1_raise_X0_isBitSet : GoodIn wsX1_raise wsX0_isBitSet := goodIn_r _ [12] (by decide +kernel) (by decide +kernel)
set_option maxRecDepth 20000 in
theorem gX1_raise_X0_isBitSet : GoodIn wsX1_raise (va_wsS RX1 123 yX0_isBitSet wsX0_isBitSet) := goodIn_app (goodIn_of _ (by decide +kernel)) ggX1_raise_X0_isBitSet
theorem dX1_raise_0 : decode cX1_raise 0 = .ok (.aload_n 1, 1) := by decide +kernel
theorem dX1_raise_1 : decode cX1_raise 1 = .ok (.aload_n 0, 1) := by decide +kernel
theorem dX1_raise_2 : decode cX1_raise 2 = .ok (.getfield 25, 3) := by decide +kernel
theorem dX1_raise_5 : decode cX1_raise 5 = .ok (.aload_n 0, 1) := by decide +kernel
theorem dX1_raise_6 : decode cX1_raise 6 = .ok (.getfield 9, 3) := by decide +kernel
theorem dX1_raise_9 : decode cX1_raise 9 = .ok (.invokestatic 63, 3) := by decide +kernel
theorem dX1_raise_12 : decode cX1_raise 12 = .ok (.aload_n 3, 1) := by decide +kernel
theorem dX1_raise_13 : decode cX1_raise 13 = .ok (.aload_n 0, 1) := by decide +kernel
theorem dX1_raise_14 : decode cX1_raise 14 = .ok (.getfield 9, 3) := by decide +kernel
theorem dX1_raise_17 : decode cX1_raise 17 = .ok (.invokestatic 119, 3) := by decide +kernel
theorem dX1_raise_20 : decode cX1_raise 20 = .ok (.istore 5, 2) := by decide +kernel
theorem dX1_raise_22 : decode cX1_raise 22 = .ok (.iload 5, 2) := by decide +kernel
theorem dX1_raise_24 : decode cX1_raise 24 = .ok (.iload 4, 2) := by decide +kernel
theorem dX1_raise_26 : decode cX1_raise 26 = .ok (.if_icmp .lt 32, 3) := by decide +kernel
theorem dX1_raise_29 : decode cX1_raise 29 = .ok (.aload_n 0, 1) := by decide +kernel
theorem dX1_raise_30 : decode cX1_raise 30 = .ok (.aload_n 1, 1) := by decide +kernel
theorem dX1_raise_31 : decode cX1_raise 31 = .ok (.aload_n 1, 1) := by decide +kernel
theorem dX1_raise_32 : decode cX1_raise 32 = .ok (.aload_n 1, 1) := by decide +kernel
theorem dX1_raise_33 : decode cX1_raise 33 = .ok (.invokevirtual 71, 3) := by decide +kernel
theorem dX1_raise_36 : decode cX1_raise 36 = .ok (.aload_n 3, 1) := by decide +kernel
theorem dX1_raise_37 : decode cX1_raise 37 = .ok (.iload 5, 2) := by decide +kernel
theorem dX1_raise_39 : decode cX1_raise 39 = .ok (.invokestatic 123, 3) := by decide +kernel
theorem dX1_raise_42 : decode cX1_raise 42 = .ok (.ifCond .eq 10, 3) := by decide +kernel
theorem dX1_raise_45 : decode cX1_raise 45 = .ok (.aload_n 0, 1) := by decide +kernel
theorem dX1_raise_46 : decode cX1_raise 46 = .ok (.aload_n 1, 1) := by decide +kernel
theorem dX1_raise_47 : decode cX1_raise 47 = .ok (.aload_n 1, 1) := by decide +kernel
theorem dX1_raise_48 : decode cX1_raise 48 = .ok (.aload_n 2, 1) := by decide +kernel
theorem dX1_raise_49 : decode cX1_raise 49 = .ok (.invokevirtual 71, 3) := by decide +kernel
theorem dX1_raise_52 : decode cX1_raise 52 = .ok (.iinc 5 (-1), 3) := by decide +kernel
theorem dX1_raise_55 : decode cX1_raise 55 = .ok (.goto (-33), 3) := by decide +kernel
theorem dX1_raise_58 : decode cX1_raise 58 = .ok (.return_, 1) := by decide +kernel
set_option maxRecDepth 20000 in
theorem ggX1_stepTowardsDivisor_X0_isOdd : GoodIn wsX1_stepTowardsDivisor wsX0_isOdd := goodIn_r _ [9] (by decide +kernel) (by decide +kernel)
set_option maxRecDepth 20000 in
theorem gX1_stepTowardsDivisor_X0_isOdd : GoodIn wsX1_stepTowardsDivisor (va_wsS RX1 49 yX0_isOdd wsX0_isOdd) := goodIn_app (goodIn_of _ (by decide +kernel)) ggX1_stepTowardsDivisor_X0_isOdd
set_option maxRecDepth 20000 in
theorem ggX1_stepTowardsDivisor_X0_halve : GoodIn wsX1_stepTowardsDivisor wsX0_halve := goodIn_r _ [12, 13] (by decide +kernel) (by decide +kernel)
set_option maxRecDepth 20000 in
theorem gX1_stepTowardsDivisor_X0_halve : GoodIn wsX1_stepTowardsDivisor (va_wsS RX1 127 yX0_halve wsX0_halve) := goodIn_app (goodIn_of _ (by decide +kernel)) ggX1_stepTowardsDivisor_X0_halve
set_option maxRecDepth 20000 in
theorem ggX1_stepTowardsDivisor_X1_halveBelow : GoodIn wsX1_stepTowardsDivisor wsX1_halveBelow := goodIn_r _ [18, 19, 2, 6, 7, 8, 9, 20, 21, 22, 13, 10, 11, 12, 36, 37, 38, 39, 40, 41, 42, 43, 44, 45, 46, 47] (by decide +kernel) (by decide +kernel)
set_option maxRecDepth 20000 in
theorem gX1_stepTowardsDivisor_X1_halveBelow : GoodIn wsX1_stepTowardsDivisor (wsV RX1 131 RX1 yX1_halveBelow wsX1_halveBelow) := goodIn_app (goodIn_of _ (by decide +kernel)) ggX1_stepTowardsDivisor_X1_halveBelow
set_option maxRecDepth 20000 in
theorem ggX1_stepTowardsDivisor_X0_order : GoodIn wsX1_stepTowardsDivisor wsX0_order := goodIn_r _ [25, 13] (by decide +kernel) (by decide +kernel)
set_option maxRecDepth 20000 in
theorem gX1_stepTowardsDivisor_X0_order : GoodIn wsX1_stepTowardsDivisor (va_wsS RX1 103 yX0_order wsX0_order) := goodIn_app (goodIn_of _ (by decide +kernel)) ggX1_stepTowardsDivisor_X0_order
set_option maxRecDepth 20000 in
theorem ggX1_stepTowardsDivisor_X0_swap : GoodIn wsX1_stepTowardsDivisor wsX0_swap := goodIn_r _ [28] (by decide +kernel) (by decide +kernel)
set_option maxRecDepth 20000 in
theorem gX1_stepTowardsDivisor_X0_swap : GoodIn wsX1_stepTowardsDivisor (va_wsS RX1 134 yX0_swap wsX0_swap) := goodIn_app (goodIn_of _ (by decide +kernel)) ggX1_stepTowardsDivisor_X0_swap
set_option maxRecDepth 20000 in
theorem ggX1_stepTowardsDivisor_X0_subtract : GoodIn wsX1_stepTowardsDivisor wsX0_subtract := goodIn_r _ [31, 13] (by decide +kernel) (by decide +kernel)
set_option maxRecDepth 20000 in
theorem gX1_stepTowardsDivisor_X0_subtract : GoodIn wsX1_stepTowardsDivisor (va_wsS RX1 137 yX0_subtract wsX0_subtract) := goodIn_app (goodIn_of _ (by decide +kernel)) ggX1_stepTowardsDivisor_X0_subtract
set_option maxRecDepth 20000 in
theorem ggX1_stepTowardsDivisor_X1_subtractBelow : GoodIn wsX1_stepTowardsDivisor wsX1_subtractBelow := goodIn_r _ [35, 2, 19, 29, 30, 8, 31, 13, 20, 21, 22, 36, 37, 38, 39, 40, 41, 42, 43, 44, 45, 46, 47] (by decide +kernel) (by decide +kernel)
set_option maxRecDepth 20000 in
theorem gX1_stepTowardsDivisor_X1_subtractBelow : GoodIn wsX1_stepTowardsDivisor (wsV RX1 82 RX1 yX1_subtractBelow wsX1_subtractBelow) := goodIn_app (goodIn_of _ (by decide +kernel)) ggX1_stepTowardsDivisor_X1_subtractBelow
theorem dX1_stepTowardsDivisor_0 : decode cX1_stepTowardsDivisor 0 = .ok (.aload_n 0, 1) := by decide +kernel
theorem dX1_stepTowardsDivisor_1 : decode cX1_stepTowardsDivisor 1 = .ok (.getfield 34, 3) := by decide +kernel
theorem dX1_stepTowardsDivisor_4 : decode cX1_stepTowardsDivisor 4 = .ok (.invokestatic 49, 3) := by decide +kernel
theorem dX1_stepTowardsDivisor_7 : decode cX1_stepTowardsDivisor 7 = .ok (.ifCond .ne 24, 3) := by decide +kernel
theorem dX1_stepTowardsDivisor_10 : decode cX1_stepTowardsDivisor 10 = .ok (.aload_n 0, 1) := by decide +kernel
theorem dX1_stepTowardsDivisor_11 : decode cX1_stepTowardsDivisor 11 = .ok (.getfield 34, 3) := by decide +kernel
theorem dX1_stepTowardsDivisor_14 : decode cX1_stepTowardsDivisor 14 = .ok (.lconst 0, 1) := by decide +kernel
theorem dX1_stepTowardsDivisor_15 : decode cX1_stepTowardsDivisor 15 = .ok (.aload_n 0, 1) := by decide +kernel
theorem dX1_stepTowardsDivisor_16 : decode cX1_stepTowardsDivisor 16 = .ok (.getfield 9, 3) := by decide +kernel
theorem dX1_stepTowardsDivisor_19 : decode cX1_stepTowardsDivisor 19 = .ok (.invokestatic 127, 3) := by decide +kernel
theorem dX1_stepTowardsDivisor_22 : decode cX1_stepTowardsDivisor 22 = .ok (.aload_n 0, 1) := by decide +kernel
theorem dX1_stepTowardsDivisor_23 : decode cX1_stepTowardsDivisor 23 = .ok (.aload_n 0, 1) := by decide +kernel
theorem dX1_stepTowardsDivisor_24 : decode cX1_stepTowardsDivisor 24 = .ok (.getfield 40, 3) := by decide +kernel
theorem dX1_stepTowardsDivisor_27 : decode cX1_stepTowardsDivisor 27 = .ok (.invokevirtual 131, 3) := by decide +kernel
theorem dX1_stepTowardsDivisor_30 : decode cX1_stepTowardsDivisor 30 = .ok (.return_, 1) := by decide +kernel
theorem dX1_stepTowardsDivisor_31 : decode cX1_stepTowardsDivisor 31 = .ok (.aload_n 0, 1) := by decide +kernel
theorem dX1_stepTowardsDivisor_32 : decode cX1_stepTowardsDivisor 32 = .ok (.getfield 34, 3) := by decide +kernel
theorem dX1_stepTowardsDivisor_35 : decode cX1_stepTowardsDivisor 35 = .ok (.aload_n 0, 1) := by decide +kernel
theorem dX1_stepTowardsDivisor_36 : decode cX1_stepTowardsDivisor 36 = .ok (.getfield 37, 3) := by decide +kernel
theorem dX1_stepTowardsDivisor_39 : decode cX1_stepTowardsDivisor 39 = .ok (.aload_n 0, 1) := by decide +kernel
theorem dX1_stepTowardsDivisor_40 : decode cX1_stepTowardsDivisor 40 = .ok (.getfield 9, 3) := by decide +kernel
theorem dX1_stepTowardsDivisor_43 : decode cX1_stepTowardsDivisor 43 = .ok (.invokestatic 103, 3) := by decide +kernel
theorem dX1_stepTowardsDivisor_46 : decode cX1_stepTowardsDivisor 46 = .ok (.ifCond .ge 33, 3) := by decide +kernel
theorem dX1_stepTowardsDivisor_49 : decode cX1_stepTowardsDivisor 49 = .ok (.aload_n 0, 1) := by decide +kernel
theorem dX1_stepTowardsDivisor_50 : decode cX1_stepTowardsDivisor 50 = .ok (.getfield 34, 3) := by decide +kernel
theorem dX1_stepTowardsDivisor_53 : decode cX1_stepTowardsDivisor 53 = .ok (.aload_n 0, 1) := by decide +kernel
theorem dX1_stepTowardsDivisor_54 : decode cX1_stepTowardsDivisor 54 = .ok (.getfield 37, 3) := by decide +kernel
theorem dX1_stepTowardsDivisor_57 : decode cX1_stepTowardsDivisor 57 = .ok (.aload_n 0, 1) := by decide +kernel
theorem dX1_stepTowardsDivisor_58 : decode cX1_stepTowardsDivisor 58 = .ok (.getfield 9, 3) := by decide +kernel
theorem dX1_stepTowardsDivisor_61 : decode cX1_stepTowardsDivisor 61 = .ok (.invokestatic 134, 3) := by decide +kernel
theorem dX1_stepTowardsDivisor_64 : decode cX1_stepTowardsDivisor 64 = .ok (.aload_n 0, 1) := by decide +kernel
theorem dX1_stepTowardsDivisor_65 : decode cX1_stepTowardsDivisor 65 = .ok (.getfield 40, 3) := by decide +kernel
theorem dX1_stepTowardsDivisor_68 : decode cX1_stepTowardsDivisor 68 = .ok (.aload_n 0, 1) := by decide +kernel
theorem dX1_stepTowardsDivisor_69 : decode cX1_stepTowardsDivisor 69 = .ok (.getfield 43, 3) := by decide +kernel
theorem dX1_stepTowardsDivisor_72 : decode cX1_stepTowardsDivisor 72 = .ok (.aload_n 0, 1) := by decide +kernel
theorem dX1_stepTowardsDivisor_73 : decode cX1_stepTowardsDivisor 73 = .ok (.getfield 9, 3) := by decide +kernel
theorem dX1_stepTowardsDivisor_76 : decode cX1_stepTowardsDivisor 76 = .ok (.invokestatic 134, 3) := by decide +kernel
theorem dX1_stepTowardsDivisor_79 : decode cX1_stepTowardsDivisor 79 = .ok (.aload_n 0, 1) := by decide +kernel
theorem dX1_stepTowardsDivisor_80 : decode cX1_stepTowardsDivisor 80 = .ok (.getfield 34, 3) := by decide +kernel
theorem dX1_stepTowardsDivisor_83 : decode cX1_stepTowardsDivisor 83 = .ok (.aload_n 0, 1) := by decide +kernel
theorem dX1_stepTowardsDivisor_84 : decode cX1_stepTowardsDivisor 84 = .ok (.getfield 34, 3) := by decide +kernel
theorem dX1_stepTowardsDivisor_87 : decode cX1_stepTowardsDivisor 87 = .ok (.aload_n 0, 1) := by decide +kernel
theorem dX1_stepTowardsDivisor_88 : decode cX1_stepTowardsDivisor 88 = .ok (.getfield 37, 3) := by decide +kernel
theorem dX1_stepTowardsDivisor_91 : decode cX1_stepTowardsDivisor 91 = .ok (.aload_n 0, 1) := by decide +kernel
theorem dX1_stepTowardsDivisor_92 : decode cX1_stepTowardsDivisor 92 = .ok (.getfield 9, 3) := by decide +kernel
theorem dX1_stepTowardsDivisor_95 : decode cX1_stepTowardsDivisor 95 = .ok (.invokestatic 137, 3) := by decide +kernel
theorem dX1_stepTowardsDivisor_98 : decode cX1_stepTowardsDivisor 98 = .ok (.pop, 1) := by decide +kernel
theorem dX1_stepTowardsDivisor_99 : decode cX1_stepTowardsDivisor 99 = .ok (.aload_n 0, 1) := by decide +kernel
theorem dX1_stepTowardsDivisor_100 : decode cX1_stepTowardsDivisor 100 = .ok (.aload_n 0, 1) := by decide +kernel
theorem dX1_stepTowardsDivisor_101 : decode cX1_stepTowardsDivisor 101 = .ok (.getfield 40, 3) := by decide +kernel
theorem dX1_stepTowardsDivisor_104 : decode cX1_stepTowardsDivisor 104 = .ok (.aload_n 0, 1) := by decide +kernel
theorem dX1_stepTowardsDivisor_105 : decode cX1_stepTowardsDivisor 105 = .ok (.getfield 40, 3) := by decide +kernel
theorem dX1_stepTowardsDivisor_108 : decode cX1_stepTowardsDivisor 108 = .ok (.aload_n 0, 1) := by decide +kernel
theorem dX1_stepTowardsDivisor_109 : decode cX1_stepTowardsDivisor 109 = .ok (.getfield 43, 3) := by decide +kernel
theorem dX1_stepTowardsDivisor_112 : decode cX1_stepTowardsDivisor 112 = .ok (.invokevirtual 82, 3) := by decide +kernel
theorem dX1_stepTowardsDivisor_115 : decode cX1_stepTowardsDivisor 115 = .ok (.return_, 1) := by decide +kernel
set_option maxRecDepth 20000 in
theorem ggX1_addBelow_X0_add : GoodIn wsX1_addBelow wsX0_add := goodIn_r _ [5, 6] (by decide +kernel) (by decide +kernel)
set_option maxRecDepth 20000 in
theorem gX1_addBelow_X0_add : GoodIn wsX1_addBelow (va_wsS RX1 141 yX0_add wsX0_add) := goodIn_app (goodIn_of _ (by decide +kernel)) ggX1_addBelow_X0_add
set_option maxRecDepth 20000 in
theorem ggX1_addBelow_X1_bringBelow : GoodIn wsX1_addBelow wsX1_bringBelow := goodIn_r _ [11, 12, 1, 13, 14, 4, 15, 6, 16, 17, 18, 19, 20, 21, 22, 23, 24, 25, 26, 27, 28, 29, 30] (by decide +kernel) (by decide +kernel)
set_option maxRecDepth 20000 in
theorem gX1_addBelow_X1_bringBelow : GoodIn wsX1_addBelow (wsV RX1 115 RX1 yX1_bringBelow wsX1_bringBelow) := goodIn_app (goodIn_of _ (by decide +kernel)) ggX1_addBelow_X1_bringBelow
theorem dX1_addBelow_0 : decode cX1_addBelow 0 = .ok (.aload_n 1, 1) := by decide +kernel
theorem dX1_addBelow_1 : decode cX1_addBelow 1 = .ok (.aload_n 2, 1) := by decide +kernel
theorem dX1_addBelow_2 : decode cX1_addBelow 2 = .ok (.aload_n 3, 1) := by decide +kernel
theorem dX1_addBelow_3 : decode cX1_addBelow 3 = .ok (.aload_n 0, 1) := by decide +kernel
theorem dX1_addBelow_4 : decode cX1_addBelow 4 = .ok (.getfield 9, 3) := by decide +kernel
theorem dX1_addBelow_7 : decode cX1_addBelow 7 = .ok (.invokestatic 141, 3) := by decide +kernel
theorem dX1_addBelow_10 : decode cX1_addBelow 10 = .ok (.lstore 4, 2) := by decide +kernel
theorem dX1_addBelow_12 : decode cX1_addBelow 12 = .ok (.aload_n 0, 1) := by decide +kernel
theorem dX1_addBelow_13 : decode cX1_addBelow 13 = .ok (.aload_n 1, 1) := by decide +kernel
theorem dX1_addBelow_14 : decode cX1_addBelow 14 = .ok (.lload 4, 2) := by decide +kernel
theorem dX1_addBelow_16 : decode cX1_addBelow 16 = .ok (.invokevirtual 115, 3) := by decide +kernel
theorem dX1_addBelow_19 : decode cX1_addBelow 19 = .ok (.return_, 1) := by decide +kernel
set_option maxRecDepth 20000 in
theorem ggX1_subtractBelow_X0_subtract : GoodIn wsX1_subtractBelow wsX0_subtract := goodIn_r _ [6, 7] (by decide +kernel) (by decide +kernel)
set_option maxRecDepth 20000 in
theorem gX1_subtractBelow_X0_subtract : GoodIn wsX1_subtractBelow (va_wsS RX1 137 yX0_subtract wsX0_subtract) := goodIn_app (goodIn_of _ (by decide +kernel)) ggX1_subtractBelow_X0_subtract
set_option maxRecDepth 20000 in
theorem ggX1_subtractBelow_X0_add : GoodIn wsX1_subtractBelow wsX0_add := goodIn_r _ [10, 7] (by decide +kernel) (by decide +kernel)
set_option maxRecDepth 20000 in
theorem gX1_subtractBelow_X0_add : GoodIn wsX1_subtractBelow (va_wsS RX1 141 yX0_add wsX0_add) := goodIn_app (goodIn_of _ (by decide +kernel)) ggX1_subtractBelow_X0_add
theorem dX1_subtractBelow_0 : decode cX1_subtractBelow 0 = .ok (.aload_n 1, 1) := by decide +kernel
theorem dX1_subtractBelow_1 : decode cX1_subtractBelow 1 = .ok (.aload_n 2, 1) := by decide +kernel
theorem dX1_subtractBelow_2 : decode cX1_subtractBelow 2 = .ok (.aload_n 3, 1) := by decide +kernel
theorem dX1_subtractBelow_3 : decode cX1_subtractBelow 3 = .ok (.aload_n 0, 1) := by decide +kernel
theorem dX1_subtractBelow_4 : decode cX1_subtractBelow 4 = .ok (.getfield 9, 3) := by decide +kernel
theorem dX1_subtractBelow_7 : decode cX1_subtractBelow 7 = .ok (.invokestatic 137, 3) := by decide +kernel
theorem dX1_subtractBelow_10 : decode cX1_subtractBelow 10 = .ok (.ifCond .eq 17, 3) := by decide +kernel
theorem dX1_subtractBelow_13 : decode cX1_subtractBelow 13 = .ok (.aload_n 1, 1) := by decide +kernel
theorem dX1_subtractBelow_14 : decode cX1_subtractBelow 14 = .ok (.aload_n 1, 1) := by decide +kernel
theorem dX1_subtractBelow_15 : decode cX1_subtractBelow 15 = .ok (.aload_n 0, 1) := by decide +kernel
theorem dX1_subtractBelow_16 : decode cX1_subtractBelow 16 = .ok (.getfield 18, 3) := by decide +kernel
theorem dX1_subtractBelow_19 : decode cX1_subtractBelow 19 = .ok (.aload_n 0, 1) := by decide +kernel
theorem dX1_subtractBelow_20 : decode cX1_subtractBelow 20 = .ok (.getfield 9, 3) := by decide +kernel
theorem dX1_subtractBelow_23 : decode cX1_subtractBelow 23 = .ok (.invokestatic 141, 3) := by decide +kernel
theorem dX1_subtractBelow_26 : decode cX1_subtractBelow 26 = .ok (.pop2, 1) := by decide +kernel
theorem dX1_subtractBelow_27 : decode cX1_subtractBelow 27 = .ok (.return_, 1) := by decide +kernel
set_option maxRecDepth 20000 in
theorem ggX1_halveBelow_X0_isOdd : GoodIn wsX1_halveBelow wsX0_isOdd := goodIn_r _ [6] (by decide +kernel) (by decide +kernel)
set_option maxRecDepth 20000 in
theorem gX1_halveBelow_X0_isOdd : GoodIn wsX1_halveBelow (va_wsS RX1 49 yX0_isOdd wsX0_isOdd) := goodIn_app (goodIn_of _ (by decide +kernel)) ggX1_halveBelow_X0_isOdd
set_option maxRecDepth 20000 in
theorem ggX1_halveBelow_X0_add : GoodIn wsX1_halveBelow wsX0_add := goodIn_r _ [9, 10] (by decide +kernel) (by decide +kernel)
set_option maxRecDepth 20000 in
theorem gX1_halveBelow_X0_add : GoodIn wsX1_halveBelow (va_wsS RX1 141 yX0_add wsX0_add) := goodIn_app (goodIn_of _ (by decide +kernel)) ggX1_halveBelow_X0_add
set_option maxRecDepth 20000 in
theorem ggX1_halveBelow_X0_halve : GoodIn wsX1_halveBelow wsX0_halve := goodIn_r _ [13, 10] (by decide +kernel) (by decide +kernel)
set_option maxRecDepth 20000 in
theorem gX1_halveBelow_X0_halve : GoodIn wsX1_halveBelow (va_wsS RX1 127 yX0_halve wsX0_halve) := goodIn_app (goodIn_of _ (by decide +kernel)) ggX1_halveBelow_X0_halve
theorem dX1_halveBelow_0 : decode cX1_halveBelow 0 = .ok (.aload_n 1, 1) := by decide +kernel
theorem dX1_halveBelow_1 : decode cX1_halveBelow 1 = .ok (.invokestatic 49, 3) := by decide +kernel
theorem dX1_halveBelow_4 : decode cX1_halveBelow 4 = .ok (.ifCond .eq 19, 3) := by decide +kernel
theorem dX1_halveBelow_7 : decode cX1_halveBelow 7 = .ok (.aload_n 1, 1) := by decide +kernel
theorem dX1_halveBelow_8 : decode cX1_halveBelow 8 = .ok (.aload_n 1, 1) := by decide +kernel
theorem dX1_halveBelow_9 : decode cX1_halveBelow 9 = .ok (.aload_n 0, 1) := by decide +kernel
theorem dX1_halveBelow_10 : decode cX1_halveBelow 10 = .ok (.getfield 18, 3) := by decide +kernel
theorem dX1_halveBelow_13 : decode cX1_halveBelow 13 = .ok (.aload_n 0, 1) := by decide +kernel
theorem dX1_halveBelow_14 : decode cX1_halveBelow 14 = .ok (.getfield 9, 3) := by decide +kernel
theorem dX1_halveBelow_17 : decode cX1_halveBelow 17 = .ok (.invokestatic 141, 3) := by decide +kernel
theorem dX1_halveBelow_20 : decode cX1_halveBelow 20 = .ok (.goto 4, 3) := by decide +kernel
theorem dX1_halveBelow_23 : decode cX1_halveBelow 23 = .ok (.lconst 0, 1) := by decide +kernel
theorem dX1_halveBelow_24 : decode cX1_halveBelow 24 = .ok (.lstore_n 2, 1) := by decide +kernel
theorem dX1_halveBelow_25 : decode cX1_halveBelow 25 = .ok (.aload_n 1, 1) := by decide +kernel
theorem dX1_halveBelow_26 : decode cX1_halveBelow 26 = .ok (.lload_n 2, 1) := by decide +kernel
theorem dX1_halveBelow_27 : decode cX1_halveBelow 27 = .ok (.aload_n 0, 1) := by decide +kernel
theorem dX1_halveBelow_28 : decode cX1_halveBelow 28 = .ok (.getfield 9, 3) := by decide +kernel
theorem dX1_halveBelow_31 : decode cX1_halveBelow 31 = .ok (.invokestatic 127, 3) := by decide +kernel
theorem dX1_halveBelow_34 : decode cX1_halveBelow 34 = .ok (.return_, 1) := by decide +kernel
set_option maxRecDepth 20000 in
theorem ggX1_bringBelow_X0_order : GoodIn wsX1_bringBelow wsX0_order := goodIn_r _ [6, 7] (by decide +kernel) (by decide +kernel)
set_option maxRecDepth 20000 in
theorem gX1_bringBelow_X0_order : GoodIn wsX1_bringBelow (va_wsS RX1 103 yX0_order wsX0_order) := goodIn_app (goodIn_of _ (by decide +kernel)) ggX1_bringBelow_X0_order
set_option maxRecDepth 20000 in
theorem ggX1_bringBelow_X0_subtract : GoodIn wsX1_bringBelow wsX0_subtract := goodIn_r _ [10, 7] (by decide +kernel) (by decide +kernel)
set_option maxRecDepth 20000 in
theorem gX1_bringBelow_X0_subtract : GoodIn wsX1_bringBelow (va_wsS RX1 137 yX0_subtract wsX0_subtract) := goodIn_app (goodIn_of _ (by decide +kernel)) ggX1_bringBelow_X0_subtract
theorem dX1_bringBelow_0 : decode cX1_bringBelow 0 = .ok (.lload_n 2, 1) := by decide +kernel
theorem dX1_bringBelow_1 : decode cX1_bringBelow 1 = .ok (.lconst 0, 1) := by decide +kernel
theorem dX1_bringBelow_2 : decode cX1_bringBelow 2 = .ok (.lcmp, 1) := by decide +kernel
theorem dX1_bringBelow_3 : decode cX1_bringBelow 3 = .ok (.ifCond .ne 18, 3) := by decide +kernel
theorem dX1_bringBelow_6 : decode cX1_bringBelow 6 = .ok (.aload_n 1, 1) := by decide +kernel
theorem dX1_bringBelow_7 : decode cX1_bringBelow 7 = .ok (.aload_n 0, 1) := by decide +kernel
theorem dX1_bringBelow_8 : decode cX1_bringBelow 8 = .ok (.getfield 18, 3) := by decide +kernel
theorem dX1_bringBelow_11 : decode cX1_bringBelow 11 = .ok (.aload_n 0, 1) := by decide +kernel
theorem dX1_bringBelow_12 : decode cX1_bringBelow 12 = .ok (.getfield 9, 3) := by decide +kernel
theorem dX1_bringBelow_15 : decode cX1_bringBelow 15 = .ok (.invokestatic 103, 3) := by decide +kernel
theorem dX1_bringBelow_18 : decode cX1_bringBelow 18 = .ok (.ifCond .lt 17, 3) := by decide +kernel
theorem dX1_bringBelow_21 : decode cX1_bringBelow 21 = .ok (.aload_n 1, 1) := by decide +kernel
theorem dX1_bringBelow_22 : decode cX1_bringBelow 22 = .ok (.aload_n 1, 1) := by decide +kernel
theorem dX1_bringBelow_23 : decode cX1_bringBelow 23 = .ok (.aload_n 0, 1) := by decide +kernel
theorem dX1_bringBelow_24 : decode cX1_bringBelow 24 = .ok (.getfield 18, 3) := by decide +kernel
theorem dX1_bringBelow_27 : decode cX1_bringBelow 27 = .ok (.aload_n 0, 1) := by decide +kernel
theorem dX1_bringBelow_28 : decode cX1_bringBelow 28 = .ok (.getfield 9, 3) := by decide +kernel
theorem dX1_bringBelow_31 : decode cX1_bringBelow 31 = .ok (.invokestatic 137, 3) := by decide +kernel
theorem dX1_bringBelow_34 : decode cX1_bringBelow 34 = .ok (.pop, 1) := by decide +kernel
theorem dX1_bringBelow_35 : decode cX1_bringBelow 35 = .ok (.return_, 1) := by decide +kernel
set_option maxRecDepth 20000 in
theorem ggX1_doubleOften_X1_addBelow : GoodIn wsX1_doubleOften wsX1_addBelow := goodIn_r _ [6, 7, 8, 9, 10, 11, 12, 13, 14, 15, 5, 16, 17, 18, 19, 20, 21, 22, 23, 24, 25, 26, 27, 28, 29, 30, 31, 32, 33, 34, 35] (by decide +kernel) (by decide +kernel)
set_option maxRecDepth 20000 in
theorem gX1_doubleOften_X1_addBelow : GoodIn wsX1_doubleOften (wsV RX1 79 RX1 yX1_addBelow wsX1_addBelow) := goodIn_app (goodIn_of _ (by decide +kernel)) ggX1_doubleOften_X1_addBelow
theorem dX1_doubleOften_0 : decode cX1_doubleOften 0 = .ok (.iconst 0, 1) := by decide +kernel
theorem dX1_doubleOften_1 : decode cX1_doubleOften 1 = .ok (.istore_n 2, 1) := by decide +kernel
theorem dX1_doubleOften_2 : decode cX1_doubleOften 2 = .ok (.iload_n 2, 1) := by decide +kernel
theorem dX1_doubleOften_3 : decode cX1_doubleOften 3 = .ok (.aload_n 0, 1) := by decide +kernel
theorem dX1_doubleOften_4 : decode cX1_doubleOften 4 = .ok (.getfield 15, 3) := by decide +kernel
theorem dX1_doubleOften_7 : decode cX1_doubleOften 7 = .ok (.if_icmp .ge 16, 3) := by decide +kernel
theorem dX1_doubleOften_10 : decode cX1_doubleOften 10 = .ok (.aload_n 0, 1) := by decide +kernel
theorem dX1_doubleOften_11 : decode cX1_doubleOften 11 = .ok (.aload_n 1, 1) := by decide +kernel
theorem dX1_doubleOften_12 : decode cX1_doubleOften 12 = .ok (.aload_n 1, 1) := by decide +kernel
theorem dX1_doubleOften_13 : decode cX1_doubleOften 13 = .ok (.aload_n 1, 1) := by decide +kernel
theorem dX1_doubleOften_14 : decode cX1_doubleOften 14 = .ok (.invokevirtual 79, 3) := by decide +kernel
theorem dX1_doubleOften_17 : decode cX1_doubleOften 17 = .ok (.iinc 2 1, 3) := by decide +kernel
theorem dX1_doubleOften_20 : decode cX1_doubleOften 20 = .ok (.goto (-18), 3) := by decide +kernel
theorem dX1_doubleOften_23 : decode cX1_doubleOften 23 = .ok (.return_, 1) := by decide +kernel
set_option maxRecDepth 20000 in
theorem ggX1_twosInModulusLessOne_X0_isBitSet : GoodIn wsX1_twosInModulusLessOne wsX0_isBitSet := goodIn_r _ [6] (by decide +kernel) (by decide +kernel)
set_option maxRecDepth 20000 in
theorem gX1_twosInModulusLessOne_X0_isBitSet : GoodIn wsX1_twosInModulusLessOne (va_wsS RX1 123 yX0_isBitSet wsX0_isBitSet) := goodIn_app (goodIn_of _ (by decide +kernel)) ggX1_twosInModulusLessOne_X0_isBitSet
theorem dX1_twosInModulusLessOne_0 : decode cX1_twosInModulusLessOne 0 = .ok (.iconst 1, 1) := by decide +kernel
theorem dX1_twosInModulusLessOne_1 : decode cX1_twosInModulusLessOne 1 = .ok (.istore_n 1, 1) := by decide +kernel
theorem dX1_twosInModulusLessOne_2 : decode cX1_twosInModulusLessOne 2 = .ok (.iload_n 1, 1) := by decide +kernel
theorem dX1_twosInModulusLessOne_3 : decode cX1_twosInModulusLessOne 3 = .ok (.aload_n 0, 1) := by decide +kernel
theorem dX1_twosInModulusLessOne_4 : decode cX1_twosInModulusLessOne 4 = .ok (.getfield 15, 3) := by decide +kernel
theorem dX1_twosInModulusLessOne_7 : decode cX1_twosInModulusLessOne 7 = .ok (.iconst 1, 1) := by decide +kernel
theorem dX1_twosInModulusLessOne_8 : decode cX1_twosInModulusLessOne 8 = .ok (.isub, 1) := by decide +kernel
theorem dX1_twosInModulusLessOne_9 : decode cX1_twosInModulusLessOne 9 = .ok (.if_icmp .ge 20, 3) := by decide +kernel
theorem dX1_twosInModulusLessOne_12 : decode cX1_twosInModulusLessOne 12 = .ok (.aload_n 0, 1) := by decide +kernel
theorem dX1_twosInModulusLessOne_13 : decode cX1_twosInModulusLessOne 13 = .ok (.getfield 18, 3) := by decide +kernel
theorem dX1_twosInModulusLessOne_16 : decode cX1_twosInModulusLessOne 16 = .ok (.iload_n 1, 1) := by decide +kernel
theorem dX1_twosInModulusLessOne_17 : decode cX1_twosInModulusLessOne 17 = .ok (.invokestatic 123, 3) := by decide +kernel
theorem dX1_twosInModulusLessOne_20 : decode cX1_twosInModulusLessOne 20 = .ok (.ifCond .ne 9, 3) := by decide +kernel
theorem dX1_twosInModulusLessOne_23 : decode cX1_twosInModulusLessOne 23 = .ok (.iinc 1 1, 3) := by decide +kernel
theorem dX1_twosInModulusLessOne_26 : decode cX1_twosInModulusLessOne 26 = .ok (.goto (-24), 3) := by decide +kernel
theorem dX1_twosInModulusLessOne_29 : decode cX1_twosInModulusLessOne 29 = .ok (.iload_n 1, 1) := by decide +kernel
theorem dX1_twosInModulusLessOne_30 : decode cX1_twosInModulusLessOne 30 = .ok (.ireturn, 1) := by decide +kernel
theorem dX1_inverseOfLimb_0 : decode cX1_inverseOfLimb 0 = .ok (.iload_n 0, 1) := by decide +kernel
theorem dX1_inverseOfLimb_1 : decode cX1_inverseOfLimb 1 = .ok (.istore_n 1, 1) := by decide +kernel
theorem dX1_inverseOfLimb_2 : decode cX1_inverseOfLimb 2 = .ok (.iconst 0, 1) := by decide +kernel
theorem dX1_inverseOfLimb_3 : decode cX1_inverseOfLimb 3 = .ok (.istore_n 2, 1) := by decide +kernel
theorem dX1_inverseOfLimb_4 : decode cX1_inverseOfLimb 4 = .ok (.iload_n 2, 1) := by decide +kernel
theorem dX1_inverseOfLimb_5 : decode cX1_inverseOfLimb 5 = .ok (.iconst 4, 1) := by decide +kernel
theorem dX1_inverseOfLimb_6 : decode cX1_inverseOfLimb 6 = .ok (.if_icmp .ge 17, 3) := by decide +kernel
theorem dX1_inverseOfLimb_9 : decode cX1_inverseOfLimb 9 = .ok (.iload_n 1, 1) := by decide +kernel
theorem dX1_inverseOfLimb_10 : decode cX1_inverseOfLimb 10 = .ok (.iconst 2, 1) := by decide +kernel
theorem dX1_inverseOfLimb_11 : decode cX1_inverseOfLimb 11 = .ok (.iload_n 0, 1) := by decide +kernel
theorem dX1_inverseOfLimb_12 : decode cX1_inverseOfLimb 12 = .ok (.iload_n 1, 1) := by decide +kernel
theorem dX1_inverseOfLimb_13 : decode cX1_inverseOfLimb 13 = .ok (.imul, 1) := by decide +kernel
theorem dX1_inverseOfLimb_14 : decode cX1_inverseOfLimb 14 = .ok (.isub, 1) := by decide +kernel
theorem dX1_inverseOfLimb_15 : decode cX1_inverseOfLimb 15 = .ok (.imul, 1) := by decide +kernel
theorem dX1_inverseOfLimb_16 : decode cX1_inverseOfLimb 16 = .ok (.istore_n 1, 1) := by decide +kernel
theorem dX1_inverseOfLimb_17 : decode cX1_inverseOfLimb 17 = .ok (.iinc 2 1, 3) := by decide +kernel
theorem dX1_inverseOfLimb_20 : decode cX1_inverseOfLimb 20 = .ok (.goto (-16), 3) := by decide +kernel
theorem dX1_inverseOfLimb_23 : decode cX1_inverseOfLimb 23 = .ok (.iload_n 1, 1) := by decide +kernel
theorem dX1_inverseOfLimb_24 : decode cX1_inverseOfLimb 24 = .ok (.ireturn, 1) := by decide +kernel
set_option maxRecDepth 20000 in
theorem ggX2_init_X1_init : GoodIn wsX2_init wsX1_init := goodIn_r _ [23, 24, 2, 3, 25, 26, 14, 27, 28, 29, 30, 31, 32, 33, 34, 35, 36, 42, 43, 44, 45, 46, 47, 48, 49, 50, 51, 52, 53] (by decide +kernel) (by decide +kernel)
set_option maxRecDepth 20000 in
theorem gX2_init_X1_init : GoodIn wsX2_init (wsX1_init) := ggX2_init_X1_init
theorem dX2_init_0 : decode cX2_init 0 = .ok (.aload_n 0, 1) := by decide +kernel
theorem dX2_init_1 : decode cX2_init 1 = .ok (.invokespecial 1, 3) := by decide +kernel
theorem dX2_init_4 : decode cX2_init 4 = .ok (.aload_n 0, 1) := by decide +kernel
theorem dX2_init_5 : decode cX2_init 5 = .ok (.iconst 1, 1) := by decide +kernel
theorem dX2_init_6 : decode cX2_init 6 = .ok (.iload_n 1, 1) := by decide +kernel
theorem dX2_init_7 : decode cX2_init 7 = .ok (.bipush 8, 2) := by decide +kernel
theorem dX2_init_9 : decode cX2_init 9 = .ok (.invokestatic 9, 3) := by decide +kernel
theorem dX2_init_12 : decode cX2_init 12 = .ok (.invokestatic 15, 3) := by decide +kernel
theorem dX2_init_15 : decode cX2_init 15 = .ok (.putfield 18, 3) := by decide +kernel
theorem dX2_init_18 : decode cX2_init 18 = .ok (.aload_n 0, 1) := by decide +kernel
theorem dX2_init_19 : decode cX2_init 19 = .ok (.iconst 1, 1) := by decide +kernel
theorem dX2_init_20 : decode cX2_init 20 = .ok (.iload_n 2, 1) := by decide +kernel
theorem dX2_init_21 : decode cX2_init 21 = .ok (.bipush 8, 2) := by decide +kernel
theorem dX2_init_23 : decode cX2_init 23 = .ok (.invokestatic 9, 3) := by decide +kernel
theorem dX2_init_26 : decode cX2_init 26 = .ok (.invokestatic 15, 3) := by decide +kernel
theorem dX2_init_29 : decode cX2_init 29 = .ok (.putfield 22, 3) := by decide +kernel
theorem dX2_init_32 : decode cX2_init 32 = .ok (.aload_n 0, 1) := by decide +kernel
theorem dX2_init_33 : decode cX2_init 33 = .ok (.aload_n 0, 1) := by decide +kernel
theorem dX2_init_34 : decode cX2_init 34 = .ok (.getfield 22, 3) := by decide +kernel
theorem dX2_init_37 : decode cX2_init 37 = .ok (.aload_n 0, 1) := by decide +kernel
theorem dX2_init_38 : decode cX2_init 38 = .ok (.getfield 18, 3) := by decide +kernel
theorem dX2_init_41 : decode cX2_init 41 = .ok (.multianewarray 25 2, 4) := by decide +kernel
theorem dX2_init_45 : decode cX2_init 45 = .ok (.putfield 27, 3) := by decide +kernel
theorem dX2_init_48 : decode cX2_init 48 = .ok (.aload_n 0, 1) := by decide +kernel
theorem dX2_init_49 : decode cX2_init 49 = .ok (.new 30, 3) := by decide +kernel
theorem dX2_init_52 : decode cX2_init 52 = .ok (.dup, 1) := by decide +kernel
theorem dX2_init_53 : decode cX2_init 53 = .ok (.aload_n 0, 1) := by decide +kernel
theorem dX2_init_54 : decode cX2_init 54 = .ok (.getfield 18, 3) := by decide +kernel
theorem dX2_init_57 : decode cX2_init 57 = .ok (.invokespecial 32, 3) := by decide +kernel
theorem dX2_init_60 : decode cX2_init 60 = .ok (.putfield 35, 3) := by decide +kernel
theorem dX2_init_63 : decode cX2_init 63 = .ok (.aload_n 0, 1) := by decide +kernel
theorem dX2_init_64 : decode cX2_init 64 = .ok (.iconst 0, 1) := by decide +kernel
theorem dX2_init_65 : decode cX2_init 65 = .ok (.putfield 39, 3) := by decide +kernel
theorem dX2_init_68 : decode cX2_init 68 = .ok (.return_, 1) := by decide +kernel
set_option maxRecDepth 20000 in
theorem ggX2_pokeMod_X2_hasLimb : GoodIn wsX2_pokeMod wsX2_hasLimb := goodIn_r _ [8, 9, 10, 11, 12, 13, 14] (by decide +kernel) (by decide +kernel)
set_option maxRecDepth 20000 in
theorem gX2_pokeMod_X2_hasLimb : GoodIn wsX2_pokeMod (wsV RX2 43 RX2 yX2_hasLimb wsX2_hasLimb) := goodIn_app (goodIn_of _ (by decide +kernel)) ggX2_pokeMod_X2_hasLimb
theorem dX2_pokeMod_0 : decode cX2_pokeMod 0 = .ok (.aload_n 0, 1) := by decide +kernel
theorem dX2_pokeMod_1 : decode cX2_pokeMod 1 = .ok (.iload_n 1, 1) := by decide +kernel
theorem dX2_pokeMod_2 : decode cX2_pokeMod 2 = .ok (.invokevirtual 43, 3) := by decide +kernel
theorem dX2_pokeMod_5 : decode cX2_pokeMod 5 = .ok (.ifCond .ne 5, 3) := by decide +kernel
theorem dX2_pokeMod_8 : decode cX2_pokeMod 8 = .ok (.iconst 0, 1) := by decide +kernel
theorem dX2_pokeMod_9 : decode cX2_pokeMod 9 = .ok (.ireturn, 1) := by decide +kernel
theorem dX2_pokeMod_10 : decode cX2_pokeMod 10 = .ok (.aload_n 0, 1) := by decide +kernel
theorem dX2_pokeMod_11 : decode cX2_pokeMod 11 = .ok (.getfield 35, 3) := by decide +kernel
theorem dX2_pokeMod_14 : decode cX2_pokeMod 14 = .ok (.getfield 47, 3) := by decide +kernel
theorem dX2_pokeMod_17 : decode cX2_pokeMod 17 = .ok (.iload_n 1, 1) := by decide +kernel
theorem dX2_pokeMod_18 : decode cX2_pokeMod 18 = .ok (.iload_n 2, 1) := by decide +kernel
theorem dX2_pokeMod_19 : decode cX2_pokeMod 19 = .ok (.iastore, 1) := by decide +kernel
theorem dX2_pokeMod_20 : decode cX2_pokeMod 20 = .ok (.aload_n 0, 1) := by decide +kernel
theorem dX2_pokeMod_21 : decode cX2_pokeMod 21 = .ok (.iconst 0, 1) := by decide +kernel
theorem dX2_pokeMod_22 : decode cX2_pokeMod 22 = .ok (.putfield 39, 3) := by decide +kernel
theorem dX2_pokeMod_25 : decode cX2_pokeMod 25 = .ok (.iconst 1, 1) := by decide +kernel
theorem dX2_pokeMod_26 : decode cX2_pokeMod 26 = .ok (.ireturn, 1) := by decide +kernel
set_option maxRecDepth 20000 in
theorem ggX2_peekMod_X2_hasLimb : GoodIn wsX2_peekMod wsX2_hasLimb := goodIn_r _ [7, 8, 9, 10, 11, 12, 13] (by decide +kernel) (by decide +kernel)
set_option maxRecDepth 20000 in
theorem gX2_peekMod_X2_hasLimb : GoodIn wsX2_peekMod (wsV RX2 43 RX2 yX2_hasLimb wsX2_hasLimb) := goodIn_app (goodIn_of _ (by decide +kernel)) ggX2_peekMod_X2_hasLimb
theorem dX2_peekMod_0 : decode cX2_peekMod 0 = .ok (.aload_n 0, 1) := by decide +kernel
theorem dX2_peekMod_1 : decode cX2_peekMod 1 = .ok (.iload_n 1, 1) := by decide +kernel
theorem dX2_peekMod_2 : decode cX2_peekMod 2 = .ok (.invokevirtual 43, 3) := by decide +kernel
theorem dX2_peekMod_5 : decode cX2_peekMod 5 = .ok (.ifCond .eq 15, 3) := by decide +kernel
theorem dX2_peekMod_8 : decode cX2_peekMod 8 = .ok (.aload_n 0, 1) := by decide +kernel
theorem dX2_peekMod_9 : decode cX2_peekMod 9 = .ok (.getfield 35, 3) := by decide +kernel
theorem dX2_peekMod_12 : decode cX2_peekMod 12 = .ok (.getfield 47, 3) := by decide +kernel
theorem dX2_peekMod_15 : decode cX2_peekMod 15 = .ok (.iload_n 1, 1) := by decide +kernel
theorem dX2_peekMod_16 : decode cX2_peekMod 16 = .ok (.iaload, 1) := by decide +kernel
theorem dX2_peekMod_17 : decode cX2_peekMod 17 = .ok (.goto 4, 3) := by decide +kernel
theorem dX2_peekMod_20 : decode cX2_peekMod 20 = .ok (.iconst 0, 1) := by decide +kernel
theorem dX2_peekMod_21 : decode cX2_peekMod 21 = .ok (.ireturn, 1) := by decide +kernel
set_option maxRecDepth 20000 in
theorem ggX2_init__X1_hasFitModulus : GoodIn wsX2_init_ wsX1_hasFitModulus := goodIn_r _ [7, 8, 9, 10, 11, 12, 13, 14, 15, 16, 59, 60, 61, 62, 63, 64, 65, 66, 67, 68, 69, 70] (by decide +kernel) (by decide +kernel)
set_option maxRecDepth 20000 in
theorem gX2_init__X1_hasFitModulus : GoodIn wsX2_init_ (wsV RX2 51 RX1 yX1_hasFitModulus wsX1_hasFitModulus) := goodIn_app (goodIn_of _ (by decide +kernel)) ggX2_init__X1_hasFitModulus
set_option maxRecDepth 20000 in
theorem ggX2_init__X1_prepare : GoodIn wsX2_init_ wsX1_prepare := goodIn_r _ [20, 8, 21, 22, 23, 9, 24, 25, 26, 6, 27, 28, 29, 12, 30, 31, 32, 33, 34, 35, 36, 37, 38, 39, 40, 41, 42, 43, 44, 45, 46, 47, 48, 49, 50, 51, 52, 53, 59, 60, 61, 62, 63, 64, 65, 66, 67, 68, 69, 70] (by decide +kernel) (by decide +kernel)
set_option maxRecDepth 20000 in
theorem gX2_init__X1_prepare : GoodIn wsX2_init_ (wsV RX2 55 RX1 yX1_prepare wsX1_prepare) := goodIn_app (goodIn_of _ (by decide +kernel)) ggX2_init__X1_prepare
theorem dX2_init__0 : decode cX2_init_ 0 = .ok (.aload_n 0, 1) := by decide +kernel
theorem dX2_init__1 : decode cX2_init_ 1 = .ok (.getfield 35, 3) := by decide +kernel
theorem dX2_init__4 : decode cX2_init_ 4 = .ok (.invokevirtual 51, 3) := by decide +kernel
theorem dX2_init__7 : decode cX2_init_ 7 = .ok (.ifCond .ne 5, 3) := by decide +kernel
theorem dX2_init__10 : decode cX2_init_ 10 = .ok (.iconst 1, 1) := by decide +kernel
theorem dX2_init__11 : decode cX2_init_ 11 = .ok (.ireturn, 1) := by decide +kernel
theorem dX2_init__12 : decode cX2_init_ 12 = .ok (.aload_n 0, 1) := by decide +kernel
theorem dX2_init__13 : decode cX2_init_ 13 = .ok (.getfield 35, 3) := by decide +kernel
theorem dX2_init__16 : decode cX2_init_ 16 = .ok (.invokevirtual 55, 3) := by decide +kernel
theorem dX2_init__19 : decode cX2_init_ 19 = .ok (.aload_n 0, 1) := by decide +kernel
theorem dX2_init__20 : decode cX2_init_ 20 = .ok (.iconst 1, 1) := by decide +kernel
theorem dX2_init__21 : decode cX2_init_ 21 = .ok (.putfield 39, 3) := by decide +kernel
theorem dX2_init__24 : decode cX2_init_ 24 = .ok (.iconst 0, 1) := by decide +kernel
theorem dX2_init__25 : decode cX2_init_ 25 = .ok (.ireturn, 1) := by decide +kernel
theorem dX2_ready_0 : decode cX2_ready 0 = .ok (.aload_n 0, 1) := by decide +kernel
theorem dX2_ready_1 : decode cX2_ready 1 = .ok (.getfield 39, 3) := by decide +kernel
theorem dX2_ready_4 : decode cX2_ready 4 = .ok (.ireturn, 1) := by decide +kernel
set_option maxRecDepth 20000 in
theorem ggX2_poke_X2_hasRegister : GoodIn wsX2_poke wsX2_hasRegister := goodIn_r _ [6, 7, 13, 14, 15, 16, 17] (by decide +kernel) (by decide +kernel)
set_option maxRecDepth 20000 in
theorem gX2_poke_X2_hasRegister : GoodIn wsX2_poke (wsV RX2 58 RX2 yX2_hasRegister wsX2_hasRegister) := goodIn_app (goodIn_of _ (by decide +kernel)) ggX2_poke_X2_hasRegister
set_option maxRecDepth 20000 in
theorem ggX2_poke_X2_hasLimb : GoodIn wsX2_poke wsX2_hasLimb := goodIn_r _ [11, 12, 13, 14, 15, 16, 17] (by decide +kernel) (by decide +kernel)
set_option maxRecDepth 20000 in
theorem gX2_poke_X2_hasLimb : GoodIn wsX2_poke (wsV RX2 43 RX2 yX2_hasLimb wsX2_hasLimb) := goodIn_app (goodIn_of _ (by decide +kernel)) ggX2_poke_X2_hasLimb
theorem dX2_poke_0 : decode cX2_poke 0 = .ok (.aload_n 0, 1) := by decide +kernel
theorem dX2_poke_1 : decode cX2_poke 1 = .ok (.iload_n 1, 1) := by decide +kernel
theorem dX2_poke_2 : decode cX2_poke 2 = .ok (.invokevirtual 58, 3) := by decide +kernel
theorem dX2_poke_5 : decode cX2_poke 5 = .ok (.ifCond .eq 11, 3) := by decide +kernel
theorem dX2_poke_8 : decode cX2_poke 8 = .ok (.aload_n 0, 1) := by decide +kernel
theorem dX2_poke_9 : decode cX2_poke 9 = .ok (.iload_n 2, 1) := by decide +kernel
theorem dX2_poke_10 : decode cX2_poke 10 = .ok (.invokevirtual 43, 3) := by decide +kernel
theorem dX2_poke_13 : decode cX2_poke 13 = .ok (.ifCond .ne 5, 3) := by decide +kernel
theorem dX2_poke_16 : decode cX2_poke 16 = .ok (.iconst 0, 1) := by decide +kernel
theorem dX2_poke_17 : decode cX2_poke 17 = .ok (.ireturn, 1) := by decide +kernel
theorem dX2_poke_18 : decode cX2_poke 18 = .ok (.aload_n 0, 1) := by decide +kernel
theorem dX2_poke_19 : decode cX2_poke 19 = .ok (.getfield 27, 3) := by decide +kernel
theorem dX2_poke_22 : decode cX2_poke 22 = .ok (.iload_n 1, 1) := by decide +kernel
theorem dX2_poke_23 : decode cX2_poke 23 = .ok (.aaload, 1) := by decide +kernel
theorem dX2_poke_24 : decode cX2_poke 24 = .ok (.iload_n 2, 1) := by decide +kernel
theorem dX2_poke_25 : decode cX2_poke 25 = .ok (.iload_n 3, 1) := by decide +kernel
theorem dX2_poke_26 : decode cX2_poke 26 = .ok (.iastore, 1) := by decide +kernel
theorem dX2_poke_27 : decode cX2_poke 27 = .ok (.iconst 1, 1) := by decide +kernel
theorem dX2_poke_28 : decode cX2_poke 28 = .ok (.ireturn, 1) := by decide +kernel
set_option maxRecDepth 20000 in
theorem ggX2_peek_X2_hasRegister : GoodIn wsX2_peek wsX2_hasRegister := goodIn_r _ [6, 7, 13, 14, 15, 16, 17] (by decide +kernel) (by decide +kernel)
set_option maxRecDepth 20000 in
theorem gX2_peek_X2_hasRegister : GoodIn wsX2_peek (wsV RX2 58 RX2 yX2_hasRegister wsX2_hasRegister) := goodIn_app (goodIn_of _ (by decide +kernel)) ggX2_peek_X2_hasRegister
set_option maxRecDepth 20000 in
theorem ggX2_peek_X2_hasLimb : GoodIn wsX2_peek wsX2_hasLimb := goodIn_r _ [11, 12, 13, 14, 15, 16, 17] (by decide +kernel) (by decide +kernel)
set_option maxRecDepth 20000 in
theorem gX2_peek_X2_hasLimb : GoodIn wsX2_peek (wsV RX2 43 RX2 yX2_hasLimb wsX2_hasLimb) := goodIn_app (goodIn_of _ (by decide +kernel)) ggX2_peek_X2_hasLimb
theorem dX2_peek_0 : decode cX2_peek 0 = .ok (.aload_n 0, 1) := by decide +kernel
theorem dX2_peek_1 : decode cX2_peek 1 = .ok (.iload_n 1, 1) := by decide +kernel
theorem dX2_peek_2 : decode cX2_peek 2 = .ok (.invokevirtual 58, 3) := by decide +kernel
theorem dX2_peek_5 : decode cX2_peek 5 = .ok (.ifCond .eq 22, 3) := by decide +kernel
theorem dX2_peek_8 : decode cX2_peek 8 = .ok (.aload_n 0, 1) := by decide +kernel
theorem dX2_peek_9 : decode cX2_peek 9 = .ok (.iload_n 2, 1) := by decide +kernel
theorem dX2_peek_10 : decode cX2_peek 10 = .ok (.invokevirtual 43, 3) := by decide +kernel
theorem dX2_peek_13 : decode cX2_peek 13 = .ok (.ifCond .eq 14, 3) := by decide +kernel
theorem dX2_peek_16 : decode cX2_peek 16 = .ok (.aload_n 0, 1) := by decide +kernel
theorem dX2_peek_17 : decode cX2_peek 17 = .ok (.getfield 27, 3) := by decide +kernel
theorem dX2_peek_20 : decode cX2_peek 20 = .ok (.iload_n 1, 1) := by decide +kernel
theorem dX2_peek_21 : decode cX2_peek 21 = .ok (.aaload, 1) := by decide +kernel
theorem dX2_peek_22 : decode cX2_peek 22 = .ok (.iload_n 2, 1) := by decide +kernel
theorem dX2_peek_23 : decode cX2_peek 23 = .ok (.iaload, 1) := by decide +kernel
theorem dX2_peek_24 : decode cX2_peek 24 = .ok (.goto 4, 3) := by decide +kernel
theorem dX2_peek_27 : decode cX2_peek 27 = .ok (.iconst 0, 1) := by decide +kernel
theorem dX2_peek_28 : decode cX2_peek 28 = .ok (.ireturn, 1) := by decide +kernel
set_option maxRecDepth 20000 in
theorem ggX2_reduce_X2_hasRegister : GoodIn wsX2_reduce wsX2_hasRegister := goodIn_r _ [8, 9, 49, 50, 51, 52, 53] (by decide +kernel) (by decide +kernel)
set_option maxRecDepth 20000 in
theorem gX2_reduce_X2_hasRegister : GoodIn wsX2_reduce (wsV RX2 58 RX2 yX2_hasRegister wsX2_hasRegister) := goodIn_app (goodIn_of _ (by decide +kernel)) ggX2_reduce_X2_hasRegister
set_option maxRecDepth 20000 in
theorem ggX2_reduce_X1_residue : GoodIn wsX2_reduce wsX1_residue := goodIn_r _ [14, 15, 16, 17, 18, 19, 13, 20, 21, 22, 23, 24, 25, 26, 27, 28, 29, 30, 31, 32, 33, 34, 35, 36, 37, 38, 39, 40, 41, 42, 43, 44, 45, 46, 47, 48, 54, 55, 56, 57, 58, 59, 60, 61, 62, 63, 64, 65] (by decide +kernel) (by decide +kernel)
set_option maxRecDepth 20000 in
theorem gX2_reduce_X1_residue : GoodIn wsX2_reduce (wsV RX2 61 RX1 yX1_residue wsX1_residue) := goodIn_app (goodIn_of _ (by decide +kernel)) ggX2_reduce_X1_residue
theorem dX2_reduce_0 : decode cX2_reduce 0 = .ok (.aload_n 0, 1) := by decide +kernel
theorem dX2_reduce_1 : decode cX2_reduce 1 = .ok (.getfield 39, 3) := by decide +kernel
theorem dX2_reduce_4 : decode cX2_reduce 4 = .ok (.ifCond .eq 11, 3) := by decide +kernel
theorem dX2_reduce_7 : decode cX2_reduce 7 = .ok (.aload_n 0, 1) := by decide +kernel
theorem dX2_reduce_8 : decode cX2_reduce 8 = .ok (.iload_n 1, 1) := by decide +kernel
theorem dX2_reduce_9 : decode cX2_reduce 9 = .ok (.invokevirtual 58, 3) := by decide +kernel
theorem dX2_reduce_12 : decode cX2_reduce 12 = .ok (.ifCond .ne 5, 3) := by decide +kernel
theorem dX2_reduce_15 : decode cX2_reduce 15 = .ok (.iconst 0, 1) := by decide +kernel
theorem dX2_reduce_16 : decode cX2_reduce 16 = .ok (.ireturn, 1) := by decide +kernel
theorem dX2_reduce_17 : decode cX2_reduce 17 = .ok (.aload_n 0, 1) := by decide +kernel
theorem dX2_reduce_18 : decode cX2_reduce 18 = .ok (.getfield 35, 3) := by decide +kernel
theorem dX2_reduce_21 : decode cX2_reduce 21 = .ok (.aload_n 0, 1) := by decide +kernel
theorem dX2_reduce_22 : decode cX2_reduce 22 = .ok (.getfield 27, 3) := by decide +kernel
theorem dX2_reduce_25 : decode cX2_reduce 25 = .ok (.iload_n 1, 1) := by decide +kernel
theorem dX2_reduce_26 : decode cX2_reduce 26 = .ok (.aaload, 1) := by decide +kernel
theorem dX2_reduce_27 : decode cX2_reduce 27 = .ok (.aload_n 0, 1) := by decide +kernel
theorem dX2_reduce_28 : decode cX2_reduce 28 = .ok (.getfield 27, 3) := by decide +kernel
theorem dX2_reduce_31 : decode cX2_reduce 31 = .ok (.iload_n 1, 1) := by decide +kernel
theorem dX2_reduce_32 : decode cX2_reduce 32 = .ok (.aaload, 1) := by decide +kernel
theorem dX2_reduce_33 : decode cX2_reduce 33 = .ok (.invokevirtual 61, 3) := by decide +kernel
theorem dX2_reduce_36 : decode cX2_reduce 36 = .ok (.iconst 1, 1) := by decide +kernel
theorem dX2_reduce_37 : decode cX2_reduce 37 = .ok (.ireturn, 1) := by decide +kernel
set_option maxRecDepth 20000 in
theorem ggX2_addMod_X2_canWork : GoodIn wsX2_addMod wsX2_canWork := goodIn_r _ [7, 8, 9, 10, 11, 6, 12, 13, 66, 67, 68, 69, 70] (by decide +kernel) (by decide +kernel)
set_option maxRecDepth 20000 in
theorem gX2_addMod_X2_canWork : GoodIn wsX2_addMod (wsV RX2 65 RX2 yX2_canWork wsX2_canWork) := goodIn_app (goodIn_of _ (by decide +kernel)) ggX2_addMod_X2_canWork
set_option maxRecDepth 20000 in
theorem ggX2_addMod_X1_sum : GoodIn wsX2_addMod wsX1_sum := goodIn_r _ [18, 19, 20, 21, 22, 23, 17, 24, 25, 26, 27, 28, 29, 30, 31, 32, 33, 34, 35, 36, 37, 38, 39, 40, 41, 42, 43, 44, 45, 46, 47, 48, 49, 50, 51, 52, 53, 54, 55, 56, 57, 58, 59, 60, 61, 62, 63, 64, 65, 71, 72, 73, 74, 75, 76, 77, 78, 79, 80, 81, 82] (by decide +kernel) (by decide +kernel)
set_option maxRecDepth 20000 in
theorem gX2_addMod_X1_sum : GoodIn wsX2_addMod (wsV RX2 69 RX1 yX1_sum wsX1_sum) := goodIn_app (goodIn_of _ (by decide +kernel)) ggX2_addMod_X1_sum
theorem dX2_addMod_0 : decode cX2_addMod 0 = .ok (.aload_n 0, 1) := by decide +kernel
theorem dX2_addMod_1 : decode cX2_addMod 1 = .ok (.iload_n 1, 1) := by decide +kernel
theorem dX2_addMod_2 : decode cX2_addMod 2 = .ok (.iload_n 2, 1) := by decide +kernel
theorem dX2_addMod_3 : decode cX2_addMod 3 = .ok (.iload_n 3, 1) := by decide +kernel
theorem dX2_addMod_4 : decode cX2_addMod 4 = .ok (.invokevirtual 65, 3) := by decide +kernel
theorem dX2_addMod_7 : decode cX2_addMod 7 = .ok (.ifCond .ne 5, 3) := by decide +kernel
theorem dX2_addMod_10 : decode cX2_addMod 10 = .ok (.iconst 0, 1) := by decide +kernel
theorem dX2_addMod_11 : decode cX2_addMod 11 = .ok (.ireturn, 1) := by decide +kernel
theorem dX2_addMod_12 : decode cX2_addMod 12 = .ok (.aload_n 0, 1) := by decide +kernel
theorem dX2_addMod_13 : decode cX2_addMod 13 = .ok (.getfield 35, 3) := by decide +kernel
theorem dX2_addMod_16 : decode cX2_addMod 16 = .ok (.aload_n 0, 1) := by decide +kernel
theorem dX2_addMod_17 : decode cX2_addMod 17 = .ok (.getfield 27, 3) := by decide +kernel
theorem dX2_addMod_20 : decode cX2_addMod 20 = .ok (.iload_n 1, 1) := by decide +kernel
theorem dX2_addMod_21 : decode cX2_addMod 21 = .ok (.aaload, 1) := by decide +kernel
theorem dX2_addMod_22 : decode cX2_addMod 22 = .ok (.aload_n 0, 1) := by decide +kernel
theorem dX2_addMod_23 : decode cX2_addMod 23 = .ok (.getfield 27, 3) := by decide +kernel
theorem dX2_addMod_26 : decode cX2_addMod 26 = .ok (.iload_n 2, 1) := by decide +kernel
theorem dX2_addMod_27 : decode cX2_addMod 27 = .ok (.aaload, 1) := by decide +kernel
theorem dX2_addMod_28 : decode cX2_addMod 28 = .ok (.aload_n 0, 1) := by decide +kernel
theorem dX2_addMod_29 : decode cX2_addMod 29 = .ok (.getfield 27, 3) := by decide +kernel
theorem dX2_addMod_32 : decode cX2_addMod 32 = .ok (.iload_n 3, 1) := by decide +kernel
theorem dX2_addMod_33 : decode cX2_addMod 33 = .ok (.aaload, 1) := by decide +kernel
theorem dX2_addMod_34 : decode cX2_addMod 34 = .ok (.invokevirtual 69, 3) := by decide +kernel
theorem dX2_addMod_37 : decode cX2_addMod 37 = .ok (.iconst 1, 1) := by decide +kernel
theorem dX2_addMod_38 : decode cX2_addMod 38 = .ok (.ireturn, 1) := by decide +kernel
set_option maxRecDepth 20000 in
theorem ggX2_subMod_X2_canWork : GoodIn wsX2_subMod wsX2_canWork := goodIn_r _ [7, 8, 9, 10, 11, 6, 12, 13, 66, 67, 68, 69, 70] (by decide +kernel) (by decide +kernel)
set_option maxRecDepth 20000 in
theorem gX2_subMod_X2_canWork : GoodIn wsX2_subMod (wsV RX2 65 RX2 yX2_canWork wsX2_canWork) := goodIn_app (goodIn_of _ (by decide +kernel)) ggX2_subMod_X2_canWork
set_option maxRecDepth 20000 in
theorem ggX2_subMod_X1_difference : GoodIn wsX2_subMod wsX1_difference := goodIn_r _ [18, 19, 20, 21, 22, 23, 17, 24, 25, 26, 27, 28, 29, 30, 31, 32, 33, 34, 35, 36, 37, 38, 39, 40, 41, 42, 43, 44, 45, 46, 47, 48, 49, 50, 51, 52, 53, 54, 55, 56, 57, 58, 59, 60, 61, 62, 63, 64, 65, 71, 72, 73, 74, 75, 76, 77, 78, 79, 80, 81, 82] (by decide +kernel) (by decide +kernel)
set_option maxRecDepth 20000 in
theorem gX2_subMod_X1_difference : GoodIn wsX2_subMod (wsV RX2 73 RX1 yX1_difference wsX1_difference) := goodIn_app (goodIn_of _ (by decide +kernel)) ggX2_subMod_X1_difference
theorem dX2_subMod_0 : decode cX2_subMod 0 = .ok (.aload_n 0, 1) := by decide +kernel
theorem dX2_subMod_1 : decode cX2_subMod 1 = .ok (.iload_n 1, 1) := by decide +kernel
theorem dX2_subMod_2 : decode cX2_subMod 2 = .ok (.iload_n 2, 1) := by decide +kernel
theorem dX2_subMod_3 : decode cX2_subMod 3 = .ok (.iload_n 3, 1) := by decide +kernel
theorem dX2_subMod_4 : decode cX2_subMod 4 = .ok (.invokevirtual 65, 3) := by decide +kernel
theorem dX2_subMod_7 : decode cX2_subMod 7 = .ok (.ifCond .ne 5, 3) := by decide +kernel
theorem dX2_subMod_10 : decode cX2_subMod 10 = .ok (.iconst 0, 1) := by decide +kernel
theorem dX2_subMod_11 : decode cX2_subMod 11 = .ok (.ireturn, 1) := by decide +kernel
theorem dX2_subMod_12 : decode cX2_subMod 12 = .ok (.aload_n 0, 1) := by decide +kernel
theorem dX2_subMod_13 : decode cX2_subMod 13 = .ok (.getfield 35, 3) := by decide +kernel
theorem dX2_subMod_16 : decode cX2_subMod 16 = .ok (.aload_n 0, 1) := by decide +kernel
theorem dX2_subMod_17 : decode cX2_subMod 17 = .ok (.getfield 27, 3) := by decide +kernel
theorem dX2_subMod_20 : decode cX2_subMod 20 = .ok (.iload_n 1, 1) := by decide +kernel
theorem dX2_subMod_21 : decode cX2_subMod 21 = .ok (.aaload, 1) := by decide +kernel
theorem dX2_subMod_22 : decode cX2_subMod 22 = .ok (.aload_n 0, 1) := by decide +kernel
theorem dX2_subMod_23 : decode cX2_subMod 23 = .ok (.getfield 27, 3) := by decide +kernel
theorem dX2_subMod_26 : decode cX2_subMod 26 = .ok (.iload_n 2, 1) := by decide +kernel
theorem dX2_subMod_27 : decode cX2_subMod 27 = .ok (.aaload, 1) := by decide +kernel
theorem dX2_subMod_28 : decode cX2_subMod 28 = .ok (.aload_n 0, 1) := by decide +kernel
theorem dX2_subMod_29 : decode cX2_subMod 29 = .ok (.getfield 27, 3) := by decide +kernel
theorem dX2_subMod_32 : decode cX2_subMod 32 = .ok (.iload_n 3, 1) := by decide +kernel
theorem dX2_subMod_33 : decode cX2_subMod 33 = .ok (.aaload, 1) := by decide +kernel
theorem dX2_subMod_34 : decode cX2_subMod 34 = .ok (.invokevirtual 73, 3) := by decide +kernel
theorem dX2_subMod_37 : decode cX2_subMod 37 = .ok (.iconst 1, 1) := by decide +kernel
theorem dX2_subMod_38 : decode cX2_subMod 38 = .ok (.ireturn, 1) := by decide +kernel
set_option maxRecDepth 20000 in
theorem ggX2_mulMod_X2_canWork : GoodIn wsX2_mulMod wsX2_canWork := goodIn_r _ [7, 8, 9, 10, 11, 6, 12, 13, 53, 54, 55, 56, 57] (by decide +kernel) (by decide +kernel)
set_option maxRecDepth 20000 in
theorem gX2_mulMod_X2_canWork : GoodIn wsX2_mulMod (wsV RX2 65 RX2 yX2_canWork wsX2_canWork) := goodIn_app (goodIn_of _ (by decide +kernel)) ggX2_mulMod_X2_canWork
set_option maxRecDepth 20000 in
theorem ggX2_mulMod_X1_product : GoodIn wsX2_mulMod wsX1_product := goodIn_r _ [18, 19, 20, 21, 22, 23, 17, 24, 25, 26, 27, 28, 29, 30, 31, 32, 33, 34, 35, 36, 37, 38, 39, 40, 41, 42, 43, 44, 45, 46, 47, 48, 49, 50, 51, 52, 58, 59, 60, 61, 62, 63, 64, 65, 66, 67, 68, 69] (by decide +kernel) (by decide +kernel)
set_option maxRecDepth 20000 in
theorem gX2_mulMod_X1_product : GoodIn wsX2_mulMod (wsV RX2 76 RX1 yX1_product wsX1_product) := goodIn_app (goodIn_of _ (by decide +kernel)) ggX2_mulMod_X1_product
theorem dX2_mulMod_0 : decode cX2_mulMod 0 = .ok (.aload_n 0, 1) := by decide +kernel
theorem dX2_mulMod_1 : decode cX2_mulMod 1 = .ok (.iload_n 1, 1) := by decide +kernel
theorem dX2_mulMod_2 : decode cX2_mulMod 2 = .ok (.iload_n 2, 1) := by decide +kernel
theorem dX2_mulMod_3 : decode cX2_mulMod 3 = .ok (.iload_n 3, 1) := by decide +kernel
theorem dX2_mulMod_4 : decode cX2_mulMod 4 = .ok (.invokevirtual 65, 3) := by decide +kernel
theorem dX2_mulMod_7 : decode cX2_mulMod 7 = .ok (.ifCond .ne 5, 3) := by decide +kernel
theorem dX2_mulMod_10 : decode cX2_mulMod 10 = .ok (.iconst 0, 1) := by decide +kernel
theorem dX2_mulMod_11 : decode cX2_mulMod 11 = .ok (.ireturn, 1) := by decide +kernel
theorem dX2_mulMod_12 : decode cX2_mulMod 12 = .ok (.aload_n 0, 1) := by decide +kernel
theorem dX2_mulMod_13 : decode cX2_mulMod 13 = .ok (.getfield 35, 3) := by decide +kernel
theorem dX2_mulMod_16 : decode cX2_mulMod 16 = .ok (.aload_n 0, 1) := by decide +kernel
theorem dX2_mulMod_17 : decode cX2_mulMod 17 = .ok (.getfield 27, 3) := by decide +kernel
theorem dX2_mulMod_20 : decode cX2_mulMod 20 = .ok (.iload_n 1, 1) := by decide +kernel
theorem dX2_mulMod_21 : decode cX2_mulMod 21 = .ok (.aaload, 1) := by decide +kernel
theorem dX2_mulMod_22 : decode cX2_mulMod 22 = .ok (.aload_n 0, 1) := by decide +kernel
theorem dX2_mulMod_23 : decode cX2_mulMod 23 = .ok (.getfield 27, 3) := by decide +kernel
theorem dX2_mulMod_26 : decode cX2_mulMod 26 = .ok (.iload_n 2, 1) := by decide +kernel
theorem dX2_mulMod_27 : decode cX2_mulMod 27 = .ok (.aaload, 1) := by decide +kernel
theorem dX2_mulMod_28 : decode cX2_mulMod 28 = .ok (.aload_n 0, 1) := by decide +kernel
theorem dX2_mulMod_29 : decode cX2_mulMod 29 = .ok (.getfield 27, 3) := by decide +kernel
theorem dX2_mulMod_32 : decode cX2_mulMod 32 = .ok (.iload_n 3, 1) := by decide +kernel
theorem dX2_mulMod_33 : decode cX2_mulMod 33 = .ok (.aaload, 1) := by decide +kernel
theorem dX2_mulMod_34 : decode cX2_mulMod 34 = .ok (.invokevirtual 76, 3) := by decide +kernel
theorem dX2_mulMod_37 : decode cX2_mulMod 37 = .ok (.iconst 1, 1) := by decide +kernel
theorem dX2_mulMod_38 : decode cX2_mulMod 38 = .ok (.ireturn, 1) := by decide +kernel
set_option maxRecDepth 20000 in
theorem ggX2_montMod_X2_canWork : GoodIn wsX2_montMod wsX2_canWork := goodIn_r _ [7, 8, 9, 10, 11, 6, 12, 13, 58, 59, 60, 61, 62] (by decide +kernel) (by decide +kernel)
set_option maxRecDepth 20000 in
theorem gX2_montMod_X2_canWork : GoodIn wsX2_montMod (wsV RX2 65 RX2 yX2_canWork wsX2_canWork) := goodIn_app (goodIn_of _ (by decide +kernel)) ggX2_montMod_X2_canWork
set_option maxRecDepth 20000 in
theorem ggX2_montMod_X1_productByR : GoodIn wsX2_montMod wsX1_productByR := goodIn_r _ [18, 19, 20, 21, 22, 23, 17, 24, 25, 26, 27, 28, 29, 30, 31, 32, 33, 34, 35, 36, 37, 38, 39, 40, 41, 42, 43, 44, 45, 46, 47, 48, 49, 50, 51, 52, 53, 54, 55, 56, 57, 63, 64, 65, 66, 67, 68, 69, 70, 71, 72, 73, 74] (by decide +kernel) (by decide +kernel)
set_option maxRecDepth 20000 in
theorem gX2_montMod_X1_productByR : GoodIn wsX2_montMod (wsV RX2 79 RX1 yX1_productByR wsX1_productByR) := goodIn_app (goodIn_of _ (by decide +kernel)) ggX2_montMod_X1_productByR
theorem dX2_montMod_0 : decode cX2_montMod 0 = .ok (.aload_n 0, 1) := by decide +kernel
theorem dX2_montMod_1 : decode cX2_montMod 1 = .ok (.iload_n 1, 1) := by decide +kernel
theorem dX2_montMod_2 : decode cX2_montMod 2 = .ok (.iload_n 2, 1) := by decide +kernel
theorem dX2_montMod_3 : decode cX2_montMod 3 = .ok (.iload_n 3, 1) := by decide +kernel
theorem dX2_montMod_4 : decode cX2_montMod 4 = .ok (.invokevirtual 65, 3) := by decide +kernel
theorem dX2_montMod_7 : decode cX2_montMod 7 = .ok (.ifCond .ne 5, 3) := by decide +kernel
theorem dX2_montMod_10 : decode cX2_montMod 10 = .ok (.iconst 0, 1) := by decide +kernel
theorem dX2_montMod_11 : decode cX2_montMod 11 = .ok (.ireturn, 1) := by decide +kernel
theorem dX2_montMod_12 : decode cX2_montMod 12 = .ok (.aload_n 0, 1) := by decide +kernel
theorem dX2_montMod_13 : decode cX2_montMod 13 = .ok (.getfield 35, 3) := by decide +kernel
theorem dX2_montMod_16 : decode cX2_montMod 16 = .ok (.aload_n 0, 1) := by decide +kernel
theorem dX2_montMod_17 : decode cX2_montMod 17 = .ok (.getfield 27, 3) := by decide +kernel
theorem dX2_montMod_20 : decode cX2_montMod 20 = .ok (.iload_n 1, 1) := by decide +kernel
theorem dX2_montMod_21 : decode cX2_montMod 21 = .ok (.aaload, 1) := by decide +kernel
theorem dX2_montMod_22 : decode cX2_montMod 22 = .ok (.aload_n 0, 1) := by decide +kernel
theorem dX2_montMod_23 : decode cX2_montMod 23 = .ok (.getfield 27, 3) := by decide +kernel
theorem dX2_montMod_26 : decode cX2_montMod 26 = .ok (.iload_n 2, 1) := by decide +kernel
theorem dX2_montMod_27 : decode cX2_montMod 27 = .ok (.aaload, 1) := by decide +kernel
theorem dX2_montMod_28 : decode cX2_montMod 28 = .ok (.aload_n 0, 1) := by decide +kernel
theorem dX2_montMod_29 : decode cX2_montMod 29 = .ok (.getfield 27, 3) := by decide +kernel
theorem dX2_montMod_32 : decode cX2_montMod 32 = .ok (.iload_n 3, 1) := by decide +kernel
theorem dX2_montMod_33 : decode cX2_montMod 33 = .ok (.aaload, 1) := by decide +kernel
theorem dX2_montMod_34 : decode cX2_montMod 34 = .ok (.invokevirtual 79, 3) := by decide +kernel
theorem dX2_montMod_37 : decode cX2_montMod 37 = .ok (.iconst 1, 1) := by decide +kernel
theorem dX2_montMod_38 : decode cX2_montMod 38 = .ok (.ireturn, 1) := by decide +kernel
set_option maxRecDepth 20000 in
theorem ggX2_powMod_X2_canWork : GoodIn wsX2_powMod wsX2_canWork := goodIn_r _ [7, 8, 9, 10, 11, 6, 12, 13, 67, 68, 69, 70, 71] (by decide +kernel) (by decide +kernel)
set_option maxRecDepth 20000 in
theorem gX2_powMod_X2_canWork : GoodIn wsX2_powMod (wsV RX2 65 RX2 yX2_canWork wsX2_canWork) := goodIn_app (goodIn_of _ (by decide +kernel)) ggX2_powMod_X2_canWork
set_option maxRecDepth 20000 in
theorem ggX2_powMod_X1_power : GoodIn wsX2_powMod wsX1_power := goodIn_r _ [18, 19, 20, 21, 22, 23, 24, 25, 17, 26, 27, 28, 29, 30, 31, 32, 33, 34, 35, 36, 37, 38, 39, 40, 41, 42, 43, 44, 45, 46, 47, 48, 49, 50, 51, 52, 53, 54, 55, 56, 57, 58, 59, 60, 61, 62, 63, 64, 65, 66, 72, 73, 74, 75, 76, 77, 78, 79, 80, 81, 82, 83] (by decide +kernel) (by decide +kernel)
set_option maxRecDepth 20000 in
theorem gX2_powMod_X1_power : GoodIn wsX2_powMod (wsV RX2 82 RX1 yX1_power wsX1_power) := goodIn_app (goodIn_of _ (by decide +kernel)) ggX2_powMod_X1_power
theorem dX2_powMod_0 : decode cX2_powMod 0 = .ok (.aload_n 0, 1) := by decide +kernel
theorem dX2_powMod_1 : decode cX2_powMod 1 = .ok (.iload_n 1, 1) := by decide +kernel
theorem dX2_powMod_2 : decode cX2_powMod 2 = .ok (.iload_n 2, 1) := by decide +kernel
theorem dX2_powMod_3 : decode cX2_powMod 3 = .ok (.iload_n 3, 1) := by decide +kernel
theorem dX2_powMod_4 : decode cX2_powMod 4 = .ok (.invokevirtual 65, 3) := by decide +kernel
theorem dX2_powMod_7 : decode cX2_powMod 7 = .ok (.ifCond .ne 5, 3) := by decide +kernel
theorem dX2_powMod_10 : decode cX2_powMod 10 = .ok (.iconst 0, 1) := by decide +kernel
theorem dX2_powMod_11 : decode cX2_powMod 11 = .ok (.ireturn, 1) := by decide +kernel
theorem dX2_powMod_12 : decode cX2_powMod 12 = .ok (.aload_n 0, 1) := by decide +kernel
theorem dX2_powMod_13 : decode cX2_powMod 13 = .ok (.getfield 35, 3) := by decide +kernel
theorem dX2_powMod_16 : decode cX2_powMod 16 = .ok (.aload_n 0, 1) := by decide +kernel
theorem dX2_powMod_17 : decode cX2_powMod 17 = .ok (.getfield 27, 3) := by decide +kernel
theorem dX2_powMod_20 : decode cX2_powMod 20 = .ok (.iload_n 1, 1) := by decide +kernel
theorem dX2_powMod_21 : decode cX2_powMod 21 = .ok (.aaload, 1) := by decide +kernel
theorem dX2_powMod_22 : decode cX2_powMod 22 = .ok (.aload_n 0, 1) := by decide +kernel
theorem dX2_powMod_23 : decode cX2_powMod 23 = .ok (.getfield 27, 3) := by decide +kernel
theorem dX2_powMod_26 : decode cX2_powMod 26 = .ok (.iload_n 2, 1) := by decide +kernel
theorem dX2_powMod_27 : decode cX2_powMod 27 = .ok (.aaload, 1) := by decide +kernel
theorem dX2_powMod_28 : decode cX2_powMod 28 = .ok (.aload_n 0, 1) := by decide +kernel
theorem dX2_powMod_29 : decode cX2_powMod 29 = .ok (.getfield 27, 3) := by decide +kernel
theorem dX2_powMod_32 : decode cX2_powMod 32 = .ok (.iload_n 3, 1) := by decide +kernel
theorem dX2_powMod_33 : decode cX2_powMod 33 = .ok (.aaload, 1) := by decide +kernel
theorem dX2_powMod_34 : decode cX2_powMod 34 = .ok (.invokevirtual 82, 3) := by decide +kernel
theorem dX2_powMod_37 : decode cX2_powMod 37 = .ok (.iconst 1, 1) := by decide +kernel
theorem dX2_powMod_38 : decode cX2_powMod 38 = .ok (.ireturn, 1) := by decide +kernel
set_option maxRecDepth 20000 in
theorem ggX2_invMod_X2_canWork : GoodIn wsX2_invMod wsX2_canWork := goodIn_r _ [7, 8, 9, 10, 11, 6, 12, 13, 89, 90, 91, 92, 93] (by decide +kernel) (by decide +kernel)
set_option maxRecDepth 20000 in
theorem gX2_invMod_X2_canWork : GoodIn wsX2_invMod (wsV RX2 65 RX2 yX2_canWork wsX2_canWork) := goodIn_app (goodIn_of _ (by decide +kernel)) ggX2_invMod_X2_canWork
set_option maxRecDepth 20000 in
theorem ggX2_invMod_X1_invert : GoodIn wsX2_invMod wsX1_invert := goodIn_r _ [18, 19, 20, 21, 22, 23, 24, 25, 26, 27, 28, 29, 17, 30, 31, 32, 33, 34, 35, 36, 37, 38, 39, 40, 41, 42, 43, 44, 45, 46, 47, 48, 49, 50, 51, 52, 53, 54, 55, 56, 57, 58, 59, 60, 61, 62, 63, 64, 65, 66, 67, 68, 69, 70, 71, 72, 73, 74, 75, 76, 77, 78, 79, 80, 81, 82, 83, 84, 85, 86, 87, 88, 94, 95, 96, 97, 98, 99, 100, 101, 102, 103, 104, 105] (by decide +kernel) (by decide +kernel)
set_option maxRecDepth 20000 in
theorem gX2_invMod_X1_invert : GoodIn wsX2_invMod (wsV RX2 85 RX1 yX1_invert wsX1_invert) := goodIn_app (goodIn_of _ (by decide +kernel)) ggX2_invMod_X1_invert
theorem dX2_invMod_0 : decode cX2_invMod 0 = .ok (.aload_n 0, 1) := by decide +kernel
theorem dX2_invMod_1 : decode cX2_invMod 1 = .ok (.iload_n 1, 1) := by decide +kernel
theorem dX2_invMod_2 : decode cX2_invMod 2 = .ok (.iload_n 2, 1) := by decide +kernel
theorem dX2_invMod_3 : decode cX2_invMod 3 = .ok (.iload_n 2, 1) := by decide +kernel
theorem dX2_invMod_4 : decode cX2_invMod 4 = .ok (.invokevirtual 65, 3) := by decide +kernel
theorem dX2_invMod_7 : decode cX2_invMod 7 = .ok (.ifCond .ne 5, 3) := by decide +kernel
theorem dX2_invMod_10 : decode cX2_invMod 10 = .ok (.iconst 2, 1) := by decide +kernel
theorem dX2_invMod_11 : decode cX2_invMod 11 = .ok (.ireturn, 1) := by decide +kernel
theorem dX2_invMod_12 : decode cX2_invMod 12 = .ok (.aload_n 0, 1) := by decide +kernel
theorem dX2_invMod_13 : decode cX2_invMod 13 = .ok (.getfield 35, 3) := by decide +kernel
theorem dX2_invMod_16 : decode cX2_invMod 16 = .ok (.aload_n 0, 1) := by decide +kernel
theorem dX2_invMod_17 : decode cX2_invMod 17 = .ok (.getfield 27, 3) := by decide +kernel
theorem dX2_invMod_20 : decode cX2_invMod 20 = .ok (.iload_n 1, 1) := by decide +kernel
theorem dX2_invMod_21 : decode cX2_invMod 21 = .ok (.aaload, 1) := by decide +kernel
theorem dX2_invMod_22 : decode cX2_invMod 22 = .ok (.aload_n 0, 1) := by decide +kernel
theorem dX2_invMod_23 : decode cX2_invMod 23 = .ok (.getfield 27, 3) := by decide +kernel
theorem dX2_invMod_26 : decode cX2_invMod 26 = .ok (.iload_n 2, 1) := by decide +kernel
theorem dX2_invMod_27 : decode cX2_invMod 27 = .ok (.aaload, 1) := by decide +kernel
theorem dX2_invMod_28 : decode cX2_invMod 28 = .ok (.invokevirtual 85, 3) := by decide +kernel
theorem dX2_invMod_31 : decode cX2_invMod 31 = .ok (.ifCond .eq 7, 3) := by decide +kernel
theorem dX2_invMod_34 : decode cX2_invMod 34 = .ok (.iconst 0, 1) := by decide +kernel
theorem dX2_invMod_35 : decode cX2_invMod 35 = .ok (.goto 4, 3) := by decide +kernel
theorem dX2_invMod_38 : decode cX2_invMod 38 = .ok (.iconst 1, 1) := by decide +kernel
theorem dX2_invMod_39 : decode cX2_invMod 39 = .ok (.ireturn, 1) := by decide +kernel
set_option maxRecDepth 20000 in
theorem ggX2_witness_X2_hasRegister : GoodIn wsX2_witness wsX2_hasRegister := goodIn_r _ [8, 9, 78, 79, 80, 81, 82] (by decide +kernel) (by decide +kernel)
set_option maxRecDepth 20000 in
theorem gX2_witness_X2_hasRegister : GoodIn wsX2_witness (wsV RX2 58 RX2 yX2_hasRegister wsX2_hasRegister) := goodIn_app (goodIn_of _ (by decide +kernel)) ggX2_witness_X2_hasRegister
set_option maxRecDepth 20000 in
theorem ggX2_witness_X1_isProvedCompositeBy : GoodIn wsX2_witness wsX1_isProvedCompositeBy := goodIn_r _ [14, 15, 16, 17, 18, 19, 20, 21, 22, 23, 24, 13, 25, 26, 27, 28, 29, 30, 31, 32, 33, 34, 35, 36, 37, 38, 39, 40, 41, 42, 43, 44, 45, 46, 47, 48, 49, 50, 51, 52, 53, 54, 55, 56, 57, 58, 59, 60, 61, 62, 63, 64, 65, 66, 67, 68, 69, 70, 71, 72, 73, 74, 75, 76, 77, 83, 84, 85, 86, 87, 88, 89, 90, 91, 92, 93, 94] (by decide +kernel) (by decide +kernel)
set_option maxRecDepth 20000 in
theorem gX2_witness_X1_isProvedCompositeBy : GoodIn wsX2_witness (wsV RX2 89 RX1 yX1_isProvedCompositeBy wsX1_isProvedCompositeBy) := goodIn_app (goodIn_of _ (by decide +kernel)) ggX2_witness_X1_isProvedCompositeBy
theorem dX2_witness_0 : decode cX2_witness 0 = .ok (.aload_n 0, 1) := by decide +kernel
theorem dX2_witness_1 : decode cX2_witness 1 = .ok (.getfield 39, 3) := by decide +kernel
theorem dX2_witness_4 : decode cX2_witness 4 = .ok (.ifCond .eq 11, 3) := by decide +kernel
theorem dX2_witness_7 : decode cX2_witness 7 = .ok (.aload_n 0, 1) := by decide +kernel
theorem dX2_witness_8 : decode cX2_witness 8 = .ok (.iload_n 1, 1) := by decide +kernel
theorem dX2_witness_9 : decode cX2_witness 9 = .ok (.invokevirtual 58, 3) := by decide +kernel
theorem dX2_witness_12 : decode cX2_witness 12 = .ok (.ifCond .ne 5, 3) := by decide +kernel
theorem dX2_witness_15 : decode cX2_witness 15 = .ok (.iconst 2, 1) := by decide +kernel
theorem dX2_witness_16 : decode cX2_witness 16 = .ok (.ireturn, 1) := by decide +kernel
theorem dX2_witness_17 : decode cX2_witness 17 = .ok (.aload_n 0, 1) := by decide +kernel
theorem dX2_witness_18 : decode cX2_witness 18 = .ok (.getfield 35, 3) := by decide +kernel
theorem dX2_witness_21 : decode cX2_witness 21 = .ok (.aload_n 0, 1) := by decide +kernel
theorem dX2_witness_22 : decode cX2_witness 22 = .ok (.getfield 27, 3) := by decide +kernel
theorem dX2_witness_25 : decode cX2_witness 25 = .ok (.iload_n 1, 1) := by decide +kernel
theorem dX2_witness_26 : decode cX2_witness 26 = .ok (.aaload, 1) := by decide +kernel
theorem dX2_witness_27 : decode cX2_witness 27 = .ok (.invokevirtual 89, 3) := by decide +kernel
theorem dX2_witness_30 : decode cX2_witness 30 = .ok (.ifCond .eq 7, 3) := by decide +kernel
theorem dX2_witness_33 : decode cX2_witness 33 = .ok (.iconst 1, 1) := by decide +kernel
theorem dX2_witness_34 : decode cX2_witness 34 = .ok (.goto 4, 3) := by decide +kernel
theorem dX2_witness_37 : decode cX2_witness 37 = .ok (.iconst 0, 1) := by decide +kernel
theorem dX2_witness_38 : decode cX2_witness 38 = .ok (.ireturn, 1) := by decide +kernel
set_option maxRecDepth 20000 in
theorem ggX2_compare_X2_hasRegister : GoodIn wsX2_compare wsX2_hasRegister := goodIn_r _ [7, 8, 14, 15, 16, 17, 18] (by decide +kernel) (by decide +kernel)
set_option maxRecDepth 20000 in
theorem gX2_compare_X2_hasRegister : GoodIn wsX2_compare (wsV RX2 58 RX2 yX2_hasRegister wsX2_hasRegister) := goodIn_app (goodIn_of _ (by decide +kernel)) ggX2_compare_X2_hasRegister
set_option maxRecDepth 20000 in
theorem ggX2_compare_X0_order : GoodIn wsX2_compare wsX0_order := goodIn_r _ [12, 13] (by decide +kernel) (by decide +kernel)
set_option maxRecDepth 20000 in
theorem gX2_compare_X0_order : GoodIn wsX2_compare (va_wsS RX2 93 yX0_order wsX0_order) := goodIn_app (goodIn_of _ (by decide +kernel)) ggX2_compare_X0_order
theorem dX2_compare_0 : decode cX2_compare 0 = .ok (.aload_n 0, 1) := by decide +kernel
theorem dX2_compare_1 : decode cX2_compare 1 = .ok (.iload_n 1, 1) := by decide +kernel
theorem dX2_compare_2 : decode cX2_compare 2 = .ok (.invokevirtual 58, 3) := by decide +kernel
theorem dX2_compare_5 : decode cX2_compare 5 = .ok (.ifCond .eq 11, 3) := by decide +kernel
theorem dX2_compare_8 : decode cX2_compare 8 = .ok (.aload_n 0, 1) := by decide +kernel
theorem dX2_compare_9 : decode cX2_compare 9 = .ok (.iload_n 2, 1) := by decide +kernel
theorem dX2_compare_10 : decode cX2_compare 10 = .ok (.invokevirtual 58, 3) := by decide +kernel
theorem dX2_compare_13 : decode cX2_compare 13 = .ok (.ifCond .ne 5, 3) := by decide +kernel
theorem dX2_compare_16 : decode cX2_compare 16 = .ok (.iconst 2, 1) := by decide +kernel
theorem dX2_compare_17 : decode cX2_compare 17 = .ok (.ireturn, 1) := by decide +kernel
theorem dX2_compare_18 : decode cX2_compare 18 = .ok (.aload_n 0, 1) := by decide +kernel
theorem dX2_compare_19 : decode cX2_compare 19 = .ok (.getfield 27, 3) := by decide +kernel
theorem dX2_compare_22 : decode cX2_compare 22 = .ok (.iload_n 1, 1) := by decide +kernel
theorem dX2_compare_23 : decode cX2_compare 23 = .ok (.aaload, 1) := by decide +kernel
theorem dX2_compare_24 : decode cX2_compare 24 = .ok (.aload_n 0, 1) := by decide +kernel
theorem dX2_compare_25 : decode cX2_compare 25 = .ok (.getfield 27, 3) := by decide +kernel
theorem dX2_compare_28 : decode cX2_compare 28 = .ok (.iload_n 2, 1) := by decide +kernel
theorem dX2_compare_29 : decode cX2_compare 29 = .ok (.aaload, 1) := by decide +kernel
theorem dX2_compare_30 : decode cX2_compare 30 = .ok (.aload_n 0, 1) := by decide +kernel
theorem dX2_compare_31 : decode cX2_compare 31 = .ok (.getfield 18, 3) := by decide +kernel
theorem dX2_compare_34 : decode cX2_compare 34 = .ok (.invokestatic 93, 3) := by decide +kernel
theorem dX2_compare_37 : decode cX2_compare 37 = .ok (.ireturn, 1) := by decide +kernel
theorem dX2_hasLimb_0 : decode cX2_hasLimb 0 = .ok (.iload_n 1, 1) := by decide +kernel
theorem dX2_hasLimb_1 : decode cX2_hasLimb 1 = .ok (.ifCond .lt 15, 3) := by decide +kernel
theorem dX2_hasLimb_4 : decode cX2_hasLimb 4 = .ok (.iload_n 1, 1) := by decide +kernel
theorem dX2_hasLimb_5 : decode cX2_hasLimb 5 = .ok (.aload_n 0, 1) := by decide +kernel
theorem dX2_hasLimb_6 : decode cX2_hasLimb 6 = .ok (.getfield 18, 3) := by decide +kernel
theorem dX2_hasLimb_9 : decode cX2_hasLimb 9 = .ok (.if_icmp .ge 7, 3) := by decide +kernel
theorem dX2_hasLimb_12 : decode cX2_hasLimb 12 = .ok (.iconst 1, 1) := by decide +kernel
theorem dX2_hasLimb_13 : decode cX2_hasLimb 13 = .ok (.goto 4, 3) := by decide +kernel
theorem dX2_hasLimb_16 : decode cX2_hasLimb 16 = .ok (.iconst 0, 1) := by decide +kernel
theorem dX2_hasLimb_17 : decode cX2_hasLimb 17 = .ok (.ireturn, 1) := by decide +kernel
theorem dX2_hasRegister_0 : decode cX2_hasRegister 0 = .ok (.iload_n 1, 1) := by decide +kernel
theorem dX2_hasRegister_1 : decode cX2_hasRegister 1 = .ok (.ifCond .lt 15, 3) := by decide +kernel
theorem dX2_hasRegister_4 : decode cX2_hasRegister 4 = .ok (.iload_n 1, 1) := by decide +kernel
theorem dX2_hasRegister_5 : decode cX2_hasRegister 5 = .ok (.aload_n 0, 1) := by decide +kernel
theorem dX2_hasRegister_6 : decode cX2_hasRegister 6 = .ok (.getfield 22, 3) := by decide +kernel
theorem dX2_hasRegister_9 : decode cX2_hasRegister 9 = .ok (.if_icmp .ge 7, 3) := by decide +kernel
theorem dX2_hasRegister_12 : decode cX2_hasRegister 12 = .ok (.iconst 1, 1) := by decide +kernel
theorem dX2_hasRegister_13 : decode cX2_hasRegister 13 = .ok (.goto 4, 3) := by decide +kernel
theorem dX2_hasRegister_16 : decode cX2_hasRegister 16 = .ok (.iconst 0, 1) := by decide +kernel
theorem dX2_hasRegister_17 : decode cX2_hasRegister 17 = .ok (.ireturn, 1) := by decide +kernel
set_option maxRecDepth 20000 in
theorem ggX2_canWork_X2_hasRegister : GoodIn wsX2_canWork wsX2_hasRegister := goodIn_r _ [6, 7, 8, 9, 10, 11, 12] (by decide +kernel) (by decide +kernel)
set_option maxRecDepth 20000 in
theorem gX2_canWork_X2_hasRegister : GoodIn wsX2_canWork (wsV RX2 58 RX2 yX2_hasRegister wsX2_hasRegister) := goodIn_app (goodIn_of _ (by decide +kernel)) ggX2_canWork_X2_hasRegister
theorem dX2_canWork_0 : decode cX2_canWork 0 = .ok (.aload_n 0, 1) := by decide +kernel
theorem dX2_canWork_1 : decode cX2_canWork 1 = .ok (.getfield 39, 3) := by decide +kernel
theorem dX2_canWork_4 : decode cX2_canWork 4 = .ok (.ifCond .eq 31, 3) := by decide +kernel
theorem dX2_canWork_7 : decode cX2_canWork 7 = .ok (.aload_n 0, 1) := by decide +kernel
theorem dX2_canWork_8 : decode cX2_canWork 8 = .ok (.iload_n 1, 1) := by decide +kernel
theorem dX2_canWork_9 : decode cX2_canWork 9 = .ok (.invokevirtual 58, 3) := by decide +kernel
theorem dX2_canWork_12 : decode cX2_canWork 12 = .ok (.ifCond .eq 23, 3) := by decide +kernel
theorem dX2_canWork_15 : decode cX2_canWork 15 = .ok (.aload_n 0, 1) := by decide +kernel
theorem dX2_canWork_16 : decode cX2_canWork 16 = .ok (.iload_n 2, 1) := by decide +kernel
theorem dX2_canWork_17 : decode cX2_canWork 17 = .ok (.invokevirtual 58, 3) := by decide +kernel
theorem dX2_canWork_20 : decode cX2_canWork 20 = .ok (.ifCond .eq 15, 3) := by decide +kernel
theorem dX2_canWork_23 : decode cX2_canWork 23 = .ok (.aload_n 0, 1) := by decide +kernel
theorem dX2_canWork_24 : decode cX2_canWork 24 = .ok (.iload_n 3, 1) := by decide +kernel
theorem dX2_canWork_25 : decode cX2_canWork 25 = .ok (.invokevirtual 58, 3) := by decide +kernel
theorem dX2_canWork_28 : decode cX2_canWork 28 = .ok (.ifCond .eq 7, 3) := by decide +kernel
theorem dX2_canWork_31 : decode cX2_canWork 31 = .ok (.iconst 1, 1) := by decide +kernel
theorem dX2_canWork_32 : decode cX2_canWork 32 = .ok (.goto 4, 3) := by decide +kernel
theorem dX2_canWork_35 : decode cX2_canWork 35 = .ok (.iconst 0, 1) := by decide +kernel
theorem dX2_canWork_36 : decode cX2_canWork 36 = .ok (.ireturn, 1) := by decide +kernel
set_option maxRecDepth 20000 in
theorem ggX3_init_X3_within : GoodIn wsX3_init wsX3_within := goodIn_r _ [18] (by decide +kernel) (by decide +kernel)
set_option maxRecDepth 20000 in
theorem gX3_init_X3_within : GoodIn wsX3_init (va_wsS RX3 34 yX3_within wsX3_within) := goodIn_app (goodIn_of _ (by decide +kernel)) ggX3_init_X3_within
theorem dX3_init_0 : decode cX3_init 0 = .ok (.aload_n 0, 1) := by decide +kernel
theorem dX3_init_1 : decode cX3_init 1 = .ok (.invokespecial 1, 3) := by decide +kernel
theorem dX3_init_4 : decode cX3_init 4 = .ok (.aload_n 0, 1) := by decide +kernel
theorem dX3_init_5 : decode cX3_init 5 = .ok (.bipush 81, 2) := by decide +kernel
theorem dX3_init_7 : decode cX3_init 7 = .ok (.newarray .long, 2) := by decide +kernel
theorem dX3_init_9 : decode cX3_init 9 = .ok (.putfield 7, 3) := by decide +kernel
theorem dX3_init_12 : decode cX3_init 12 = .ok (.aload_n 0, 1) := by decide +kernel
theorem dX3_init_13 : decode cX3_init 13 = .ok (.bipush 9, 2) := by decide +kernel
theorem dX3_init_15 : decode cX3_init 15 = .ok (.newarray .long, 2) := by decide +kernel
theorem dX3_init_17 : decode cX3_init 17 = .ok (.putfield 13, 3) := by decide +kernel
theorem dX3_init_20 : decode cX3_init 20 = .ok (.aload_n 0, 1) := by decide +kernel
theorem dX3_init_21 : decode cX3_init 21 = .ok (.bipush 9, 2) := by decide +kernel
theorem dX3_init_23 : decode cX3_init 23 = .ok (.newarray .long, 2) := by decide +kernel
theorem dX3_init_25 : decode cX3_init 25 = .ok (.putfield 16, 3) := by decide +kernel
theorem dX3_init_28 : decode cX3_init 28 = .ok (.aload_n 0, 1) := by decide +kernel
theorem dX3_init_29 : decode cX3_init 29 = .ok (.bipush 9, 2) := by decide +kernel
theorem dX3_init_31 : decode cX3_init 31 = .ok (.newarray .long, 2) := by decide +kernel
theorem dX3_init_33 : decode cX3_init 33 = .ok (.putfield 19, 3) := by decide +kernel
theorem dX3_init_36 : decode cX3_init 36 = .ok (.aload_n 0, 1) := by decide +kernel
theorem dX3_init_37 : decode cX3_init 37 = .ok (.bipush 9, 2) := by decide +kernel
theorem dX3_init_39 : decode cX3_init 39 = .ok (.newarray .long, 2) := by decide +kernel
theorem dX3_init_41 : decode cX3_init 41 = .ok (.putfield 22, 3) := by decide +kernel
theorem dX3_init_44 : decode cX3_init 44 = .ok (.aload_n 0, 1) := by decide +kernel
theorem dX3_init_45 : decode cX3_init 45 = .ok (.bipush 9, 2) := by decide +kernel
theorem dX3_init_47 : decode cX3_init 47 = .ok (.newarray .long, 2) := by decide +kernel
theorem dX3_init_49 : decode cX3_init 49 = .ok (.putfield 25, 3) := by decide +kernel
theorem dX3_init_52 : decode cX3_init 52 = .ok (.aload_n 0, 1) := by decide +kernel
theorem dX3_init_53 : decode cX3_init 53 = .ok (.bipush 9, 2) := by decide +kernel
theorem dX3_init_55 : decode cX3_init 55 = .ok (.newarray .long, 2) := by decide +kernel
theorem dX3_init_57 : decode cX3_init 57 = .ok (.putfield 28, 3) := by decide +kernel
theorem dX3_init_60 : decode cX3_init 60 = .ok (.aload_n 0, 1) := by decide +kernel
theorem dX3_init_61 : decode cX3_init 61 = .ok (.bipush 9, 2) := by decide +kernel
theorem dX3_init_63 : decode cX3_init 63 = .ok (.newarray .long, 2) := by decide +kernel
theorem dX3_init_65 : decode cX3_init 65 = .ok (.putfield 31, 3) := by decide +kernel
theorem dX3_init_68 : decode cX3_init 68 = .ok (.aload_n 0, 1) := by decide +kernel
theorem dX3_init_69 : decode cX3_init 69 = .ok (.iload_n 1, 1) := by decide +kernel
theorem dX3_init_70 : decode cX3_init 70 = .ok (.invokestatic 34, 3) := by decide +kernel
theorem dX3_init_73 : decode cX3_init 73 = .ok (.putfield 38, 3) := by decide +kernel
theorem dX3_init_76 : decode cX3_init 76 = .ok (.aload_n 0, 1) := by decide +kernel
theorem dX3_init_77 : decode cX3_init 77 = .ok (.iload_n 2, 1) := by decide +kernel
theorem dX3_init_78 : decode cX3_init 78 = .ok (.invokestatic 34, 3) := by decide +kernel
theorem dX3_init_81 : decode cX3_init 81 = .ok (.putfield 42, 3) := by decide +kernel
theorem dX3_init_84 : decode cX3_init 84 = .ok (.return_, 1) := by decide +kernel
theorem dX3_within_0 : decode cX3_within 0 = .ok (.iload_n 0, 1) := by decide +kernel
theorem dX3_within_1 : decode cX3_within 1 = .ok (.iconst 1, 1) := by decide +kernel
theorem dX3_within_2 : decode cX3_within 2 = .ok (.if_icmp .ge 7, 3) := by decide +kernel
theorem dX3_within_5 : decode cX3_within 5 = .ok (.iconst 1, 1) := by decide +kernel
theorem dX3_within_6 : decode cX3_within 6 = .ok (.goto 15, 3) := by decide +kernel
theorem dX3_within_9 : decode cX3_within 9 = .ok (.iload_n 0, 1) := by decide +kernel
theorem dX3_within_10 : decode cX3_within 10 = .ok (.bipush 8, 2) := by decide +kernel
theorem dX3_within_12 : decode cX3_within 12 = .ok (.if_icmp .le 8, 3) := by decide +kernel
theorem dX3_within_15 : decode cX3_within 15 = .ok (.bipush 8, 2) := by decide +kernel
theorem dX3_within_17 : decode cX3_within 17 = .ok (.goto 4, 3) := by decide +kernel
theorem dX3_within_20 : decode cX3_within 20 = .ok (.iload_n 0, 1) := by decide +kernel
theorem dX3_within_21 : decode cX3_within 21 = .ok (.ireturn, 1) := by decide +kernel
theorem dX3_isLimb_0 : decode cX3_isLimb 0 = .ok (.iload_n 1, 1) := by decide +kernel
theorem dX3_isLimb_1 : decode cX3_isLimb 1 = .ok (.ifCond .lt 15, 3) := by decide +kernel
theorem dX3_isLimb_4 : decode cX3_isLimb 4 = .ok (.iload_n 1, 1) := by decide +kernel
theorem dX3_isLimb_5 : decode cX3_isLimb 5 = .ok (.aload_n 0, 1) := by decide +kernel
theorem dX3_isLimb_6 : decode cX3_isLimb 6 = .ok (.getfield 38, 3) := by decide +kernel
theorem dX3_isLimb_9 : decode cX3_isLimb 9 = .ok (.if_icmp .ge 7, 3) := by decide +kernel
theorem dX3_isLimb_12 : decode cX3_isLimb 12 = .ok (.iconst 1, 1) := by decide +kernel
theorem dX3_isLimb_13 : decode cX3_isLimb 13 = .ok (.goto 4, 3) := by decide +kernel
theorem dX3_isLimb_16 : decode cX3_isLimb 16 = .ok (.iconst 0, 1) := by decide +kernel
theorem dX3_isLimb_17 : decode cX3_isLimb 17 = .ok (.ireturn, 1) := by decide +kernel
theorem dX3_isRegister_0 : decode cX3_isRegister 0 = .ok (.iload_n 1, 1) := by decide +kernel
theorem dX3_isRegister_1 : decode cX3_isRegister 1 = .ok (.ifCond .lt 15, 3) := by decide +kernel
theorem dX3_isRegister_4 : decode cX3_isRegister 4 = .ok (.iload_n 1, 1) := by decide +kernel
theorem dX3_isRegister_5 : decode cX3_isRegister 5 = .ok (.aload_n 0, 1) := by decide +kernel
theorem dX3_isRegister_6 : decode cX3_isRegister 6 = .ok (.getfield 42, 3) := by decide +kernel
theorem dX3_isRegister_9 : decode cX3_isRegister 9 = .ok (.if_icmp .ge 7, 3) := by decide +kernel
theorem dX3_isRegister_12 : decode cX3_isRegister 12 = .ok (.iconst 1, 1) := by decide +kernel
theorem dX3_isRegister_13 : decode cX3_isRegister 13 = .ok (.goto 4, 3) := by decide +kernel
theorem dX3_isRegister_16 : decode cX3_isRegister 16 = .ok (.iconst 0, 1) := by decide +kernel
theorem dX3_isRegister_17 : decode cX3_isRegister 17 = .ok (.ireturn, 1) := by decide +kernel
theorem dX3_placeOf_0 : decode cX3_placeOf 0 = .ok (.bipush 9, 2) := by decide +kernel
theorem dX3_placeOf_2 : decode cX3_placeOf 2 = .ok (.iload_n 1, 1) := by decide +kernel
theorem dX3_placeOf_3 : decode cX3_placeOf 3 = .ok (.imul, 1) := by decide +kernel
theorem dX3_placeOf_4 : decode cX3_placeOf 4 = .ok (.ireturn, 1) := by decide +kernel
theorem dX3_placeOfModulus_0 : decode cX3_placeOfModulus 0 = .ok (.bipush 72, 2) := by decide +kernel
theorem dX3_placeOfModulus_2 : decode cX3_placeOfModulus 2 = .ok (.ireturn, 1) := by decide +kernel
set_option maxRecDepth 20000 in
theorem ggX3_pokeMod_X3_isLimb : GoodIn wsX3_pokeMod wsX3_isLimb := goodIn_r _ [8, 9, 14, 15, 16, 17, 18, 19, 20, 21, 22, 23, 24] (by decide +kernel) (by decide +kernel)
set_option maxRecDepth 20000 in
theorem gX3_pokeMod_X3_isLimb : GoodIn wsX3_pokeMod (wsV RX3 45 RX3 yX3_isLimb wsX3_isLimb) := goodIn_app (goodIn_of _ (by decide +kernel)) ggX3_pokeMod_X3_isLimb
set_option maxRecDepth 20000 in
theorem ggX3_pokeMod_X3_placeOfModulus : GoodIn wsX3_pokeMod wsX3_placeOfModulus := goodIn_r _ [13] (by decide +kernel) (by decide +kernel)
set_option maxRecDepth 20000 in
theorem gX3_pokeMod_X3_placeOfModulus : GoodIn wsX3_pokeMod (wsV RX3 49 RX3 yX3_placeOfModulus wsX3_placeOfModulus) := goodIn_app (goodIn_of _ (by decide +kernel)) ggX3_pokeMod_X3_placeOfModulus
theorem dX3_pokeMod_0 : decode cX3_pokeMod 0 = .ok (.aload_n 0, 1) := by decide +kernel
theorem dX3_pokeMod_1 : decode cX3_pokeMod 1 = .ok (.iload_n 1, 1) := by decide +kernel
theorem dX3_pokeMod_2 : decode cX3_pokeMod 2 = .ok (.invokevirtual 45, 3) := by decide +kernel
theorem dX3_pokeMod_5 : decode cX3_pokeMod 5 = .ok (.ifCond .ne 5, 3) := by decide +kernel
theorem dX3_pokeMod_8 : decode cX3_pokeMod 8 = .ok (.iconst 0, 1) := by decide +kernel
theorem dX3_pokeMod_9 : decode cX3_pokeMod 9 = .ok (.ireturn, 1) := by decide +kernel
theorem dX3_pokeMod_10 : decode cX3_pokeMod 10 = .ok (.aload_n 0, 1) := by decide +kernel
theorem dX3_pokeMod_11 : decode cX3_pokeMod 11 = .ok (.getfield 7, 3) := by decide +kernel
theorem dX3_pokeMod_14 : decode cX3_pokeMod 14 = .ok (.aload_n 0, 1) := by decide +kernel
theorem dX3_pokeMod_15 : decode cX3_pokeMod 15 = .ok (.invokevirtual 49, 3) := by decide +kernel
theorem dX3_pokeMod_18 : decode cX3_pokeMod 18 = .ok (.iload_n 1, 1) := by decide +kernel
theorem dX3_pokeMod_19 : decode cX3_pokeMod 19 = .ok (.iadd, 1) := by decide +kernel
theorem dX3_pokeMod_20 : decode cX3_pokeMod 20 = .ok (.iload_n 2, 1) := by decide +kernel
theorem dX3_pokeMod_21 : decode cX3_pokeMod 21 = .ok (.i2l, 1) := by decide +kernel
theorem dX3_pokeMod_22 : decode cX3_pokeMod 22 = .ok (.ldc2_w 53, 3) := by decide +kernel
theorem dX3_pokeMod_25 : decode cX3_pokeMod 25 = .ok (.land, 1) := by decide +kernel
theorem dX3_pokeMod_26 : decode cX3_pokeMod 26 = .ok (.lastore, 1) := by decide +kernel
theorem dX3_pokeMod_27 : decode cX3_pokeMod 27 = .ok (.aload_n 0, 1) := by decide +kernel
theorem dX3_pokeMod_28 : decode cX3_pokeMod 28 = .ok (.iconst 0, 1) := by decide +kernel
theorem dX3_pokeMod_29 : decode cX3_pokeMod 29 = .ok (.putfield 55, 3) := by decide +kernel
theorem dX3_pokeMod_32 : decode cX3_pokeMod 32 = .ok (.iconst 1, 1) := by decide +kernel
theorem dX3_pokeMod_33 : decode cX3_pokeMod 33 = .ok (.ireturn, 1) := by decide +kernel
set_option maxRecDepth 20000 in
theorem ggX3_peekMod_X3_isLimb : GoodIn wsX3_peekMod wsX3_isLimb := goodIn_r _ [6, 7, 12, 13, 14, 15, 16, 17, 18, 19, 20, 21, 22] (by decide +kernel) (by decide +kernel)
set_option maxRecDepth 20000 in
theorem gX3_peekMod_X3_isLimb : GoodIn wsX3_peekMod (wsV RX3 45 RX3 yX3_isLimb wsX3_isLimb) := goodIn_app (goodIn_of _ (by decide +kernel)) ggX3_peekMod_X3_isLimb
set_option maxRecDepth 20000 in
theorem ggX3_peekMod_X3_placeOfModulus : GoodIn wsX3_peekMod wsX3_placeOfModulus := goodIn_r _ [11] (by decide +kernel) (by decide +kernel)
set_option maxRecDepth 20000 in
theorem gX3_peekMod_X3_placeOfModulus : GoodIn wsX3_peekMod (wsV RX3 49 RX3 yX3_placeOfModulus wsX3_placeOfModulus) := goodIn_app (goodIn_of _ (by decide +kernel)) ggX3_peekMod_X3_placeOfModulus
theorem dX3_peekMod_0 : decode cX3_peekMod 0 = .ok (.aload_n 0, 1) := by decide +kernel
theorem dX3_peekMod_1 : decode cX3_peekMod 1 = .ok (.iload_n 1, 1) := by decide +kernel
theorem dX3_peekMod_2 : decode cX3_peekMod 2 = .ok (.invokevirtual 45, 3) := by decide +kernel
theorem dX3_peekMod_5 : decode cX3_peekMod 5 = .ok (.ifCond .eq 18, 3) := by decide +kernel
theorem dX3_peekMod_8 : decode cX3_peekMod 8 = .ok (.aload_n 0, 1) := by decide +kernel
theorem dX3_peekMod_9 : decode cX3_peekMod 9 = .ok (.getfield 7, 3) := by decide +kernel
theorem dX3_peekMod_12 : decode cX3_peekMod 12 = .ok (.aload_n 0, 1) := by decide +kernel
theorem dX3_peekMod_13 : decode cX3_peekMod 13 = .ok (.invokevirtual 49, 3) := by decide +kernel
theorem dX3_peekMod_16 : decode cX3_peekMod 16 = .ok (.iload_n 1, 1) := by decide +kernel
theorem dX3_peekMod_17 : decode cX3_peekMod 17 = .ok (.iadd, 1) := by decide +kernel
theorem dX3_peekMod_18 : decode cX3_peekMod 18 = .ok (.laload, 1) := by decide +kernel
theorem dX3_peekMod_19 : decode cX3_peekMod 19 = .ok (.l2i, 1) := by decide +kernel
theorem dX3_peekMod_20 : decode cX3_peekMod 20 = .ok (.goto 4, 3) := by decide +kernel
theorem dX3_peekMod_23 : decode cX3_peekMod 23 = .ok (.iconst 0, 1) := by decide +kernel
theorem dX3_peekMod_24 : decode cX3_peekMod 24 = .ok (.ireturn, 1) := by decide +kernel
set_option maxRecDepth 20000 in
theorem ggX3_init__X3_placeOfModulus : GoodIn wsX3_init_ wsX3_placeOfModulus := goodIn_r _ [9] (by decide +kernel) (by decide +kernel)
set_option maxRecDepth 20000 in
theorem gX3_init__X3_placeOfModulus : GoodIn wsX3_init_ (wsV RX3 49 RX3 yX3_placeOfModulus wsX3_placeOfModulus) := goodIn_app (goodIn_of _ (by decide +kernel)) ggX3_init__X3_placeOfModulus
set_option maxRecDepth 20000 in
theorem ggX3_init__X3_read : GoodIn wsX3_init_ wsX3_read := goodIn_r _ [13, 14, 15, 16, 17, 18, 19, 20, 21, 22, 23, 24, 25] (by decide +kernel) (by decide +kernel)
set_option maxRecDepth 20000 in
theorem gX3_init__X3_read : GoodIn wsX3_init_ (wsV RX3 59 RX3 yX3_read wsX3_read) := goodIn_app (goodIn_of _ (by decide +kernel)) ggX3_init__X3_read
theorem dX3_init__0 : decode cX3_init_ 0 = .ok (.aload_n 0, 1) := by decide +kernel
theorem dX3_init__1 : decode cX3_init_ 1 = .ok (.aload_n 0, 1) := by decide +kernel
theorem dX3_init__2 : decode cX3_init_ 2 = .ok (.getfield 13, 3) := by decide +kernel
theorem dX3_init__5 : decode cX3_init_ 5 = .ok (.aload_n 0, 1) := by decide +kernel
theorem dX3_init__6 : decode cX3_init_ 6 = .ok (.invokevirtual 49, 3) := by decide +kernel
theorem dX3_init__9 : decode cX3_init_ 9 = .ok (.invokevirtual 59, 3) := by decide +kernel
theorem dX3_init__12 : decode cX3_init_ 12 = .ok (.iconst 1, 1) := by decide +kernel
theorem dX3_init__13 : decode cX3_init_ 13 = .ok (.istore_n 1, 1) := by decide +kernel
theorem dX3_init__14 : decode cX3_init_ 14 = .ok (.iconst 1, 1) := by decide +kernel
theorem dX3_init__15 : decode cX3_init_ 15 = .ok (.istore_n 2, 1) := by decide +kernel
theorem dX3_init__16 : decode cX3_init_ 16 = .ok (.iload_n 2, 1) := by decide +kernel
theorem dX3_init__17 : decode cX3_init_ 17 = .ok (.bipush 9, 2) := by decide +kernel
theorem dX3_init__19 : decode cX3_init_ 19 = .ok (.if_icmp .ge 30, 3) := by decide +kernel
theorem dX3_init__22 : decode cX3_init_ 22 = .ok (.iload_n 1, 1) := by decide +kernel
theorem dX3_init__23 : decode cX3_init_ 23 = .ok (.ifCond .eq 18, 3) := by decide +kernel
theorem dX3_init__26 : decode cX3_init_ 26 = .ok (.aload_n 0, 1) := by decide +kernel
theorem dX3_init__27 : decode cX3_init_ 27 = .ok (.getfield 13, 3) := by decide +kernel
theorem dX3_init__30 : decode cX3_init_ 30 = .ok (.iload_n 2, 1) := by decide +kernel
theorem dX3_init__31 : decode cX3_init_ 31 = .ok (.laload, 1) := by decide +kernel
theorem dX3_init__32 : decode cX3_init_ 32 = .ok (.lconst 0, 1) := by decide +kernel
theorem dX3_init__33 : decode cX3_init_ 33 = .ok (.lcmp, 1) := by decide +kernel
theorem dX3_init__34 : decode cX3_init_ 34 = .ok (.ifCond .ne 7, 3) := by decide +kernel
theorem dX3_init__37 : decode cX3_init_ 37 = .ok (.iconst 1, 1) := by decide +kernel
theorem dX3_init__38 : decode cX3_init_ 38 = .ok (.goto 4, 3) := by decide +kernel
theorem dX3_init__41 : decode cX3_init_ 41 = .ok (.iconst 0, 1) := by decide +kernel
theorem dX3_init__42 : decode cX3_init_ 42 = .ok (.istore_n 1, 1) := by decide +kernel
theorem dX3_init__43 : decode cX3_init_ 43 = .ok (.iinc 2 1, 3) := by decide +kernel
theorem dX3_init__46 : decode cX3_init_ 46 = .ok (.goto (-30), 3) := by decide +kernel
theorem dX3_init__49 : decode cX3_init_ 49 = .ok (.aload_n 0, 1) := by decide +kernel
theorem dX3_init__50 : decode cX3_init_ 50 = .ok (.getfield 13, 3) := by decide +kernel
theorem dX3_init__53 : decode cX3_init_ 53 = .ok (.iconst 0, 1) := by decide +kernel
theorem dX3_init__54 : decode cX3_init_ 54 = .ok (.laload, 1) := by decide +kernel
theorem dX3_init__55 : decode cX3_init_ 55 = .ok (.ldc2_w 63, 3) := by decide +kernel
