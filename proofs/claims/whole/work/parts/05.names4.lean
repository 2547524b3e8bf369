theorem dX3_invMod_10 : decode cX3_invMod 10 = .ok (.iconst 2, 1) := by decide +kernel
theorem dX3_invMod_11 : decode cX3_invMod 11 = .ok (.ireturn, 1) := by decide +kernel
theorem dX3_invMod_12 : decode cX3_invMod 12 = .ok (.aload_n 0, 1) := by decide +kernel
theorem dX3_invMod_13 : decode cX3_invMod 13 = .ok (.iload_n 2, 1) := by decide +kernel
theorem dX3_invMod_14 : decode cX3_invMod 14 = .ok (.iload_n 2, 1) := by decide +kernel
theorem dX3_invMod_15 : decode cX3_invMod 15 = .ok (.invokevirtual 112, 3) := by decide +kernel
theorem dX3_invMod_18 : decode cX3_invMod 18 = .ok (.aload_n 0, 1) := by decide +kernel
theorem dX3_invMod_19 : decode cX3_invMod 19 = .ok (.getfield 28, 3) := by decide +kernel
theorem dX3_invMod_22 : decode cX3_invMod 22 = .ok (.aload_n 0, 1) := by decide +kernel
theorem dX3_invMod_23 : decode cX3_invMod 23 = .ok (.getfield 13, 3) := by decide +kernel
theorem dX3_invMod_26 : decode cX3_invMod 26 = .ok (.invokestatic 84, 3) := by decide +kernel
theorem dX3_invMod_29 : decode cX3_invMod 29 = .ok (.aload_n 0, 1) := by decide +kernel
theorem dX3_invMod_30 : decode cX3_invMod 30 = .ok (.getfield 22, 3) := by decide +kernel
theorem dX3_invMod_33 : decode cX3_invMod 33 = .ok (.lconst 1, 1) := by decide +kernel
theorem dX3_invMod_34 : decode cX3_invMod 34 = .ok (.invokestatic 87, 3) := by decide +kernel
theorem dX3_invMod_37 : decode cX3_invMod 37 = .ok (.aload_n 0, 1) := by decide +kernel
theorem dX3_invMod_38 : decode cX3_invMod 38 = .ok (.getfield 31, 3) := by decide +kernel
theorem dX3_invMod_41 : decode cX3_invMod 41 = .ok (.lconst 0, 1) := by decide +kernel
theorem dX3_invMod_42 : decode cX3_invMod 42 = .ok (.invokestatic 87, 3) := by decide +kernel
theorem dX3_invMod_45 : decode cX3_invMod 45 = .ok (.aload_n 0, 1) := by decide +kernel
theorem dX3_invMod_46 : decode cX3_invMod 46 = .ok (.getfield 16, 3) := by decide +kernel
theorem dX3_invMod_49 : decode cX3_invMod 49 = .ok (.invokestatic 132, 3) := by decide +kernel
theorem dX3_invMod_52 : decode cX3_invMod 52 = .ok (.ifCond .ne 127, 3) := by decide +kernel
theorem dX3_invMod_55 : decode cX3_invMod 55 = .ok (.aload_n 0, 1) := by decide +kernel
theorem dX3_invMod_56 : decode cX3_invMod 56 = .ok (.getfield 16, 3) := by decide +kernel
theorem dX3_invMod_59 : decode cX3_invMod 59 = .ok (.iconst 0, 1) := by decide +kernel
theorem dX3_invMod_60 : decode cX3_invMod 60 = .ok (.invokestatic 94, 3) := by decide +kernel
theorem dX3_invMod_63 : decode cX3_invMod 63 = .ok (.ifCond .ne 21, 3) := by decide +kernel
theorem dX3_invMod_66 : decode cX3_invMod 66 = .ok (.aload_n 0, 1) := by decide +kernel
theorem dX3_invMod_67 : decode cX3_invMod 67 = .ok (.getfield 16, 3) := by decide +kernel
theorem dX3_invMod_70 : decode cX3_invMod 70 = .ok (.invokestatic 101, 3) := by decide +kernel
theorem dX3_invMod_73 : decode cX3_invMod 73 = .ok (.aload_n 0, 1) := by decide +kernel
theorem dX3_invMod_74 : decode cX3_invMod 74 = .ok (.aload_n 0, 1) := by decide +kernel
theorem dX3_invMod_75 : decode cX3_invMod 75 = .ok (.getfield 22, 3) := by decide +kernel
theorem dX3_invMod_78 : decode cX3_invMod 78 = .ok (.invokevirtual 126, 3) := by decide +kernel
theorem dX3_invMod_81 : decode cX3_invMod 81 = .ok (.goto (-36), 3) := by decide +kernel
theorem dX3_invMod_84 : decode cX3_invMod 84 = .ok (.aload_n 0, 1) := by decide +kernel
theorem dX3_invMod_85 : decode cX3_invMod 85 = .ok (.getfield 28, 3) := by decide +kernel
theorem dX3_invMod_88 : decode cX3_invMod 88 = .ok (.iconst 0, 1) := by decide +kernel
theorem dX3_invMod_89 : decode cX3_invMod 89 = .ok (.invokestatic 94, 3) := by decide +kernel
theorem dX3_invMod_92 : decode cX3_invMod 92 = .ok (.ifCond .ne 21, 3) := by decide +kernel
theorem dX3_invMod_95 : decode cX3_invMod 95 = .ok (.aload_n 0, 1) := by decide +kernel
theorem dX3_invMod_96 : decode cX3_invMod 96 = .ok (.getfield 28, 3) := by decide +kernel
theorem dX3_invMod_99 : decode cX3_invMod 99 = .ok (.invokestatic 101, 3) := by decide +kernel
theorem dX3_invMod_102 : decode cX3_invMod 102 = .ok (.aload_n 0, 1) := by decide +kernel
theorem dX3_invMod_103 : decode cX3_invMod 103 = .ok (.aload_n 0, 1) := by decide +kernel
theorem dX3_invMod_104 : decode cX3_invMod 104 = .ok (.getfield 31, 3) := by decide +kernel
theorem dX3_invMod_107 : decode cX3_invMod 107 = .ok (.invokevirtual 126, 3) := by decide +kernel
theorem dX3_invMod_110 : decode cX3_invMod 110 = .ok (.goto (-65), 3) := by decide +kernel
theorem dX3_invMod_113 : decode cX3_invMod 113 = .ok (.aload_n 0, 1) := by decide +kernel
theorem dX3_invMod_114 : decode cX3_invMod 114 = .ok (.getfield 16, 3) := by decide +kernel
theorem dX3_invMod_117 : decode cX3_invMod 117 = .ok (.aload_n 0, 1) := by decide +kernel
theorem dX3_invMod_118 : decode cX3_invMod 118 = .ok (.getfield 28, 3) := by decide +kernel
theorem dX3_invMod_121 : decode cX3_invMod 121 = .ok (.invokestatic 77, 3) := by decide +kernel
theorem dX3_invMod_124 : decode cX3_invMod 124 = .ok (.ifCond .lt 29, 3) := by decide +kernel
theorem dX3_invMod_127 : decode cX3_invMod 127 = .ok (.aload_n 0, 1) := by decide +kernel
theorem dX3_invMod_128 : decode cX3_invMod 128 = .ok (.getfield 16, 3) := by decide +kernel
theorem dX3_invMod_131 : decode cX3_invMod 131 = .ok (.aload_n 0, 1) := by decide +kernel
theorem dX3_invMod_132 : decode cX3_invMod 132 = .ok (.getfield 28, 3) := by decide +kernel
theorem dX3_invMod_135 : decode cX3_invMod 135 = .ok (.invokestatic 81, 3) := by decide +kernel
theorem dX3_invMod_138 : decode cX3_invMod 138 = .ok (.aload_n 0, 1) := by decide +kernel
theorem dX3_invMod_139 : decode cX3_invMod 139 = .ok (.aload_n 0, 1) := by decide +kernel
theorem dX3_invMod_140 : decode cX3_invMod 140 = .ok (.getfield 22, 3) := by decide +kernel
theorem dX3_invMod_143 : decode cX3_invMod 143 = .ok (.aload_n 0, 1) := by decide +kernel
theorem dX3_invMod_144 : decode cX3_invMod 144 = .ok (.getfield 31, 3) := by decide +kernel
theorem dX3_invMod_147 : decode cX3_invMod 147 = .ok (.invokevirtual 120, 3) := by decide +kernel
theorem dX3_invMod_150 : decode cX3_invMod 150 = .ok (.goto (-105), 3) := by decide +kernel
theorem dX3_invMod_153 : decode cX3_invMod 153 = .ok (.aload_n 0, 1) := by decide +kernel
theorem dX3_invMod_154 : decode cX3_invMod 154 = .ok (.getfield 28, 3) := by decide +kernel
theorem dX3_invMod_157 : decode cX3_invMod 157 = .ok (.aload_n 0, 1) := by decide +kernel
theorem dX3_invMod_158 : decode cX3_invMod 158 = .ok (.getfield 16, 3) := by decide +kernel
theorem dX3_invMod_161 : decode cX3_invMod 161 = .ok (.invokestatic 81, 3) := by decide +kernel
theorem dX3_invMod_164 : decode cX3_invMod 164 = .ok (.aload_n 0, 1) := by decide +kernel
theorem dX3_invMod_165 : decode cX3_invMod 165 = .ok (.aload_n 0, 1) := by decide +kernel
theorem dX3_invMod_166 : decode cX3_invMod 166 = .ok (.getfield 31, 3) := by decide +kernel
theorem dX3_invMod_169 : decode cX3_invMod 169 = .ok (.aload_n 0, 1) := by decide +kernel
theorem dX3_invMod_170 : decode cX3_invMod 170 = .ok (.getfield 22, 3) := by decide +kernel
theorem dX3_invMod_173 : decode cX3_invMod 173 = .ok (.invokevirtual 120, 3) := by decide +kernel
theorem dX3_invMod_176 : decode cX3_invMod 176 = .ok (.goto (-131), 3) := by decide +kernel
theorem dX3_invMod_179 : decode cX3_invMod 179 = .ok (.aload_n 0, 1) := by decide +kernel
theorem dX3_invMod_180 : decode cX3_invMod 180 = .ok (.getfield 28, 3) := by decide +kernel
theorem dX3_invMod_183 : decode cX3_invMod 183 = .ok (.invokestatic 136, 3) := by decide +kernel
theorem dX3_invMod_186 : decode cX3_invMod 186 = .ok (.ifCond .ne 5, 3) := by decide +kernel
theorem dX3_invMod_189 : decode cX3_invMod 189 = .ok (.iconst 1, 1) := by decide +kernel
theorem dX3_invMod_190 : decode cX3_invMod 190 = .ok (.ireturn, 1) := by decide +kernel
theorem dX3_invMod_191 : decode cX3_invMod 191 = .ok (.aload_n 0, 1) := by decide +kernel
theorem dX3_invMod_192 : decode cX3_invMod 192 = .ok (.iload_n 1, 1) := by decide +kernel
theorem dX3_invMod_193 : decode cX3_invMod 193 = .ok (.aload_n 0, 1) := by decide +kernel
theorem dX3_invMod_194 : decode cX3_invMod 194 = .ok (.getfield 31, 3) := by decide +kernel
theorem dX3_invMod_197 : decode cX3_invMod 197 = .ok (.invokevirtual 116, 3) := by decide +kernel
theorem dX3_invMod_200 : decode cX3_invMod 200 = .ok (.iconst 0, 1) := by decide +kernel
theorem dX3_invMod_201 : decode cX3_invMod 201 = .ok (.ireturn, 1) := by decide +kernel
set_option maxRecDepth 20000 in
theorem ggX3_witness_X3_isAsked : GoodIn wsX3_witness wsX3_isAsked := goodIn_r _ [9, 10, 11, 12, 13, 8, 14, 15, 85, 86, 87, 88, 89, 90, 91, 92, 93, 94, 95] (by decide +kernel) (by decide +kernel)
set_option maxRecDepth 20000 in
theorem gX3_witness_X3_isAsked : GoodIn wsX3_witness (wsV RX3 108 RX3 yX3_isAsked wsX3_isAsked) := goodIn_app (goodIn_of _ (by decide +kernel)) ggX3_witness_X3_isAsked
set_option maxRecDepth 20000 in
theorem ggX3_witness_X3_takes : GoodIn wsX3_witness wsX3_takes := goodIn_r _ [19, 3, 1, 4, 20, 21, 22, 8, 23, 24, 25, 26, 27, 28, 29, 30, 31, 32, 33, 34, 35, 36, 37, 38, 39, 40, 41, 42, 43, 44, 45, 46, 47, 48, 49, 50, 51, 52, 53, 54, 55, 56, 57, 58, 59, 60, 61, 85, 86, 87, 88, 89, 90, 91, 92, 93, 94, 95] (by decide +kernel) (by decide +kernel)
set_option maxRecDepth 20000 in
theorem gX3_witness_X3_takes : GoodIn wsX3_witness (wsV RX3 112 RX3 yX3_takes wsX3_takes) := goodIn_app (goodIn_of _ (by decide +kernel)) ggX3_witness_X3_takes
set_option maxRecDepth 20000 in
theorem ggX3_witness_X3_isNought : GoodIn wsX3_witness wsX3_isNought := goodIn_r _ [64] (by decide +kernel) (by decide +kernel)
set_option maxRecDepth 20000 in
theorem gX3_witness_X3_isNought : GoodIn wsX3_witness (va_wsS RX3 132 yX3_isNought wsX3_isNought) := goodIn_app (goodIn_of _ (by decide +kernel)) ggX3_witness_X3_isNought
set_option maxRecDepth 20000 in
theorem ggX3_witness_X3_copy : GoodIn wsX3_witness wsX3_copy := goodIn_r _ [40] (by decide +kernel) (by decide +kernel)
set_option maxRecDepth 20000 in
theorem gX3_witness_X3_copy : GoodIn wsX3_witness (va_wsS RX3 84 yX3_copy wsX3_copy) := goodIn_app (goodIn_of _ (by decide +kernel)) ggX3_witness_X3_copy
set_option maxRecDepth 20000 in
theorem ggX3_witness_X3_bit : GoodIn wsX3_witness wsX3_bit := goodIn_r _ [55] (by decide +kernel) (by decide +kernel)
set_option maxRecDepth 20000 in
theorem gX3_witness_X3_bit : GoodIn wsX3_witness (va_wsS RX3 94 yX3_bit wsX3_bit) := goodIn_app (goodIn_of _ (by decide +kernel)) ggX3_witness_X3_bit
set_option maxRecDepth 20000 in
theorem ggX3_witness_X3_half : GoodIn wsX3_witness wsX3_half := goodIn_r _ [67] (by decide +kernel) (by decide +kernel)
set_option maxRecDepth 20000 in
theorem gX3_witness_X3_half : GoodIn wsX3_witness (va_wsS RX3 101 yX3_half wsX3_half) := goodIn_app (goodIn_of _ (by decide +kernel)) ggX3_witness_X3_half
set_option maxRecDepth 20000 in
theorem ggX3_witness_X3_raise : GoodIn wsX3_witness wsX3_raise := goodIn_r _ [71, 72, 2, 38, 39, 8, 40, 41, 42, 43, 44, 45, 46, 47, 48, 53, 54, 55, 73, 74, 75, 76, 37, 77, 78, 79, 80, 81, 3, 49, 50, 51, 52, 56, 57, 58, 59, 60, 61, 85, 86, 87, 88, 89, 90, 91, 92, 93, 94, 95] (by decide +kernel) (by decide +kernel)
set_option maxRecDepth 20000 in
theorem gX3_witness_X3_raise : GoodIn wsX3_witness (wsV RX3 129 RX3 yX3_raise wsX3_raise) := goodIn_app (goodIn_of _ (by decide +kernel)) ggX3_witness_X3_raise
set_option maxRecDepth 20000 in
theorem ggX3_witness_X3_isOne : GoodIn wsX3_witness wsX3_isOne := goodIn_r _ [84] (by decide +kernel) (by decide +kernel)
set_option maxRecDepth 20000 in
theorem gX3_witness_X3_isOne : GoodIn wsX3_witness (va_wsS RX3 136 yX3_isOne wsX3_isOne) := goodIn_app (goodIn_of _ (by decide +kernel)) ggX3_witness_X3_isOne
set_option maxRecDepth 20000 in
theorem ggX3_witness_X3_compared : GoodIn wsX3_witness wsX3_compared := goodIn_r _ [58] (by decide +kernel) (by decide +kernel)
set_option maxRecDepth 20000 in
theorem gX3_witness_X3_compared : GoodIn wsX3_witness (va_wsS RX3 77 yX3_compared wsX3_compared) := goodIn_app (goodIn_of _ (by decide +kernel)) ggX3_witness_X3_compared
set_option maxRecDepth 20000 in
theorem ggX3_witness_X3_product : GoodIn wsX3_witness wsX3_product := goodIn_r _ [76, 37, 77, 38, 39, 8, 40, 41, 42, 43, 44, 45, 46, 47, 48, 78, 79, 80, 81, 3, 49, 50, 51, 52, 56, 57, 58, 59, 60, 61, 53, 54, 55, 85, 86, 87, 88, 89, 90, 91, 92, 93, 94, 95] (by decide +kernel) (by decide +kernel)
set_option maxRecDepth 20000 in
theorem gX3_witness_X3_product : GoodIn wsX3_witness (wsV RX3 123 RX3 yX3_product wsX3_product) := goodIn_app (goodIn_of _ (by decide +kernel)) ggX3_witness_X3_product
theorem dX3_witness_0 : decode cX3_witness 0 = .ok (.aload_n 0, 1) := by decide +kernel
theorem dX3_witness_1 : decode cX3_witness 1 = .ok (.iload_n 1, 1) := by decide +kernel
theorem dX3_witness_2 : decode cX3_witness 2 = .ok (.iload_n 1, 1) := by decide +kernel
theorem dX3_witness_3 : decode cX3_witness 3 = .ok (.iload_n 1, 1) := by decide +kernel
theorem dX3_witness_4 : decode cX3_witness 4 = .ok (.invokevirtual 108, 3) := by decide +kernel
theorem dX3_witness_7 : decode cX3_witness 7 = .ok (.ifCond .ne 5, 3) := by decide +kernel
theorem dX3_witness_10 : decode cX3_witness 10 = .ok (.iconst 2, 1) := by decide +kernel
theorem dX3_witness_11 : decode cX3_witness 11 = .ok (.ireturn, 1) := by decide +kernel
theorem dX3_witness_12 : decode cX3_witness 12 = .ok (.aload_n 0, 1) := by decide +kernel
theorem dX3_witness_13 : decode cX3_witness 13 = .ok (.iload_n 1, 1) := by decide +kernel
theorem dX3_witness_14 : decode cX3_witness 14 = .ok (.iload_n 1, 1) := by decide +kernel
theorem dX3_witness_15 : decode cX3_witness 15 = .ok (.invokevirtual 112, 3) := by decide +kernel
theorem dX3_witness_18 : decode cX3_witness 18 = .ok (.aload_n 0, 1) := by decide +kernel
theorem dX3_witness_19 : decode cX3_witness 19 = .ok (.getfield 16, 3) := by decide +kernel
theorem dX3_witness_22 : decode cX3_witness 22 = .ok (.invokestatic 132, 3) := by decide +kernel
theorem dX3_witness_25 : decode cX3_witness 25 = .ok (.ifCond .eq 5, 3) := by decide +kernel
theorem dX3_witness_28 : decode cX3_witness 28 = .ok (.iconst 0, 1) := by decide +kernel
theorem dX3_witness_29 : decode cX3_witness 29 = .ok (.ireturn, 1) := by decide +kernel
theorem dX3_witness_30 : decode cX3_witness 30 = .ok (.aload_n 0, 1) := by decide +kernel
theorem dX3_witness_31 : decode cX3_witness 31 = .ok (.getfield 31, 3) := by decide +kernel
theorem dX3_witness_34 : decode cX3_witness 34 = .ok (.aload_n 0, 1) := by decide +kernel
theorem dX3_witness_35 : decode cX3_witness 35 = .ok (.getfield 13, 3) := by decide +kernel
theorem dX3_witness_38 : decode cX3_witness 38 = .ok (.invokestatic 84, 3) := by decide +kernel
theorem dX3_witness_41 : decode cX3_witness 41 = .ok (.aload_n 0, 1) := by decide +kernel
theorem dX3_witness_42 : decode cX3_witness 42 = .ok (.getfield 31, 3) := by decide +kernel
theorem dX3_witness_45 : decode cX3_witness 45 = .ok (.iconst 0, 1) := by decide +kernel
theorem dX3_witness_46 : decode cX3_witness 46 = .ok (.dup2, 1) := by decide +kernel
theorem dX3_witness_47 : decode cX3_witness 47 = .ok (.laload, 1) := by decide +kernel
theorem dX3_witness_48 : decode cX3_witness 48 = .ok (.lconst 1, 1) := by decide +kernel
theorem dX3_witness_49 : decode cX3_witness 49 = .ok (.lsub, 1) := by decide +kernel
theorem dX3_witness_50 : decode cX3_witness 50 = .ok (.lastore, 1) := by decide +kernel
theorem dX3_witness_51 : decode cX3_witness 51 = .ok (.aload_n 0, 1) := by decide +kernel
theorem dX3_witness_52 : decode cX3_witness 52 = .ok (.getfield 22, 3) := by decide +kernel
theorem dX3_witness_55 : decode cX3_witness 55 = .ok (.aload_n 0, 1) := by decide +kernel
theorem dX3_witness_56 : decode cX3_witness 56 = .ok (.getfield 31, 3) := by decide +kernel
theorem dX3_witness_59 : decode cX3_witness 59 = .ok (.invokestatic 84, 3) := by decide +kernel
theorem dX3_witness_62 : decode cX3_witness 62 = .ok (.iconst 0, 1) := by decide +kernel
theorem dX3_witness_63 : decode cX3_witness 63 = .ok (.istore_n 2, 1) := by decide +kernel
theorem dX3_witness_64 : decode cX3_witness 64 = .ok (.aload_n 0, 1) := by decide +kernel
theorem dX3_witness_65 : decode cX3_witness 65 = .ok (.getfield 31, 3) := by decide +kernel
theorem dX3_witness_68 : decode cX3_witness 68 = .ok (.iconst 0, 1) := by decide +kernel
theorem dX3_witness_69 : decode cX3_witness 69 = .ok (.invokestatic 94, 3) := by decide +kernel
theorem dX3_witness_72 : decode cX3_witness 72 = .ok (.ifCond .ne 16, 3) := by decide +kernel
theorem dX3_witness_75 : decode cX3_witness 75 = .ok (.aload_n 0, 1) := by decide +kernel
theorem dX3_witness_76 : decode cX3_witness 76 = .ok (.getfield 31, 3) := by decide +kernel
theorem dX3_witness_79 : decode cX3_witness 79 = .ok (.invokestatic 101, 3) := by decide +kernel
theorem dX3_witness_82 : decode cX3_witness 82 = .ok (.iinc 2 1, 3) := by decide +kernel
theorem dX3_witness_85 : decode cX3_witness 85 = .ok (.goto (-21), 3) := by decide +kernel
theorem dX3_witness_88 : decode cX3_witness 88 = .ok (.aload_n 0, 1) := by decide +kernel
theorem dX3_witness_89 : decode cX3_witness 89 = .ok (.aload_n 0, 1) := by decide +kernel
theorem dX3_witness_90 : decode cX3_witness 90 = .ok (.getfield 16, 3) := by decide +kernel
theorem dX3_witness_93 : decode cX3_witness 93 = .ok (.invokevirtual 129, 3) := by decide +kernel
theorem dX3_witness_96 : decode cX3_witness 96 = .ok (.aload_n 0, 1) := by decide +kernel
theorem dX3_witness_97 : decode cX3_witness 97 = .ok (.getfield 16, 3) := by decide +kernel
theorem dX3_witness_100 : decode cX3_witness 100 = .ok (.invokestatic 136, 3) := by decide +kernel
theorem dX3_witness_103 : decode cX3_witness 103 = .ok (.ifCond .ne 17, 3) := by decide +kernel
theorem dX3_witness_106 : decode cX3_witness 106 = .ok (.aload_n 0, 1) := by decide +kernel
theorem dX3_witness_107 : decode cX3_witness 107 = .ok (.getfield 16, 3) := by decide +kernel
theorem dX3_witness_110 : decode cX3_witness 110 = .ok (.aload_n 0, 1) := by decide +kernel
theorem dX3_witness_111 : decode cX3_witness 111 = .ok (.getfield 22, 3) := by decide +kernel
theorem dX3_witness_114 : decode cX3_witness 114 = .ok (.invokestatic 77, 3) := by decide +kernel
theorem dX3_witness_117 : decode cX3_witness 117 = .ok (.ifCond .ne 5, 3) := by decide +kernel
theorem dX3_witness_120 : decode cX3_witness 120 = .ok (.iconst 0, 1) := by decide +kernel
theorem dX3_witness_121 : decode cX3_witness 121 = .ok (.ireturn, 1) := by decide +kernel
theorem dX3_witness_122 : decode cX3_witness 122 = .ok (.iconst 1, 1) := by decide +kernel
theorem dX3_witness_123 : decode cX3_witness 123 = .ok (.istore_n 3, 1) := by decide +kernel
theorem dX3_witness_124 : decode cX3_witness 124 = .ok (.iload_n 3, 1) := by decide +kernel
theorem dX3_witness_125 : decode cX3_witness 125 = .ok (.iload_n 2, 1) := by decide +kernel
theorem dX3_witness_126 : decode cX3_witness 126 = .ok (.if_icmp .ge 37, 3) := by decide +kernel
theorem dX3_witness_129 : decode cX3_witness 129 = .ok (.aload_n 0, 1) := by decide +kernel
theorem dX3_witness_130 : decode cX3_witness 130 = .ok (.aload_n 0, 1) := by decide +kernel
theorem dX3_witness_131 : decode cX3_witness 131 = .ok (.getfield 16, 3) := by decide +kernel
theorem dX3_witness_134 : decode cX3_witness 134 = .ok (.aload_n 0, 1) := by decide +kernel
theorem dX3_witness_135 : decode cX3_witness 135 = .ok (.getfield 16, 3) := by decide +kernel
theorem dX3_witness_138 : decode cX3_witness 138 = .ok (.invokevirtual 123, 3) := by decide +kernel
theorem dX3_witness_141 : decode cX3_witness 141 = .ok (.aload_n 0, 1) := by decide +kernel
theorem dX3_witness_142 : decode cX3_witness 142 = .ok (.getfield 16, 3) := by decide +kernel
theorem dX3_witness_145 : decode cX3_witness 145 = .ok (.aload_n 0, 1) := by decide +kernel
theorem dX3_witness_146 : decode cX3_witness 146 = .ok (.getfield 22, 3) := by decide +kernel
theorem dX3_witness_149 : decode cX3_witness 149 = .ok (.invokestatic 77, 3) := by decide +kernel
theorem dX3_witness_152 : decode cX3_witness 152 = .ok (.ifCond .ne 5, 3) := by decide +kernel
theorem dX3_witness_155 : decode cX3_witness 155 = .ok (.iconst 0, 1) := by decide +kernel
theorem dX3_witness_156 : decode cX3_witness 156 = .ok (.ireturn, 1) := by decide +kernel
theorem dX3_witness_157 : decode cX3_witness 157 = .ok (.iinc 3 1, 3) := by decide +kernel
theorem dX3_witness_160 : decode cX3_witness 160 = .ok (.goto (-36), 3) := by decide +kernel
theorem dX3_witness_163 : decode cX3_witness 163 = .ok (.iconst 1, 1) := by decide +kernel
theorem dX3_witness_164 : decode cX3_witness 164 = .ok (.ireturn, 1) := by decide +kernel
set_option maxRecDepth 20000 in
theorem ggX3_compare_X3_isRegister : GoodIn wsX3_compare wsX3_isRegister := goodIn_r _ [7, 8, 21, 22, 23, 24, 25, 26, 27, 28, 29, 30, 31] (by decide +kernel) (by decide +kernel)
set_option maxRecDepth 20000 in
theorem gX3_compare_X3_isRegister : GoodIn wsX3_compare (wsV RX3 67 RX3 yX3_isRegister wsX3_isRegister) := goodIn_app (goodIn_of _ (by decide +kernel)) ggX3_compare_X3_isRegister
set_option maxRecDepth 20000 in
theorem ggX3_compare_X3_placeOf : GoodIn wsX3_compare wsX3_placeOf := goodIn_r _ [12] (by decide +kernel) (by decide +kernel)
set_option maxRecDepth 20000 in
theorem gX3_compare_X3_placeOf : GoodIn wsX3_compare (wsV RX3 70 RX3 yX3_placeOf wsX3_placeOf) := goodIn_app (goodIn_of _ (by decide +kernel)) ggX3_compare_X3_placeOf
set_option maxRecDepth 20000 in
theorem ggX3_compare_X3_read : GoodIn wsX3_compare wsX3_read := goodIn_r _ [16, 17, 21, 22, 23, 24, 25, 26, 27, 28, 29, 30, 31] (by decide +kernel) (by decide +kernel)
set_option maxRecDepth 20000 in
theorem gX3_compare_X3_read : GoodIn wsX3_compare (wsV RX3 59 RX3 yX3_read wsX3_read) := goodIn_app (goodIn_of _ (by decide +kernel)) ggX3_compare_X3_read
set_option maxRecDepth 20000 in
theorem ggX3_compare_X3_compared : GoodIn wsX3_compare wsX3_compared := goodIn_r _ [20] (by decide +kernel) (by decide +kernel)
set_option maxRecDepth 20000 in
theorem gX3_compare_X3_compared : GoodIn wsX3_compare (va_wsS RX3 77 yX3_compared wsX3_compared) := goodIn_app (goodIn_of _ (by decide +kernel)) ggX3_compare_X3_compared
theorem dX3_compare_0 : decode cX3_compare 0 = .ok (.aload_n 0, 1) := by decide +kernel
theorem dX3_compare_1 : decode cX3_compare 1 = .ok (.iload_n 1, 1) := by decide +kernel
theorem dX3_compare_2 : decode cX3_compare 2 = .ok (.invokevirtual 67, 3) := by decide +kernel
theorem dX3_compare_5 : decode cX3_compare 5 = .ok (.ifCond .eq 11, 3) := by decide +kernel
theorem dX3_compare_8 : decode cX3_compare 8 = .ok (.aload_n 0, 1) := by decide +kernel
theorem dX3_compare_9 : decode cX3_compare 9 = .ok (.iload_n 2, 1) := by decide +kernel
theorem dX3_compare_10 : decode cX3_compare 10 = .ok (.invokevirtual 67, 3) := by decide +kernel
theorem dX3_compare_13 : decode cX3_compare 13 = .ok (.ifCond .ne 5, 3) := by decide +kernel
theorem dX3_compare_16 : decode cX3_compare 16 = .ok (.iconst 2, 1) := by decide +kernel
theorem dX3_compare_17 : decode cX3_compare 17 = .ok (.ireturn, 1) := by decide +kernel
theorem dX3_compare_18 : decode cX3_compare 18 = .ok (.aload_n 0, 1) := by decide +kernel
theorem dX3_compare_19 : decode cX3_compare 19 = .ok (.aload_n 0, 1) := by decide +kernel
theorem dX3_compare_20 : decode cX3_compare 20 = .ok (.getfield 16, 3) := by decide +kernel
theorem dX3_compare_23 : decode cX3_compare 23 = .ok (.aload_n 0, 1) := by decide +kernel
theorem dX3_compare_24 : decode cX3_compare 24 = .ok (.iload_n 1, 1) := by decide +kernel
theorem dX3_compare_25 : decode cX3_compare 25 = .ok (.invokevirtual 70, 3) := by decide +kernel
theorem dX3_compare_28 : decode cX3_compare 28 = .ok (.invokevirtual 59, 3) := by decide +kernel
theorem dX3_compare_31 : decode cX3_compare 31 = .ok (.aload_n 0, 1) := by decide +kernel
theorem dX3_compare_32 : decode cX3_compare 32 = .ok (.aload_n 0, 1) := by decide +kernel
theorem dX3_compare_33 : decode cX3_compare 33 = .ok (.getfield 19, 3) := by decide +kernel
theorem dX3_compare_36 : decode cX3_compare 36 = .ok (.aload_n 0, 1) := by decide +kernel
theorem dX3_compare_37 : decode cX3_compare 37 = .ok (.iload_n 2, 1) := by decide +kernel
theorem dX3_compare_38 : decode cX3_compare 38 = .ok (.invokevirtual 70, 3) := by decide +kernel
theorem dX3_compare_41 : decode cX3_compare 41 = .ok (.invokevirtual 59, 3) := by decide +kernel
theorem dX3_compare_44 : decode cX3_compare 44 = .ok (.aload_n 0, 1) := by decide +kernel
theorem dX3_compare_45 : decode cX3_compare 45 = .ok (.getfield 16, 3) := by decide +kernel
theorem dX3_compare_48 : decode cX3_compare 48 = .ok (.aload_n 0, 1) := by decide +kernel
theorem dX3_compare_49 : decode cX3_compare 49 = .ok (.getfield 19, 3) := by decide +kernel
theorem dX3_compare_52 : decode cX3_compare 52 = .ok (.invokestatic 77, 3) := by decide +kernel
theorem dX3_compare_55 : decode cX3_compare 55 = .ok (.ireturn, 1) := by decide +kernel
theorem dJ9_max_7cf53_0 : decode cJ9_max_7cf53 0 = .ok (.iload_n 0, 1) := by decide +kernel
theorem dJ9_max_7cf53_1 : decode cJ9_max_7cf53 1 = .ok (.iload_n 1, 1) := by decide +kernel
theorem dJ9_max_7cf53_2 : decode cJ9_max_7cf53 2 = .ok (.if_icmp .lt 7, 3) := by decide +kernel
theorem dJ9_max_7cf53_5 : decode cJ9_max_7cf53 5 = .ok (.iload_n 0, 1) := by decide +kernel
theorem dJ9_max_7cf53_6 : decode cJ9_max_7cf53 6 = .ok (.goto 4, 3) := by decide +kernel
theorem dJ9_max_7cf53_9 : decode cJ9_max_7cf53 9 = .ok (.iload_n 1, 1) := by decide +kernel
theorem dJ9_max_7cf53_10 : decode cJ9_max_7cf53 10 = .ok (.ireturn, 1) := by decide +kernel
theorem dJ9_min_7cf53_0 : decode cJ9_min_7cf53 0 = .ok (.iload_n 0, 1) := by decide +kernel
theorem dJ9_min_7cf53_1 : decode cJ9_min_7cf53 1 = .ok (.iload_n 1, 1) := by decide +kernel
theorem dJ9_min_7cf53_2 : decode cJ9_min_7cf53 2 = .ok (.if_icmp .gt 7, 3) := by decide +kernel
theorem dJ9_min_7cf53_5 : decode cJ9_min_7cf53 5 = .ok (.iload_n 0, 1) := by decide +kernel
theorem dJ9_min_7cf53_6 : decode cJ9_min_7cf53 6 = .ok (.goto 4, 3) := by decide +kernel
theorem dJ9_min_7cf53_9 : decode cJ9_min_7cf53 9 = .ok (.iload_n 1, 1) := by decide +kernel
theorem dJ9_min_7cf53_10 : decode cJ9_min_7cf53 10 = .ok (.ireturn, 1) := by decide +kernel
theorem dL_cell_0 : decode cL_cell 0 = .ok (.iload_n 1, 1) := by decide +kernel
theorem dL_cell_1 : decode cL_cell 1 = .ok (.aload_n 0, 1) := by decide +kernel
theorem dL_cell_2 : decode cL_cell 2 = .ok (.arraylength, 1) := by decide +kernel
theorem dL_cell_3 : decode cL_cell 3 = .ok (.if_icmp .ge 9, 3) := by decide +kernel
theorem dL_cell_6 : decode cL_cell 6 = .ok (.aload_n 0, 1) := by decide +kernel
theorem dL_cell_7 : decode cL_cell 7 = .ok (.iload_n 1, 1) := by decide +kernel
theorem dL_cell_8 : decode cL_cell 8 = .ok (.iaload, 1) := by decide +kernel
theorem dL_cell_9 : decode cL_cell 9 = .ok (.goto 4, 3) := by decide +kernel
theorem dL_cell_12 : decode cL_cell 12 = .ok (.iconst 0, 1) := by decide +kernel
theorem dL_cell_13 : decode cL_cell 13 = .ok (.ireturn, 1) := by decide +kernel
set_option maxRecDepth 20000 in
theorem ggL_law_L_cell : GoodIn wsL_law wsL_cell := goodIn_r _ [9] (by decide +kernel) (by decide +kernel)
set_option maxRecDepth 20000 in
theorem gL_law_L_cell : GoodIn wsL_law (va_wsS RL 9 yL_cell wsL_cell) := goodIn_app (goodIn_of _ (by decide +kernel)) ggL_law_L_cell
set_option maxRecDepth 20000 in
theorem ggL_law_X2_init : GoodIn wsL_law wsX2_init := goodIn_r _ [12, 13, 14, 15, 16, 17, 18, 19, 20, 21, 22, 23, 24, 25, 26, 27, 28, 29, 30, 31, 32, 33, 34, 35, 36, 37, 38, 39, 40, 41, 42, 43, 44, 45, 46, 47, 48, 415, 416, 417, 418, 419, 431, 432, 433, 434, 435, 436, 437, 438, 439, 440, 441, 442] (by decide +kernel) (by decide +kernel)
set_option maxRecDepth 20000 in
theorem gL_law_X2_init : GoodIn wsL_law (wsX2_init) := ggL_law_X2_init
set_option maxRecDepth 20000 in
theorem ggL_law_X3_init : GoodIn wsL_law wsX3_init := goodIn_r _ [51, 52, 14, 15, 53, 54, 55, 56, 57, 58, 59, 60, 61, 62, 63, 64, 65, 5, 66, 420, 421, 422, 423, 424, 425, 426, 427, 428, 429, 430] (by decide +kernel) (by decide +kernel)
set_option maxRecDepth 20000 in
theorem gL_law_X3_init : GoodIn wsL_law (wsX3_init) := ggL_law_X3_init
set_option maxRecDepth 20000 in
theorem ggL_law_X2_pokeMod : GoodIn wsL_law wsX2_pokeMod := goodIn_r _ [70, 31, 71, 32, 72, 73, 74, 2, 75, 23, 415, 416, 417, 418, 419, 431, 432, 433, 434, 435, 436, 437, 438, 439, 440, 441, 442] (by decide +kernel) (by decide +kernel)
set_option maxRecDepth 20000 in
theorem gL_law_X2_pokeMod : GoodIn wsL_law (wsV RL 21 RX2 yX2_pokeMod wsX2_pokeMod) := goodIn_app (goodIn_of _ (by decide +kernel)) ggL_law_X2_pokeMod
set_option maxRecDepth 20000 in
theorem ggL_law_X3_pokeMod : GoodIn wsL_law wsX3_pokeMod := goodIn_r _ [79, 54, 80, 81, 82, 83, 84, 5, 85, 62, 86, 87, 88, 89, 420, 421, 422, 423, 424, 425, 426, 427, 428, 429, 430] (by decide +kernel) (by decide +kernel)
set_option maxRecDepth 20000 in
theorem gL_law_X3_pokeMod : GoodIn wsL_law (wsV RL 25 RX3 yX3_pokeMod wsX3_pokeMod) := goodIn_app (goodIn_of _ (by decide +kernel)) ggL_law_X3_pokeMod
set_option maxRecDepth 20000 in
theorem ggL_law_X2_peekMod : GoodIn wsL_law wsX2_peekMod := goodIn_r _ [93, 31, 71, 72, 73, 74, 2, 75, 23, 415, 416, 417, 418, 419, 431, 432, 433, 434, 435, 436, 437, 438, 439, 440, 441, 442] (by decide +kernel) (by decide +kernel)
set_option maxRecDepth 20000 in
theorem gL_law_X2_peekMod : GoodIn wsL_law (wsV RL 26 RX2 yX2_peekMod wsX2_peekMod) := goodIn_app (goodIn_of _ (by decide +kernel)) ggL_law_X2_peekMod
set_option maxRecDepth 20000 in
theorem ggL_law_X3_peekMod : GoodIn wsL_law wsX3_peekMod := goodIn_r _ [97, 54, 82, 83, 84, 5, 85, 62, 86, 87, 88, 89, 420, 421, 422, 423, 424, 425, 426, 427, 428, 429, 430] (by decide +kernel) (by decide +kernel)
set_option maxRecDepth 20000 in
theorem gL_law_X3_peekMod : GoodIn wsL_law (wsV RL 30 RX3 yX3_peekMod wsX3_peekMod) := goodIn_app (goodIn_of _ (by decide +kernel)) ggL_law_X3_peekMod
set_option maxRecDepth 20000 in
theorem ggL_law_X2_init_ : GoodIn wsL_law wsX2_init_ := goodIn_r _ [101, 31, 32, 102, 103, 104, 30, 105, 39, 37, 106, 107, 108, 109, 110, 111, 112, 113, 114, 115, 116, 48, 41, 40, 42, 117, 118, 119, 120, 121, 122, 123, 124, 125, 126, 38, 127, 128, 129, 130, 131, 132, 133, 134, 135, 136, 137, 138, 139, 140, 141, 142, 143, 144, 415, 416, 417, 418, 419, 431, 432, 433, 434, 435, 436, 437, 438, 439, 440, 441, 442] (by decide +kernel) (by decide +kernel)
set_option maxRecDepth 20000 in
theorem gL_law_X2_init_ : GoodIn wsL_law (wsV RL 31 RX2 yX2_init_ wsX2_init_) := goodIn_app (goodIn_of _ (by decide +kernel)) ggL_law_X2_init_
set_option maxRecDepth 20000 in
theorem ggL_law_X3_init_ : GoodIn wsL_law wsX3_init_ := goodIn_r _ [148, 55, 149, 150, 81, 86, 87, 88, 5, 89, 151, 152, 153, 154, 54, 420, 421, 422, 423, 424, 425, 426, 427, 428, 429, 430] (by decide +kernel) (by decide +kernel)
set_option maxRecDepth 20000 in
theorem gL_law_X3_init_ : GoodIn wsL_law (wsV RL 35 RX3 yX3_init_ wsX3_init_) := goodIn_app (goodIn_of _ (by decide +kernel)) ggL_law_X3_init_
set_option maxRecDepth 20000 in
theorem ggL_law_X2_ready : GoodIn wsL_law wsX2_ready := goodIn_r _ [158, 32, 415, 416, 417, 418, 419] (by decide +kernel) (by decide +kernel)
set_option maxRecDepth 20000 in
theorem gL_law_X2_ready : GoodIn wsL_law (wsV RL 36 RX2 yX2_ready wsX2_ready) := goodIn_app (goodIn_of _ (by decide +kernel)) ggL_law_X2_ready
set_option maxRecDepth 20000 in
theorem ggL_law_X3_ready : GoodIn wsL_law wsX3_ready := goodIn_r _ [162, 81, 420, 421, 422, 423, 424, 425, 426, 427, 428, 429, 430] (by decide +kernel) (by decide +kernel)
set_option maxRecDepth 20000 in
theorem gL_law_X3_ready : GoodIn wsL_law (wsV RL 40 RX3 yX3_ready wsX3_ready) := goodIn_app (goodIn_of _ (by decide +kernel)) ggL_law_X3_ready
set_option maxRecDepth 20000 in
theorem ggL_law_X2_poke : GoodIn wsL_law wsX2_poke := goodIn_r _ [166, 27, 167, 168, 169, 2, 170, 24, 72, 73, 74, 75, 23, 415, 416, 417, 418, 419] (by decide +kernel) (by decide +kernel)
set_option maxRecDepth 20000 in
theorem gL_law_X2_poke : GoodIn wsL_law (wsV RL 41 RX2 yX2_poke wsX2_poke) := goodIn_app (goodIn_of _ (by decide +kernel)) ggL_law_X2_poke
set_option maxRecDepth 20000 in
theorem ggL_law_X3_poke : GoodIn wsL_law wsX3_poke := goodIn_r _ [174, 54, 80, 175, 176, 177, 5, 178, 63, 82, 83, 84, 85, 62, 179, 180, 181, 182, 420, 421, 422, 423, 424, 425, 426, 427, 428, 429, 430] (by decide +kernel) (by decide +kernel)
set_option maxRecDepth 20000 in
theorem gL_law_X3_poke : GoodIn wsL_law (wsV RL 45 RX3 yX3_poke wsX3_poke) := goodIn_app (goodIn_of _ (by decide +kernel)) ggL_law_X3_poke
set_option maxRecDepth 20000 in
theorem ggL_law_X2_peek : GoodIn wsL_law wsX2_peek := goodIn_r _ [186, 27, 167, 168, 169, 2, 170, 24, 72, 73, 74, 75, 23, 415, 416, 417, 418, 419] (by decide +kernel) (by decide +kernel)
set_option maxRecDepth 20000 in
theorem gL_law_X2_peek : GoodIn wsL_law (wsV RL 46 RX2 yX2_peek wsX2_peek) := goodIn_app (goodIn_of _ (by decide +kernel)) ggL_law_X2_peek
set_option maxRecDepth 20000 in
theorem ggL_law_X3_peek : GoodIn wsL_law wsX3_peek := goodIn_r _ [190, 54, 175, 176, 177, 5, 178, 63, 82, 83, 84, 85, 62, 179, 180, 181, 182, 420, 421, 422, 423, 424, 425, 426, 427, 428, 429, 430] (by decide +kernel) (by decide +kernel)
set_option maxRecDepth 20000 in
theorem gL_law_X3_peek : GoodIn wsL_law (wsV RL 50 RX3 yX3_peek wsX3_peek) := goodIn_app (goodIn_of _ (by decide +kernel)) ggL_law_X3_peek
set_option maxRecDepth 20000 in
theorem ggL_law_X2_reduce : GoodIn wsL_law wsX2_reduce := goodIn_r _ [194, 32, 31, 27, 167, 168, 169, 2, 170, 24, 195, 196, 197, 30, 198, 42, 40, 199, 200, 201, 202, 43, 37, 39, 48, 203, 204, 108, 205, 206, 207, 208, 134, 209, 210, 211, 120, 121, 122, 135, 136, 137, 138, 139, 140, 141, 142, 143, 144, 415, 416, 417, 418, 419, 431, 432, 433, 434, 435, 436, 437, 438, 439, 440, 441, 442] (by decide +kernel) (by decide +kernel)
set_option maxRecDepth 20000 in
theorem gL_law_X2_reduce : GoodIn wsL_law (wsV RL 51 RX2 yX2_reduce wsX2_reduce) := goodIn_app (goodIn_of _ (by decide +kernel)) ggL_law_X2_reduce
set_option maxRecDepth 20000 in
theorem ggL_law_X3_reduce : GoodIn wsL_law wsX3_reduce := goodIn_r _ [215, 56, 216, 217, 218, 5, 219, 81, 175, 176, 177, 178, 63, 220, 221, 222, 223, 55, 58, 86, 87, 88, 89, 151, 152, 153, 154, 54, 179, 180, 181, 182, 224, 225, 226, 227, 59, 228, 229, 230, 231, 232, 233, 234, 235, 236, 237, 62, 238, 239, 240, 80, 241, 242, 243, 244, 245, 246, 247, 248, 249, 250, 251, 252, 253, 420, 421, 422, 423, 424, 425, 426, 427, 428, 429, 430] (by decide +kernel) (by decide +kernel)
set_option maxRecDepth 20000 in
theorem gL_law_X3_reduce : GoodIn wsL_law (wsV RL 55 RX3 yX3_reduce wsX3_reduce) := goodIn_app (goodIn_of _ (by decide +kernel)) ggL_law_X3_reduce
set_option maxRecDepth 20000 in
theorem ggL_law_X2_addMod : GoodIn wsL_law wsX2_addMod := goodIn_r _ [257, 31, 27, 258, 259, 260, 2, 261, 32, 167, 168, 169, 170, 24, 262, 263, 264, 30, 265, 44, 45, 266, 196, 197, 198, 42, 40, 199, 200, 201, 202, 43, 37, 39, 48, 203, 204, 108, 205, 206, 207, 208, 134, 209, 210, 211, 120, 121, 122, 135, 136, 137, 138, 139, 140, 141, 142, 143, 144, 127, 128, 129, 130, 131, 132, 133, 415, 416, 417, 418, 419, 431, 432, 433, 434, 435, 436, 437, 438, 439, 440, 441, 442] (by decide +kernel) (by decide +kernel)
set_option maxRecDepth 20000 in
theorem gL_law_X2_addMod : GoodIn wsL_law (wsV RL 56 RX2 yX2_addMod wsX2_addMod) := goodIn_app (goodIn_of _ (by decide +kernel)) ggL_law_X2_addMod
set_option maxRecDepth 20000 in
theorem ggL_law_X3_addMod : GoodIn wsL_law wsX3_addMod := goodIn_r _ [270, 56, 58, 216, 217, 218, 5, 219, 81, 175, 176, 177, 178, 63, 220, 221, 222, 223, 55, 86, 87, 88, 89, 151, 152, 153, 154, 54, 179, 180, 181, 182, 224, 225, 226, 227, 59, 228, 229, 230, 231, 232, 233, 234, 235, 236, 237, 62, 238, 239, 240, 80, 241, 242, 243, 244, 245, 246, 247, 248, 249, 271, 272, 273, 274, 250, 251, 252, 253, 420, 421, 422, 423, 424, 425, 426, 427, 428, 429, 430] (by decide +kernel) (by decide +kernel)
set_option maxRecDepth 20000 in
theorem gL_law_X3_addMod : GoodIn wsL_law (wsV RL 59 RX3 yX3_addMod wsX3_addMod) := goodIn_app (goodIn_of _ (by decide +kernel)) ggL_law_X3_addMod
set_option maxRecDepth 20000 in
theorem ggL_law_X2_subMod : GoodIn wsL_law wsX2_subMod := goodIn_r _ [278, 31, 27, 258, 259, 260, 2, 261, 32, 167, 168, 169, 170, 24, 279, 280, 281, 30, 282, 44, 45, 266, 196, 197, 198, 42, 40, 199, 200, 201, 202, 43, 37, 39, 48, 203, 204, 108, 205, 206, 207, 208, 134, 209, 210, 211, 120, 121, 122, 135, 136, 137, 138, 139, 140, 141, 142, 143, 144, 283, 284, 285, 286, 131, 132, 133, 415, 416, 417, 418, 419, 431, 432, 433, 434, 435, 436, 437, 438, 439, 440, 441, 442] (by decide +kernel) (by decide +kernel)
set_option maxRecDepth 20000 in
theorem gL_law_X2_subMod : GoodIn wsL_law (wsV RL 60 RX2 yX2_subMod wsX2_subMod) := goodIn_app (goodIn_of _ (by decide +kernel)) ggL_law_X2_subMod
set_option maxRecDepth 20000 in
theorem ggL_law_X3_subMod : GoodIn wsL_law wsX3_subMod := goodIn_r _ [290, 56, 58, 216, 217, 218, 5, 219, 81, 175, 176, 177, 178, 63, 220, 221, 222, 223, 55, 86, 87, 88, 89, 151, 152, 153, 154, 54, 179, 180, 181, 182, 224, 225, 226, 227, 59, 228, 229, 230, 231, 232, 233, 234, 235, 236, 237, 62, 238, 239, 240, 80, 241, 242, 243, 244, 245, 246, 247, 248, 249, 291, 292, 293, 294, 250, 251, 252, 253, 420, 421, 422, 423, 424, 425, 426, 427, 428, 429, 430] (by decide +kernel) (by decide +kernel)
set_option maxRecDepth 20000 in
theorem gL_law_X3_subMod : GoodIn wsL_law (wsV RL 63 RX3 yX3_subMod wsX3_subMod) := goodIn_app (goodIn_of _ (by decide +kernel)) ggL_law_X3_subMod
set_option maxRecDepth 20000 in
theorem ggL_law_X2_mulMod : GoodIn wsL_law wsX2_mulMod := goodIn_r _ [298, 31, 27, 258, 259, 260, 2, 261, 32, 167, 168, 169, 170, 24, 299, 300, 301, 30, 302, 44, 42, 199, 200, 201, 202, 43, 37, 39, 48, 203, 204, 108, 205, 206, 207, 208, 134, 209, 210, 211, 120, 121, 122, 135, 136, 137, 138, 139, 140, 141, 142, 143, 144, 415, 416, 417, 418, 419, 431, 432, 433, 434, 435, 436, 437, 438, 439, 440, 441, 442] (by decide +kernel) (by decide +kernel)
set_option maxRecDepth 20000 in
theorem gL_law_X2_mulMod : GoodIn wsL_law (wsV RL 64 RX2 yX2_mulMod wsX2_mulMod) := goodIn_app (goodIn_of _ (by decide +kernel)) ggL_law_X2_mulMod
set_option maxRecDepth 20000 in
theorem ggL_law_X3_mulMod : GoodIn wsL_law wsX3_mulMod := goodIn_r _ [306, 56, 58, 216, 217, 218, 5, 219, 81, 175, 176, 177, 178, 63, 220, 221, 222, 223, 55, 86, 87, 88, 89, 151, 152, 153, 154, 54, 179, 180, 181, 182, 224, 225, 226, 227, 59, 228, 229, 230, 231, 232, 233, 234, 235, 236, 237, 62, 238, 239, 240, 80, 241, 242, 243, 244, 245, 246, 247, 248, 249, 307, 308, 309, 310, 57, 271, 272, 273, 274, 250, 251, 252, 253, 420, 421, 422, 423, 424, 425, 426, 427, 428, 429, 430] (by decide +kernel) (by decide +kernel)
set_option maxRecDepth 20000 in
theorem gL_law_X3_mulMod : GoodIn wsL_law (wsV RL 67 RX3 yX3_mulMod wsX3_mulMod) := goodIn_app (goodIn_of _ (by decide +kernel)) ggL_law_X3_mulMod
set_option maxRecDepth 20000 in
theorem ggL_law_X2_montMod : GoodIn wsL_law wsX2_montMod := goodIn_r _ [314, 31, 27, 258, 259, 260, 2, 261, 32, 167, 168, 169, 170, 24, 315, 316, 317, 30, 318, 44, 40, 319, 300, 301, 302, 42, 199, 200, 201, 202, 43, 37, 39, 48, 203, 204, 108, 205, 206, 207, 208, 134, 209, 210, 211, 120, 121, 122, 135, 136, 137, 138, 139, 140, 141, 142, 143, 144, 415, 416, 417, 418, 419, 431, 432, 433, 434, 435, 436, 437, 438, 439, 440, 441, 442] (by decide +kernel) (by decide +kernel)
set_option maxRecDepth 20000 in
theorem gL_law_X2_montMod : GoodIn wsL_law (wsV RL 68 RX2 yX2_montMod wsX2_montMod) := goodIn_app (goodIn_of _ (by decide +kernel)) ggL_law_X2_montMod
set_option maxRecDepth 20000 in
theorem ggL_law_X3_montMod : GoodIn wsL_law wsX3_montMod := goodIn_r _ [323, 56, 58, 216, 217, 218, 5, 219, 81, 175, 176, 177, 178, 63, 220, 221, 222, 223, 55, 86, 87, 88, 89, 151, 152, 153, 154, 54, 179, 180, 181, 182, 224, 225, 226, 227, 59, 228, 229, 230, 231, 232, 233, 234, 235, 236, 237, 62, 238, 239, 240, 80, 241, 242, 243, 244, 245, 246, 247, 248, 249, 307, 308, 309, 310, 57, 271, 272, 273, 274, 324, 325, 326, 327, 328, 329, 330, 250, 251, 252, 253, 420, 421, 422, 423, 424, 425, 426, 427, 428, 429, 430] (by decide +kernel) (by decide +kernel)
set_option maxRecDepth 20000 in
theorem gL_law_X3_montMod : GoodIn wsL_law (wsV RL 71 RX3 yX3_montMod wsX3_montMod) := goodIn_app (goodIn_of _ (by decide +kernel)) ggL_law_X3_montMod
set_option maxRecDepth 20000 in
theorem ggL_law_X2_powMod : GoodIn wsL_law wsX2_powMod := goodIn_r _ [334, 31, 27, 258, 259, 260, 2, 261, 32, 167, 168, 169, 170, 24, 335, 336, 337, 30, 338, 44, 42, 45, 40, 199, 200, 201, 202, 43, 37, 39, 48, 203, 204, 108, 205, 206, 207, 208, 134, 209, 210, 211, 120, 121, 122, 135, 136, 137, 138, 139, 140, 141, 142, 143, 144, 339, 340, 341, 342, 41, 343, 344, 345, 346, 347, 348, 349, 415, 416, 417, 418, 419, 431, 432, 433, 434, 435, 436, 437, 438, 439, 440, 441, 442] (by decide +kernel) (by decide +kernel)
set_option maxRecDepth 20000 in
theorem gL_law_X2_powMod : GoodIn wsL_law (wsV RL 72 RX2 yX2_powMod wsX2_powMod) := goodIn_app (goodIn_of _ (by decide +kernel)) ggL_law_X2_powMod
set_option maxRecDepth 20000 in
theorem ggL_law_X3_powMod : GoodIn wsL_law wsX3_powMod := goodIn_r _ [353, 61, 56, 216, 217, 218, 5, 219, 81, 175, 176, 177, 178, 63, 220, 221, 222, 223, 55, 58, 86, 87, 88, 89, 151, 152, 153, 154, 54, 179, 180, 181, 182, 224, 225, 226, 227, 59, 228, 229, 230, 231, 232, 233, 234, 235, 236, 237, 62, 238, 239, 240, 80, 241, 242, 243, 244, 245, 246, 247, 248, 249, 354, 355, 356, 357, 60, 307, 308, 309, 310, 57, 271, 272, 273, 274, 250, 251, 252, 253, 420, 421, 422, 423, 424, 425, 426, 427, 428, 429, 430] (by decide +kernel) (by decide +kernel)
set_option maxRecDepth 20000 in
theorem gL_law_X3_powMod : GoodIn wsL_law (wsV RL 75 RX3 yX3_powMod wsX3_powMod) := goodIn_app (goodIn_of _ (by decide +kernel)) ggL_law_X3_powMod
set_option maxRecDepth 20000 in
theorem ggL_law_X2_invMod : GoodIn wsL_law wsX2_invMod := goodIn_r _ [361, 31, 27, 258, 259, 260, 2, 261, 32, 167, 168, 169, 170, 24, 362, 363, 364, 30, 365, 44, 45, 39, 37, 46, 40, 47, 38, 266, 196, 197, 198, 42, 199, 200, 201, 202, 43, 48, 203, 204, 108, 205, 206, 207, 208, 134, 209, 210, 211, 120, 121, 122, 135, 136, 137, 138, 139, 140, 141, 142, 143, 144, 110, 111, 112, 366, 367, 368, 369, 106, 107, 109, 370, 371, 372, 373, 374, 375, 376, 131, 132, 133, 377, 378, 379, 283, 284, 285, 286, 415, 416, 417, 418, 419, 431, 432, 433, 434, 435, 436, 437, 438, 439, 440, 441, 442] (by decide +kernel) (by decide +kernel)
set_option maxRecDepth 20000 in
theorem gL_law_X2_invMod : GoodIn wsL_law (wsV RL 76 RX2 yX2_invMod wsX2_invMod) := goodIn_app (goodIn_of _ (by decide +kernel)) ggL_law_X2_invMod
set_option maxRecDepth 20000 in
theorem ggL_law_X3_invMod : GoodIn wsL_law wsX3_invMod := goodIn_r _ [383, 60, 55, 58, 61, 56, 216, 217, 218, 5, 219, 81, 175, 176, 177, 178, 63, 220, 221, 222, 223, 86, 87, 88, 89, 151, 152, 153, 154, 54, 179, 180, 181, 182, 224, 225, 226, 227, 59, 228, 229, 230, 231, 232, 233, 234, 235, 236, 237, 62, 238, 239, 240, 80, 241, 242, 243, 244, 245, 246, 247, 248, 249, 384, 385, 386, 328, 329, 330, 324, 325, 326, 327, 291, 292, 293, 294, 387, 388, 389, 250, 251, 252, 253, 420, 421, 422, 423, 424, 425, 426, 427, 428, 429, 430] (by decide +kernel) (by decide +kernel)
set_option maxRecDepth 20000 in
theorem gL_law_X3_invMod : GoodIn wsL_law (wsV RL 79 RX3 yX3_invMod wsX3_invMod) := goodIn_app (goodIn_of _ (by decide +kernel)) ggL_law_X3_invMod
set_option maxRecDepth 20000 in
theorem ggL_law_X2_witness : GoodIn wsL_law wsX2_witness := goodIn_r _ [393, 32, 31, 27, 167, 168, 169, 2, 170, 24, 394, 395, 396, 30, 397, 44, 42, 37, 46, 39, 41, 45, 199, 200, 201, 202, 43, 48, 203, 204, 108, 205, 206, 207, 208, 134, 209, 210, 211, 120, 121, 122, 135, 136, 137, 138, 139, 140, 141, 142, 143, 144, 110, 111, 112, 398, 399, 400, 401, 38, 349, 347, 348, 283, 284, 285, 286, 131, 132, 133, 339, 340, 341, 342, 343, 344, 345, 346, 415, 416, 417, 418, 419, 431, 432, 433, 434, 435, 436, 437, 438, 439, 440, 441, 442] (by decide +kernel) (by decide +kernel)
set_option maxRecDepth 20000 in
theorem gL_law_X2_witness : GoodIn wsL_law (wsV RL 80 RX2 yX2_witness wsX2_witness) := goodIn_app (goodIn_of _ (by decide +kernel)) ggL_law_X2_witness
set_option maxRecDepth 20000 in
theorem ggL_law_X3_witness : GoodIn wsL_law wsX3_witness := goodIn_r _ [405, 56, 61, 55, 58, 216, 217, 218, 5, 219, 81, 175, 176, 177, 178, 63, 220, 221, 222, 223, 86, 87, 88, 89, 151, 152, 153, 154, 54, 179, 180, 181, 182, 224, 225, 226, 227, 59, 228, 229, 230, 231, 232, 233, 234, 235, 236, 237, 62, 238, 239, 240, 80, 241, 242, 243, 244, 245, 246, 247, 248, 249, 384, 385, 386, 328, 329, 330, 354, 355, 356, 357, 60, 307, 308, 309, 310, 57, 271, 272, 273, 274, 387, 388, 389, 420, 421, 422, 423, 424, 425, 426, 427, 428, 429, 430] (by decide +kernel) (by decide +kernel)
set_option maxRecDepth 20000 in
theorem gL_law_X3_witness : GoodIn wsL_law (wsV RL 83 RX3 yX3_witness wsX3_witness) := goodIn_app (goodIn_of _ (by decide +kernel)) ggL_law_X3_witness
set_option maxRecDepth 20000 in
theorem ggL_law_X2_compare : GoodIn wsL_law wsX2_compare := goodIn_r _ [409, 27, 23, 167, 168, 169, 2, 170, 24, 410, 140, 108, 141, 134, 415, 416, 417, 418, 419] (by decide +kernel) (by decide +kernel)
set_option maxRecDepth 20000 in
theorem gL_law_X2_compare : GoodIn wsL_law (wsV RL 84 RX2 yX2_compare wsX2_compare) := goodIn_app (goodIn_of _ (by decide +kernel)) ggL_law_X2_compare
set_option maxRecDepth 20000 in
theorem ggL_law_X3_compare : GoodIn wsL_law wsX3_compare := goodIn_r _ [414, 56, 57, 175, 176, 177, 5, 178, 63, 179, 180, 181, 182, 151, 152, 153, 154, 54, 244, 245, 246, 420, 421, 422, 423, 424, 425, 426, 427, 428, 429, 430] (by decide +kernel) (by decide +kernel)
set_option maxRecDepth 20000 in
theorem gL_law_X3_compare : GoodIn wsL_law (wsV RL 87 RX3 yX3_compare wsX3_compare) := goodIn_app (goodIn_of _ (by decide +kernel)) ggL_law_X3_compare
theorem dL_law_0 : decode cL_law 0 = .ok (.new 7, 3) := by decide +kernel
theorem dL_law_3 : decode cL_law 3 = .ok (.dup, 1) := by decide +kernel
theorem dL_law_4 : decode cL_law 4 = .ok (.aload_n 0, 1) := by decide +kernel
theorem dL_law_5 : decode cL_law 5 = .ok (.iconst 0, 1) := by decide +kernel
theorem dL_law_6 : decode cL_law 6 = .ok (.invokestatic 9, 3) := by decide +kernel
theorem dL_law_9 : decode cL_law 9 = .ok (.aload_n 0, 1) := by decide +kernel
theorem dL_law_10 : decode cL_law 10 = .ok (.iconst 1, 1) := by decide +kernel
theorem dL_law_11 : decode cL_law 11 = .ok (.invokestatic 9, 3) := by decide +kernel
theorem dL_law_14 : decode cL_law 14 = .ok (.invokespecial 15, 3) := by decide +kernel
theorem dL_law_17 : decode cL_law 17 = .ok (.astore_n 1, 1) := by decide +kernel
theorem dL_law_18 : decode cL_law 18 = .ok (.new 18, 3) := by decide +kernel
theorem dL_law_21 : decode cL_law 21 = .ok (.dup, 1) := by decide +kernel
theorem dL_law_22 : decode cL_law 22 = .ok (.aload_n 0, 1) := by decide +kernel
theorem dL_law_23 : decode cL_law 23 = .ok (.iconst 0, 1) := by decide +kernel
theorem dL_law_24 : decode cL_law 24 = .ok (.invokestatic 9, 3) := by decide +kernel
theorem dL_law_27 : decode cL_law 27 = .ok (.aload_n 0, 1) := by decide +kernel
theorem dL_law_28 : decode cL_law 28 = .ok (.iconst 1, 1) := by decide +kernel
theorem dL_law_29 : decode cL_law 29 = .ok (.invokestatic 9, 3) := by decide +kernel
theorem dL_law_32 : decode cL_law 32 = .ok (.invokespecial 20, 3) := by decide +kernel
theorem dL_law_35 : decode cL_law 35 = .ok (.astore_n 2, 1) := by decide +kernel
theorem dL_law_36 : decode cL_law 36 = .ok (.iconst 2, 1) := by decide +kernel
theorem dL_law_37 : decode cL_law 37 = .ok (.istore_n 3, 1) := by decide +kernel
theorem dL_law_38 : decode cL_law 38 = .ok (.iload_n 3, 1) := by decide +kernel
theorem dL_law_39 : decode cL_law 39 = .ok (.aload_n 0, 1) := by decide +kernel
theorem dL_law_40 : decode cL_law 40 = .ok (.arraylength, 1) := by decide +kernel
theorem dL_law_41 : decode cL_law 41 = .ok (.iconst 4, 1) := by decide +kernel
theorem dL_law_42 : decode cL_law 42 = .ok (.isub, 1) := by decide +kernel
theorem dL_law_43 : decode cL_law 43 = .ok (.if_icmp .gt 576, 3) := by decide +kernel
theorem dL_law_46 : decode cL_law 46 = .ok (.aload_n 0, 1) := by decide +kernel
theorem dL_law_47 : decode cL_law 47 = .ok (.iload_n 3, 1) := by decide +kernel
theorem dL_law_48 : decode cL_law 48 = .ok (.iaload, 1) := by decide +kernel
theorem dL_law_49 : decode cL_law 49 = .ok (.bipush 15, 2) := by decide +kernel
theorem dL_law_51 : decode cL_law 51 = .ok (.iand, 1) := by decide +kernel
theorem dL_law_52 : decode cL_law 52 = .ok (.tableswitch 561 0 14 #[76, 109, 132, 145, 158, 201, 234, 257, 300, 343, 386, 429, 472, 505, 528], 76) := by decide +kernel
theorem dL_law_128 : decode cL_law 128 = .ok (.aload_n 1, 1) := by decide +kernel
theorem dL_law_129 : decode cL_law 129 = .ok (.aload_n 0, 1) := by decide +kernel
theorem dL_law_130 : decode cL_law 130 = .ok (.iload_n 3, 1) := by decide +kernel
theorem dL_law_131 : decode cL_law 131 = .ok (.iconst 1, 1) := by decide +kernel
theorem dL_law_132 : decode cL_law 132 = .ok (.iadd, 1) := by decide +kernel
theorem dL_law_133 : decode cL_law 133 = .ok (.iaload, 1) := by decide +kernel
theorem dL_law_134 : decode cL_law 134 = .ok (.aload_n 0, 1) := by decide +kernel
theorem dL_law_135 : decode cL_law 135 = .ok (.iload_n 3, 1) := by decide +kernel
theorem dL_law_136 : decode cL_law 136 = .ok (.iconst 2, 1) := by decide +kernel
theorem dL_law_137 : decode cL_law 137 = .ok (.iadd, 1) := by decide +kernel
theorem dL_law_138 : decode cL_law 138 = .ok (.iaload, 1) := by decide +kernel
theorem dL_law_139 : decode cL_law 139 = .ok (.invokevirtual 21, 3) := by decide +kernel
theorem dL_law_142 : decode cL_law 142 = .ok (.aload_n 2, 1) := by decide +kernel
theorem dL_law_143 : decode cL_law 143 = .ok (.aload_n 0, 1) := by decide +kernel
theorem dL_law_144 : decode cL_law 144 = .ok (.iload_n 3, 1) := by decide +kernel
theorem dL_law_145 : decode cL_law 145 = .ok (.iconst 1, 1) := by decide +kernel
theorem dL_law_146 : decode cL_law 146 = .ok (.iadd, 1) := by decide +kernel
theorem dL_law_147 : decode cL_law 147 = .ok (.iaload, 1) := by decide +kernel
theorem dL_law_148 : decode cL_law 148 = .ok (.aload_n 0, 1) := by decide +kernel
theorem dL_law_149 : decode cL_law 149 = .ok (.iload_n 3, 1) := by decide +kernel
theorem dL_law_150 : decode cL_law 150 = .ok (.iconst 2, 1) := by decide +kernel
theorem dL_law_151 : decode cL_law 151 = .ok (.iadd, 1) := by decide +kernel
theorem dL_law_152 : decode cL_law 152 = .ok (.iaload, 1) := by decide +kernel
theorem dL_law_153 : decode cL_law 153 = .ok (.invokevirtual 25, 3) := by decide +kernel
theorem dL_law_156 : decode cL_law 156 = .ok (.if_icmp .eq 457, 3) := by decide +kernel
theorem dL_law_159 : decode cL_law 159 = .ok (.iconst 0, 1) := by decide +kernel
theorem dL_law_160 : decode cL_law 160 = .ok (.ireturn, 1) := by decide +kernel
theorem dL_law_161 : decode cL_law 161 = .ok (.aload_n 1, 1) := by decide +kernel
theorem dL_law_162 : decode cL_law 162 = .ok (.aload_n 0, 1) := by decide +kernel
theorem dL_law_163 : decode cL_law 163 = .ok (.iload_n 3, 1) := by decide +kernel
theorem dL_law_164 : decode cL_law 164 = .ok (.iconst 1, 1) := by decide +kernel
theorem dL_law_165 : decode cL_law 165 = .ok (.iadd, 1) := by decide +kernel
theorem dL_law_166 : decode cL_law 166 = .ok (.iaload, 1) := by decide +kernel
theorem dL_law_167 : decode cL_law 167 = .ok (.invokevirtual 26, 3) := by decide +kernel
theorem dL_law_170 : decode cL_law 170 = .ok (.aload_n 2, 1) := by decide +kernel
theorem dL_law_171 : decode cL_law 171 = .ok (.aload_n 0, 1) := by decide +kernel
theorem dL_law_172 : decode cL_law 172 = .ok (.iload_n 3, 1) := by decide +kernel
theorem dL_law_173 : decode cL_law 173 = .ok (.iconst 1, 1) := by decide +kernel
theorem dL_law_174 : decode cL_law 174 = .ok (.iadd, 1) := by decide +kernel
theorem dL_law_175 : decode cL_law 175 = .ok (.iaload, 1) := by decide +kernel
theorem dL_law_176 : decode cL_law 176 = .ok (.invokevirtual 30, 3) := by decide +kernel
theorem dL_law_179 : decode cL_law 179 = .ok (.if_icmp .eq 434, 3) := by decide +kernel
theorem dL_law_182 : decode cL_law 182 = .ok (.iconst 0, 1) := by decide +kernel
theorem dL_law_183 : decode cL_law 183 = .ok (.ireturn, 1) := by decide +kernel
theorem dL_law_184 : decode cL_law 184 = .ok (.aload_n 1, 1) := by decide +kernel
theorem dL_law_185 : decode cL_law 185 = .ok (.invokevirtual 31, 3) := by decide +kernel
theorem dL_law_188 : decode cL_law 188 = .ok (.aload_n 2, 1) := by decide +kernel
theorem dL_law_189 : decode cL_law 189 = .ok (.invokevirtual 35, 3) := by decide +kernel
theorem dL_law_192 : decode cL_law 192 = .ok (.if_icmp .eq 421, 3) := by decide +kernel
theorem dL_law_195 : decode cL_law 195 = .ok (.iconst 0, 1) := by decide +kernel
theorem dL_law_196 : decode cL_law 196 = .ok (.ireturn, 1) := by decide +kernel
theorem dL_law_197 : decode cL_law 197 = .ok (.aload_n 1, 1) := by decide +kernel
theorem dL_law_198 : decode cL_law 198 = .ok (.invokevirtual 36, 3) := by decide +kernel
theorem dL_law_201 : decode cL_law 201 = .ok (.aload_n 2, 1) := by decide +kernel
theorem dL_law_202 : decode cL_law 202 = .ok (.invokevirtual 40, 3) := by decide +kernel
theorem dL_law_205 : decode cL_law 205 = .ok (.if_icmp .eq 408, 3) := by decide +kernel
theorem dL_law_208 : decode cL_law 208 = .ok (.iconst 0, 1) := by decide +kernel
theorem dL_law_209 : decode cL_law 209 = .ok (.ireturn, 1) := by decide +kernel
theorem dL_law_210 : decode cL_law 210 = .ok (.aload_n 1, 1) := by decide +kernel
theorem dL_law_211 : decode cL_law 211 = .ok (.aload_n 0, 1) := by decide +kernel
theorem dL_law_212 : decode cL_law 212 = .ok (.iload_n 3, 1) := by decide +kernel
theorem dL_law_213 : decode cL_law 213 = .ok (.iconst 1, 1) := by decide +kernel
theorem dL_law_214 : decode cL_law 214 = .ok (.iadd, 1) := by decide +kernel
theorem dL_law_215 : decode cL_law 215 = .ok (.iaload, 1) := by decide +kernel
theorem dL_law_216 : decode cL_law 216 = .ok (.aload_n 0, 1) := by decide +kernel
theorem dL_law_217 : decode cL_law 217 = .ok (.iload_n 3, 1) := by decide +kernel
theorem dL_law_218 : decode cL_law 218 = .ok (.iconst 2, 1) := by decide +kernel
theorem dL_law_219 : decode cL_law 219 = .ok (.iadd, 1) := by decide +kernel
theorem dL_law_220 : decode cL_law 220 = .ok (.iaload, 1) := by decide +kernel
theorem dL_law_221 : decode cL_law 221 = .ok (.aload_n 0, 1) := by decide +kernel
theorem dL_law_222 : decode cL_law 222 = .ok (.iload_n 3, 1) := by decide +kernel
theorem dL_law_223 : decode cL_law 223 = .ok (.iconst 3, 1) := by decide +kernel
theorem dL_law_224 : decode cL_law 224 = .ok (.iadd, 1) := by decide +kernel
theorem dL_law_225 : decode cL_law 225 = .ok (.iaload, 1) := by decide +kernel
theorem dL_law_226 : decode cL_law 226 = .ok (.invokevirtual 41, 3) := by decide +kernel
theorem dL_law_229 : decode cL_law 229 = .ok (.aload_n 2, 1) := by decide +kernel
theorem dL_law_230 : decode cL_law 230 = .ok (.aload_n 0, 1) := by decide +kernel
theorem dL_law_231 : decode cL_law 231 = .ok (.iload_n 3, 1) := by decide +kernel
theorem dL_law_232 : decode cL_law 232 = .ok (.iconst 1, 1) := by decide +kernel
theorem dL_law_233 : decode cL_law 233 = .ok (.iadd, 1) := by decide +kernel
theorem dL_law_234 : decode cL_law 234 = .ok (.iaload, 1) := by decide +kernel
theorem dL_law_235 : decode cL_law 235 = .ok (.aload_n 0, 1) := by decide +kernel
theorem dL_law_236 : decode cL_law 236 = .ok (.iload_n 3, 1) := by decide +kernel
theorem dL_law_237 : decode cL_law 237 = .ok (.iconst 2, 1) := by decide +kernel
theorem dL_law_238 : decode cL_law 238 = .ok (.iadd, 1) := by decide +kernel
theorem dL_law_239 : decode cL_law 239 = .ok (.iaload, 1) := by decide +kernel
theorem dL_law_240 : decode cL_law 240 = .ok (.aload_n 0, 1) := by decide +kernel
theorem dL_law_241 : decode cL_law 241 = .ok (.iload_n 3, 1) := by decide +kernel
theorem dL_law_242 : decode cL_law 242 = .ok (.iconst 3, 1) := by decide +kernel
theorem dL_law_243 : decode cL_law 243 = .ok (.iadd, 1) := by decide +kernel
theorem dL_law_244 : decode cL_law 244 = .ok (.iaload, 1) := by decide +kernel
theorem dL_law_245 : decode cL_law 245 = .ok (.invokevirtual 45, 3) := by decide +kernel
theorem dL_law_248 : decode cL_law 248 = .ok (.if_icmp .eq 365, 3) := by decide +kernel
theorem dL_law_251 : decode cL_law 251 = .ok (.iconst 0, 1) := by decide +kernel
theorem dL_law_252 : decode cL_law 252 = .ok (.ireturn, 1) := by decide +kernel
theorem dL_law_253 : decode cL_law 253 = .ok (.aload_n 1, 1) := by decide +kernel
theorem dL_law_254 : decode cL_law 254 = .ok (.aload_n 0, 1) := by decide +kernel
theorem dL_law_255 : decode cL_law 255 = .ok (.iload_n 3, 1) := by decide +kernel
theorem dL_law_256 : decode cL_law 256 = .ok (.iconst 1, 1) := by decide +kernel
theorem dL_law_257 : decode cL_law 257 = .ok (.iadd, 1) := by decide +kernel
theorem dL_law_258 : decode cL_law 258 = .ok (.iaload, 1) := by decide +kernel
theorem dL_law_259 : decode cL_law 259 = .ok (.aload_n 0, 1) := by decide +kernel
theorem dL_law_260 : decode cL_law 260 = .ok (.iload_n 3, 1) := by decide +kernel
theorem dL_law_261 : decode cL_law 261 = .ok (.iconst 2, 1) := by decide +kernel
theorem dL_law_262 : decode cL_law 262 = .ok (.iadd, 1) := by decide +kernel
theorem dL_law_263 : decode cL_law 263 = .ok (.iaload, 1) := by decide +kernel
theorem dL_law_264 : decode cL_law 264 = .ok (.invokevirtual 46, 3) := by decide +kernel
theorem dL_law_267 : decode cL_law 267 = .ok (.aload_n 2, 1) := by decide +kernel
theorem dL_law_268 : decode cL_law 268 = .ok (.aload_n 0, 1) := by decide +kernel
theorem dL_law_269 : decode cL_law 269 = .ok (.iload_n 3, 1) := by decide +kernel
theorem dL_law_270 : decode cL_law 270 = .ok (.iconst 1, 1) := by decide +kernel
theorem dL_law_271 : decode cL_law 271 = .ok (.iadd, 1) := by decide +kernel
theorem dL_law_272 : decode cL_law 272 = .ok (.iaload, 1) := by decide +kernel
theorem dL_law_273 : decode cL_law 273 = .ok (.aload_n 0, 1) := by decide +kernel
theorem dL_law_274 : decode cL_law 274 = .ok (.iload_n 3, 1) := by decide +kernel
theorem dL_law_275 : decode cL_law 275 = .ok (.iconst 2, 1) := by decide +kernel
theorem dL_law_276 : decode cL_law 276 = .ok (.iadd, 1) := by decide +kernel
theorem dL_law_277 : decode cL_law 277 = .ok (.iaload, 1) := by decide +kernel
theorem dL_law_278 : decode cL_law 278 = .ok (.invokevirtual 50, 3) := by decide +kernel
theorem dL_law_281 : decode cL_law 281 = .ok (.if_icmp .eq 332, 3) := by decide +kernel
theorem dL_law_284 : decode cL_law 284 = .ok (.iconst 0, 1) := by decide +kernel
theorem dL_law_285 : decode cL_law 285 = .ok (.ireturn, 1) := by decide +kernel
theorem dL_law_286 : decode cL_law 286 = .ok (.aload_n 1, 1) := by decide +kernel
theorem dL_law_287 : decode cL_law 287 = .ok (.aload_n 0, 1) := by decide +kernel
theorem dL_law_288 : decode cL_law 288 = .ok (.iload_n 3, 1) := by decide +kernel
theorem dL_law_289 : decode cL_law 289 = .ok (.iconst 1, 1) := by decide +kernel
theorem dL_law_290 : decode cL_law 290 = .ok (.iadd, 1) := by decide +kernel
theorem dL_law_291 : decode cL_law 291 = .ok (.iaload, 1) := by decide +kernel
theorem dL_law_292 : decode cL_law 292 = .ok (.invokevirtual 51, 3) := by decide +kernel
theorem dL_law_295 : decode cL_law 295 = .ok (.aload_n 2, 1) := by decide +kernel
theorem dL_law_296 : decode cL_law 296 = .ok (.aload_n 0, 1) := by decide +kernel
theorem dL_law_297 : decode cL_law 297 = .ok (.iload_n 3, 1) := by decide +kernel
theorem dL_law_298 : decode cL_law 298 = .ok (.iconst 1, 1) := by decide +kernel
theorem dL_law_299 : decode cL_law 299 = .ok (.iadd, 1) := by decide +kernel
theorem dL_law_300 : decode cL_law 300 = .ok (.iaload, 1) := by decide +kernel
theorem dL_law_301 : decode cL_law 301 = .ok (.invokevirtual 55, 3) := by decide +kernel
theorem dL_law_304 : decode cL_law 304 = .ok (.if_icmp .eq 309, 3) := by decide +kernel
theorem dL_law_307 : decode cL_law 307 = .ok (.iconst 0, 1) := by decide +kernel
theorem dL_law_308 : decode cL_law 308 = .ok (.ireturn, 1) := by decide +kernel
theorem dL_law_309 : decode cL_law 309 = .ok (.aload_n 1, 1) := by decide +kernel
theorem dL_law_310 : decode cL_law 310 = .ok (.aload_n 0, 1) := by decide +kernel
theorem dL_law_311 : decode cL_law 311 = .ok (.iload_n 3, 1) := by decide +kernel
theorem dL_law_312 : decode cL_law 312 = .ok (.iconst 1, 1) := by decide +kernel
theorem dL_law_313 : decode cL_law 313 = .ok (.iadd, 1) := by decide +kernel
theorem dL_law_314 : decode cL_law 314 = .ok (.iaload, 1) := by decide +kernel
theorem dL_law_315 : decode cL_law 315 = .ok (.aload_n 0, 1) := by decide +kernel
theorem dL_law_316 : decode cL_law 316 = .ok (.iload_n 3, 1) := by decide +kernel
theorem dL_law_317 : decode cL_law 317 = .ok (.iconst 2, 1) := by decide +kernel
theorem dL_law_318 : decode cL_law 318 = .ok (.iadd, 1) := by decide +kernel
theorem dL_law_319 : decode cL_law 319 = .ok (.iaload, 1) := by decide +kernel
theorem dL_law_320 : decode cL_law 320 = .ok (.aload_n 0, 1) := by decide +kernel
theorem dL_law_321 : decode cL_law 321 = .ok (.iload_n 3, 1) := by decide +kernel
theorem dL_law_322 : decode cL_law 322 = .ok (.iconst 3, 1) := by decide +kernel
theorem dL_law_323 : decode cL_law 323 = .ok (.iadd, 1) := by decide +kernel
theorem dL_law_324 : decode cL_law 324 = .ok (.iaload, 1) := by decide +kernel
theorem dL_law_325 : decode cL_law 325 = .ok (.invokevirtual 56, 3) := by decide +kernel
theorem dL_law_328 : decode cL_law 328 = .ok (.aload_n 2, 1) := by decide +kernel
theorem dL_law_329 : decode cL_law 329 = .ok (.aload_n 0, 1) := by decide +kernel
theorem dL_law_330 : decode cL_law 330 = .ok (.iload_n 3, 1) := by decide +kernel
theorem dL_law_331 : decode cL_law 331 = .ok (.iconst 1, 1) := by decide +kernel
theorem dL_law_332 : decode cL_law 332 = .ok (.iadd, 1) := by decide +kernel
theorem dL_law_333 : decode cL_law 333 = .ok (.iaload, 1) := by decide +kernel
theorem dL_law_334 : decode cL_law 334 = .ok (.aload_n 0, 1) := by decide +kernel
theorem dL_law_335 : decode cL_law 335 = .ok (.iload_n 3, 1) := by decide +kernel
theorem dL_law_336 : decode cL_law 336 = .ok (.iconst 2, 1) := by decide +kernel
theorem dL_law_337 : decode cL_law 337 = .ok (.iadd, 1) := by decide +kernel
theorem dL_law_338 : decode cL_law 338 = .ok (.iaload, 1) := by decide +kernel
theorem dL_law_339 : decode cL_law 339 = .ok (.aload_n 0, 1) := by decide +kernel
theorem dL_law_340 : decode cL_law 340 = .ok (.iload_n 3, 1) := by decide +kernel
theorem dL_law_341 : decode cL_law 341 = .ok (.iconst 3, 1) := by decide +kernel
theorem dL_law_342 : decode cL_law 342 = .ok (.iadd, 1) := by decide +kernel
theorem dL_law_343 : decode cL_law 343 = .ok (.iaload, 1) := by decide +kernel
theorem dL_law_344 : decode cL_law 344 = .ok (.invokevirtual 59, 3) := by decide +kernel
theorem dL_law_347 : decode cL_law 347 = .ok (.if_icmp .eq 266, 3) := by decide +kernel
theorem dL_law_350 : decode cL_law 350 = .ok (.iconst 0, 1) := by decide +kernel
theorem dL_law_351 : decode cL_law 351 = .ok (.ireturn, 1) := by decide +kernel
theorem dL_law_352 : decode cL_law 352 = .ok (.aload_n 1, 1) := by decide +kernel
theorem dL_law_353 : decode cL_law 353 = .ok (.aload_n 0, 1) := by decide +kernel
theorem dL_law_354 : decode cL_law 354 = .ok (.iload_n 3, 1) := by decide +kernel
theorem dL_law_355 : decode cL_law 355 = .ok (.iconst 1, 1) := by decide +kernel
theorem dL_law_356 : decode cL_law 356 = .ok (.iadd, 1) := by decide +kernel
theorem dL_law_357 : decode cL_law 357 = .ok (.iaload, 1) := by decide +kernel
theorem dL_law_358 : decode cL_law 358 = .ok (.aload_n 0, 1) := by decide +kernel
theorem dL_law_359 : decode cL_law 359 = .ok (.iload_n 3, 1) := by decide +kernel
theorem dL_law_360 : decode cL_law 360 = .ok (.iconst 2, 1) := by decide +kernel
theorem dL_law_361 : decode cL_law 361 = .ok (.iadd, 1) := by decide +kernel
theorem dL_law_362 : decode cL_law 362 = .ok (.iaload, 1) := by decide +kernel
theorem dL_law_363 : decode cL_law 363 = .ok (.aload_n 0, 1) := by decide +kernel
theorem dL_law_364 : decode cL_law 364 = .ok (.iload_n 3, 1) := by decide +kernel
theorem dL_law_365 : decode cL_law 365 = .ok (.iconst 3, 1) := by decide +kernel
theorem dL_law_366 : decode cL_law 366 = .ok (.iadd, 1) := by decide +kernel
theorem dL_law_367 : decode cL_law 367 = .ok (.iaload, 1) := by decide +kernel
theorem dL_law_368 : decode cL_law 368 = .ok (.invokevirtual 60, 3) := by decide +kernel
theorem dL_law_371 : decode cL_law 371 = .ok (.aload_n 2, 1) := by decide +kernel
theorem dL_law_372 : decode cL_law 372 = .ok (.aload_n 0, 1) := by decide +kernel
theorem dL_law_373 : decode cL_law 373 = .ok (.iload_n 3, 1) := by decide +kernel
theorem dL_law_374 : decode cL_law 374 = .ok (.iconst 1, 1) := by decide +kernel
theorem dL_law_375 : decode cL_law 375 = .ok (.iadd, 1) := by decide +kernel
theorem dL_law_376 : decode cL_law 376 = .ok (.iaload, 1) := by decide +kernel
theorem dL_law_377 : decode cL_law 377 = .ok (.aload_n 0, 1) := by decide +kernel
theorem dL_law_378 : decode cL_law 378 = .ok (.iload_n 3, 1) := by decide +kernel
theorem dL_law_379 : decode cL_law 379 = .ok (.iconst 2, 1) := by decide +kernel
theorem dL_law_380 : decode cL_law 380 = .ok (.iadd, 1) := by decide +kernel
theorem dL_law_381 : decode cL_law 381 = .ok (.iaload, 1) := by decide +kernel
theorem dL_law_382 : decode cL_law 382 = .ok (.aload_n 0, 1) := by decide +kernel
theorem dL_law_383 : decode cL_law 383 = .ok (.iload_n 3, 1) := by decide +kernel
theorem dL_law_384 : decode cL_law 384 = .ok (.iconst 3, 1) := by decide +kernel
theorem dL_law_385 : decode cL_law 385 = .ok (.iadd, 1) := by decide +kernel
theorem dL_law_386 : decode cL_law 386 = .ok (.iaload, 1) := by decide +kernel
theorem dL_law_387 : decode cL_law 387 = .ok (.invokevirtual 63, 3) := by decide +kernel
theorem dL_law_390 : decode cL_law 390 = .ok (.if_icmp .eq 223, 3) := by decide +kernel
theorem dL_law_393 : decode cL_law 393 = .ok (.iconst 0, 1) := by decide +kernel
theorem dL_law_394 : decode cL_law 394 = .ok (.ireturn, 1) := by decide +kernel
theorem dL_law_395 : decode cL_law 395 = .ok (.aload_n 1, 1) := by decide +kernel
theorem dL_law_396 : decode cL_law 396 = .ok (.aload_n 0, 1) := by decide +kernel
theorem dL_law_397 : decode cL_law 397 = .ok (.iload_n 3, 1) := by decide +kernel
theorem dL_law_398 : decode cL_law 398 = .ok (.iconst 1, 1) := by decide +kernel
theorem dL_law_399 : decode cL_law 399 = .ok (.iadd, 1) := by decide +kernel
theorem dL_law_400 : decode cL_law 400 = .ok (.iaload, 1) := by decide +kernel
theorem dL_law_401 : decode cL_law 401 = .ok (.aload_n 0, 1) := by decide +kernel
theorem dL_law_402 : decode cL_law 402 = .ok (.iload_n 3, 1) := by decide +kernel
theorem dL_law_403 : decode cL_law 403 = .ok (.iconst 2, 1) := by decide +kernel
theorem dL_law_404 : decode cL_law 404 = .ok (.iadd, 1) := by decide +kernel
theorem dL_law_405 : decode cL_law 405 = .ok (.iaload, 1) := by decide +kernel
theorem dL_law_406 : decode cL_law 406 = .ok (.aload_n 0, 1) := by decide +kernel
theorem dL_law_407 : decode cL_law 407 = .ok (.iload_n 3, 1) := by decide +kernel
theorem dL_law_408 : decode cL_law 408 = .ok (.iconst 3, 1) := by decide +kernel
theorem dL_law_409 : decode cL_law 409 = .ok (.iadd, 1) := by decide +kernel
theorem dL_law_410 : decode cL_law 410 = .ok (.iaload, 1) := by decide +kernel
theorem dL_law_411 : decode cL_law 411 = .ok (.invokevirtual 64, 3) := by decide +kernel
theorem dL_law_414 : decode cL_law 414 = .ok (.aload_n 2, 1) := by decide +kernel
theorem dL_law_415 : decode cL_law 415 = .ok (.aload_n 0, 1) := by decide +kernel
theorem dL_law_416 : decode cL_law 416 = .ok (.iload_n 3, 1) := by decide +kernel
theorem dL_law_417 : decode cL_law 417 = .ok (.iconst 1, 1) := by decide +kernel
theorem dL_law_418 : decode cL_law 418 = .ok (.iadd, 1) := by decide +kernel
theorem dL_law_419 : decode cL_law 419 = .ok (.iaload, 1) := by decide +kernel
theorem dL_law_420 : decode cL_law 420 = .ok (.aload_n 0, 1) := by decide +kernel
theorem dL_law_421 : decode cL_law 421 = .ok (.iload_n 3, 1) := by decide +kernel
theorem dL_law_422 : decode cL_law 422 = .ok (.iconst 2, 1) := by decide +kernel
theorem dL_law_423 : decode cL_law 423 = .ok (.iadd, 1) := by decide +kernel
theorem dL_law_424 : decode cL_law 424 = .ok (.iaload, 1) := by decide +kernel
theorem dL_law_425 : decode cL_law 425 = .ok (.aload_n 0, 1) := by decide +kernel
theorem dL_law_426 : decode cL_law 426 = .ok (.iload_n 3, 1) := by decide +kernel
theorem dL_law_427 : decode cL_law 427 = .ok (.iconst 3, 1) := by decide +kernel
theorem dL_law_428 : decode cL_law 428 = .ok (.iadd, 1) := by decide +kernel
theorem dL_law_429 : decode cL_law 429 = .ok (.iaload, 1) := by decide +kernel
theorem dL_law_430 : decode cL_law 430 = .ok (.invokevirtual 67, 3) := by decide +kernel
theorem dL_law_433 : decode cL_law 433 = .ok (.if_icmp .eq 180, 3) := by decide +kernel
theorem dL_law_436 : decode cL_law 436 = .ok (.iconst 0, 1) := by decide +kernel
theorem dL_law_437 : decode cL_law 437 = .ok (.ireturn, 1) := by decide +kernel
theorem dL_law_438 : decode cL_law 438 = .ok (.aload_n 1, 1) := by decide +kernel
theorem dL_law_439 : decode cL_law 439 = .ok (.aload_n 0, 1) := by decide +kernel
theorem dL_law_440 : decode cL_law 440 = .ok (.iload_n 3, 1) := by decide +kernel
theorem dL_law_441 : decode cL_law 441 = .ok (.iconst 1, 1) := by decide +kernel
theorem dL_law_442 : decode cL_law 442 = .ok (.iadd, 1) := by decide +kernel
theorem dL_law_443 : decode cL_law 443 = .ok (.iaload, 1) := by decide +kernel
theorem dL_law_444 : decode cL_law 444 = .ok (.aload_n 0, 1) := by decide +kernel
theorem dL_law_445 : decode cL_law 445 = .ok (.iload_n 3, 1) := by decide +kernel
theorem dL_law_446 : decode cL_law 446 = .ok (.iconst 2, 1) := by decide +kernel
theorem dL_law_447 : decode cL_law 447 = .ok (.iadd, 1) := by decide +kernel
theorem dL_law_448 : decode cL_law 448 = .ok (.iaload, 1) := by decide +kernel
theorem dL_law_449 : decode cL_law 449 = .ok (.aload_n 0, 1) := by decide +kernel
theorem dL_law_450 : decode cL_law 450 = .ok (.iload_n 3, 1) := by decide +kernel
theorem dL_law_451 : decode cL_law 451 = .ok (.iconst 3, 1) := by decide +kernel
theorem dL_law_452 : decode cL_law 452 = .ok (.iadd, 1) := by decide +kernel
theorem dL_law_453 : decode cL_law 453 = .ok (.iaload, 1) := by decide +kernel
theorem dL_law_454 : decode cL_law 454 = .ok (.invokevirtual 68, 3) := by decide +kernel
theorem dL_law_457 : decode cL_law 457 = .ok (.aload_n 2, 1) := by decide +kernel
theorem dL_law_458 : decode cL_law 458 = .ok (.aload_n 0, 1) := by decide +kernel
theorem dL_law_459 : decode cL_law 459 = .ok (.iload_n 3, 1) := by decide +kernel
theorem dL_law_460 : decode cL_law 460 = .ok (.iconst 1, 1) := by decide +kernel
theorem dL_law_461 : decode cL_law 461 = .ok (.iadd, 1) := by decide +kernel
theorem dL_law_462 : decode cL_law 462 = .ok (.iaload, 1) := by decide +kernel
theorem dL_law_463 : decode cL_law 463 = .ok (.aload_n 0, 1) := by decide +kernel
theorem dL_law_464 : decode cL_law 464 = .ok (.iload_n 3, 1) := by decide +kernel
theorem dL_law_465 : decode cL_law 465 = .ok (.iconst 2, 1) := by decide +kernel
theorem dL_law_466 : decode cL_law 466 = .ok (.iadd, 1) := by decide +kernel
theorem dL_law_467 : decode cL_law 467 = .ok (.iaload, 1) := by decide +kernel
theorem dL_law_468 : decode cL_law 468 = .ok (.aload_n 0, 1) := by decide +kernel
theorem dL_law_469 : decode cL_law 469 = .ok (.iload_n 3, 1) := by decide +kernel
theorem dL_law_470 : decode cL_law 470 = .ok (.iconst 3, 1) := by decide +kernel
theorem dL_law_471 : decode cL_law 471 = .ok (.iadd, 1) := by decide +kernel
theorem dL_law_472 : decode cL_law 472 = .ok (.iaload, 1) := by decide +kernel
theorem dL_law_473 : decode cL_law 473 = .ok (.invokevirtual 71, 3) := by decide +kernel
theorem dL_law_476 : decode cL_law 476 = .ok (.if_icmp .eq 137, 3) := by decide +kernel
theorem dL_law_479 : decode cL_law 479 = .ok (.iconst 0, 1) := by decide +kernel
theorem dL_law_480 : decode cL_law 480 = .ok (.ireturn, 1) := by decide +kernel
theorem dL_law_481 : decode cL_law 481 = .ok (.aload_n 1, 1) := by decide +kernel
theorem dL_law_482 : decode cL_law 482 = .ok (.aload_n 0, 1) := by decide +kernel
theorem dL_law_483 : decode cL_law 483 = .ok (.iload_n 3, 1) := by decide +kernel
theorem dL_law_484 : decode cL_law 484 = .ok (.iconst 1, 1) := by decide +kernel
theorem dL_law_485 : decode cL_law 485 = .ok (.iadd, 1) := by decide +kernel
theorem dL_law_486 : decode cL_law 486 = .ok (.iaload, 1) := by decide +kernel
theorem dL_law_487 : decode cL_law 487 = .ok (.aload_n 0, 1) := by decide +kernel
theorem dL_law_488 : decode cL_law 488 = .ok (.iload_n 3, 1) := by decide +kernel
theorem dL_law_489 : decode cL_law 489 = .ok (.iconst 2, 1) := by decide +kernel
theorem dL_law_490 : decode cL_law 490 = .ok (.iadd, 1) := by decide +kernel
theorem dL_law_491 : decode cL_law 491 = .ok (.iaload, 1) := by decide +kernel
theorem dL_law_492 : decode cL_law 492 = .ok (.aload_n 0, 1) := by decide +kernel
theorem dL_law_493 : decode cL_law 493 = .ok (.iload_n 3, 1) := by decide +kernel
theorem dL_law_494 : decode cL_law 494 = .ok (.iconst 3, 1) := by decide +kernel
theorem dL_law_495 : decode cL_law 495 = .ok (.iadd, 1) := by decide +kernel
theorem dL_law_496 : decode cL_law 496 = .ok (.iaload, 1) := by decide +kernel
theorem dL_law_497 : decode cL_law 497 = .ok (.invokevirtual 72, 3) := by decide +kernel
theorem dL_law_500 : decode cL_law 500 = .ok (.aload_n 2, 1) := by decide +kernel
theorem dL_law_501 : decode cL_law 501 = .ok (.aload_n 0, 1) := by decide +kernel
theorem dL_law_502 : decode cL_law 502 = .ok (.iload_n 3, 1) := by decide +kernel
theorem dL_law_503 : decode cL_law 503 = .ok (.iconst 1, 1) := by decide +kernel
theorem dL_law_504 : decode cL_law 504 = .ok (.iadd, 1) := by decide +kernel
theorem dL_law_505 : decode cL_law 505 = .ok (.iaload, 1) := by decide +kernel
theorem dL_law_506 : decode cL_law 506 = .ok (.aload_n 0, 1) := by decide +kernel
theorem dL_law_507 : decode cL_law 507 = .ok (.iload_n 3, 1) := by decide +kernel
theorem dL_law_508 : decode cL_law 508 = .ok (.iconst 2, 1) := by decide +kernel
theorem dL_law_509 : decode cL_law 509 = .ok (.iadd, 1) := by decide +kernel
theorem dL_law_510 : decode cL_law 510 = .ok (.iaload, 1) := by decide +kernel
theorem dL_law_511 : decode cL_law 511 = .ok (.aload_n 0, 1) := by decide +kernel
theorem dL_law_512 : decode cL_law 512 = .ok (.iload_n 3, 1) := by decide +kernel
theorem dL_law_513 : decode cL_law 513 = .ok (.iconst 3, 1) := by decide +kernel
theorem dL_law_514 : decode cL_law 514 = .ok (.iadd, 1) := by decide +kernel
theorem dL_law_515 : decode cL_law 515 = .ok (.iaload, 1) := by decide +kernel
theorem dL_law_516 : decode cL_law 516 = .ok (.invokevirtual 75, 3) := by decide +kernel
theorem dL_law_519 : decode cL_law 519 = .ok (.if_icmp .eq 94, 3) := by decide +kernel
theorem dL_law_522 : decode cL_law 522 = .ok (.iconst 0, 1) := by decide +kernel
theorem dL_law_523 : decode cL_law 523 = .ok (.ireturn, 1) := by decide +kernel
theorem dL_law_524 : decode cL_law 524 = .ok (.aload_n 1, 1) := by decide +kernel
theorem dL_law_525 : decode cL_law 525 = .ok (.aload_n 0, 1) := by decide +kernel
theorem dL_law_526 : decode cL_law 526 = .ok (.iload_n 3, 1) := by decide +kernel
theorem dL_law_527 : decode cL_law 527 = .ok (.iconst 1, 1) := by decide +kernel
theorem dL_law_528 : decode cL_law 528 = .ok (.iadd, 1) := by decide +kernel
theorem dL_law_529 : decode cL_law 529 = .ok (.iaload, 1) := by decide +kernel
theorem dL_law_530 : decode cL_law 530 = .ok (.aload_n 0, 1) := by decide +kernel
theorem dL_law_531 : decode cL_law 531 = .ok (.iload_n 3, 1) := by decide +kernel
theorem dL_law_532 : decode cL_law 532 = .ok (.iconst 2, 1) := by decide +kernel
theorem dL_law_533 : decode cL_law 533 = .ok (.iadd, 1) := by decide +kernel
theorem dL_law_534 : decode cL_law 534 = .ok (.iaload, 1) := by decide +kernel
theorem dL_law_535 : decode cL_law 535 = .ok (.invokevirtual 76, 3) := by decide +kernel
theorem dL_law_538 : decode cL_law 538 = .ok (.aload_n 2, 1) := by decide +kernel
theorem dL_law_539 : decode cL_law 539 = .ok (.aload_n 0, 1) := by decide +kernel
theorem dL_law_540 : decode cL_law 540 = .ok (.iload_n 3, 1) := by decide +kernel
theorem dL_law_541 : decode cL_law 541 = .ok (.iconst 1, 1) := by decide +kernel
theorem dL_law_542 : decode cL_law 542 = .ok (.iadd, 1) := by decide +kernel
theorem dL_law_543 : decode cL_law 543 = .ok (.iaload, 1) := by decide +kernel
theorem dL_law_544 : decode cL_law 544 = .ok (.aload_n 0, 1) := by decide +kernel
theorem dL_law_545 : decode cL_law 545 = .ok (.iload_n 3, 1) := by decide +kernel
theorem dL_law_546 : decode cL_law 546 = .ok (.iconst 2, 1) := by decide +kernel
theorem dL_law_547 : decode cL_law 547 = .ok (.iadd, 1) := by decide +kernel
theorem dL_law_548 : decode cL_law 548 = .ok (.iaload, 1) := by decide +kernel
theorem dL_law_549 : decode cL_law 549 = .ok (.invokevirtual 79, 3) := by decide +kernel
theorem dL_law_552 : decode cL_law 552 = .ok (.if_icmp .eq 61, 3) := by decide +kernel
theorem dL_law_555 : decode cL_law 555 = .ok (.iconst 0, 1) := by decide +kernel
theorem dL_law_556 : decode cL_law 556 = .ok (.ireturn, 1) := by decide +kernel
theorem dL_law_557 : decode cL_law 557 = .ok (.aload_n 1, 1) := by decide +kernel
theorem dL_law_558 : decode cL_law 558 = .ok (.aload_n 0, 1) := by decide +kernel
theorem dL_law_559 : decode cL_law 559 = .ok (.iload_n 3, 1) := by decide +kernel
theorem dL_law_560 : decode cL_law 560 = .ok (.iconst 1, 1) := by decide +kernel
theorem dL_law_561 : decode cL_law 561 = .ok (.iadd, 1) := by decide +kernel
theorem dL_law_562 : decode cL_law 562 = .ok (.iaload, 1) := by decide +kernel
theorem dL_law_563 : decode cL_law 563 = .ok (.invokevirtual 80, 3) := by decide +kernel
theorem dL_law_566 : decode cL_law 566 = .ok (.aload_n 2, 1) := by decide +kernel
theorem dL_law_567 : decode cL_law 567 = .ok (.aload_n 0, 1) := by decide +kernel
theorem dL_law_568 : decode cL_law 568 = .ok (.iload_n 3, 1) := by decide +kernel
theorem dL_law_569 : decode cL_law 569 = .ok (.iconst 1, 1) := by decide +kernel
theorem dL_law_570 : decode cL_law 570 = .ok (.iadd, 1) := by decide +kernel
theorem dL_law_571 : decode cL_law 571 = .ok (.iaload, 1) := by decide +kernel
theorem dL_law_572 : decode cL_law 572 = .ok (.invokevirtual 83, 3) := by decide +kernel
theorem dL_law_575 : decode cL_law 575 = .ok (.if_icmp .eq 38, 3) := by decide +kernel
theorem dL_law_578 : decode cL_law 578 = .ok (.iconst 0, 1) := by decide +kernel
theorem dL_law_579 : decode cL_law 579 = .ok (.ireturn, 1) := by decide +kernel
theorem dL_law_580 : decode cL_law 580 = .ok (.aload_n 1, 1) := by decide +kernel
theorem dL_law_581 : decode cL_law 581 = .ok (.aload_n 0, 1) := by decide +kernel
theorem dL_law_582 : decode cL_law 582 = .ok (.iload_n 3, 1) := by decide +kernel
theorem dL_law_583 : decode cL_law 583 = .ok (.iconst 1, 1) := by decide +kernel
theorem dL_law_584 : decode cL_law 584 = .ok (.iadd, 1) := by decide +kernel
theorem dL_law_585 : decode cL_law 585 = .ok (.iaload, 1) := by decide +kernel
theorem dL_law_586 : decode cL_law 586 = .ok (.aload_n 0, 1) := by decide +kernel
theorem dL_law_587 : decode cL_law 587 = .ok (.iload_n 3, 1) := by decide +kernel
theorem dL_law_588 : decode cL_law 588 = .ok (.iconst 2, 1) := by decide +kernel
theorem dL_law_589 : decode cL_law 589 = .ok (.iadd, 1) := by decide +kernel
theorem dL_law_590 : decode cL_law 590 = .ok (.iaload, 1) := by decide +kernel
theorem dL_law_591 : decode cL_law 591 = .ok (.invokevirtual 84, 3) := by decide +kernel
theorem dL_law_594 : decode cL_law 594 = .ok (.aload_n 2, 1) := by decide +kernel
theorem dL_law_595 : decode cL_law 595 = .ok (.aload_n 0, 1) := by decide +kernel
theorem dL_law_596 : decode cL_law 596 = .ok (.iload_n 3, 1) := by decide +kernel
theorem dL_law_597 : decode cL_law 597 = .ok (.iconst 1, 1) := by decide +kernel
theorem dL_law_598 : decode cL_law 598 = .ok (.iadd, 1) := by decide +kernel
theorem dL_law_599 : decode cL_law 599 = .ok (.iaload, 1) := by decide +kernel
theorem dL_law_600 : decode cL_law 600 = .ok (.aload_n 0, 1) := by decide +kernel
theorem dL_law_601 : decode cL_law 601 = .ok (.iload_n 3, 1) := by decide +kernel
theorem dL_law_602 : decode cL_law 602 = .ok (.iconst 2, 1) := by decide +kernel
theorem dL_law_603 : decode cL_law 603 = .ok (.iadd, 1) := by decide +kernel
theorem dL_law_604 : decode cL_law 604 = .ok (.iaload, 1) := by decide +kernel
theorem dL_law_605 : decode cL_law 605 = .ok (.invokevirtual 87, 3) := by decide +kernel
theorem dL_law_608 : decode cL_law 608 = .ok (.if_icmp .eq 5, 3) := by decide +kernel
theorem dL_law_611 : decode cL_law 611 = .ok (.iconst 0, 1) := by decide +kernel
theorem dL_law_612 : decode cL_law 612 = .ok (.ireturn, 1) := by decide +kernel
theorem dL_law_613 : decode cL_law 613 = .ok (.iinc 3 4, 3) := by decide +kernel
theorem dL_law_616 : decode cL_law 616 = .ok (.goto (-578), 3) := by decide +kernel
theorem dL_law_619 : decode cL_law 619 = .ok (.iconst 1, 1) := by decide +kernel
theorem dL_law_620 : decode cL_law 620 = .ok (.ireturn, 1) := by decide +kernel
abbrev vwCl : List vw_C := [(RX1, TX1, 12), (RX2, TX2, 5), (RX3, TX3, 11)]
