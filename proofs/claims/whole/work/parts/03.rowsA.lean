theorem dX0_init_0 : decode cX0_init 0 = .ok (.aload_n 0, 1) := by decide +kernel
theorem dX0_init_1 : decode cX0_init 1 = .ok (.invokespecial 3, 3) := by decide +kernel
theorem dX0_init_4 : decode cX0_init 4 = .ok (.aload_n 0, 1) := by decide +kernel
theorem dX0_init_5 : decode cX0_init 5 = .ok (.lconst 0, 1) := by decide +kernel
theorem dX0_init_6 : decode cX0_init 6 = .ok (.putfield 9, 3) := by decide +kernel
theorem dX0_init_9 : decode cX0_init 9 = .ok (.aload_n 0, 1) := by decide +kernel
theorem dX0_init_10 : decode cX0_init 10 = .ok (.lconst 1, 1) := by decide +kernel
theorem dX0_init_11 : decode cX0_init 11 = .ok (.putfield 15, 3) := by decide +kernel
theorem dX0_init_14 : decode cX0_init 14 = .ok (.aload_n 0, 1) := by decide +kernel
theorem dX0_init_15 : decode cX0_init 15 = .ok (.bipush 13, 2) := by decide +kernel
theorem dX0_init_17 : decode cX0_init 17 = .ok (.newarray .long, 2) := by decide +kernel
theorem dX0_init_19 : decode cX0_init 19 = .ok (.putfield 18, 3) := by decide +kernel
theorem dX0_init_22 : decode cX0_init 22 = .ok (.return_, 1) := by decide +kernel
set_option maxRecDepth 20000 in
theorem ggX0_giveToTheEnd_X0_setLowest : GoodIn wsX0_giveToTheEnd wsX0_setLowest := goodIn_r _ [17, 18, 19, 20, 21, 16, 22, 40, 41, 42] (by decide +kernel) (by decide +kernel)
set_option maxRecDepth 20000 in
theorem gX0_giveToTheEnd_X0_setLowest : GoodIn wsX0_giveToTheEnd (wsV RX0 51 RX0 yX0_setLowest wsX0_setLowest) := goodIn_app (goodIn_of _ (by decide +kernel)) ggX0_giveToTheEnd_X0_setLowest
theorem dX0_giveToTheEnd_0 : decode cX0_giveToTheEnd 0 = .ok (.bipush 12, 2) := by decide +kernel
theorem dX0_giveToTheEnd_2 : decode cX0_giveToTheEnd 2 = .ok (.aload_n 1, 1) := by decide +kernel
theorem dX0_giveToTheEnd_3 : decode cX0_giveToTheEnd 3 = .ok (.getfield 22, 3) := by decide +kernel
theorem dX0_giveToTheEnd_6 : decode cX0_giveToTheEnd 6 = .ok (.iload_n 2, 1) := by decide +kernel
theorem dX0_giveToTheEnd_7 : decode cX0_giveToTheEnd 7 = .ok (.iaload, 1) := by decide +kernel
theorem dX0_giveToTheEnd_8 : decode cX0_giveToTheEnd 8 = .ok (.aload_n 1, 1) := by decide +kernel
theorem dX0_giveToTheEnd_9 : decode cX0_giveToTheEnd 9 = .ok (.getfield 28, 3) := by decide +kernel
theorem dX0_giveToTheEnd_12 : decode cX0_giveToTheEnd 12 = .ok (.iload_n 2, 1) := by decide +kernel
theorem dX0_giveToTheEnd_13 : decode cX0_giveToTheEnd 13 = .ok (.iaload, 1) := by decide +kernel
theorem dX0_giveToTheEnd_14 : decode cX0_giveToTheEnd 14 = .ok (.isub, 1) := by decide +kernel
theorem dX0_giveToTheEnd_15 : decode cX0_giveToTheEnd 15 = .ok (.invokestatic 31, 3) := by decide +kernel
theorem dX0_giveToTheEnd_18 : decode cX0_giveToTheEnd 18 = .ok (.istore 4, 2) := by decide +kernel
theorem dX0_giveToTheEnd_20 : decode cX0_giveToTheEnd 20 = .ok (.aload_n 1, 1) := by decide +kernel
theorem dX0_giveToTheEnd_21 : decode cX0_giveToTheEnd 21 = .ok (.getfield 37, 3) := by decide +kernel
theorem dX0_giveToTheEnd_24 : decode cX0_giveToTheEnd 24 = .ok (.aload_n 1, 1) := by decide +kernel
theorem dX0_giveToTheEnd_25 : decode cX0_giveToTheEnd 25 = .ok (.getfield 40, 3) := by decide +kernel
theorem dX0_giveToTheEnd_28 : decode cX0_giveToTheEnd 28 = .ok (.iload_n 2, 1) := by decide +kernel
theorem dX0_giveToTheEnd_29 : decode cX0_giveToTheEnd 29 = .ok (.iaload, 1) := by decide +kernel
theorem dX0_giveToTheEnd_30 : decode cX0_giveToTheEnd 30 = .ok (.iaload, 1) := by decide +kernel
theorem dX0_giveToTheEnd_31 : decode cX0_giveToTheEnd 31 = .ok (.istore 5, 2) := by decide +kernel
theorem dX0_giveToTheEnd_33 : decode cX0_giveToTheEnd 33 = .ok (.aload_n 1, 1) := by decide +kernel
theorem dX0_giveToTheEnd_34 : decode cX0_giveToTheEnd 34 = .ok (.getfield 43, 3) := by decide +kernel
theorem dX0_giveToTheEnd_37 : decode cX0_giveToTheEnd 37 = .ok (.aload_n 1, 1) := by decide +kernel
theorem dX0_giveToTheEnd_38 : decode cX0_giveToTheEnd 38 = .ok (.getfield 40, 3) := by decide +kernel
theorem dX0_giveToTheEnd_41 : decode cX0_giveToTheEnd 41 = .ok (.iload_n 2, 1) := by decide +kernel
theorem dX0_giveToTheEnd_42 : decode cX0_giveToTheEnd 42 = .ok (.iaload, 1) := by decide +kernel
theorem dX0_giveToTheEnd_43 : decode cX0_giveToTheEnd 43 = .ok (.iaload, 1) := by decide +kernel
theorem dX0_giveToTheEnd_44 : decode cX0_giveToTheEnd 44 = .ok (.istore 6, 2) := by decide +kernel
theorem dX0_giveToTheEnd_46 : decode cX0_giveToTheEnd 46 = .ok (.aload_n 0, 1) := by decide +kernel
theorem dX0_giveToTheEnd_47 : decode cX0_giveToTheEnd 47 = .ok (.getfield 18, 3) := by decide +kernel
theorem dX0_giveToTheEnd_50 : decode cX0_giveToTheEnd 50 = .ok (.iconst 0, 1) := by decide +kernel
theorem dX0_giveToTheEnd_51 : decode cX0_giveToTheEnd 51 = .ok (.lconst 1, 1) := by decide +kernel
theorem dX0_giveToTheEnd_52 : decode cX0_giveToTheEnd 52 = .ok (.lastore, 1) := by decide +kernel
theorem dX0_giveToTheEnd_53 : decode cX0_giveToTheEnd 53 = .ok (.lconst 1, 1) := by decide +kernel
theorem dX0_giveToTheEnd_54 : decode cX0_giveToTheEnd 54 = .ok (.lstore 7, 2) := by decide +kernel
theorem dX0_giveToTheEnd_56 : decode cX0_giveToTheEnd 56 = .ok (.iconst 1, 1) := by decide +kernel
theorem dX0_giveToTheEnd_57 : decode cX0_giveToTheEnd 57 = .ok (.istore 9, 2) := by decide +kernel
theorem dX0_giveToTheEnd_59 : decode cX0_giveToTheEnd 59 = .ok (.iload 9, 2) := by decide +kernel
theorem dX0_giveToTheEnd_61 : decode cX0_giveToTheEnd 61 = .ok (.iload 4, 2) := by decide +kernel
theorem dX0_giveToTheEnd_63 : decode cX0_giveToTheEnd 63 = .ok (.if_icmp .gt 122, 3) := by decide +kernel
theorem dX0_giveToTheEnd_66 : decode cX0_giveToTheEnd 66 = .ok (.aload_n 0, 1) := by decide +kernel
theorem dX0_giveToTheEnd_67 : decode cX0_giveToTheEnd 67 = .ok (.getfield 18, 3) := by decide +kernel
theorem dX0_giveToTheEnd_70 : decode cX0_giveToTheEnd 70 = .ok (.iload 9, 2) := by decide +kernel
theorem dX0_giveToTheEnd_72 : decode cX0_giveToTheEnd 72 = .ok (.lconst 0, 1) := by decide +kernel
theorem dX0_giveToTheEnd_73 : decode cX0_giveToTheEnd 73 = .ok (.lastore, 1) := by decide +kernel
theorem dX0_giveToTheEnd_74 : decode cX0_giveToTheEnd 74 = .ok (.iload 9, 2) := by decide +kernel
theorem dX0_giveToTheEnd_76 : decode cX0_giveToTheEnd 76 = .ok (.istore 10, 2) := by decide +kernel
theorem dX0_giveToTheEnd_78 : decode cX0_giveToTheEnd 78 = .ok (.iload 10, 2) := by decide +kernel
theorem dX0_giveToTheEnd_80 : decode cX0_giveToTheEnd 80 = .ok (.ifCond .lt 91, 3) := by decide +kernel
theorem dX0_giveToTheEnd_83 : decode cX0_giveToTheEnd 83 = .ok (.iload 10, 2) := by decide +kernel
theorem dX0_giveToTheEnd_85 : decode cX0_giveToTheEnd 85 = .ok (.ifCond .le 18, 3) := by decide +kernel
theorem dX0_giveToTheEnd_88 : decode cX0_giveToTheEnd 88 = .ok (.aload_n 0, 1) := by decide +kernel
theorem dX0_giveToTheEnd_89 : decode cX0_giveToTheEnd 89 = .ok (.getfield 18, 3) := by decide +kernel
theorem dX0_giveToTheEnd_92 : decode cX0_giveToTheEnd 92 = .ok (.iload 10, 2) := by decide +kernel
theorem dX0_giveToTheEnd_94 : decode cX0_giveToTheEnd 94 = .ok (.iconst 1, 1) := by decide +kernel
theorem dX0_giveToTheEnd_95 : decode cX0_giveToTheEnd 95 = .ok (.isub, 1) := by decide +kernel
theorem dX0_giveToTheEnd_96 : decode cX0_giveToTheEnd 96 = .ok (.laload, 1) := by decide +kernel
theorem dX0_giveToTheEnd_97 : decode cX0_giveToTheEnd 97 = .ok (.iload_n 3, 1) := by decide +kernel
theorem dX0_giveToTheEnd_98 : decode cX0_giveToTheEnd 98 = .ok (.i2l, 1) := by decide +kernel
theorem dX0_giveToTheEnd_99 : decode cX0_giveToTheEnd 99 = .ok (.lmul, 1) := by decide +kernel
theorem dX0_giveToTheEnd_100 : decode cX0_giveToTheEnd 100 = .ok (.goto 4, 3) := by decide +kernel
theorem dX0_giveToTheEnd_103 : decode cX0_giveToTheEnd 103 = .ok (.lconst 0, 1) := by decide +kernel
theorem dX0_giveToTheEnd_104 : decode cX0_giveToTheEnd 104 = .ok (.lstore 11, 2) := by decide +kernel
theorem dX0_giveToTheEnd_106 : decode cX0_giveToTheEnd 106 = .ok (.iload 5, 2) := by decide +kernel
theorem dX0_giveToTheEnd_108 : decode cX0_giveToTheEnd 108 = .ok (.iload 10, 2) := by decide +kernel
theorem dX0_giveToTheEnd_110 : decode cX0_giveToTheEnd 110 = .ok (.iload 6, 2) := by decide +kernel
theorem dX0_giveToTheEnd_112 : decode cX0_giveToTheEnd 112 = .ok (.imul, 1) := by decide +kernel
theorem dX0_giveToTheEnd_113 : decode cX0_giveToTheEnd 113 = .ok (.iadd, 1) := by decide +kernel
theorem dX0_giveToTheEnd_114 : decode cX0_giveToTheEnd 114 = .ok (.iload 9, 2) := by decide +kernel
theorem dX0_giveToTheEnd_116 : decode cX0_giveToTheEnd 116 = .ok (.aload_n 1, 1) := by decide +kernel
theorem dX0_giveToTheEnd_117 : decode cX0_giveToTheEnd 117 = .ok (.getfield 46, 3) := by decide +kernel
theorem dX0_giveToTheEnd_120 : decode cX0_giveToTheEnd 120 = .ok (.iload_n 2, 1) := by decide +kernel
theorem dX0_giveToTheEnd_121 : decode cX0_giveToTheEnd 121 = .ok (.iaload, 1) := by decide +kernel
theorem dX0_giveToTheEnd_122 : decode cX0_giveToTheEnd 122 = .ok (.imul, 1) := by decide +kernel
theorem dX0_giveToTheEnd_123 : decode cX0_giveToTheEnd 123 = .ok (.if_icmp .lt 7, 3) := by decide +kernel
theorem dX0_giveToTheEnd_126 : decode cX0_giveToTheEnd 126 = .ok (.iconst 1, 1) := by decide +kernel
theorem dX0_giveToTheEnd_127 : decode cX0_giveToTheEnd 127 = .ok (.goto 4, 3) := by decide +kernel
theorem dX0_giveToTheEnd_130 : decode cX0_giveToTheEnd 130 = .ok (.iconst 0, 1) := by decide +kernel
theorem dX0_giveToTheEnd_131 : decode cX0_giveToTheEnd 131 = .ok (.istore 13, 2) := by decide +kernel
theorem dX0_giveToTheEnd_133 : decode cX0_giveToTheEnd 133 = .ok (.aload_n 0, 1) := by decide +kernel
theorem dX0_giveToTheEnd_134 : decode cX0_giveToTheEnd 134 = .ok (.getfield 18, 3) := by decide +kernel
theorem dX0_giveToTheEnd_137 : decode cX0_giveToTheEnd 137 = .ok (.iload 10, 2) := by decide +kernel
theorem dX0_giveToTheEnd_139 : decode cX0_giveToTheEnd 139 = .ok (.iload 13, 2) := by decide +kernel
theorem dX0_giveToTheEnd_141 : decode cX0_giveToTheEnd 141 = .ok (.ifCond .eq 22, 3) := by decide +kernel
theorem dX0_giveToTheEnd_144 : decode cX0_giveToTheEnd 144 = .ok (.aload_n 0, 1) := by decide +kernel
theorem dX0_giveToTheEnd_145 : decode cX0_giveToTheEnd 145 = .ok (.getfield 18, 3) := by decide +kernel
theorem dX0_giveToTheEnd_148 : decode cX0_giveToTheEnd 148 = .ok (.iload 10, 2) := by decide +kernel
theorem dX0_giveToTheEnd_150 : decode cX0_giveToTheEnd 150 = .ok (.laload, 1) := by decide +kernel
theorem dX0_giveToTheEnd_151 : decode cX0_giveToTheEnd 151 = .ok (.bipush 10, 2) := by decide +kernel
theorem dX0_giveToTheEnd_153 : decode cX0_giveToTheEnd 153 = .ok (.iload_n 3, 1) := by decide +kernel
theorem dX0_giveToTheEnd_154 : decode cX0_giveToTheEnd 154 = .ok (.isub, 1) := by decide +kernel
theorem dX0_giveToTheEnd_155 : decode cX0_giveToTheEnd 155 = .ok (.i2l, 1) := by decide +kernel
theorem dX0_giveToTheEnd_156 : decode cX0_giveToTheEnd 156 = .ok (.lmul, 1) := by decide +kernel
theorem dX0_giveToTheEnd_157 : decode cX0_giveToTheEnd 157 = .ok (.lload 11, 2) := by decide +kernel
theorem dX0_giveToTheEnd_159 : decode cX0_giveToTheEnd 159 = .ok (.ladd, 1) := by decide +kernel
theorem dX0_giveToTheEnd_160 : decode cX0_giveToTheEnd 160 = .ok (.goto 4, 3) := by decide +kernel
theorem dX0_giveToTheEnd_163 : decode cX0_giveToTheEnd 163 = .ok (.lconst 0, 1) := by decide +kernel
theorem dX0_giveToTheEnd_164 : decode cX0_giveToTheEnd 164 = .ok (.lastore, 1) := by decide +kernel
theorem dX0_giveToTheEnd_165 : decode cX0_giveToTheEnd 165 = .ok (.iinc 10 (-1), 3) := by decide +kernel
theorem dX0_giveToTheEnd_168 : decode cX0_giveToTheEnd 168 = .ok (.goto (-90), 3) := by decide +kernel
theorem dX0_giveToTheEnd_171 : decode cX0_giveToTheEnd 171 = .ok (.lload 7, 2) := by decide +kernel
theorem dX0_giveToTheEnd_173 : decode cX0_giveToTheEnd 173 = .ok (.ldc2_w 49, 3) := by decide +kernel
theorem dX0_giveToTheEnd_176 : decode cX0_giveToTheEnd 176 = .ok (.lmul, 1) := by decide +kernel
theorem dX0_giveToTheEnd_177 : decode cX0_giveToTheEnd 177 = .ok (.lstore 7, 2) := by decide +kernel
theorem dX0_giveToTheEnd_179 : decode cX0_giveToTheEnd 179 = .ok (.iinc 9 1, 3) := by decide +kernel
theorem dX0_giveToTheEnd_182 : decode cX0_giveToTheEnd 182 = .ok (.goto (-123), 3) := by decide +kernel
theorem dX0_giveToTheEnd_185 : decode cX0_giveToTheEnd 185 = .ok (.lconst 0, 1) := by decide +kernel
theorem dX0_giveToTheEnd_186 : decode cX0_giveToTheEnd 186 = .ok (.lstore 9, 2) := by decide +kernel
theorem dX0_giveToTheEnd_188 : decode cX0_giveToTheEnd 188 = .ok (.iconst 0, 1) := by decide +kernel
theorem dX0_giveToTheEnd_189 : decode cX0_giveToTheEnd 189 = .ok (.istore 11, 2) := by decide +kernel
theorem dX0_giveToTheEnd_191 : decode cX0_giveToTheEnd 191 = .ok (.iload 11, 2) := by decide +kernel
theorem dX0_giveToTheEnd_193 : decode cX0_giveToTheEnd 193 = .ok (.iload 4, 2) := by decide +kernel
theorem dX0_giveToTheEnd_195 : decode cX0_giveToTheEnd 195 = .ok (.if_icmp .gt 21, 3) := by decide +kernel
theorem dX0_giveToTheEnd_198 : decode cX0_giveToTheEnd 198 = .ok (.lload 9, 2) := by decide +kernel
theorem dX0_giveToTheEnd_200 : decode cX0_giveToTheEnd 200 = .ok (.aload_n 0, 1) := by decide +kernel
theorem dX0_giveToTheEnd_201 : decode cX0_giveToTheEnd 201 = .ok (.getfield 18, 3) := by decide +kernel
theorem dX0_giveToTheEnd_204 : decode cX0_giveToTheEnd 204 = .ok (.iload 11, 2) := by decide +kernel
theorem dX0_giveToTheEnd_206 : decode cX0_giveToTheEnd 206 = .ok (.laload, 1) := by decide +kernel
theorem dX0_giveToTheEnd_207 : decode cX0_giveToTheEnd 207 = .ok (.ladd, 1) := by decide +kernel
theorem dX0_giveToTheEnd_208 : decode cX0_giveToTheEnd 208 = .ok (.lstore 9, 2) := by decide +kernel
theorem dX0_giveToTheEnd_210 : decode cX0_giveToTheEnd 210 = .ok (.iinc 11 1, 3) := by decide +kernel
theorem dX0_giveToTheEnd_213 : decode cX0_giveToTheEnd 213 = .ok (.goto (-22), 3) := by decide +kernel
theorem dX0_giveToTheEnd_216 : decode cX0_giveToTheEnd 216 = .ok (.aload_n 0, 1) := by decide +kernel
theorem dX0_giveToTheEnd_217 : decode cX0_giveToTheEnd 217 = .ok (.lload 9, 2) := by decide +kernel
theorem dX0_giveToTheEnd_219 : decode cX0_giveToTheEnd 219 = .ok (.lload 7, 2) := by decide +kernel
theorem dX0_giveToTheEnd_221 : decode cX0_giveToTheEnd 221 = .ok (.invokevirtual 51, 3) := by decide +kernel
theorem dX0_giveToTheEnd_224 : decode cX0_giveToTheEnd 224 = .ok (.return_, 1) := by decide +kernel
set_option maxRecDepth 20000 in
theorem ggX0_setLowest_X0_commonDivisor : GoodIn wsX0_setLowest wsX0_commonDivisor := goodIn_r _ [6] (by decide +kernel) (by decide +kernel)
set_option maxRecDepth 20000 in
theorem gX0_setLowest_X0_commonDivisor : GoodIn wsX0_setLowest (va_wsS RX0 55 yX0_commonDivisor wsX0_commonDivisor) := goodIn_app (goodIn_of _ (by decide +kernel)) ggX0_setLowest_X0_commonDivisor
theorem dX0_setLowest_0 : decode cX0_setLowest 0 = .ok (.lload_n 1, 1) := by decide +kernel
theorem dX0_setLowest_1 : decode cX0_setLowest 1 = .ok (.lload_n 3, 1) := by decide +kernel
theorem dX0_setLowest_2 : decode cX0_setLowest 2 = .ok (.invokestatic 55, 3) := by decide +kernel
theorem dX0_setLowest_5 : decode cX0_setLowest 5 = .ok (.lstore 5, 2) := by decide +kernel
theorem dX0_setLowest_7 : decode cX0_setLowest 7 = .ok (.lload 5, 2) := by decide +kernel
theorem dX0_setLowest_9 : decode cX0_setLowest 9 = .ok (.lconst 1, 1) := by decide +kernel
theorem dX0_setLowest_10 : decode cX0_setLowest 10 = .ok (.lcmp, 1) := by decide +kernel
theorem dX0_setLowest_11 : decode cX0_setLowest 11 = .ok (.ifCond .ge 4, 3) := by decide +kernel
theorem dX0_setLowest_14 : decode cX0_setLowest 14 = .ok (.return_, 1) := by decide +kernel
theorem dX0_setLowest_15 : decode cX0_setLowest 15 = .ok (.aload_n 0, 1) := by decide +kernel
theorem dX0_setLowest_16 : decode cX0_setLowest 16 = .ok (.lload_n 1, 1) := by decide +kernel
theorem dX0_setLowest_17 : decode cX0_setLowest 17 = .ok (.lload 5, 2) := by decide +kernel
theorem dX0_setLowest_19 : decode cX0_setLowest 19 = .ok (.ldiv, 1) := by decide +kernel
theorem dX0_setLowest_20 : decode cX0_setLowest 20 = .ok (.putfield 9, 3) := by decide +kernel
theorem dX0_setLowest_23 : decode cX0_setLowest 23 = .ok (.aload_n 0, 1) := by decide +kernel
theorem dX0_setLowest_24 : decode cX0_setLowest 24 = .ok (.lload_n 3, 1) := by decide +kernel
theorem dX0_setLowest_25 : decode cX0_setLowest 25 = .ok (.lload 5, 2) := by decide +kernel
theorem dX0_setLowest_27 : decode cX0_setLowest 27 = .ok (.ldiv, 1) := by decide +kernel
theorem dX0_setLowest_28 : decode cX0_setLowest 28 = .ok (.putfield 15, 3) := by decide +kernel
theorem dX0_setLowest_31 : decode cX0_setLowest 31 = .ok (.return_, 1) := by decide +kernel
theorem dX0_commonDivisor_0 : decode cX0_commonDivisor 0 = .ok (.lload_n 0, 1) := by decide +kernel
theorem dX0_commonDivisor_1 : decode cX0_commonDivisor 1 = .ok (.lstore 4, 2) := by decide +kernel
theorem dX0_commonDivisor_3 : decode cX0_commonDivisor 3 = .ok (.lload_n 2, 1) := by decide +kernel
theorem dX0_commonDivisor_4 : decode cX0_commonDivisor 4 = .ok (.lstore 6, 2) := by decide +kernel
theorem dX0_commonDivisor_6 : decode cX0_commonDivisor 6 = .ok (.iconst 0, 1) := by decide +kernel
theorem dX0_commonDivisor_7 : decode cX0_commonDivisor 7 = .ok (.istore 8, 2) := by decide +kernel
theorem dX0_commonDivisor_9 : decode cX0_commonDivisor 9 = .ok (.iload 8, 2) := by decide +kernel
theorem dX0_commonDivisor_11 : decode cX0_commonDivisor 11 = .ok (.sipush 200, 3) := by decide +kernel
theorem dX0_commonDivisor_14 : decode cX0_commonDivisor 14 = .ok (.if_icmp .ge 31, 3) := by decide +kernel
theorem dX0_commonDivisor_17 : decode cX0_commonDivisor 17 = .ok (.lload 6, 2) := by decide +kernel
theorem dX0_commonDivisor_19 : decode cX0_commonDivisor 19 = .ok (.lconst 0, 1) := by decide +kernel
theorem dX0_commonDivisor_20 : decode cX0_commonDivisor 20 = .ok (.lcmp, 1) := by decide +kernel
theorem dX0_commonDivisor_21 : decode cX0_commonDivisor 21 = .ok (.ifCond .eq 24, 3) := by decide +kernel
theorem dX0_commonDivisor_24 : decode cX0_commonDivisor 24 = .ok (.lload 4, 2) := by decide +kernel
theorem dX0_commonDivisor_26 : decode cX0_commonDivisor 26 = .ok (.lload 6, 2) := by decide +kernel
theorem dX0_commonDivisor_28 : decode cX0_commonDivisor 28 = .ok (.lrem, 1) := by decide +kernel
theorem dX0_commonDivisor_29 : decode cX0_commonDivisor 29 = .ok (.lstore 9, 2) := by decide +kernel
theorem dX0_commonDivisor_31 : decode cX0_commonDivisor 31 = .ok (.lload 6, 2) := by decide +kernel
theorem dX0_commonDivisor_33 : decode cX0_commonDivisor 33 = .ok (.lstore 4, 2) := by decide +kernel
theorem dX0_commonDivisor_35 : decode cX0_commonDivisor 35 = .ok (.lload 9, 2) := by decide +kernel
theorem dX0_commonDivisor_37 : decode cX0_commonDivisor 37 = .ok (.lstore 6, 2) := by decide +kernel
theorem dX0_commonDivisor_39 : decode cX0_commonDivisor 39 = .ok (.iinc 8 1, 3) := by decide +kernel
theorem dX0_commonDivisor_42 : decode cX0_commonDivisor 42 = .ok (.goto (-33), 3) := by decide +kernel
theorem dX0_commonDivisor_45 : decode cX0_commonDivisor 45 = .ok (.lload 4, 2) := by decide +kernel
theorem dX0_commonDivisor_47 : decode cX0_commonDivisor 47 = .ok (.lreturn, 1) := by decide +kernel
set_option maxRecDepth 20000 in
theorem ggX1_init_X5_init : GoodIn wsX1_init wsX5_init := goodIn_r _ [9, 10, 2, 3, 11, 12, 13, 14, 15, 16, 17, 18, 19, 20, 21, 22, 23, 24, 25, 26, 27, 28, 29, 30, 31, 32, 33, 34, 35, 36, 37, 38] (by decide +kernel) (by decide +kernel)
set_option maxRecDepth 20000 in
theorem gX1_init_X5_init_n11 : GoodIn wsX1_init (wsX5_init) := ggX1_init_X5_init
theorem dX1_init_0 : decode cX1_init 0 = .ok (.aload_n 0, 1) := by decide +kernel
theorem dX1_init_1 : decode cX1_init 1 = .ok (.invokespecial 3, 3) := by decide +kernel
theorem dX1_init_4 : decode cX1_init 4 = .ok (.aload_n 0, 1) := by decide +kernel
theorem dX1_init_5 : decode cX1_init 5 = .ok (.new 9, 3) := by decide +kernel
theorem dX1_init_8 : decode cX1_init 8 = .ok (.dup, 1) := by decide +kernel
theorem dX1_init_9 : decode cX1_init 9 = .ok (.invokespecial 11, 3) := by decide +kernel
theorem dX1_init_12 : decode cX1_init 12 = .ok (.putfield 12, 3) := by decide +kernel
theorem dX1_init_15 : decode cX1_init 15 = .ok (.return_, 1) := by decide +kernel
set_option maxRecDepth 20000 in
theorem ggX1_lookAhead_X5_copyFrom : GoodIn wsX1_lookAhead wsX5_copyFrom := goodIn_r _ [6, 7, 8, 9, 10, 11, 12, 13, 14, 15, 16, 17, 18, 19, 20, 21, 22, 23, 24, 25, 26, 27, 69, 70, 71, 72, 73, 74, 75, 76, 77, 78, 79, 80, 81, 82, 83, 84, 85] (by decide +kernel) (by decide +kernel)
set_option maxRecDepth 20000 in
theorem gX1_lookAhead_X5_copyFrom : GoodIn wsX1_lookAhead (wsV RX1 18 RX5 yX5_copyFrom wsX5_copyFrom) := goodIn_app (goodIn_of _ (by decide +kernel)) ggX1_lookAhead_X5_copyFrom
set_option maxRecDepth 20000 in
theorem ggX1_lookAhead_X5_liveMonth : GoodIn wsX1_lookAhead wsX5_liveMonth := goodIn_r _ [31, 11, 12, 24, 9, 32, 33, 34, 35, 36, 37, 5, 38, 20, 39, 40, 41, 42, 43, 44, 45, 46, 14, 19, 47, 48, 49, 50, 51, 52, 53, 54, 21, 22, 55, 7, 25, 23, 56, 57, 58, 59, 10, 60, 61, 62, 63, 64, 65, 66, 67, 8, 69, 70, 71, 72, 73, 74, 75, 76, 77, 78, 79, 80, 81, 82, 83, 84, 85] (by decide +kernel) (by decide +kernel)
set_option maxRecDepth 20000 in
theorem gX1_lookAhead_X5_liveMonth : GoodIn wsX1_lookAhead (wsV RX1 22 RX5 yX5_liveMonth wsX5_liveMonth) := goodIn_app (goodIn_of _ (by decide +kernel)) ggX1_lookAhead_X5_liveMonth
theorem dX1_lookAhead_0 : decode cX1_lookAhead 0 = .ok (.aload_n 0, 1) := by decide +kernel
theorem dX1_lookAhead_1 : decode cX1_lookAhead 1 = .ok (.getfield 12, 3) := by decide +kernel
theorem dX1_lookAhead_4 : decode cX1_lookAhead 4 = .ok (.aload_n 1, 1) := by decide +kernel
theorem dX1_lookAhead_5 : decode cX1_lookAhead 5 = .ok (.invokevirtual 18, 3) := by decide +kernel
theorem dX1_lookAhead_8 : decode cX1_lookAhead 8 = .ok (.iconst 0, 1) := by decide +kernel
theorem dX1_lookAhead_9 : decode cX1_lookAhead 9 = .ok (.istore_n 3, 1) := by decide +kernel
theorem dX1_lookAhead_10 : decode cX1_lookAhead 10 = .ok (.iload_n 3, 1) := by decide +kernel
theorem dX1_lookAhead_11 : decode cX1_lookAhead 11 = .ok (.iload_n 2, 1) := by decide +kernel
theorem dX1_lookAhead_12 : decode cX1_lookAhead 12 = .ok (.if_icmp .ge 17, 3) := by decide +kernel
theorem dX1_lookAhead_15 : decode cX1_lookAhead 15 = .ok (.aload_n 0, 1) := by decide +kernel
theorem dX1_lookAhead_16 : decode cX1_lookAhead 16 = .ok (.getfield 12, 3) := by decide +kernel
theorem dX1_lookAhead_19 : decode cX1_lookAhead 19 = .ok (.iconst 0, 1) := by decide +kernel
theorem dX1_lookAhead_20 : decode cX1_lookAhead 20 = .ok (.invokevirtual 22, 3) := by decide +kernel
theorem dX1_lookAhead_23 : decode cX1_lookAhead 23 = .ok (.iinc 3 1, 3) := by decide +kernel
theorem dX1_lookAhead_26 : decode cX1_lookAhead 26 = .ok (.goto (-16), 3) := by decide +kernel
theorem dX1_lookAhead_29 : decode cX1_lookAhead 29 = .ok (.aload_n 0, 1) := by decide +kernel
theorem dX1_lookAhead_30 : decode cX1_lookAhead 30 = .ok (.getfield 12, 3) := by decide +kernel
theorem dX1_lookAhead_33 : decode cX1_lookAhead 33 = .ok (.areturn, 1) := by decide +kernel
set_option maxRecDepth 20000 in
theorem ggX1_firstLack_X5_copyFrom : GoodIn wsX1_firstLack wsX5_copyFrom := goodIn_r _ [8, 9, 10, 11, 12, 13, 14, 15, 16, 17, 18, 19, 20, 21, 22, 23, 24, 25, 26, 27, 28, 29, 71, 72, 73, 74, 75, 76, 77, 78, 79, 80, 81, 82, 83, 84, 85, 86, 87] (by decide +kernel) (by decide +kernel)
set_option maxRecDepth 20000 in
theorem gX1_firstLack_X5_copyFrom : GoodIn wsX1_firstLack (wsV RX1 18 RX5 yX5_copyFrom wsX5_copyFrom) := goodIn_app (goodIn_of _ (by decide +kernel)) ggX1_firstLack_X5_copyFrom
set_option maxRecDepth 20000 in
theorem ggX1_firstLack_X5_liveMonth : GoodIn wsX1_firstLack wsX5_liveMonth := goodIn_r _ [33, 13, 14, 26, 11, 34, 35, 36, 37, 38, 39, 7, 40, 22, 41, 42, 43, 44, 45, 46, 47, 48, 16, 21, 49, 50, 51, 52, 53, 54, 55, 56, 23, 24, 57, 9, 27, 25, 58, 59, 60, 61, 12, 62, 63, 64, 65, 66, 67, 68, 69, 10, 71, 72, 73, 74, 75, 76, 77, 78, 79, 80, 81, 82, 83, 84, 85, 86, 87] (by decide +kernel) (by decide +kernel)
set_option maxRecDepth 20000 in
theorem gX1_firstLack_X5_liveMonth : GoodIn wsX1_firstLack (wsV RX1 22 RX5 yX5_liveMonth wsX5_liveMonth) := goodIn_app (goodIn_of _ (by decide +kernel)) ggX1_firstLack_X5_liveMonth
theorem dX1_firstLack_0 : decode cX1_firstLack 0 = .ok (.aload_n 0, 1) := by decide +kernel
theorem dX1_firstLack_1 : decode cX1_firstLack 1 = .ok (.getfield 12, 3) := by decide +kernel
theorem dX1_firstLack_4 : decode cX1_firstLack 4 = .ok (.aload_n 1, 1) := by decide +kernel
theorem dX1_firstLack_5 : decode cX1_firstLack 5 = .ok (.invokevirtual 18, 3) := by decide +kernel
theorem dX1_firstLack_8 : decode cX1_firstLack 8 = .ok (.aload_n 0, 1) := by decide +kernel
theorem dX1_firstLack_9 : decode cX1_firstLack 9 = .ok (.getfield 12, 3) := by decide +kernel
theorem dX1_firstLack_12 : decode cX1_firstLack 12 = .ok (.iload_n 2, 1) := by decide +kernel
theorem dX1_firstLack_13 : decode cX1_firstLack 13 = .ok (.putfield 26, 3) := by decide +kernel
theorem dX1_firstLack_16 : decode cX1_firstLack 16 = .ok (.iconst 0, 1) := by decide +kernel
theorem dX1_firstLack_17 : decode cX1_firstLack 17 = .ok (.istore 4, 2) := by decide +kernel
theorem dX1_firstLack_19 : decode cX1_firstLack 19 = .ok (.iload 4, 2) := by decide +kernel
theorem dX1_firstLack_21 : decode cX1_firstLack 21 = .ok (.iload_n 3, 1) := by decide +kernel
theorem dX1_firstLack_22 : decode cX1_firstLack 22 = .ok (.if_icmp .ge 34, 3) := by decide +kernel
theorem dX1_firstLack_25 : decode cX1_firstLack 25 = .ok (.aload_n 0, 1) := by decide +kernel
theorem dX1_firstLack_26 : decode cX1_firstLack 26 = .ok (.getfield 12, 3) := by decide +kernel
theorem dX1_firstLack_29 : decode cX1_firstLack 29 = .ok (.iconst 0, 1) := by decide +kernel
theorem dX1_firstLack_30 : decode cX1_firstLack 30 = .ok (.invokevirtual 22, 3) := by decide +kernel
theorem dX1_firstLack_33 : decode cX1_firstLack 33 = .ok (.aload_n 0, 1) := by decide +kernel
theorem dX1_firstLack_34 : decode cX1_firstLack 34 = .ok (.getfield 12, 3) := by decide +kernel
theorem dX1_firstLack_37 : decode cX1_firstLack 37 = .ok (.getfield 30, 3) := by decide +kernel
theorem dX1_firstLack_40 : decode cX1_firstLack 40 = .ok (.aload_n 1, 1) := by decide +kernel
theorem dX1_firstLack_41 : decode cX1_firstLack 41 = .ok (.getfield 30, 3) := by decide +kernel
theorem dX1_firstLack_44 : decode cX1_firstLack 44 = .ok (.if_icmp .le 6, 3) := by decide +kernel
theorem dX1_firstLack_47 : decode cX1_firstLack 47 = .ok (.iload 4, 2) := by decide +kernel
theorem dX1_firstLack_49 : decode cX1_firstLack 49 = .ok (.ireturn, 1) := by decide +kernel
theorem dX1_firstLack_50 : decode cX1_firstLack 50 = .ok (.iinc 4 1, 3) := by decide +kernel
theorem dX1_firstLack_53 : decode cX1_firstLack 53 = .ok (.goto (-34), 3) := by decide +kernel
theorem dX1_firstLack_56 : decode cX1_firstLack 56 = .ok (.iconst (-1), 1) := by decide +kernel
theorem dX1_firstLack_57 : decode cX1_firstLack 57 = .ok (.ireturn, 1) := by decide +kernel
set_option maxRecDepth 20000 in
theorem ggX1_leastChest_X1_firstLack : GoodIn wsX1_leastChest wsX1_firstLack := goodIn_r _ [5, 6, 7, 8, 9, 10, 11, 12, 13, 14, 15, 16, 17, 18, 19, 20, 21, 22, 23, 24, 25, 26, 27, 28, 29, 30, 31, 32, 33, 34, 35, 36, 37, 38, 39, 40, 41, 42, 43, 44, 45, 46, 47, 48, 49, 50, 51, 52, 53, 54, 55, 56, 57, 58, 59, 60, 61, 62, 63, 64, 65, 66, 67, 68, 69, 70, 71, 72, 73, 74, 75, 76, 77, 78, 79, 80, 81, 82, 83, 84, 85, 86, 87, 88, 89, 90, 91, 92] (by decide +kernel) (by decide +kernel)
set_option maxRecDepth 20000 in
theorem gX1_leastChest_X1_firstLack : GoodIn wsX1_leastChest (wsV RX1 33 RX1 yX1_firstLack wsX1_firstLack) := goodIn_app (goodIn_of _ (by decide +kernel)) ggX1_leastChest_X1_firstLack
theorem dX1_leastChest_0 : decode cX1_leastChest 0 = .ok (.aload_n 0, 1) := by decide +kernel
theorem dX1_leastChest_1 : decode cX1_leastChest 1 = .ok (.aload_n 1, 1) := by decide +kernel
theorem dX1_leastChest_2 : decode cX1_leastChest 2 = .ok (.sipush 9999, 3) := by decide +kernel
theorem dX1_leastChest_5 : decode cX1_leastChest 5 = .ok (.iload_n 2, 1) := by decide +kernel
theorem dX1_leastChest_6 : decode cX1_leastChest 6 = .ok (.invokevirtual 33, 3) := by decide +kernel
theorem dX1_leastChest_9 : decode cX1_leastChest 9 = .ok (.iconst (-1), 1) := by decide +kernel
theorem dX1_leastChest_10 : decode cX1_leastChest 10 = .ok (.if_icmp .eq 5, 3) := by decide +kernel
theorem dX1_leastChest_13 : decode cX1_leastChest 13 = .ok (.iconst (-1), 1) := by decide +kernel
theorem dX1_leastChest_14 : decode cX1_leastChest 14 = .ok (.ireturn, 1) := by decide +kernel
theorem dX1_leastChest_15 : decode cX1_leastChest 15 = .ok (.iconst 0, 1) := by decide +kernel
theorem dX1_leastChest_16 : decode cX1_leastChest 16 = .ok (.istore_n 3, 1) := by decide +kernel
theorem dX1_leastChest_17 : decode cX1_leastChest 17 = .ok (.sipush 9999, 3) := by decide +kernel
theorem dX1_leastChest_20 : decode cX1_leastChest 20 = .ok (.istore 4, 2) := by decide +kernel
theorem dX1_leastChest_22 : decode cX1_leastChest 22 = .ok (.iconst 0, 1) := by decide +kernel
theorem dX1_leastChest_23 : decode cX1_leastChest 23 = .ok (.istore 5, 2) := by decide +kernel
theorem dX1_leastChest_25 : decode cX1_leastChest 25 = .ok (.iload 5, 2) := by decide +kernel
theorem dX1_leastChest_27 : decode cX1_leastChest 27 = .ok (.bipush 14, 2) := by decide +kernel
theorem dX1_leastChest_29 : decode cX1_leastChest 29 = .ok (.if_icmp .ge 47, 3) := by decide +kernel
theorem dX1_leastChest_32 : decode cX1_leastChest 32 = .ok (.iload_n 3, 1) := by decide +kernel
theorem dX1_leastChest_33 : decode cX1_leastChest 33 = .ok (.iload 4, 2) := by decide +kernel
theorem dX1_leastChest_35 : decode cX1_leastChest 35 = .ok (.if_icmp .ge 41, 3) := by decide +kernel
theorem dX1_leastChest_38 : decode cX1_leastChest 38 = .ok (.iload_n 3, 1) := by decide +kernel
theorem dX1_leastChest_39 : decode cX1_leastChest 39 = .ok (.iload 4, 2) := by decide +kernel
theorem dX1_leastChest_41 : decode cX1_leastChest 41 = .ok (.iadd, 1) := by decide +kernel
theorem dX1_leastChest_42 : decode cX1_leastChest 42 = .ok (.iconst 2, 1) := by decide +kernel
theorem dX1_leastChest_43 : decode cX1_leastChest 43 = .ok (.idiv, 1) := by decide +kernel
theorem dX1_leastChest_44 : decode cX1_leastChest 44 = .ok (.istore 6, 2) := by decide +kernel
theorem dX1_leastChest_46 : decode cX1_leastChest 46 = .ok (.aload_n 0, 1) := by decide +kernel
theorem dX1_leastChest_47 : decode cX1_leastChest 47 = .ok (.aload_n 1, 1) := by decide +kernel
theorem dX1_leastChest_48 : decode cX1_leastChest 48 = .ok (.iload 6, 2) := by decide +kernel
theorem dX1_leastChest_50 : decode cX1_leastChest 50 = .ok (.iload_n 2, 1) := by decide +kernel
theorem dX1_leastChest_51 : decode cX1_leastChest 51 = .ok (.invokevirtual 33, 3) := by decide +kernel
theorem dX1_leastChest_54 : decode cX1_leastChest 54 = .ok (.iconst (-1), 1) := by decide +kernel
theorem dX1_leastChest_55 : decode cX1_leastChest 55 = .ok (.if_icmp .ne 10, 3) := by decide +kernel
theorem dX1_leastChest_58 : decode cX1_leastChest 58 = .ok (.iload 6, 2) := by decide +kernel
theorem dX1_leastChest_60 : decode cX1_leastChest 60 = .ok (.istore 4, 2) := by decide +kernel
theorem dX1_leastChest_62 : decode cX1_leastChest 62 = .ok (.goto 8, 3) := by decide +kernel
theorem dX1_leastChest_65 : decode cX1_leastChest 65 = .ok (.iload 6, 2) := by decide +kernel
theorem dX1_leastChest_67 : decode cX1_leastChest 67 = .ok (.iconst 1, 1) := by decide +kernel
theorem dX1_leastChest_68 : decode cX1_leastChest 68 = .ok (.iadd, 1) := by decide +kernel
theorem dX1_leastChest_69 : decode cX1_leastChest 69 = .ok (.istore_n 3, 1) := by decide +kernel
theorem dX1_leastChest_70 : decode cX1_leastChest 70 = .ok (.iinc 5 1, 3) := by decide +kernel
theorem dX1_leastChest_73 : decode cX1_leastChest 73 = .ok (.goto (-48), 3) := by decide +kernel
theorem dX1_leastChest_76 : decode cX1_leastChest 76 = .ok (.iload 4, 2) := by decide +kernel
theorem dX1_leastChest_78 : decode cX1_leastChest 78 = .ok (.ireturn, 1) := by decide +kernel
set_option maxRecDepth 20000 in
theorem ggX1_bestOffers_X1_lookAhead : GoodIn wsX1_bestOffers wsX1_lookAhead := goodIn_r _ [7, 8, 9, 10, 11, 12, 13, 14, 15, 16, 17, 18, 19, 20, 21, 22, 23, 24, 25, 26, 27, 28, 29, 30, 31, 32, 33, 34, 35, 36, 37, 38, 39, 40, 41, 42, 43, 44, 45, 46, 47, 48, 49, 50, 51, 52, 53, 54, 55, 56, 57, 58, 59, 60, 61, 62, 63, 64, 65, 66, 67, 68, 69, 70, 71, 72, 73, 74, 118, 101, 102, 103, 104, 105, 106, 107, 108, 109, 110, 111, 112, 113, 114, 115, 116, 117] (by decide +kernel) (by decide +kernel)
set_option maxRecDepth 20000 in
theorem gX1_bestOffers_X1_lookAhead : GoodIn wsX1_bestOffers (wsV RX1 40 RX1 yX1_lookAhead wsX1_lookAhead) := goodIn_app (goodIn_of _ (by decide +kernel)) ggX1_bestOffers_X1_lookAhead
set_option maxRecDepth 20000 in
theorem ggX1_bestOffers_X5_howManyAre : GoodIn wsX1_bestOffers wsX5_howManyAre := goodIn_r _ [78, 19, 31, 101, 102, 103, 104, 105, 106, 107, 108, 109, 110, 111, 112, 113, 114, 115, 116, 117] (by decide +kernel) (by decide +kernel)
set_option maxRecDepth 20000 in
theorem gX1_bestOffers_X5_howManyAre : GoodIn wsX1_bestOffers (wsV RX1 44 RX5 yX5_howManyAre wsX5_howManyAre) := goodIn_app (goodIn_of _ (by decide +kernel)) ggX1_bestOffers_X5_howManyAre
set_option maxRecDepth 20000 in
theorem ggX1_bestOffers_X5_gainOfOffers : GoodIn wsX1_bestOffers wsX5_gainOfOffers := goodIn_r _ [82, 20, 33, 34, 39, 40, 41, 71, 72, 73, 12, 74, 15, 101, 102, 103, 104, 105, 106, 107, 108, 109, 110, 111, 112, 113, 114, 115, 116, 117] (by decide +kernel) (by decide +kernel)
set_option maxRecDepth 20000 in
theorem gX1_bestOffers_X5_gainOfOffers : GoodIn wsX1_bestOffers (wsV RX1 51 RX5 yX5_gainOfOffers wsX5_gainOfOffers) := goodIn_app (goodIn_of _ (by decide +kernel)) ggX1_bestOffers_X5_gainOfOffers
set_option maxRecDepth 20000 in
theorem ggX1_bestOffers_J6_bitCount_0f7a4 : GoodIn wsX1_bestOffers wsJ6_bitCount_0f7a4 := goodIn_r _ [86, 87, 88, 89] (by decide +kernel) (by decide +kernel)
set_option maxRecDepth 20000 in
theorem gX1_bestOffers_J6_bitCount_0f7a4 : GoodIn wsX1_bestOffers (va_wsS RX1 54 yJ6_bitCount_0f7a4 wsJ6_bitCount_0f7a4) := goodIn_app (goodIn_of _ (by decide +kernel)) ggX1_bestOffers_J6_bitCount_0f7a4
set_option maxRecDepth 20000 in
theorem ggX1_bestOffers_X1_canBear : GoodIn wsX1_bestOffers wsX1_canBear := goodIn_r _ [93, 8, 2, 94, 95, 1, 96, 9, 10, 11, 12, 13, 14, 15, 16, 17, 18, 19, 20, 21, 22, 23, 24, 25, 26, 27, 28, 29, 30, 31, 32, 33, 34, 39, 40, 41, 97, 98, 99, 100, 35, 36, 37, 38, 42, 43, 44, 45, 46, 47, 48, 49, 50, 51, 52, 53, 54, 55, 56, 57, 58, 59, 60, 61, 62, 63, 64, 65, 66, 67, 68, 69, 70, 71, 72, 73, 74, 75, 76, 77, 78, 118, 101, 102, 103, 104, 105, 106, 107, 108, 109, 110, 111, 112, 113, 114, 115, 116, 117] (by decide +kernel) (by decide +kernel)
set_option maxRecDepth 20000 in
theorem gX1_bestOffers_X1_canBear : GoodIn wsX1_bestOffers (wsV RX1 59 RX1 yX1_canBear wsX1_canBear) := goodIn_app (goodIn_of _ (by decide +kernel)) ggX1_bestOffers_X1_canBear
theorem dX1_bestOffers_0 : decode cX1_bestOffers 0 = .ok (.bipush 8, 2) := by decide +kernel
theorem dX1_bestOffers_2 : decode cX1_bestOffers 2 = .ok (.aload_n 1, 1) := by decide +kernel
theorem dX1_bestOffers_3 : decode cX1_bestOffers 3 = .ok (.getfield 37, 3) := by decide +kernel
theorem dX1_bestOffers_6 : decode cX1_bestOffers 6 = .ok (.isub, 1) := by decide +kernel
theorem dX1_bestOffers_7 : decode cX1_bestOffers 7 = .ok (.istore_n 3, 1) := by decide +kernel
theorem dX1_bestOffers_8 : decode cX1_bestOffers 8 = .ok (.aload_n 0, 1) := by decide +kernel
theorem dX1_bestOffers_9 : decode cX1_bestOffers 9 = .ok (.aload_n 1, 1) := by decide +kernel
theorem dX1_bestOffers_10 : decode cX1_bestOffers 10 = .ok (.bipush 12, 2) := by decide +kernel
theorem dX1_bestOffers_12 : decode cX1_bestOffers 12 = .ok (.invokevirtual 40, 3) := by decide +kernel
theorem dX1_bestOffers_15 : decode cX1_bestOffers 15 = .ok (.iconst 2, 1) := by decide +kernel
theorem dX1_bestOffers_16 : decode cX1_bestOffers 16 = .ok (.invokevirtual 44, 3) := by decide +kernel
theorem dX1_bestOffers_19 : decode cX1_bestOffers 19 = .ok (.istore 4, 2) := by decide +kernel
theorem dX1_bestOffers_21 : decode cX1_bestOffers 21 = .ok (.iconst 0, 1) := by decide +kernel
theorem dX1_bestOffers_22 : decode cX1_bestOffers 22 = .ok (.istore 5, 2) := by decide +kernel
theorem dX1_bestOffers_24 : decode cX1_bestOffers 24 = .ok (.iconst 0, 1) := by decide +kernel
theorem dX1_bestOffers_25 : decode cX1_bestOffers 25 = .ok (.istore 6, 2) := by decide +kernel
theorem dX1_bestOffers_27 : decode cX1_bestOffers 27 = .ok (.iconst 1, 1) := by decide +kernel
theorem dX1_bestOffers_28 : decode cX1_bestOffers 28 = .ok (.istore 7, 2) := by decide +kernel
theorem dX1_bestOffers_30 : decode cX1_bestOffers 30 = .ok (.iload 7, 2) := by decide +kernel
theorem dX1_bestOffers_32 : decode cX1_bestOffers 32 = .ok (.iconst 1, 1) := by decide +kernel
theorem dX1_bestOffers_33 : decode cX1_bestOffers 33 = .ok (.aload_n 1, 1) := by decide +kernel
theorem dX1_bestOffers_34 : decode cX1_bestOffers 34 = .ok (.getfield 48, 3) := by decide +kernel
theorem dX1_bestOffers_37 : decode cX1_bestOffers 37 = .ok (.ishl, 1) := by decide +kernel
theorem dX1_bestOffers_38 : decode cX1_bestOffers 38 = .ok (.if_icmp .ge 54, 3) := by decide +kernel
theorem dX1_bestOffers_41 : decode cX1_bestOffers 41 = .ok (.aload_n 1, 1) := by decide +kernel
theorem dX1_bestOffers_42 : decode cX1_bestOffers 42 = .ok (.iload 7, 2) := by decide +kernel
theorem dX1_bestOffers_44 : decode cX1_bestOffers 44 = .ok (.invokevirtual 51, 3) := by decide +kernel
theorem dX1_bestOffers_47 : decode cX1_bestOffers 47 = .ok (.istore 8, 2) := by decide +kernel
theorem dX1_bestOffers_49 : decode cX1_bestOffers 49 = .ok (.iload 8, 2) := by decide +kernel
theorem dX1_bestOffers_51 : decode cX1_bestOffers 51 = .ok (.iload 6, 2) := by decide +kernel
theorem dX1_bestOffers_53 : decode cX1_bestOffers 53 = .ok (.if_icmp .le 33, 3) := by decide +kernel
theorem dX1_bestOffers_56 : decode cX1_bestOffers 56 = .ok (.iload 7, 2) := by decide +kernel
theorem dX1_bestOffers_58 : decode cX1_bestOffers 58 = .ok (.invokestatic 54, 3) := by decide +kernel
theorem dX1_bestOffers_61 : decode cX1_bestOffers 61 = .ok (.iload_n 3, 1) := by decide +kernel
theorem dX1_bestOffers_62 : decode cX1_bestOffers 62 = .ok (.if_icmp .gt 24, 3) := by decide +kernel
theorem dX1_bestOffers_65 : decode cX1_bestOffers 65 = .ok (.aload_n 0, 1) := by decide +kernel
theorem dX1_bestOffers_66 : decode cX1_bestOffers 66 = .ok (.aload_n 1, 1) := by decide +kernel
theorem dX1_bestOffers_67 : decode cX1_bestOffers 67 = .ok (.iload_n 2, 1) := by decide +kernel
theorem dX1_bestOffers_68 : decode cX1_bestOffers 68 = .ok (.iload 7, 2) := by decide +kernel
theorem dX1_bestOffers_70 : decode cX1_bestOffers 70 = .ok (.iload 4, 2) := by decide +kernel
theorem dX1_bestOffers_72 : decode cX1_bestOffers 72 = .ok (.invokevirtual 59, 3) := by decide +kernel
theorem dX1_bestOffers_75 : decode cX1_bestOffers 75 = .ok (.ifCond .eq 11, 3) := by decide +kernel
theorem dX1_bestOffers_78 : decode cX1_bestOffers 78 = .ok (.iload 8, 2) := by decide +kernel
theorem dX1_bestOffers_80 : decode cX1_bestOffers 80 = .ok (.istore 6, 2) := by decide +kernel
theorem dX1_bestOffers_82 : decode cX1_bestOffers 82 = .ok (.iload 7, 2) := by decide +kernel
theorem dX1_bestOffers_84 : decode cX1_bestOffers 84 = .ok (.istore 5, 2) := by decide +kernel
theorem dX1_bestOffers_86 : decode cX1_bestOffers 86 = .ok (.iinc 7 1, 3) := by decide +kernel
theorem dX1_bestOffers_89 : decode cX1_bestOffers 89 = .ok (.goto (-59), 3) := by decide +kernel
theorem dX1_bestOffers_92 : decode cX1_bestOffers 92 = .ok (.iload 5, 2) := by decide +kernel
theorem dX1_bestOffers_94 : decode cX1_bestOffers 94 = .ok (.ireturn, 1) := by decide +kernel
set_option maxRecDepth 20000 in
theorem ggX1_canBear_X5_copyFrom : GoodIn wsX1_canBear wsX5_copyFrom := goodIn_r _ [11, 12, 13, 14, 15, 16, 17, 18, 19, 20, 21, 22, 23, 24, 25, 26, 27, 28, 29, 30, 31, 32, 82, 83, 84, 85, 86, 87, 88, 89, 90, 91, 92, 93, 94, 95, 96, 97, 98] (by decide +kernel) (by decide +kernel)
set_option maxRecDepth 20000 in
theorem gX1_canBear_X5_copyFrom : GoodIn wsX1_canBear (wsV RX1 18 RX5 yX5_copyFrom wsX5_copyFrom) := goodIn_app (goodIn_of _ (by decide +kernel)) ggX1_canBear_X5_copyFrom
set_option maxRecDepth 20000 in
theorem ggX1_canBear_X7_hasBit : GoodIn wsX1_canBear wsX7_hasBit := goodIn_r _ [35] (by decide +kernel) (by decide +kernel)
set_option maxRecDepth 20000 in
theorem gX1_canBear_X7_hasBit_n63 : GoodIn wsX1_canBear (wsX7_hasBit) := ggX1_canBear_X7_hasBit
set_option maxRecDepth 20000 in
theorem ggX1_canBear_X5_addLoan : GoodIn wsX1_canBear wsX5_addLoan := goodIn_r _ [39, 17, 26, 27, 28, 29, 30, 82, 83, 84, 85, 86, 87, 88, 89, 90, 91, 92, 93, 94, 95, 96, 97, 98] (by decide +kernel) (by decide +kernel)
set_option maxRecDepth 20000 in
theorem gX1_canBear_X5_addLoan : GoodIn wsX1_canBear (wsV RX1 74 RX5 yX5_addLoan wsX5_addLoan) := goodIn_app (goodIn_of _ (by decide +kernel)) ggX1_canBear_X5_addLoan
set_option maxRecDepth 20000 in
theorem ggX1_canBear_X5_liveMonth : GoodIn wsX1_canBear wsX5_liveMonth := goodIn_r _ [43, 16, 17, 29, 14, 33, 34, 35, 44, 45, 46, 10, 47, 25, 48, 49, 50, 51, 52, 53, 54, 55, 19, 24, 56, 57, 58, 59, 60, 61, 62, 63, 26, 27, 64, 12, 30, 28, 65, 66, 67, 68, 15, 69, 70, 71, 72, 73, 74, 75, 76, 13, 82, 83, 84, 85, 86, 87, 88, 89, 90, 91, 92, 93, 94, 95, 96, 97, 98] (by decide +kernel) (by decide +kernel)
set_option maxRecDepth 20000 in
theorem gX1_canBear_X5_liveMonth : GoodIn wsX1_canBear (wsV RX1 22 RX5 yX5_liveMonth wsX5_liveMonth) := goodIn_app (goodIn_of _ (by decide +kernel)) ggX1_canBear_X5_liveMonth
set_option maxRecDepth 20000 in
theorem ggX1_canBear_X5_howManyAre : GoodIn wsX1_canBear wsX5_howManyAre := goodIn_r _ [80, 17, 29, 82, 83, 84, 85, 86, 87, 88, 89, 90, 91, 92, 93, 94, 95, 96, 97, 98] (by decide +kernel) (by decide +kernel)
set_option maxRecDepth 20000 in
theorem gX1_canBear_X5_howManyAre : GoodIn wsX1_canBear (wsV RX1 44 RX5 yX5_howManyAre wsX5_howManyAre) := goodIn_app (goodIn_of _ (by decide +kernel)) ggX1_canBear_X5_howManyAre
theorem dX1_canBear_0 : decode cX1_canBear 0 = .ok (.aload_n 0, 1) := by decide +kernel
theorem dX1_canBear_1 : decode cX1_canBear 1 = .ok (.getfield 12, 3) := by decide +kernel
theorem dX1_canBear_4 : decode cX1_canBear 4 = .ok (.aload_n 1, 1) := by decide +kernel
theorem dX1_canBear_5 : decode cX1_canBear 5 = .ok (.invokevirtual 18, 3) := by decide +kernel
theorem dX1_canBear_8 : decode cX1_canBear 8 = .ok (.iconst 0, 1) := by decide +kernel
theorem dX1_canBear_9 : decode cX1_canBear 9 = .ok (.istore 5, 2) := by decide +kernel
theorem dX1_canBear_11 : decode cX1_canBear 11 = .ok (.iload 5, 2) := by decide +kernel
theorem dX1_canBear_13 : decode cX1_canBear 13 = .ok (.aload_n 1, 1) := by decide +kernel
theorem dX1_canBear_14 : decode cX1_canBear 14 = .ok (.getfield 48, 3) := by decide +kernel
theorem dX1_canBear_17 : decode cX1_canBear 17 = .ok (.if_icmp .ge 41, 3) := by decide +kernel
theorem dX1_canBear_20 : decode cX1_canBear 20 = .ok (.iload_n 3, 1) := by decide +kernel
theorem dX1_canBear_21 : decode cX1_canBear 21 = .ok (.iload 5, 2) := by decide +kernel
theorem dX1_canBear_23 : decode cX1_canBear 23 = .ok (.invokestatic 63, 3) := by decide +kernel
theorem dX1_canBear_26 : decode cX1_canBear 26 = .ok (.ifCond .eq 26, 3) := by decide +kernel
theorem dX1_canBear_29 : decode cX1_canBear 29 = .ok (.aload_n 0, 1) := by decide +kernel
theorem dX1_canBear_30 : decode cX1_canBear 30 = .ok (.getfield 12, 3) := by decide +kernel
theorem dX1_canBear_33 : decode cX1_canBear 33 = .ok (.iload_n 2, 1) := by decide +kernel
theorem dX1_canBear_34 : decode cX1_canBear 34 = .ok (.aload_n 1, 1) := by decide +kernel
theorem dX1_canBear_35 : decode cX1_canBear 35 = .ok (.getfield 67, 3) := by decide +kernel
theorem dX1_canBear_38 : decode cX1_canBear 38 = .ok (.iload 5, 2) := by decide +kernel
theorem dX1_canBear_40 : decode cX1_canBear 40 = .ok (.iaload, 1) := by decide +kernel
theorem dX1_canBear_41 : decode cX1_canBear 41 = .ok (.aload_n 1, 1) := by decide +kernel
theorem dX1_canBear_42 : decode cX1_canBear 42 = .ok (.getfield 71, 3) := by decide +kernel
theorem dX1_canBear_45 : decode cX1_canBear 45 = .ok (.iload 5, 2) := by decide +kernel
theorem dX1_canBear_47 : decode cX1_canBear 47 = .ok (.iaload, 1) := by decide +kernel
theorem dX1_canBear_48 : decode cX1_canBear 48 = .ok (.invokevirtual 74, 3) := by decide +kernel
theorem dX1_canBear_51 : decode cX1_canBear 51 = .ok (.pop, 1) := by decide +kernel
theorem dX1_canBear_52 : decode cX1_canBear 52 = .ok (.iinc 5 1, 3) := by decide +kernel
theorem dX1_canBear_55 : decode cX1_canBear 55 = .ok (.goto (-44), 3) := by decide +kernel
theorem dX1_canBear_58 : decode cX1_canBear 58 = .ok (.iconst 0, 1) := by decide +kernel
theorem dX1_canBear_59 : decode cX1_canBear 59 = .ok (.istore 5, 2) := by decide +kernel
theorem dX1_canBear_61 : decode cX1_canBear 61 = .ok (.iload 5, 2) := by decide +kernel
theorem dX1_canBear_63 : decode cX1_canBear 63 = .ok (.bipush 12, 2) := by decide +kernel
theorem dX1_canBear_65 : decode cX1_canBear 65 = .ok (.if_icmp .ge 17, 3) := by decide +kernel
theorem dX1_canBear_68 : decode cX1_canBear 68 = .ok (.aload_n 0, 1) := by decide +kernel
theorem dX1_canBear_69 : decode cX1_canBear 69 = .ok (.getfield 12, 3) := by decide +kernel
theorem dX1_canBear_72 : decode cX1_canBear 72 = .ok (.iconst 0, 1) := by decide +kernel
theorem dX1_canBear_73 : decode cX1_canBear 73 = .ok (.invokevirtual 22, 3) := by decide +kernel
theorem dX1_canBear_76 : decode cX1_canBear 76 = .ok (.iinc 5 1, 3) := by decide +kernel
theorem dX1_canBear_79 : decode cX1_canBear 79 = .ok (.goto (-18), 3) := by decide +kernel
theorem dX1_canBear_82 : decode cX1_canBear 82 = .ok (.aload_n 1, 1) := by decide +kernel
theorem dX1_canBear_83 : decode cX1_canBear 83 = .ok (.getfield 37, 3) := by decide +kernel
theorem dX1_canBear_86 : decode cX1_canBear 86 = .ok (.istore 5, 2) := by decide +kernel
theorem dX1_canBear_88 : decode cX1_canBear 88 = .ok (.iload 5, 2) := by decide +kernel
theorem dX1_canBear_90 : decode cX1_canBear 90 = .ok (.aload_n 0, 1) := by decide +kernel
theorem dX1_canBear_91 : decode cX1_canBear 91 = .ok (.getfield 12, 3) := by decide +kernel
theorem dX1_canBear_94 : decode cX1_canBear 94 = .ok (.getfield 37, 3) := by decide +kernel
theorem dX1_canBear_97 : decode cX1_canBear 97 = .ok (.if_icmp .ge 25, 3) := by decide +kernel
theorem dX1_canBear_100 : decode cX1_canBear 100 = .ok (.aload_n 0, 1) := by decide +kernel
theorem dX1_canBear_101 : decode cX1_canBear 101 = .ok (.getfield 12, 3) := by decide +kernel
theorem dX1_canBear_104 : decode cX1_canBear 104 = .ok (.getfield 78, 3) := by decide +kernel
theorem dX1_canBear_107 : decode cX1_canBear 107 = .ok (.iload 5, 2) := by decide +kernel
theorem dX1_canBear_109 : decode cX1_canBear 109 = .ok (.iaload, 1) := by decide +kernel
theorem dX1_canBear_110 : decode cX1_canBear 110 = .ok (.iconst 2, 1) := by decide +kernel
theorem dX1_canBear_111 : decode cX1_canBear 111 = .ok (.if_icmp .ne 5, 3) := by decide +kernel
theorem dX1_canBear_114 : decode cX1_canBear 114 = .ok (.iconst 0, 1) := by decide +kernel
theorem dX1_canBear_115 : decode cX1_canBear 115 = .ok (.ireturn, 1) := by decide +kernel
theorem dX1_canBear_116 : decode cX1_canBear 116 = .ok (.iinc 5 1, 3) := by decide +kernel
theorem dX1_canBear_119 : decode cX1_canBear 119 = .ok (.goto (-31), 3) := by decide +kernel
theorem dX1_canBear_122 : decode cX1_canBear 122 = .ok (.aload_n 0, 1) := by decide +kernel
theorem dX1_canBear_123 : decode cX1_canBear 123 = .ok (.getfield 12, 3) := by decide +kernel
theorem dX1_canBear_126 : decode cX1_canBear 126 = .ok (.iconst 2, 1) := by decide +kernel
theorem dX1_canBear_127 : decode cX1_canBear 127 = .ok (.invokevirtual 44, 3) := by decide +kernel
theorem dX1_canBear_130 : decode cX1_canBear 130 = .ok (.iload 4, 2) := by decide +kernel
theorem dX1_canBear_132 : decode cX1_canBear 132 = .ok (.if_icmp .gt 7, 3) := by decide +kernel
theorem dX1_canBear_135 : decode cX1_canBear 135 = .ok (.iconst 1, 1) := by decide +kernel
theorem dX1_canBear_136 : decode cX1_canBear 136 = .ok (.goto 4, 3) := by decide +kernel
theorem dX1_canBear_139 : decode cX1_canBear 139 = .ok (.iconst 0, 1) := by decide +kernel
theorem dX1_canBear_140 : decode cX1_canBear 140 = .ok (.ireturn, 1) := by decide +kernel
set_option maxRecDepth 20000 in
theorem ggX1_hadInMonth_X1_lookAhead : GoodIn wsX1_hadInMonth wsX1_lookAhead := goodIn_r _ [7, 1, 8, 9, 10, 11, 12, 13, 14, 15, 16, 17, 18, 19, 20, 21, 22, 23, 24, 25, 26, 27, 28, 29, 30, 31, 32, 33, 34, 35, 36, 37, 38, 39, 40, 41, 42, 43, 44, 45, 46, 47, 48, 49, 50, 51, 52, 53, 54, 55, 56, 57, 58, 59, 60, 61, 62, 63, 64, 65, 66, 67, 68, 69, 70, 71, 72, 73, 80, 81, 82, 83, 84, 85, 86, 87, 88, 89, 90, 91, 92, 93, 94, 95, 96, 97] (by decide +kernel) (by decide +kernel)
set_option maxRecDepth 20000 in
theorem gX1_hadInMonth_X1_lookAhead : GoodIn wsX1_hadInMonth (wsV RX1 40 RX1 yX1_lookAhead wsX1_lookAhead) := goodIn_app (goodIn_of _ (by decide +kernel)) ggX1_hadInMonth_X1_lookAhead
set_option maxRecDepth 20000 in
theorem ggX1_hadInMonth_X1_hadBits : GoodIn wsX1_hadInMonth wsX1_hadBits := goodIn_r _ [77, 1, 2, 78, 80, 81, 82, 83, 84, 85, 86, 87, 88, 89, 90, 91, 92, 93, 94, 95, 96, 97] (by decide +kernel) (by decide +kernel)
set_option maxRecDepth 20000 in
theorem gX1_hadInMonth_X1_hadBits : GoodIn wsX1_hadInMonth (wsV RX1 81 RX1 yX1_hadBits wsX1_hadBits) := goodIn_app (goodIn_of _ (by decide +kernel)) ggX1_hadInMonth_X1_hadBits
set_option maxRecDepth 20000 in
theorem ggX1_hadInMonth_X5_liveMonth : GoodIn wsX1_hadInMonth wsX5_liveMonth := goodIn_r _ [37, 17, 18, 30, 15, 38, 39, 40, 41, 42, 43, 11, 44, 26, 45, 46, 47, 48, 49, 50, 51, 52, 20, 25, 53, 54, 55, 56, 57, 58, 59, 60, 27, 28, 61, 13, 31, 29, 62, 63, 64, 65, 16, 66, 67, 68, 69, 70, 71, 72, 73, 14, 81, 82, 83, 84, 85, 86, 87, 88, 89, 90, 91, 92, 93, 94, 95, 96, 97] (by decide +kernel) (by decide +kernel)
set_option maxRecDepth 20000 in
theorem gX1_hadInMonth_X5_liveMonth : GoodIn wsX1_hadInMonth (wsV RX1 22 RX5 yX5_liveMonth wsX5_liveMonth) := goodIn_app (goodIn_of _ (by decide +kernel)) ggX1_hadInMonth_X5_liveMonth
set_option maxRecDepth 20000 in
theorem ggX1_hadInMonth_X7_hasBit : GoodIn wsX1_hadInMonth wsX7_hasBit := goodIn_r _ [40] (by decide +kernel) (by decide +kernel)
set_option maxRecDepth 20000 in
theorem gX1_hadInMonth_X7_hasBit_n63 : GoodIn wsX1_hadInMonth (wsX7_hasBit) := ggX1_hadInMonth_X7_hasBit
set_option maxRecDepth 20000 in
theorem ggX1_hadInMonth_X5_wholeOf : GoodIn wsX1_hadInMonth wsX5_wholeOf := goodIn_r _ [69, 28, 29, 70, 71, 72, 11, 73, 14, 81, 82, 83, 84, 85, 86, 87, 88, 89, 90, 91, 92, 93, 94, 95, 96, 97] (by decide +kernel) (by decide +kernel)
set_option maxRecDepth 20000 in
theorem gX1_hadInMonth_X5_wholeOf : GoodIn wsX1_hadInMonth (wsV RX1 85 RX5 yX5_wholeOf wsX5_wholeOf) := goodIn_app (goodIn_of _ (by decide +kernel)) ggX1_hadInMonth_X5_wholeOf
theorem dX1_hadInMonth_0 : decode cX1_hadInMonth 0 = .ok (.aload_n 0, 1) := by decide +kernel
theorem dX1_hadInMonth_1 : decode cX1_hadInMonth 1 = .ok (.aload_n 1, 1) := by decide +kernel
theorem dX1_hadInMonth_2 : decode cX1_hadInMonth 2 = .ok (.iload_n 2, 1) := by decide +kernel
theorem dX1_hadInMonth_3 : decode cX1_hadInMonth 3 = .ok (.invokevirtual 40, 3) := by decide +kernel
theorem dX1_hadInMonth_6 : decode cX1_hadInMonth 6 = .ok (.pop, 1) := by decide +kernel
theorem dX1_hadInMonth_7 : decode cX1_hadInMonth 7 = .ok (.aload_n 0, 1) := by decide +kernel
theorem dX1_hadInMonth_8 : decode cX1_hadInMonth 8 = .ok (.invokevirtual 81, 3) := by decide +kernel
theorem dX1_hadInMonth_11 : decode cX1_hadInMonth 11 = .ok (.istore 4, 2) := by decide +kernel
theorem dX1_hadInMonth_13 : decode cX1_hadInMonth 13 = .ok (.aload_n 0, 1) := by decide +kernel
theorem dX1_hadInMonth_14 : decode cX1_hadInMonth 14 = .ok (.getfield 12, 3) := by decide +kernel
theorem dX1_hadInMonth_17 : decode cX1_hadInMonth 17 = .ok (.iconst 0, 1) := by decide +kernel
theorem dX1_hadInMonth_18 : decode cX1_hadInMonth 18 = .ok (.invokevirtual 22, 3) := by decide +kernel
theorem dX1_hadInMonth_21 : decode cX1_hadInMonth 21 = .ok (.aload_n 0, 1) := by decide +kernel
theorem dX1_hadInMonth_22 : decode cX1_hadInMonth 22 = .ok (.invokevirtual 81, 3) := by decide +kernel
theorem dX1_hadInMonth_25 : decode cX1_hadInMonth 25 = .ok (.iload 4, 2) := by decide +kernel
theorem dX1_hadInMonth_27 : decode cX1_hadInMonth 27 = .ok (.iconst (-1), 1) := by decide +kernel
theorem dX1_hadInMonth_28 : decode cX1_hadInMonth 28 = .ok (.ixor, 1) := by decide +kernel
theorem dX1_hadInMonth_29 : decode cX1_hadInMonth 29 = .ok (.iand, 1) := by decide +kernel
theorem dX1_hadInMonth_30 : decode cX1_hadInMonth 30 = .ok (.istore 5, 2) := by decide +kernel
theorem dX1_hadInMonth_32 : decode cX1_hadInMonth 32 = .ok (.iconst 0, 1) := by decide +kernel
theorem dX1_hadInMonth_33 : decode cX1_hadInMonth 33 = .ok (.istore 6, 2) := by decide +kernel
theorem dX1_hadInMonth_35 : decode cX1_hadInMonth 35 = .ok (.iconst 0, 1) := by decide +kernel
theorem dX1_hadInMonth_36 : decode cX1_hadInMonth 36 = .ok (.istore 7, 2) := by decide +kernel
theorem dX1_hadInMonth_38 : decode cX1_hadInMonth 38 = .ok (.iload 7, 2) := by decide +kernel
theorem dX1_hadInMonth_40 : decode cX1_hadInMonth 40 = .ok (.aload_n 0, 1) := by decide +kernel
theorem dX1_hadInMonth_41 : decode cX1_hadInMonth 41 = .ok (.getfield 12, 3) := by decide +kernel
theorem dX1_hadInMonth_44 : decode cX1_hadInMonth 44 = .ok (.getfield 37, 3) := by decide +kernel
theorem dX1_hadInMonth_47 : decode cX1_hadInMonth 47 = .ok (.if_icmp .ge 41, 3) := by decide +kernel
theorem dX1_hadInMonth_50 : decode cX1_hadInMonth 50 = .ok (.iload 5, 2) := by decide +kernel
theorem dX1_hadInMonth_52 : decode cX1_hadInMonth 52 = .ok (.iload 7, 2) := by decide +kernel
theorem dX1_hadInMonth_54 : decode cX1_hadInMonth 54 = .ok (.invokestatic 63, 3) := by decide +kernel
theorem dX1_hadInMonth_57 : decode cX1_hadInMonth 57 = .ok (.ifCond .eq 25, 3) := by decide +kernel
theorem dX1_hadInMonth_60 : decode cX1_hadInMonth 60 = .ok (.aload_n 0, 1) := by decide +kernel
theorem dX1_hadInMonth_61 : decode cX1_hadInMonth 61 = .ok (.getfield 12, 3) := by decide +kernel
theorem dX1_hadInMonth_64 : decode cX1_hadInMonth 64 = .ok (.iload 7, 2) := by decide +kernel
theorem dX1_hadInMonth_66 : decode cX1_hadInMonth 66 = .ok (.invokevirtual 85, 3) := by decide +kernel
theorem dX1_hadInMonth_69 : decode cX1_hadInMonth 69 = .ok (.iload_n 3, 1) := by decide +kernel
theorem dX1_hadInMonth_70 : decode cX1_hadInMonth 70 = .ok (.if_icmp .ne 12, 3) := by decide +kernel
theorem dX1_hadInMonth_73 : decode cX1_hadInMonth 73 = .ok (.iload 6, 2) := by decide +kernel
theorem dX1_hadInMonth_75 : decode cX1_hadInMonth 75 = .ok (.iconst 1, 1) := by decide +kernel
theorem dX1_hadInMonth_76 : decode cX1_hadInMonth 76 = .ok (.iload 7, 2) := by decide +kernel
theorem dX1_hadInMonth_78 : decode cX1_hadInMonth 78 = .ok (.ishl, 1) := by decide +kernel
theorem dX1_hadInMonth_79 : decode cX1_hadInMonth 79 = .ok (.ior, 1) := by decide +kernel
theorem dX1_hadInMonth_80 : decode cX1_hadInMonth 80 = .ok (.istore 6, 2) := by decide +kernel
theorem dX1_hadInMonth_82 : decode cX1_hadInMonth 82 = .ok (.iinc 7 1, 3) := by decide +kernel
theorem dX1_hadInMonth_85 : decode cX1_hadInMonth 85 = .ok (.goto (-47), 3) := by decide +kernel
theorem dX1_hadInMonth_88 : decode cX1_hadInMonth 88 = .ok (.iload 6, 2) := by decide +kernel
theorem dX1_hadInMonth_90 : decode cX1_hadInMonth 90 = .ok (.ireturn, 1) := by decide +kernel
theorem dX1_hadBits_0 : decode cX1_hadBits 0 = .ok (.iconst 0, 1) := by decide +kernel
theorem dX1_hadBits_1 : decode cX1_hadBits 1 = .ok (.istore_n 1, 1) := by decide +kernel
theorem dX1_hadBits_2 : decode cX1_hadBits 2 = .ok (.iconst 0, 1) := by decide +kernel
theorem dX1_hadBits_3 : decode cX1_hadBits 3 = .ok (.istore_n 2, 1) := by decide +kernel
theorem dX1_hadBits_4 : decode cX1_hadBits 4 = .ok (.iload_n 2, 1) := by decide +kernel
theorem dX1_hadBits_5 : decode cX1_hadBits 5 = .ok (.aload_n 0, 1) := by decide +kernel
theorem dX1_hadBits_6 : decode cX1_hadBits 6 = .ok (.getfield 12, 3) := by decide +kernel
theorem dX1_hadBits_9 : decode cX1_hadBits 9 = .ok (.getfield 37, 3) := by decide +kernel
theorem dX1_hadBits_12 : decode cX1_hadBits 12 = .ok (.if_icmp .ge 28, 3) := by decide +kernel
theorem dX1_hadBits_15 : decode cX1_hadBits 15 = .ok (.aload_n 0, 1) := by decide +kernel
theorem dX1_hadBits_16 : decode cX1_hadBits 16 = .ok (.getfield 12, 3) := by decide +kernel
theorem dX1_hadBits_19 : decode cX1_hadBits 19 = .ok (.getfield 78, 3) := by decide +kernel
theorem dX1_hadBits_22 : decode cX1_hadBits 22 = .ok (.iload_n 2, 1) := by decide +kernel
theorem dX1_hadBits_23 : decode cX1_hadBits 23 = .ok (.iaload, 1) := by decide +kernel
theorem dX1_hadBits_24 : decode cX1_hadBits 24 = .ok (.iconst 1, 1) := by decide +kernel
theorem dX1_hadBits_25 : decode cX1_hadBits 25 = .ok (.if_icmp .ne 9, 3) := by decide +kernel
theorem dX1_hadBits_28 : decode cX1_hadBits 28 = .ok (.iload_n 1, 1) := by decide +kernel
theorem dX1_hadBits_29 : decode cX1_hadBits 29 = .ok (.iconst 1, 1) := by decide +kernel
theorem dX1_hadBits_30 : decode cX1_hadBits 30 = .ok (.iload_n 2, 1) := by decide +kernel
theorem dX1_hadBits_31 : decode cX1_hadBits 31 = .ok (.ishl, 1) := by decide +kernel
theorem dX1_hadBits_32 : decode cX1_hadBits 32 = .ok (.ior, 1) := by decide +kernel
theorem dX1_hadBits_33 : decode cX1_hadBits 33 = .ok (.istore_n 1, 1) := by decide +kernel
theorem dX1_hadBits_34 : decode cX1_hadBits 34 = .ok (.iinc 2 1, 3) := by decide +kernel
theorem dX1_hadBits_37 : decode cX1_hadBits 37 = .ok (.goto (-33), 3) := by decide +kernel
theorem dX1_hadBits_40 : decode cX1_hadBits 40 = .ok (.iload_n 1, 1) := by decide +kernel
theorem dX1_hadBits_41 : decode cX1_hadBits 41 = .ok (.ireturn, 1) := by decide +kernel
set_option maxRecDepth 20000 in
theorem ggX1_drawMonths_X5_copyFrom : GoodIn wsX1_drawMonths wsX5_copyFrom := goodIn_r _ [12, 13, 14, 15, 16, 17, 18, 19, 20, 21, 22, 23, 24, 25, 26, 27, 28, 29, 30, 31, 32, 33, 75, 76, 77, 78, 79, 80, 81, 82, 83, 84, 85, 86, 87, 88, 89, 90, 91] (by decide +kernel) (by decide +kernel)
set_option maxRecDepth 20000 in
theorem gX1_drawMonths_X5_copyFrom : GoodIn wsX1_drawMonths (wsV RX1 18 RX5 yX5_copyFrom wsX5_copyFrom) := goodIn_app (goodIn_of _ (by decide +kernel)) ggX1_drawMonths_X5_copyFrom
set_option maxRecDepth 20000 in
theorem ggX1_drawMonths_X5_liveMonth : GoodIn wsX1_drawMonths wsX5_liveMonth := goodIn_r _ [37, 17, 18, 30, 15, 38, 39, 40, 41, 42, 43, 11, 44, 26, 45, 46, 47, 48, 49, 50, 51, 52, 20, 25, 53, 54, 55, 56, 57, 58, 59, 60, 27, 28, 61, 13, 31, 29, 62, 63, 64, 65, 16, 66, 67, 68, 69, 70, 71, 72, 73, 14, 75, 76, 77, 78, 79, 80, 81, 82, 83, 84, 85, 86, 87, 88, 89, 90, 91] (by decide +kernel) (by decide +kernel)
set_option maxRecDepth 20000 in
theorem gX1_drawMonths_X5_liveMonth : GoodIn wsX1_drawMonths (wsV RX1 22 RX5 yX5_liveMonth wsX5_liveMonth) := goodIn_app (goodIn_of _ (by decide +kernel)) ggX1_drawMonths_X5_liveMonth
theorem dX1_drawMonths_0 : decode cX1_drawMonths 0 = .ok (.aload_n 0, 1) := by decide +kernel
theorem dX1_drawMonths_1 : decode cX1_drawMonths 1 = .ok (.getfield 12, 3) := by decide +kernel
theorem dX1_drawMonths_4 : decode cX1_drawMonths 4 = .ok (.aload_n 1, 1) := by decide +kernel
theorem dX1_drawMonths_5 : decode cX1_drawMonths 5 = .ok (.invokevirtual 18, 3) := by decide +kernel
theorem dX1_drawMonths_8 : decode cX1_drawMonths 8 = .ok (.iload_n 2, 1) := by decide +kernel
theorem dX1_drawMonths_9 : decode cX1_drawMonths 9 = .ok (.i2l, 1) := by decide +kernel
theorem dX1_drawMonths_10 : decode cX1_drawMonths 10 = .ok (.lstore 5, 2) := by decide +kernel
theorem dX1_drawMonths_12 : decode cX1_drawMonths 12 = .ok (.iconst 0, 1) := by decide +kernel
theorem dX1_drawMonths_13 : decode cX1_drawMonths 13 = .ok (.istore 7, 2) := by decide +kernel
theorem dX1_drawMonths_15 : decode cX1_drawMonths 15 = .ok (.iload 7, 2) := by decide +kernel
theorem dX1_drawMonths_17 : decode cX1_drawMonths 17 = .ok (.iload 4, 2) := by decide +kernel
theorem dX1_drawMonths_19 : decode cX1_drawMonths 19 = .ok (.if_icmp .ge 83, 3) := by decide +kernel
theorem dX1_drawMonths_22 : decode cX1_drawMonths 22 = .ok (.iconst 0, 1) := by decide +kernel
theorem dX1_drawMonths_23 : decode cX1_drawMonths 23 = .ok (.istore 8, 2) := by decide +kernel
theorem dX1_drawMonths_25 : decode cX1_drawMonths 25 = .ok (.iconst 0, 1) := by decide +kernel
theorem dX1_drawMonths_26 : decode cX1_drawMonths 26 = .ok (.istore 9, 2) := by decide +kernel
theorem dX1_drawMonths_28 : decode cX1_drawMonths 28 = .ok (.iload 9, 2) := by decide +kernel
theorem dX1_drawMonths_30 : decode cX1_drawMonths 30 = .ok (.aload_n 0, 1) := by decide +kernel
theorem dX1_drawMonths_31 : decode cX1_drawMonths 31 = .ok (.getfield 12, 3) := by decide +kernel
theorem dX1_drawMonths_34 : decode cX1_drawMonths 34 = .ok (.getfield 88, 3) := by decide +kernel
theorem dX1_drawMonths_37 : decode cX1_drawMonths 37 = .ok (.if_icmp .ge 50, 3) := by decide +kernel
theorem dX1_drawMonths_40 : decode cX1_drawMonths 40 = .ok (.lload 5, 2) := by decide +kernel
theorem dX1_drawMonths_42 : decode cX1_drawMonths 42 = .ok (.ldc2_w 91, 3) := by decide +kernel
theorem dX1_drawMonths_45 : decode cX1_drawMonths 45 = .ok (.lmul, 1) := by decide +kernel
theorem dX1_drawMonths_46 : decode cX1_drawMonths 46 = .ok (.ldc2_w 93, 3) := by decide +kernel
theorem dX1_drawMonths_49 : decode cX1_drawMonths 49 = .ok (.ladd, 1) := by decide +kernel
theorem dX1_drawMonths_50 : decode cX1_drawMonths 50 = .ok (.ldc2_w 95, 3) := by decide +kernel
theorem dX1_drawMonths_53 : decode cX1_drawMonths 53 = .ok (.lrem, 1) := by decide +kernel
theorem dX1_drawMonths_54 : decode cX1_drawMonths 54 = .ok (.lstore 5, 2) := by decide +kernel
theorem dX1_drawMonths_56 : decode cX1_drawMonths 56 = .ok (.lload 5, 2) := by decide +kernel
theorem dX1_drawMonths_58 : decode cX1_drawMonths 58 = .ok (.ldc2_w 97, 3) := by decide +kernel
theorem dX1_drawMonths_61 : decode cX1_drawMonths 61 = .ok (.ldiv, 1) := by decide +kernel
theorem dX1_drawMonths_62 : decode cX1_drawMonths 62 = .ok (.ldc2_w 99, 3) := by decide +kernel
theorem dX1_drawMonths_65 : decode cX1_drawMonths 65 = .ok (.lrem, 1) := by decide +kernel
theorem dX1_drawMonths_66 : decode cX1_drawMonths 66 = .ok (.iload_n 3, 1) := by decide +kernel
theorem dX1_drawMonths_67 : decode cX1_drawMonths 67 = .ok (.i2l, 1) := by decide +kernel
theorem dX1_drawMonths_68 : decode cX1_drawMonths 68 = .ok (.lcmp, 1) := by decide +kernel
theorem dX1_drawMonths_69 : decode cX1_drawMonths 69 = .ok (.ifCond .ge 12, 3) := by decide +kernel
theorem dX1_drawMonths_72 : decode cX1_drawMonths 72 = .ok (.iload 8, 2) := by decide +kernel
theorem dX1_drawMonths_74 : decode cX1_drawMonths 74 = .ok (.iconst 1, 1) := by decide +kernel
theorem dX1_drawMonths_75 : decode cX1_drawMonths 75 = .ok (.iload 9, 2) := by decide +kernel
theorem dX1_drawMonths_77 : decode cX1_drawMonths 77 = .ok (.ishl, 1) := by decide +kernel
theorem dX1_drawMonths_78 : decode cX1_drawMonths 78 = .ok (.ior, 1) := by decide +kernel
theorem dX1_drawMonths_79 : decode cX1_drawMonths 79 = .ok (.istore 8, 2) := by decide +kernel
theorem dX1_drawMonths_81 : decode cX1_drawMonths 81 = .ok (.iinc 9 1, 3) := by decide +kernel
theorem dX1_drawMonths_84 : decode cX1_drawMonths 84 = .ok (.goto (-56), 3) := by decide +kernel
theorem dX1_drawMonths_87 : decode cX1_drawMonths 87 = .ok (.aload_n 0, 1) := by decide +kernel
theorem dX1_drawMonths_88 : decode cX1_drawMonths 88 = .ok (.getfield 12, 3) := by decide +kernel
theorem dX1_drawMonths_91 : decode cX1_drawMonths 91 = .ok (.iload 8, 2) := by decide +kernel
theorem dX1_drawMonths_93 : decode cX1_drawMonths 93 = .ok (.invokevirtual 22, 3) := by decide +kernel
theorem dX1_drawMonths_96 : decode cX1_drawMonths 96 = .ok (.iinc 7 1, 3) := by decide +kernel
theorem dX1_drawMonths_99 : decode cX1_drawMonths 99 = .ok (.goto (-84), 3) := by decide +kernel
theorem dX1_drawMonths_102 : decode cX1_drawMonths 102 = .ok (.aload_n 0, 1) := by decide +kernel
theorem dX1_drawMonths_103 : decode cX1_drawMonths 103 = .ok (.getfield 12, 3) := by decide +kernel
theorem dX1_drawMonths_106 : decode cX1_drawMonths 106 = .ok (.areturn, 1) := by decide +kernel
set_option maxRecDepth 20000 in
theorem ggX2_init_X5_init : GoodIn wsX2_init wsX5_init := goodIn_r _ [13, 14, 2, 3, 15, 16, 17, 18, 19, 20, 21, 22, 23, 24, 25, 30, 31, 32, 33, 34, 35, 36, 37, 38, 39, 40, 41, 42, 43, 44, 45, 46] (by decide +kernel) (by decide +kernel)
set_option maxRecDepth 20000 in
theorem gX2_init_X5_init_n9 : GoodIn wsX2_init (wsX5_init) := ggX2_init_X5_init
set_option maxRecDepth 20000 in
theorem ggX2_init_X3_init : GoodIn wsX2_init wsX3_init := goodIn_r _ [27, 28, 2, 3, 15, 29, 50, 51] (by decide +kernel) (by decide +kernel)
set_option maxRecDepth 20000 in
theorem gX2_init_X3_init_n18 : GoodIn wsX2_init (wsX3_init) := ggX2_init_X3_init
theorem dX2_init_0 : decode cX2_init 0 = .ok (.aload_n 0, 1) := by decide +kernel
theorem dX2_init_1 : decode cX2_init 1 = .ok (.invokespecial 1, 3) := by decide +kernel
theorem dX2_init_4 : decode cX2_init 4 = .ok (.aload_n 0, 1) := by decide +kernel
theorem dX2_init_5 : decode cX2_init 5 = .ok (.new 7, 3) := by decide +kernel
theorem dX2_init_8 : decode cX2_init 8 = .ok (.dup, 1) := by decide +kernel
theorem dX2_init_9 : decode cX2_init 9 = .ok (.invokespecial 9, 3) := by decide +kernel
theorem dX2_init_12 : decode cX2_init 12 = .ok (.putfield 10, 3) := by decide +kernel
theorem dX2_init_15 : decode cX2_init 15 = .ok (.aload_n 0, 1) := by decide +kernel
theorem dX2_init_16 : decode cX2_init 16 = .ok (.new 16, 3) := by decide +kernel
theorem dX2_init_19 : decode cX2_init 19 = .ok (.dup, 1) := by decide +kernel
theorem dX2_init_20 : decode cX2_init 20 = .ok (.invokespecial 18, 3) := by decide +kernel
theorem dX2_init_23 : decode cX2_init 23 = .ok (.putfield 19, 3) := by decide +kernel
theorem dX2_init_26 : decode cX2_init 26 = .ok (.return_, 1) := by decide +kernel
theorem dX3_init_0 : decode cX3_init 0 = .ok (.aload_n 0, 1) := by decide +kernel
theorem dX3_init_1 : decode cX3_init 1 = .ok (.invokespecial 5, 3) := by decide +kernel
theorem dX3_init_4 : decode cX3_init 4 = .ok (.aload_n 0, 1) := by decide +kernel
theorem dX3_init_5 : decode cX3_init 5 = .ok (.sipush 280, 3) := by decide +kernel
theorem dX3_init_8 : decode cX3_init 8 = .ok (.newarray .int, 2) := by decide +kernel
theorem dX3_init_10 : decode cX3_init 10 = .ok (.putfield 11, 3) := by decide +kernel
theorem dX3_init_13 : decode cX3_init 13 = .ok (.return_, 1) := by decide +kernel
theorem dX3_forget_0 : decode cX3_forget 0 = .ok (.aload_n 0, 1) := by decide +kernel
theorem dX3_forget_1 : decode cX3_forget 1 = .ok (.iconst 0, 1) := by decide +kernel
theorem dX3_forget_2 : decode cX3_forget 2 = .ok (.putfield 15, 3) := by decide +kernel
theorem dX3_forget_5 : decode cX3_forget 5 = .ok (.return_, 1) := by decide +kernel
theorem dX3_copyFrom_0 : decode cX3_copyFrom 0 = .ok (.aload_n 0, 1) := by decide +kernel
theorem dX3_copyFrom_1 : decode cX3_copyFrom 1 = .ok (.aload_n 1, 1) := by decide +kernel
theorem dX3_copyFrom_2 : decode cX3_copyFrom 2 = .ok (.getfield 15, 3) := by decide +kernel
theorem dX3_copyFrom_5 : decode cX3_copyFrom 5 = .ok (.putfield 15, 3) := by decide +kernel
theorem dX3_copyFrom_8 : decode cX3_copyFrom 8 = .ok (.aload_n 1, 1) := by decide +kernel
theorem dX3_copyFrom_9 : decode cX3_copyFrom 9 = .ok (.getfield 11, 3) := by decide +kernel
theorem dX3_copyFrom_12 : decode cX3_copyFrom 12 = .ok (.iconst 0, 1) := by decide +kernel
theorem dX3_copyFrom_13 : decode cX3_copyFrom 13 = .ok (.aload_n 0, 1) := by decide +kernel
theorem dX3_copyFrom_14 : decode cX3_copyFrom 14 = .ok (.getfield 11, 3) := by decide +kernel
theorem dX3_copyFrom_17 : decode cX3_copyFrom 17 = .ok (.iconst 0, 1) := by decide +kernel
theorem dX3_copyFrom_18 : decode cX3_copyFrom 18 = .ok (.sipush 280, 3) := by decide +kernel
theorem dX3_copyFrom_21 : decode cX3_copyFrom 21 = .ok (.invokestatic 19, 3) := by decide +kernel
theorem dX3_copyFrom_24 : decode cX3_copyFrom 24 = .ok (.return_, 1) := by decide +kernel
theorem dX3_keep_0 : decode cX3_keep 0 = .ok (.aload_n 0, 1) := by decide +kernel
theorem dX3_keep_1 : decode cX3_keep 1 = .ok (.getfield 15, 3) := by decide +kernel
theorem dX3_keep_4 : decode cX3_keep 4 = .ok (.bipush 8, 2) := by decide +kernel
theorem dX3_keep_6 : decode cX3_keep 6 = .ok (.if_icmp .lt 26, 3) := by decide +kernel
theorem dX3_keep_9 : decode cX3_keep 9 = .ok (.aload_n 0, 1) := by decide +kernel
theorem dX3_keep_10 : decode cX3_keep 10 = .ok (.getfield 11, 3) := by decide +kernel
theorem dX3_keep_13 : decode cX3_keep 13 = .ok (.bipush 35, 2) := by decide +kernel
theorem dX3_keep_15 : decode cX3_keep 15 = .ok (.aload_n 0, 1) := by decide +kernel
theorem dX3_keep_16 : decode cX3_keep 16 = .ok (.getfield 11, 3) := by decide +kernel
theorem dX3_keep_19 : decode cX3_keep 19 = .ok (.iconst 0, 1) := by decide +kernel
theorem dX3_keep_20 : decode cX3_keep 20 = .ok (.sipush 245, 3) := by decide +kernel
theorem dX3_keep_23 : decode cX3_keep 23 = .ok (.invokestatic 19, 3) := by decide +kernel
theorem dX3_keep_26 : decode cX3_keep 26 = .ok (.aload_n 0, 1) := by decide +kernel
theorem dX3_keep_27 : decode cX3_keep 27 = .ok (.bipush 7, 2) := by decide +kernel
theorem dX3_keep_29 : decode cX3_keep 29 = .ok (.putfield 15, 3) := by decide +kernel
theorem dX3_keep_32 : decode cX3_keep 32 = .ok (.aload_n 0, 1) := by decide +kernel
theorem dX3_keep_33 : decode cX3_keep 33 = .ok (.getfield 15, 3) := by decide +kernel
theorem dX3_keep_36 : decode cX3_keep 36 = .ok (.bipush 35, 2) := by decide +kernel
theorem dX3_keep_38 : decode cX3_keep 38 = .ok (.imul, 1) := by decide +kernel
theorem dX3_keep_39 : decode cX3_keep 39 = .ok (.istore_n 2, 1) := by decide +kernel
theorem dX3_keep_40 : decode cX3_keep 40 = .ok (.aload_n 0, 1) := by decide +kernel
theorem dX3_keep_41 : decode cX3_keep 41 = .ok (.getfield 11, 3) := by decide +kernel
theorem dX3_keep_44 : decode cX3_keep 44 = .ok (.iload_n 2, 1) := by decide +kernel
theorem dX3_keep_45 : decode cX3_keep 45 = .ok (.aload_n 1, 1) := by decide +kernel
theorem dX3_keep_46 : decode cX3_keep 46 = .ok (.getfield 25, 3) := by decide +kernel
theorem dX3_keep_49 : decode cX3_keep 49 = .ok (.iastore, 1) := by decide +kernel
theorem dX3_keep_50 : decode cX3_keep 50 = .ok (.aload_n 0, 1) := by decide +kernel
theorem dX3_keep_51 : decode cX3_keep 51 = .ok (.getfield 11, 3) := by decide +kernel
theorem dX3_keep_54 : decode cX3_keep 54 = .ok (.iload_n 2, 1) := by decide +kernel
theorem dX3_keep_55 : decode cX3_keep 55 = .ok (.iconst 1, 1) := by decide +kernel
theorem dX3_keep_56 : decode cX3_keep 56 = .ok (.iadd, 1) := by decide +kernel
theorem dX3_keep_57 : decode cX3_keep 57 = .ok (.aload_n 1, 1) := by decide +kernel
theorem dX3_keep_58 : decode cX3_keep 58 = .ok (.getfield 30, 3) := by decide +kernel
theorem dX3_keep_61 : decode cX3_keep 61 = .ok (.iastore, 1) := by decide +kernel
theorem dX3_keep_62 : decode cX3_keep 62 = .ok (.aload_n 0, 1) := by decide +kernel
theorem dX3_keep_63 : decode cX3_keep 63 = .ok (.getfield 11, 3) := by decide +kernel
theorem dX3_keep_66 : decode cX3_keep 66 = .ok (.iload_n 2, 1) := by decide +kernel
theorem dX3_keep_67 : decode cX3_keep 67 = .ok (.iconst 2, 1) := by decide +kernel
theorem dX3_keep_68 : decode cX3_keep 68 = .ok (.iadd, 1) := by decide +kernel
theorem dX3_keep_69 : decode cX3_keep 69 = .ok (.aload_n 1, 1) := by decide +kernel
theorem dX3_keep_70 : decode cX3_keep 70 = .ok (.getfield 33, 3) := by decide +kernel
theorem dX3_keep_73 : decode cX3_keep 73 = .ok (.iastore, 1) := by decide +kernel
theorem dX3_keep_74 : decode cX3_keep 74 = .ok (.aload_n 0, 1) := by decide +kernel
theorem dX3_keep_75 : decode cX3_keep 75 = .ok (.getfield 11, 3) := by decide +kernel
theorem dX3_keep_78 : decode cX3_keep 78 = .ok (.iload_n 2, 1) := by decide +kernel
theorem dX3_keep_79 : decode cX3_keep 79 = .ok (.iconst 3, 1) := by decide +kernel
theorem dX3_keep_80 : decode cX3_keep 80 = .ok (.iadd, 1) := by decide +kernel
theorem dX3_keep_81 : decode cX3_keep 81 = .ok (.aload_n 1, 1) := by decide +kernel
theorem dX3_keep_82 : decode cX3_keep 82 = .ok (.getfield 36, 3) := by decide +kernel
theorem dX3_keep_85 : decode cX3_keep 85 = .ok (.iastore, 1) := by decide +kernel
theorem dX3_keep_86 : decode cX3_keep 86 = .ok (.aload_n 0, 1) := by decide +kernel
theorem dX3_keep_87 : decode cX3_keep 87 = .ok (.getfield 11, 3) := by decide +kernel
theorem dX3_keep_90 : decode cX3_keep 90 = .ok (.iload_n 2, 1) := by decide +kernel
theorem dX3_keep_91 : decode cX3_keep 91 = .ok (.iconst 4, 1) := by decide +kernel
theorem dX3_keep_92 : decode cX3_keep 92 = .ok (.iadd, 1) := by decide +kernel
theorem dX3_keep_93 : decode cX3_keep 93 = .ok (.aload_n 1, 1) := by decide +kernel
theorem dX3_keep_94 : decode cX3_keep 94 = .ok (.getfield 39, 3) := by decide +kernel
theorem dX3_keep_97 : decode cX3_keep 97 = .ok (.iastore, 1) := by decide +kernel
theorem dX3_keep_98 : decode cX3_keep 98 = .ok (.aload_n 1, 1) := by decide +kernel
theorem dX3_keep_99 : decode cX3_keep 99 = .ok (.getfield 42, 3) := by decide +kernel
theorem dX3_keep_102 : decode cX3_keep 102 = .ok (.iconst 0, 1) := by decide +kernel
theorem dX3_keep_103 : decode cX3_keep 103 = .ok (.aload_n 0, 1) := by decide +kernel
theorem dX3_keep_104 : decode cX3_keep 104 = .ok (.getfield 11, 3) := by decide +kernel
theorem dX3_keep_107 : decode cX3_keep 107 = .ok (.iload_n 2, 1) := by decide +kernel
theorem dX3_keep_108 : decode cX3_keep 108 = .ok (.iconst 5, 1) := by decide +kernel
theorem dX3_keep_109 : decode cX3_keep 109 = .ok (.iadd, 1) := by decide +kernel
theorem dX3_keep_110 : decode cX3_keep 110 = .ok (.bipush 6, 2) := by decide +kernel
theorem dX3_keep_112 : decode cX3_keep 112 = .ok (.invokestatic 19, 3) := by decide +kernel
theorem dX3_keep_115 : decode cX3_keep 115 = .ok (.aload_n 1, 1) := by decide +kernel
theorem dX3_keep_116 : decode cX3_keep 116 = .ok (.getfield 45, 3) := by decide +kernel
theorem dX3_keep_119 : decode cX3_keep 119 = .ok (.iconst 0, 1) := by decide +kernel
theorem dX3_keep_120 : decode cX3_keep 120 = .ok (.aload_n 0, 1) := by decide +kernel
theorem dX3_keep_121 : decode cX3_keep 121 = .ok (.getfield 11, 3) := by decide +kernel
theorem dX3_keep_124 : decode cX3_keep 124 = .ok (.iload_n 2, 1) := by decide +kernel
theorem dX3_keep_125 : decode cX3_keep 125 = .ok (.bipush 11, 2) := by decide +kernel
theorem dX3_keep_127 : decode cX3_keep 127 = .ok (.iadd, 1) := by decide +kernel
theorem dX3_keep_128 : decode cX3_keep 128 = .ok (.bipush 8, 2) := by decide +kernel
theorem dX3_keep_130 : decode cX3_keep 130 = .ok (.invokestatic 19, 3) := by decide +kernel
theorem dX3_keep_133 : decode cX3_keep 133 = .ok (.aload_n 1, 1) := by decide +kernel
theorem dX3_keep_134 : decode cX3_keep 134 = .ok (.getfield 48, 3) := by decide +kernel
theorem dX3_keep_137 : decode cX3_keep 137 = .ok (.iconst 0, 1) := by decide +kernel
theorem dX3_keep_138 : decode cX3_keep 138 = .ok (.aload_n 0, 1) := by decide +kernel
theorem dX3_keep_139 : decode cX3_keep 139 = .ok (.getfield 11, 3) := by decide +kernel
theorem dX3_keep_142 : decode cX3_keep 142 = .ok (.iload_n 2, 1) := by decide +kernel
theorem dX3_keep_143 : decode cX3_keep 143 = .ok (.bipush 19, 2) := by decide +kernel
theorem dX3_keep_145 : decode cX3_keep 145 = .ok (.iadd, 1) := by decide +kernel
theorem dX3_keep_146 : decode cX3_keep 146 = .ok (.bipush 8, 2) := by decide +kernel
theorem dX3_keep_148 : decode cX3_keep 148 = .ok (.invokestatic 19, 3) := by decide +kernel
theorem dX3_keep_151 : decode cX3_keep 151 = .ok (.aload_n 1, 1) := by decide +kernel
theorem dX3_keep_152 : decode cX3_keep 152 = .ok (.getfield 51, 3) := by decide +kernel
theorem dX3_keep_155 : decode cX3_keep 155 = .ok (.iconst 0, 1) := by decide +kernel
theorem dX3_keep_156 : decode cX3_keep 156 = .ok (.aload_n 0, 1) := by decide +kernel
theorem dX3_keep_157 : decode cX3_keep 157 = .ok (.getfield 11, 3) := by decide +kernel
theorem dX3_keep_160 : decode cX3_keep 160 = .ok (.iload_n 2, 1) := by decide +kernel
theorem dX3_keep_161 : decode cX3_keep 161 = .ok (.bipush 27, 2) := by decide +kernel
theorem dX3_keep_163 : decode cX3_keep 163 = .ok (.iadd, 1) := by decide +kernel
theorem dX3_keep_164 : decode cX3_keep 164 = .ok (.bipush 8, 2) := by decide +kernel
theorem dX3_keep_166 : decode cX3_keep 166 = .ok (.invokestatic 19, 3) := by decide +kernel
theorem dX3_keep_169 : decode cX3_keep 169 = .ok (.aload_n 0, 1) := by decide +kernel
theorem dX3_keep_170 : decode cX3_keep 170 = .ok (.dup, 1) := by decide +kernel
theorem dX3_keep_171 : decode cX3_keep 171 = .ok (.getfield 15, 3) := by decide +kernel
theorem dX3_keep_174 : decode cX3_keep 174 = .ok (.iconst 1, 1) := by decide +kernel
theorem dX3_keep_175 : decode cX3_keep 175 = .ok (.iadd, 1) := by decide +kernel
theorem dX3_keep_176 : decode cX3_keep 176 = .ok (.putfield 15, 3) := by decide +kernel
theorem dX3_keep_179 : decode cX3_keep 179 = .ok (.return_, 1) := by decide +kernel
theorem dX3_goBack_0 : decode cX3_goBack 0 = .ok (.aload_n 0, 1) := by decide +kernel
theorem dX3_goBack_1 : decode cX3_goBack 1 = .ok (.getfield 15, 3) := by decide +kernel
theorem dX3_goBack_4 : decode cX3_goBack 4 = .ok (.ifCond .gt 4, 3) := by decide +kernel
theorem dX3_goBack_7 : decode cX3_goBack 7 = .ok (.return_, 1) := by decide +kernel
theorem dX3_goBack_8 : decode cX3_goBack 8 = .ok (.aload_n 0, 1) := by decide +kernel
theorem dX3_goBack_9 : decode cX3_goBack 9 = .ok (.dup, 1) := by decide +kernel
theorem dX3_goBack_10 : decode cX3_goBack 10 = .ok (.getfield 15, 3) := by decide +kernel
theorem dX3_goBack_13 : decode cX3_goBack 13 = .ok (.iconst 1, 1) := by decide +kernel
theorem dX3_goBack_14 : decode cX3_goBack 14 = .ok (.isub, 1) := by decide +kernel
theorem dX3_goBack_15 : decode cX3_goBack 15 = .ok (.putfield 15, 3) := by decide +kernel
theorem dX3_goBack_18 : decode cX3_goBack 18 = .ok (.aload_n 0, 1) := by decide +kernel
theorem dX3_goBack_19 : decode cX3_goBack 19 = .ok (.getfield 15, 3) := by decide +kernel
theorem dX3_goBack_22 : decode cX3_goBack 22 = .ok (.bipush 35, 2) := by decide +kernel
theorem dX3_goBack_24 : decode cX3_goBack 24 = .ok (.imul, 1) := by decide +kernel
theorem dX3_goBack_25 : decode cX3_goBack 25 = .ok (.istore_n 2, 1) := by decide +kernel
theorem dX3_goBack_26 : decode cX3_goBack 26 = .ok (.aload_n 0, 1) := by decide +kernel
theorem dX3_goBack_27 : decode cX3_goBack 27 = .ok (.getfield 11, 3) := by decide +kernel
theorem dX3_goBack_30 : decode cX3_goBack 30 = .ok (.iload_n 2, 1) := by decide +kernel
theorem dX3_goBack_31 : decode cX3_goBack 31 = .ok (.iconst 3, 1) := by decide +kernel
theorem dX3_goBack_32 : decode cX3_goBack 32 = .ok (.iadd, 1) := by decide +kernel
theorem dX3_goBack_33 : decode cX3_goBack 33 = .ok (.iaload, 1) := by decide +kernel
theorem dX3_goBack_34 : decode cX3_goBack 34 = .ok (.bipush 6, 2) := by decide +kernel
theorem dX3_goBack_36 : decode cX3_goBack 36 = .ok (.invokestatic 54, 3) := by decide +kernel
theorem dX3_goBack_39 : decode cX3_goBack 39 = .ok (.istore_n 3, 1) := by decide +kernel
theorem dX3_goBack_40 : decode cX3_goBack 40 = .ok (.aload_n 0, 1) := by decide +kernel
theorem dX3_goBack_41 : decode cX3_goBack 41 = .ok (.getfield 11, 3) := by decide +kernel
theorem dX3_goBack_44 : decode cX3_goBack 44 = .ok (.iload_n 2, 1) := by decide +kernel
theorem dX3_goBack_45 : decode cX3_goBack 45 = .ok (.iconst 4, 1) := by decide +kernel
theorem dX3_goBack_46 : decode cX3_goBack 46 = .ok (.iadd, 1) := by decide +kernel
theorem dX3_goBack_47 : decode cX3_goBack 47 = .ok (.iaload, 1) := by decide +kernel
theorem dX3_goBack_48 : decode cX3_goBack 48 = .ok (.bipush 8, 2) := by decide +kernel
theorem dX3_goBack_50 : decode cX3_goBack 50 = .ok (.invokestatic 54, 3) := by decide +kernel
theorem dX3_goBack_53 : decode cX3_goBack 53 = .ok (.istore 4, 2) := by decide +kernel
theorem dX3_goBack_55 : decode cX3_goBack 55 = .ok (.aload_n 1, 1) := by decide +kernel
theorem dX3_goBack_56 : decode cX3_goBack 56 = .ok (.aload_n 0, 1) := by decide +kernel
theorem dX3_goBack_57 : decode cX3_goBack 57 = .ok (.getfield 11, 3) := by decide +kernel
theorem dX3_goBack_60 : decode cX3_goBack 60 = .ok (.iload_n 2, 1) := by decide +kernel
theorem dX3_goBack_61 : decode cX3_goBack 61 = .ok (.iaload, 1) := by decide +kernel
theorem dX3_goBack_62 : decode cX3_goBack 62 = .ok (.putfield 25, 3) := by decide +kernel
theorem dX3_goBack_65 : decode cX3_goBack 65 = .ok (.aload_n 1, 1) := by decide +kernel
theorem dX3_goBack_66 : decode cX3_goBack 66 = .ok (.aload_n 0, 1) := by decide +kernel
theorem dX3_goBack_67 : decode cX3_goBack 67 = .ok (.getfield 11, 3) := by decide +kernel
theorem dX3_goBack_70 : decode cX3_goBack 70 = .ok (.iload_n 2, 1) := by decide +kernel
theorem dX3_goBack_71 : decode cX3_goBack 71 = .ok (.iconst 1, 1) := by decide +kernel
theorem dX3_goBack_72 : decode cX3_goBack 72 = .ok (.iadd, 1) := by decide +kernel
theorem dX3_goBack_73 : decode cX3_goBack 73 = .ok (.iaload, 1) := by decide +kernel
theorem dX3_goBack_74 : decode cX3_goBack 74 = .ok (.putfield 30, 3) := by decide +kernel
theorem dX3_goBack_77 : decode cX3_goBack 77 = .ok (.aload_n 1, 1) := by decide +kernel
theorem dX3_goBack_78 : decode cX3_goBack 78 = .ok (.aload_n 0, 1) := by decide +kernel
theorem dX3_goBack_79 : decode cX3_goBack 79 = .ok (.getfield 11, 3) := by decide +kernel
theorem dX3_goBack_82 : decode cX3_goBack 82 = .ok (.iload_n 2, 1) := by decide +kernel
theorem dX3_goBack_83 : decode cX3_goBack 83 = .ok (.iconst 2, 1) := by decide +kernel
theorem dX3_goBack_84 : decode cX3_goBack 84 = .ok (.iadd, 1) := by decide +kernel
theorem dX3_goBack_85 : decode cX3_goBack 85 = .ok (.iaload, 1) := by decide +kernel
theorem dX3_goBack_86 : decode cX3_goBack 86 = .ok (.putfield 33, 3) := by decide +kernel
theorem dX3_goBack_89 : decode cX3_goBack 89 = .ok (.aload_n 0, 1) := by decide +kernel
theorem dX3_goBack_90 : decode cX3_goBack 90 = .ok (.getfield 11, 3) := by decide +kernel
theorem dX3_goBack_93 : decode cX3_goBack 93 = .ok (.iload_n 2, 1) := by decide +kernel
theorem dX3_goBack_94 : decode cX3_goBack 94 = .ok (.iconst 5, 1) := by decide +kernel
theorem dX3_goBack_95 : decode cX3_goBack 95 = .ok (.iadd, 1) := by decide +kernel
theorem dX3_goBack_96 : decode cX3_goBack 96 = .ok (.aload_n 1, 1) := by decide +kernel
theorem dX3_goBack_97 : decode cX3_goBack 97 = .ok (.getfield 42, 3) := by decide +kernel
theorem dX3_goBack_100 : decode cX3_goBack 100 = .ok (.iconst 0, 1) := by decide +kernel
theorem dX3_goBack_101 : decode cX3_goBack 101 = .ok (.iload_n 3, 1) := by decide +kernel
theorem dX3_goBack_102 : decode cX3_goBack 102 = .ok (.invokestatic 19, 3) := by decide +kernel
theorem dX3_goBack_105 : decode cX3_goBack 105 = .ok (.aload_n 0, 1) := by decide +kernel
theorem dX3_goBack_106 : decode cX3_goBack 106 = .ok (.getfield 11, 3) := by decide +kernel
theorem dX3_goBack_109 : decode cX3_goBack 109 = .ok (.iload_n 2, 1) := by decide +kernel
theorem dX3_goBack_110 : decode cX3_goBack 110 = .ok (.bipush 11, 2) := by decide +kernel
theorem dX3_goBack_112 : decode cX3_goBack 112 = .ok (.iadd, 1) := by decide +kernel
theorem dX3_goBack_113 : decode cX3_goBack 113 = .ok (.aload_n 1, 1) := by decide +kernel
theorem dX3_goBack_114 : decode cX3_goBack 114 = .ok (.getfield 45, 3) := by decide +kernel
theorem dX3_goBack_117 : decode cX3_goBack 117 = .ok (.iconst 0, 1) := by decide +kernel
theorem dX3_goBack_118 : decode cX3_goBack 118 = .ok (.iload 4, 2) := by decide +kernel
theorem dX3_goBack_120 : decode cX3_goBack 120 = .ok (.invokestatic 19, 3) := by decide +kernel
theorem dX3_goBack_123 : decode cX3_goBack 123 = .ok (.aload_n 0, 1) := by decide +kernel
theorem dX3_goBack_124 : decode cX3_goBack 124 = .ok (.getfield 11, 3) := by decide +kernel
theorem dX3_goBack_127 : decode cX3_goBack 127 = .ok (.iload_n 2, 1) := by decide +kernel
theorem dX3_goBack_128 : decode cX3_goBack 128 = .ok (.bipush 19, 2) := by decide +kernel
theorem dX3_goBack_130 : decode cX3_goBack 130 = .ok (.iadd, 1) := by decide +kernel
theorem dX3_goBack_131 : decode cX3_goBack 131 = .ok (.aload_n 1, 1) := by decide +kernel
theorem dX3_goBack_132 : decode cX3_goBack 132 = .ok (.getfield 48, 3) := by decide +kernel
theorem dX3_goBack_135 : decode cX3_goBack 135 = .ok (.iconst 0, 1) := by decide +kernel
theorem dX3_goBack_136 : decode cX3_goBack 136 = .ok (.iload 4, 2) := by decide +kernel
theorem dX3_goBack_138 : decode cX3_goBack 138 = .ok (.invokestatic 19, 3) := by decide +kernel
theorem dX3_goBack_141 : decode cX3_goBack 141 = .ok (.aload_n 0, 1) := by decide +kernel
theorem dX3_goBack_142 : decode cX3_goBack 142 = .ok (.getfield 11, 3) := by decide +kernel
theorem dX3_goBack_145 : decode cX3_goBack 145 = .ok (.iload_n 2, 1) := by decide +kernel
theorem dX3_goBack_146 : decode cX3_goBack 146 = .ok (.bipush 27, 2) := by decide +kernel
theorem dX3_goBack_148 : decode cX3_goBack 148 = .ok (.iadd, 1) := by decide +kernel
theorem dX3_goBack_149 : decode cX3_goBack 149 = .ok (.aload_n 1, 1) := by decide +kernel
theorem dX3_goBack_150 : decode cX3_goBack 150 = .ok (.getfield 51, 3) := by decide +kernel
theorem dX3_goBack_153 : decode cX3_goBack 153 = .ok (.iconst 0, 1) := by decide +kernel
theorem dX3_goBack_154 : decode cX3_goBack 154 = .ok (.iload 4, 2) := by decide +kernel
theorem dX3_goBack_156 : decode cX3_goBack 156 = .ok (.invokestatic 19, 3) := by decide +kernel
theorem dX3_goBack_159 : decode cX3_goBack 159 = .ok (.return_, 1) := by decide +kernel
theorem dX4_init_0 : decode cX4_init 0 = .ok (.aload_n 0, 1) := by decide +kernel
theorem dX4_init_1 : decode cX4_init 1 = .ok (.invokespecial 3, 3) := by decide +kernel
theorem dX4_init_4 : decode cX4_init 4 = .ok (.aload_n 0, 1) := by decide +kernel
theorem dX4_init_5 : decode cX4_init 5 = .ok (.sipush 150, 3) := by decide +kernel
theorem dX4_init_8 : decode cX4_init 8 = .ok (.newarray .byte, 2) := by decide +kernel
theorem dX4_init_10 : decode cX4_init 10 = .ok (.putfield 9, 3) := by decide +kernel
theorem dX4_init_13 : decode cX4_init 13 = .ok (.return_, 1) := by decide +kernel
theorem dX4_add_0 : decode cX4_add 0 = .ok (.aload_n 0, 1) := by decide +kernel
theorem dX4_add_1 : decode cX4_add 1 = .ok (.getfield 15, 3) := by decide +kernel
theorem dX4_add_4 : decode cX4_add 4 = .ok (.sipush 150, 3) := by decide +kernel
theorem dX4_add_7 : decode cX4_add 7 = .ok (.if_icmp .ge 23, 3) := by decide +kernel
theorem dX4_add_10 : decode cX4_add 10 = .ok (.aload_n 0, 1) := by decide +kernel
theorem dX4_add_11 : decode cX4_add 11 = .ok (.getfield 9, 3) := by decide +kernel
theorem dX4_add_14 : decode cX4_add 14 = .ok (.aload_n 0, 1) := by decide +kernel
theorem dX4_add_15 : decode cX4_add 15 = .ok (.getfield 15, 3) := by decide +kernel
theorem dX4_add_18 : decode cX4_add 18 = .ok (.iload_n 1, 1) := by decide +kernel
theorem dX4_add_19 : decode cX4_add 19 = .ok (.bastore, 1) := by decide +kernel
theorem dX4_add_20 : decode cX4_add 20 = .ok (.aload_n 0, 1) := by decide +kernel
theorem dX4_add_21 : decode cX4_add 21 = .ok (.dup, 1) := by decide +kernel
theorem dX4_add_22 : decode cX4_add 22 = .ok (.getfield 15, 3) := by decide +kernel
theorem dX4_add_25 : decode cX4_add 25 = .ok (.iconst 1, 1) := by decide +kernel
theorem dX4_add_26 : decode cX4_add 26 = .ok (.iadd, 1) := by decide +kernel
theorem dX4_add_27 : decode cX4_add 27 = .ok (.putfield 15, 3) := by decide +kernel
theorem dX4_add_30 : decode cX4_add 30 = .ok (.return_, 1) := by decide +kernel
set_option maxRecDepth 20000 in
theorem ggX4_readTown_X5_makeEmpty : GoodIn wsX4_readTown wsX5_makeEmpty := goodIn_r _ [9, 10, 11, 12, 13, 14, 15, 16, 154, 155, 156, 157, 158, 159, 160, 161, 162, 163, 164, 165, 166, 167, 168, 169, 170] (by decide +kernel) (by decide +kernel)
set_option maxRecDepth 20000 in
theorem gX4_readTown_X5_makeEmpty : GoodIn wsX4_readTown (wsV RX4 22 RX5 yX5_makeEmpty wsX5_makeEmpty) := goodIn_app (goodIn_of _ (by decide +kernel)) ggX4_readTown_X5_makeEmpty
set_option maxRecDepth 20000 in
theorem ggX4_readTown_X4_step : GoodIn wsX4_readTown wsX4_step := goodIn_r _ [21, 1, 4, 2, 22, 3, 23, 24, 25, 20, 26, 27, 28, 29, 30, 31, 148, 149, 150, 151, 152, 153] (by decide +kernel) (by decide +kernel)
set_option maxRecDepth 20000 in
theorem gX4_readTown_X4_step : GoodIn wsX4_readTown (wsV RX4 27 RX4 yX4_step wsX4_step) := goodIn_app (goodIn_of _ (by decide +kernel)) ggX4_readTown_X4_step
set_option maxRecDepth 20000 in
theorem ggX4_readTown_X4_isWord : GoodIn wsX4_readTown wsX4_isWord := goodIn_r _ [35, 3, 1, 4, 22, 36, 37, 38, 39, 40, 41, 42, 43, 44, 45, 46, 47, 48, 49, 50, 51, 52, 53, 54, 55, 56, 57, 58, 59, 60, 61, 62, 63, 64, 65, 66, 67, 68, 69, 70, 71, 72, 73, 74, 75, 76, 77, 78, 79, 80, 81, 82, 83, 84, 148, 149, 150, 151, 152, 153] (by decide +kernel) (by decide +kernel)
set_option maxRecDepth 20000 in
theorem gX4_readTown_X4_isWord : GoodIn wsX4_readTown (wsV RX4 35 RX4 yX4_isWord wsX4_isWord) := goodIn_app (goodIn_of _ (by decide +kernel)) ggX4_readTown_X4_isWord
set_option maxRecDepth 20000 in
theorem ggX4_readTown_X4_chestItem : GoodIn wsX4_readTown wsX4_chestItem := goodIn_r _ [88, 89, 31, 90, 91, 92, 93, 20, 94, 3, 17, 18, 19, 21, 1, 4, 2, 22, 23, 24, 25, 26, 27, 28, 29, 30, 95, 96, 97, 98, 99, 100, 101, 148, 149, 150, 151, 152, 153, 154, 155, 156, 157, 158, 159, 160, 161, 162, 163, 164, 165, 166, 167, 168, 169, 170] (by decide +kernel) (by decide +kernel)
set_option maxRecDepth 20000 in
theorem gX4_readTown_X4_chestItem : GoodIn wsX4_readTown (wsV RX4 39 RX4 yX4_chestItem wsX4_chestItem) := goodIn_app (goodIn_of _ (by decide +kernel)) ggX4_readTown_X4_chestItem
set_option maxRecDepth 20000 in
theorem ggX4_readTown_X4_laterItem : GoodIn wsX4_readTown wsX4_laterItem := goodIn_r _ [105, 106, 107, 108, 32, 33, 34, 20, 35, 3, 1, 4, 22, 36, 37, 38, 39, 40, 41, 42, 43, 44, 45, 46, 47, 48, 49, 50, 51, 52, 53, 54, 55, 56, 57, 58, 59, 60, 61, 62, 63, 64, 65, 66, 67, 68, 69, 70, 71, 72, 73, 74, 75, 76, 77, 78, 79, 80, 81, 82, 83, 84, 109, 110, 111, 112, 31, 113, 91, 92, 93, 94, 17, 18, 19, 21, 2, 23, 24, 25, 26, 27, 28, 29, 30, 95, 96, 97, 98, 99, 100, 101, 114, 115, 116, 117, 118, 119, 120, 8, 121, 14, 122, 123, 124, 125, 126, 127, 128, 129, 130, 131, 132, 15, 133, 134, 135, 136, 137, 138, 139, 140, 141, 142, 143, 144, 145, 16, 146, 147, 154, 155, 156, 157, 158, 159, 160, 161, 162, 163, 164, 165, 166, 167, 168, 169, 170, 148, 149, 150, 151, 152, 153] (by decide +kernel) (by decide +kernel)
set_option maxRecDepth 20000 in
theorem gX4_readTown_X4_laterItem : GoodIn wsX4_readTown (wsV RX4 43 RX4 yX4_laterItem wsX4_laterItem) := goodIn_app (goodIn_of _ (by decide +kernel)) ggX4_readTown_X4_laterItem
theorem dX4_readTown_0 : decode cX4_readTown 0 = .ok (.aload_n 0, 1) := by decide +kernel
theorem dX4_readTown_1 : decode cX4_readTown 1 = .ok (.iconst 0, 1) := by decide +kernel
theorem dX4_readTown_2 : decode cX4_readTown 2 = .ok (.putfield 19, 3) := by decide +kernel
theorem dX4_readTown_5 : decode cX4_readTown 5 = .ok (.aload_n 1, 1) := by decide +kernel
theorem dX4_readTown_6 : decode cX4_readTown 6 = .ok (.invokevirtual 22, 3) := by decide +kernel
theorem dX4_readTown_9 : decode cX4_readTown 9 = .ok (.iconst 0, 1) := by decide +kernel
theorem dX4_readTown_10 : decode cX4_readTown 10 = .ok (.istore_n 2, 1) := by decide +kernel
theorem dX4_readTown_11 : decode cX4_readTown 11 = .ok (.iload_n 2, 1) := by decide +kernel
theorem dX4_readTown_12 : decode cX4_readTown 12 = .ok (.aload_n 0, 1) := by decide +kernel
theorem dX4_readTown_13 : decode cX4_readTown 13 = .ok (.getfield 15, 3) := by decide +kernel
theorem dX4_readTown_16 : decode cX4_readTown 16 = .ok (.if_icmp .gt 73, 3) := by decide +kernel
theorem dX4_readTown_19 : decode cX4_readTown 19 = .ok (.aload_n 0, 1) := by decide +kernel
theorem dX4_readTown_20 : decode cX4_readTown 20 = .ok (.invokevirtual 27, 3) := by decide +kernel
theorem dX4_readTown_23 : decode cX4_readTown 23 = .ok (.aload_n 0, 1) := by decide +kernel
theorem dX4_readTown_24 : decode cX4_readTown 24 = .ok (.getfield 30, 3) := by decide +kernel
theorem dX4_readTown_27 : decode cX4_readTown 27 = .ok (.ifCond .ne 9, 3) := by decide +kernel
theorem dX4_readTown_30 : decode cX4_readTown 30 = .ok (.iload_n 2, 1) := by decide +kernel
theorem dX4_readTown_31 : decode cX4_readTown 31 = .ok (.ifCond .le 5, 3) := by decide +kernel
theorem dX4_readTown_34 : decode cX4_readTown 34 = .ok (.iload_n 2, 1) := by decide +kernel
theorem dX4_readTown_35 : decode cX4_readTown 35 = .ok (.ireturn, 1) := by decide +kernel
theorem dX4_readTown_36 : decode cX4_readTown 36 = .ok (.iload_n 2, 1) := by decide +kernel
theorem dX4_readTown_37 : decode cX4_readTown 37 = .ok (.ifCond .ne 28, 3) := by decide +kernel
theorem dX4_readTown_40 : decode cX4_readTown 40 = .ok (.aload_n 0, 1) := by decide +kernel
theorem dX4_readTown_41 : decode cX4_readTown 41 = .ok (.ldc 33, 2) := by decide +kernel
theorem dX4_readTown_43 : decode cX4_readTown 43 = .ok (.invokevirtual 35, 3) := by decide +kernel
theorem dX4_readTown_46 : decode cX4_readTown 46 = .ok (.ifCond .eq 15, 3) := by decide +kernel
theorem dX4_readTown_49 : decode cX4_readTown 49 = .ok (.aload_n 0, 1) := by decide +kernel
theorem dX4_readTown_50 : decode cX4_readTown 50 = .ok (.aload_n 1, 1) := by decide +kernel
theorem dX4_readTown_51 : decode cX4_readTown 51 = .ok (.invokevirtual 39, 3) := by decide +kernel
theorem dX4_readTown_54 : decode cX4_readTown 54 = .ok (.ifCond .eq 7, 3) := by decide +kernel
theorem dX4_readTown_57 : decode cX4_readTown 57 = .ok (.iconst 1, 1) := by decide +kernel
theorem dX4_readTown_58 : decode cX4_readTown 58 = .ok (.goto 12, 3) := by decide +kernel
theorem dX4_readTown_61 : decode cX4_readTown 61 = .ok (.iconst 0, 1) := by decide +kernel
theorem dX4_readTown_62 : decode cX4_readTown 62 = .ok (.goto 8, 3) := by decide +kernel
theorem dX4_readTown_65 : decode cX4_readTown 65 = .ok (.aload_n 0, 1) := by decide +kernel
theorem dX4_readTown_66 : decode cX4_readTown 66 = .ok (.aload_n 1, 1) := by decide +kernel
theorem dX4_readTown_67 : decode cX4_readTown 67 = .ok (.invokevirtual 43, 3) := by decide +kernel
theorem dX4_readTown_70 : decode cX4_readTown 70 = .ok (.istore_n 3, 1) := by decide +kernel
theorem dX4_readTown_71 : decode cX4_readTown 71 = .ok (.iload_n 3, 1) := by decide +kernel
theorem dX4_readTown_72 : decode cX4_readTown 72 = .ok (.ifCond .ne 11, 3) := by decide +kernel
theorem dX4_readTown_75 : decode cX4_readTown 75 = .ok (.bipush (-10), 2) := by decide +kernel
theorem dX4_readTown_77 : decode cX4_readTown 77 = .ok (.aload_n 0, 1) := by decide +kernel
theorem dX4_readTown_78 : decode cX4_readTown 78 = .ok (.getfield 46, 3) := by decide +kernel
theorem dX4_readTown_81 : decode cX4_readTown 81 = .ok (.isub, 1) := by decide +kernel
theorem dX4_readTown_82 : decode cX4_readTown 82 = .ok (.ireturn, 1) := by decide +kernel
theorem dX4_readTown_83 : decode cX4_readTown 83 = .ok (.iinc 2 1, 3) := by decide +kernel
theorem dX4_readTown_86 : decode cX4_readTown 86 = .ok (.goto (-75), 3) := by decide +kernel
theorem dX4_readTown_89 : decode cX4_readTown 89 = .ok (.bipush (-10), 2) := by decide +kernel
theorem dX4_readTown_91 : decode cX4_readTown 91 = .ok (.aload_n 0, 1) := by decide +kernel
theorem dX4_readTown_92 : decode cX4_readTown 92 = .ok (.getfield 15, 3) := by decide +kernel
theorem dX4_readTown_95 : decode cX4_readTown 95 = .ok (.isub, 1) := by decide +kernel
theorem dX4_readTown_96 : decode cX4_readTown 96 = .ok (.ireturn, 1) := by decide +kernel
set_option maxRecDepth 20000 in
theorem ggX4_laterItem_X4_isWord : GoodIn wsX4_laterItem wsX4_isWord := goodIn_r _ [8, 9, 10, 11, 12, 13, 14, 15, 16, 17, 18, 19, 20, 21, 22, 23, 24, 25, 26, 27, 28, 29, 30, 31, 32, 33, 34, 35, 36, 37, 38, 39, 40, 41, 42, 43, 44, 45, 46, 47, 48, 49, 50, 51, 52, 53, 54, 55, 56, 57, 58, 59, 60, 61, 147, 148, 149, 150, 151, 152] (by decide +kernel) (by decide +kernel)
set_option maxRecDepth 20000 in
theorem gX4_laterItem_X4_isWord : GoodIn wsX4_laterItem (wsV RX4 35 RX4 yX4_isWord wsX4_isWord) := goodIn_app (goodIn_of _ (by decide +kernel)) ggX4_laterItem_X4_isWord
set_option maxRecDepth 20000 in
theorem ggX4_laterItem_X4_rateItem : GoodIn wsX4_laterItem wsX4_rateItem := goodIn_r _ [65, 66, 67, 68, 69, 70, 7, 71, 9, 72, 73, 74, 75, 10, 11, 76, 12, 77, 78, 79, 80, 81, 82, 83, 84, 85, 86, 87, 88, 89, 90, 91, 147, 148, 149, 150, 151, 152, 130, 131, 132, 133, 134, 135, 136, 137, 138, 139, 140, 141, 142, 143, 144, 145, 146] (by decide +kernel) (by decide +kernel)
set_option maxRecDepth 20000 in
theorem gX4_laterItem_X4_rateItem : GoodIn wsX4_laterItem (wsV RX4 51 RX4 yX4_rateItem wsX4_rateItem) := goodIn_app (goodIn_of _ (by decide +kernel)) ggX4_laterItem_X4_rateItem
set_option maxRecDepth 20000 in
theorem ggX4_laterItem_X4_personItem : GoodIn wsX4_laterItem wsX4_personItem := goodIn_r _ [95, 66, 68, 69, 70, 7, 71, 9, 72, 73, 74, 75, 10, 11, 76, 12, 77, 78, 79, 80, 81, 82, 83, 84, 85, 86, 87, 96, 97, 98, 99, 100, 101, 102, 103, 104, 88, 89, 90, 91, 147, 148, 149, 150, 151, 152, 130, 131, 132, 133, 134, 135, 136, 137, 138, 139, 140, 141, 142, 143, 144, 145, 146] (by decide +kernel) (by decide +kernel)
set_option maxRecDepth 20000 in
theorem gX4_laterItem_X4_personItem : GoodIn wsX4_laterItem (wsV RX4 59 RX4 yX4_personItem wsX4_personItem) := goodIn_app (goodIn_of _ (by decide +kernel)) ggX4_laterItem_X4_personItem
set_option maxRecDepth 20000 in
theorem ggX4_laterItem_X4_loanItem : GoodIn wsX4_laterItem wsX4_loanItem := goodIn_r _ [108, 1, 66, 68, 69, 70, 7, 71, 9, 72, 73, 74, 75, 10, 11, 76, 12, 77, 78, 79, 80, 81, 82, 83, 84, 85, 86, 87, 109, 110, 111, 99, 112, 113, 114, 115, 116, 117, 118, 88, 89, 90, 91, 130, 131, 132, 133, 134, 135, 136, 137, 138, 139, 140, 141, 142, 143, 144, 145, 146, 147, 148, 149, 150, 151, 152] (by decide +kernel) (by decide +kernel)
set_option maxRecDepth 20000 in
theorem gX4_laterItem_X4_loanItem : GoodIn wsX4_laterItem (wsV RX4 67 RX4 yX4_loanItem wsX4_loanItem) := goodIn_app (goodIn_of _ (by decide +kernel)) ggX4_laterItem_X4_loanItem
set_option maxRecDepth 20000 in
theorem ggX4_laterItem_X4_offerItem : GoodIn wsX4_laterItem wsX4_offerItem := goodIn_r _ [122, 66, 68, 69, 70, 7, 71, 9, 72, 73, 74, 75, 10, 11, 76, 12, 77, 78, 79, 80, 81, 82, 83, 84, 85, 86, 87, 123, 124, 125, 99, 126, 127, 128, 129, 88, 89, 90, 91, 147, 148, 149, 150, 151, 152, 130, 131, 132, 133, 134, 135, 136, 137, 138, 139, 140, 141, 142, 143, 144, 145, 146] (by decide +kernel) (by decide +kernel)
set_option maxRecDepth 20000 in
theorem gX4_laterItem_X4_offerItem : GoodIn wsX4_laterItem (wsV RX4 75 RX4 yX4_offerItem wsX4_offerItem) := goodIn_app (goodIn_of _ (by decide +kernel)) ggX4_laterItem_X4_offerItem
theorem dX4_laterItem_0 : decode cX4_laterItem 0 = .ok (.aload_n 0, 1) := by decide +kernel
theorem dX4_laterItem_1 : decode cX4_laterItem 1 = .ok (.ldc 49, 2) := by decide +kernel
theorem dX4_laterItem_3 : decode cX4_laterItem 3 = .ok (.invokevirtual 35, 3) := by decide +kernel
theorem dX4_laterItem_6 : decode cX4_laterItem 6 = .ok (.ifCond .eq 9, 3) := by decide +kernel
theorem dX4_laterItem_9 : decode cX4_laterItem 9 = .ok (.aload_n 0, 1) := by decide +kernel
theorem dX4_laterItem_10 : decode cX4_laterItem 10 = .ok (.aload_n 1, 1) := by decide +kernel
theorem dX4_laterItem_11 : decode cX4_laterItem 11 = .ok (.invokevirtual 51, 3) := by decide +kernel
theorem dX4_laterItem_14 : decode cX4_laterItem 14 = .ok (.ireturn, 1) := by decide +kernel
theorem dX4_laterItem_15 : decode cX4_laterItem 15 = .ok (.aload_n 0, 1) := by decide +kernel
theorem dX4_laterItem_16 : decode cX4_laterItem 16 = .ok (.ldc 54, 2) := by decide +kernel
theorem dX4_laterItem_18 : decode cX4_laterItem 18 = .ok (.invokevirtual 35, 3) := by decide +kernel
theorem dX4_laterItem_21 : decode cX4_laterItem 21 = .ok (.ifCond .eq 26, 3) := by decide +kernel
theorem dX4_laterItem_24 : decode cX4_laterItem 24 = .ok (.aload_n 1, 1) := by decide +kernel
theorem dX4_laterItem_25 : decode cX4_laterItem 25 = .ok (.getfield 56, 3) := by decide +kernel
theorem dX4_laterItem_28 : decode cX4_laterItem 28 = .ok (.bipush 6, 2) := by decide +kernel
theorem dX4_laterItem_30 : decode cX4_laterItem 30 = .ok (.if_icmp .ge 15, 3) := by decide +kernel
theorem dX4_laterItem_33 : decode cX4_laterItem 33 = .ok (.aload_n 0, 1) := by decide +kernel
theorem dX4_laterItem_34 : decode cX4_laterItem 34 = .ok (.aload_n 1, 1) := by decide +kernel
theorem dX4_laterItem_35 : decode cX4_laterItem 35 = .ok (.invokevirtual 59, 3) := by decide +kernel
theorem dX4_laterItem_38 : decode cX4_laterItem 38 = .ok (.ifCond .eq 7, 3) := by decide +kernel
theorem dX4_laterItem_41 : decode cX4_laterItem 41 = .ok (.iconst 1, 1) := by decide +kernel
theorem dX4_laterItem_42 : decode cX4_laterItem 42 = .ok (.goto 4, 3) := by decide +kernel
theorem dX4_laterItem_45 : decode cX4_laterItem 45 = .ok (.iconst 0, 1) := by decide +kernel
theorem dX4_laterItem_46 : decode cX4_laterItem 46 = .ok (.ireturn, 1) := by decide +kernel
theorem dX4_laterItem_47 : decode cX4_laterItem 47 = .ok (.aload_n 0, 1) := by decide +kernel
theorem dX4_laterItem_48 : decode cX4_laterItem 48 = .ok (.ldc 62, 2) := by decide +kernel
theorem dX4_laterItem_50 : decode cX4_laterItem 50 = .ok (.invokevirtual 35, 3) := by decide +kernel
theorem dX4_laterItem_53 : decode cX4_laterItem 53 = .ok (.ifCond .eq 26, 3) := by decide +kernel
theorem dX4_laterItem_56 : decode cX4_laterItem 56 = .ok (.aload_n 1, 1) := by decide +kernel
theorem dX4_laterItem_57 : decode cX4_laterItem 57 = .ok (.getfield 64, 3) := by decide +kernel
theorem dX4_laterItem_60 : decode cX4_laterItem 60 = .ok (.bipush 8, 2) := by decide +kernel
theorem dX4_laterItem_62 : decode cX4_laterItem 62 = .ok (.if_icmp .ge 15, 3) := by decide +kernel
theorem dX4_laterItem_65 : decode cX4_laterItem 65 = .ok (.aload_n 0, 1) := by decide +kernel
theorem dX4_laterItem_66 : decode cX4_laterItem 66 = .ok (.aload_n 1, 1) := by decide +kernel
theorem dX4_laterItem_67 : decode cX4_laterItem 67 = .ok (.invokevirtual 67, 3) := by decide +kernel
theorem dX4_laterItem_70 : decode cX4_laterItem 70 = .ok (.ifCond .eq 7, 3) := by decide +kernel
theorem dX4_laterItem_73 : decode cX4_laterItem 73 = .ok (.iconst 1, 1) := by decide +kernel
theorem dX4_laterItem_74 : decode cX4_laterItem 74 = .ok (.goto 4, 3) := by decide +kernel
theorem dX4_laterItem_77 : decode cX4_laterItem 77 = .ok (.iconst 0, 1) := by decide +kernel
theorem dX4_laterItem_78 : decode cX4_laterItem 78 = .ok (.ireturn, 1) := by decide +kernel
theorem dX4_laterItem_79 : decode cX4_laterItem 79 = .ok (.aload_n 0, 1) := by decide +kernel
theorem dX4_laterItem_80 : decode cX4_laterItem 80 = .ok (.ldc 70, 2) := by decide +kernel
theorem dX4_laterItem_82 : decode cX4_laterItem 82 = .ok (.invokevirtual 35, 3) := by decide +kernel
theorem dX4_laterItem_85 : decode cX4_laterItem 85 = .ok (.ifCond .eq 24, 3) := by decide +kernel
theorem dX4_laterItem_88 : decode cX4_laterItem 88 = .ok (.aload_n 1, 1) := by decide +kernel
theorem dX4_laterItem_89 : decode cX4_laterItem 89 = .ok (.getfield 72, 3) := by decide +kernel
theorem dX4_laterItem_92 : decode cX4_laterItem 92 = .ok (.bipush 8, 2) := by decide +kernel
theorem dX4_laterItem_94 : decode cX4_laterItem 94 = .ok (.if_icmp .ge 15, 3) := by decide +kernel
theorem dX4_laterItem_97 : decode cX4_laterItem 97 = .ok (.aload_n 0, 1) := by decide +kernel
theorem dX4_laterItem_98 : decode cX4_laterItem 98 = .ok (.aload_n 1, 1) := by decide +kernel
theorem dX4_laterItem_99 : decode cX4_laterItem 99 = .ok (.invokevirtual 75, 3) := by decide +kernel
theorem dX4_laterItem_102 : decode cX4_laterItem 102 = .ok (.ifCond .eq 7, 3) := by decide +kernel
theorem dX4_laterItem_105 : decode cX4_laterItem 105 = .ok (.iconst 1, 1) := by decide +kernel
theorem dX4_laterItem_106 : decode cX4_laterItem 106 = .ok (.goto 4, 3) := by decide +kernel
theorem dX4_laterItem_109 : decode cX4_laterItem 109 = .ok (.iconst 0, 1) := by decide +kernel
theorem dX4_laterItem_110 : decode cX4_laterItem 110 = .ok (.ireturn, 1) := by decide +kernel
set_option maxRecDepth 20000 in
theorem ggX4_chestItem_X4_numberWithin : GoodIn wsX4_chestItem wsX4_numberWithin := goodIn_r _ [8, 9, 2, 10, 11, 12, 7, 13, 14, 15, 16, 17, 18, 19, 20, 21, 22, 23, 24, 25, 26, 27, 28, 33, 34, 35, 36, 37, 38] (by decide +kernel) (by decide +kernel)
set_option maxRecDepth 20000 in
theorem gX4_chestItem_X4_numberWithin : GoodIn wsX4_chestItem (wsV RX4 79 RX4 yX4_numberWithin wsX4_numberWithin) := goodIn_app (goodIn_of _ (by decide +kernel)) ggX4_chestItem_X4_numberWithin
set_option maxRecDepth 20000 in
theorem ggX4_chestItem_X4_itemEnds : GoodIn wsX4_chestItem wsX4_itemEnds := goodIn_r _ [32, 9, 10, 11, 12, 7, 13, 14, 15, 16, 17, 18, 19, 20, 21, 22, 23, 24, 25, 2, 33, 34, 35, 36, 37, 38] (by decide +kernel) (by decide +kernel)
set_option maxRecDepth 20000 in
theorem gX4_chestItem_X4_itemEnds : GoodIn wsX4_chestItem (wsV RX4 88 RX4 yX4_itemEnds wsX4_itemEnds) := goodIn_app (goodIn_of _ (by decide +kernel)) ggX4_chestItem_X4_itemEnds
theorem dX4_chestItem_0 : decode cX4_chestItem 0 = .ok (.aload_n 0, 1) := by decide +kernel
theorem dX4_chestItem_1 : decode cX4_chestItem 1 = .ok (.iconst 0, 1) := by decide +kernel
theorem dX4_chestItem_2 : decode cX4_chestItem 2 = .ok (.ldc 78, 2) := by decide +kernel
theorem dX4_chestItem_4 : decode cX4_chestItem 4 = .ok (.invokevirtual 79, 3) := by decide +kernel
theorem dX4_chestItem_7 : decode cX4_chestItem 7 = .ok (.ifCond .ne 5, 3) := by decide +kernel
theorem dX4_chestItem_10 : decode cX4_chestItem 10 = .ok (.iconst 0, 1) := by decide +kernel
theorem dX4_chestItem_11 : decode cX4_chestItem 11 = .ok (.ireturn, 1) := by decide +kernel
theorem dX4_chestItem_12 : decode cX4_chestItem 12 = .ok (.aload_n 1, 1) := by decide +kernel
theorem dX4_chestItem_13 : decode cX4_chestItem 13 = .ok (.aload_n 0, 1) := by decide +kernel
theorem dX4_chestItem_14 : decode cX4_chestItem 14 = .ok (.getfield 83, 3) := by decide +kernel
theorem dX4_chestItem_17 : decode cX4_chestItem 17 = .ok (.putfield 86, 3) := by decide +kernel
theorem dX4_chestItem_20 : decode cX4_chestItem 20 = .ok (.aload_n 0, 1) := by decide +kernel
theorem dX4_chestItem_21 : decode cX4_chestItem 21 = .ok (.invokevirtual 88, 3) := by decide +kernel
theorem dX4_chestItem_24 : decode cX4_chestItem 24 = .ok (.ireturn, 1) := by decide +kernel
set_option maxRecDepth 20000 in
theorem ggX4_rateItem_X4_numberWithin : GoodIn wsX4_rateItem wsX4_numberWithin := goodIn_r _ [7, 8, 1, 9, 10, 11, 6, 12, 13, 14, 15, 16, 17, 18, 19, 20, 21, 22, 23, 24, 25, 26, 27, 32, 33, 34, 35, 36, 37] (by decide +kernel) (by decide +kernel)
set_option maxRecDepth 20000 in
theorem gX4_rateItem_X4_numberWithin : GoodIn wsX4_rateItem (wsV RX4 79 RX4 yX4_numberWithin wsX4_numberWithin) := goodIn_app (goodIn_of _ (by decide +kernel)) ggX4_rateItem_X4_numberWithin
set_option maxRecDepth 20000 in
theorem ggX4_rateItem_X4_itemEnds : GoodIn wsX4_rateItem wsX4_itemEnds := goodIn_r _ [31, 8, 9, 10, 11, 6, 12, 13, 14, 15, 16, 17, 18, 19, 20, 21, 22, 23, 24, 1, 32, 33, 34, 35, 36, 37] (by decide +kernel) (by decide +kernel)
set_option maxRecDepth 20000 in
theorem gX4_rateItem_X4_itemEnds : GoodIn wsX4_rateItem (wsV RX4 88 RX4 yX4_itemEnds wsX4_itemEnds) := goodIn_app (goodIn_of _ (by decide +kernel)) ggX4_rateItem_X4_itemEnds
theorem dX4_rateItem_0 : decode cX4_rateItem 0 = .ok (.aload_n 0, 1) := by decide +kernel
theorem dX4_rateItem_1 : decode cX4_rateItem 1 = .ok (.iconst 0, 1) := by decide +kernel
theorem dX4_rateItem_2 : decode cX4_rateItem 2 = .ok (.bipush 50, 2) := by decide +kernel
theorem dX4_rateItem_4 : decode cX4_rateItem 4 = .ok (.invokevirtual 79, 3) := by decide +kernel
theorem dX4_rateItem_7 : decode cX4_rateItem 7 = .ok (.ifCond .ne 5, 3) := by decide +kernel
theorem dX4_rateItem_10 : decode cX4_rateItem 10 = .ok (.iconst 0, 1) := by decide +kernel
theorem dX4_rateItem_11 : decode cX4_rateItem 11 = .ok (.ireturn, 1) := by decide +kernel
theorem dX4_rateItem_12 : decode cX4_rateItem 12 = .ok (.aload_n 1, 1) := by decide +kernel
theorem dX4_rateItem_13 : decode cX4_rateItem 13 = .ok (.aload_n 0, 1) := by decide +kernel
theorem dX4_rateItem_14 : decode cX4_rateItem 14 = .ok (.getfield 83, 3) := by decide +kernel
theorem dX4_rateItem_17 : decode cX4_rateItem 17 = .ok (.putfield 92, 3) := by decide +kernel
theorem dX4_rateItem_20 : decode cX4_rateItem 20 = .ok (.aload_n 0, 1) := by decide +kernel
theorem dX4_rateItem_21 : decode cX4_rateItem 21 = .ok (.invokevirtual 88, 3) := by decide +kernel
theorem dX4_rateItem_24 : decode cX4_rateItem 24 = .ok (.ireturn, 1) := by decide +kernel
set_option maxRecDepth 20000 in
theorem ggX4_personItem_X4_numberWithin : GoodIn wsX4_personItem wsX4_numberWithin := goodIn_r _ [6, 7, 1, 8, 9, 10, 5, 11, 12, 13, 14, 15, 16, 17, 18, 19, 20, 21, 22, 23, 24, 25, 26, 40, 41, 42, 43, 44, 45] (by decide +kernel) (by decide +kernel)
set_option maxRecDepth 20000 in
theorem gX4_personItem_X4_numberWithin : GoodIn wsX4_personItem (wsV RX4 79 RX4 yX4_numberWithin wsX4_numberWithin) := goodIn_app (goodIn_of _ (by decide +kernel)) ggX4_personItem_X4_numberWithin
set_option maxRecDepth 20000 in
theorem ggX4_personItem_X5_addPerson : GoodIn wsX4_personItem wsX5_addPerson := goodIn_r _ [31, 32, 33, 34, 35, 46, 47, 48, 49, 50, 51, 52, 53, 54, 55, 56, 57, 58, 59, 60, 61, 62] (by decide +kernel) (by decide +kernel)
set_option maxRecDepth 20000 in
theorem gX4_personItem_X5_addPerson : GoodIn wsX4_personItem (wsV RX4 94 RX5 yX5_addPerson wsX5_addPerson) := goodIn_app (goodIn_of _ (by decide +kernel)) ggX4_personItem_X5_addPerson
set_option maxRecDepth 20000 in
theorem ggX4_personItem_X4_itemEnds : GoodIn wsX4_personItem wsX4_itemEnds := goodIn_r _ [39, 7, 8, 9, 10, 5, 11, 12, 13, 14, 15, 16, 17, 18, 19, 20, 21, 22, 23, 1, 40, 41, 42, 43, 44, 45] (by decide +kernel) (by decide +kernel)
set_option maxRecDepth 20000 in
theorem gX4_personItem_X4_itemEnds : GoodIn wsX4_personItem (wsV RX4 88 RX4 yX4_itemEnds wsX4_itemEnds) := goodIn_app (goodIn_of _ (by decide +kernel)) ggX4_personItem_X4_itemEnds
theorem dX4_personItem_0 : decode cX4_personItem 0 = .ok (.aload_n 0, 1) := by decide +kernel
theorem dX4_personItem_1 : decode cX4_personItem 1 = .ok (.iconst 0, 1) := by decide +kernel
theorem dX4_personItem_2 : decode cX4_personItem 2 = .ok (.iconst 5, 1) := by decide +kernel
theorem dX4_personItem_3 : decode cX4_personItem 3 = .ok (.invokevirtual 79, 3) := by decide +kernel
theorem dX4_personItem_6 : decode cX4_personItem 6 = .ok (.ifCond .ne 5, 3) := by decide +kernel
theorem dX4_personItem_9 : decode cX4_personItem 9 = .ok (.iconst 0, 1) := by decide +kernel
theorem dX4_personItem_10 : decode cX4_personItem 10 = .ok (.ireturn, 1) := by decide +kernel
theorem dX4_personItem_11 : decode cX4_personItem 11 = .ok (.aload_n 0, 1) := by decide +kernel
theorem dX4_personItem_12 : decode cX4_personItem 12 = .ok (.getfield 83, 3) := by decide +kernel
theorem dX4_personItem_15 : decode cX4_personItem 15 = .ok (.istore_n 2, 1) := by decide +kernel
theorem dX4_personItem_16 : decode cX4_personItem 16 = .ok (.aload_n 0, 1) := by decide +kernel
theorem dX4_personItem_17 : decode cX4_personItem 17 = .ok (.iconst 0, 1) := by decide +kernel
theorem dX4_personItem_18 : decode cX4_personItem 18 = .ok (.bipush 99, 2) := by decide +kernel
theorem dX4_personItem_20 : decode cX4_personItem 20 = .ok (.invokevirtual 79, 3) := by decide +kernel
theorem dX4_personItem_23 : decode cX4_personItem 23 = .ok (.ifCond .ne 5, 3) := by decide +kernel
theorem dX4_personItem_26 : decode cX4_personItem 26 = .ok (.iconst 0, 1) := by decide +kernel
theorem dX4_personItem_27 : decode cX4_personItem 27 = .ok (.ireturn, 1) := by decide +kernel
theorem dX4_personItem_28 : decode cX4_personItem 28 = .ok (.aload_n 0, 1) := by decide +kernel
theorem dX4_personItem_29 : decode cX4_personItem 29 = .ok (.getfield 83, 3) := by decide +kernel
theorem dX4_personItem_32 : decode cX4_personItem 32 = .ok (.istore_n 3, 1) := by decide +kernel
theorem dX4_personItem_33 : decode cX4_personItem 33 = .ok (.aload_n 0, 1) := by decide +kernel
theorem dX4_personItem_34 : decode cX4_personItem 34 = .ok (.iconst 0, 1) := by decide +kernel
theorem dX4_personItem_35 : decode cX4_personItem 35 = .ok (.sipush 9999, 3) := by decide +kernel
theorem dX4_personItem_38 : decode cX4_personItem 38 = .ok (.invokevirtual 79, 3) := by decide +kernel
theorem dX4_personItem_41 : decode cX4_personItem 41 = .ok (.ifCond .ne 5, 3) := by decide +kernel
theorem dX4_personItem_44 : decode cX4_personItem 44 = .ok (.iconst 0, 1) := by decide +kernel
theorem dX4_personItem_45 : decode cX4_personItem 45 = .ok (.ireturn, 1) := by decide +kernel
theorem dX4_personItem_46 : decode cX4_personItem 46 = .ok (.aload_n 1, 1) := by decide +kernel
theorem dX4_personItem_47 : decode cX4_personItem 47 = .ok (.iload_n 2, 1) := by decide +kernel
theorem dX4_personItem_48 : decode cX4_personItem 48 = .ok (.iload_n 3, 1) := by decide +kernel
theorem dX4_personItem_49 : decode cX4_personItem 49 = .ok (.aload_n 0, 1) := by decide +kernel
theorem dX4_personItem_50 : decode cX4_personItem 50 = .ok (.getfield 83, 3) := by decide +kernel
theorem dX4_personItem_53 : decode cX4_personItem 53 = .ok (.invokevirtual 94, 3) := by decide +kernel
theorem dX4_personItem_56 : decode cX4_personItem 56 = .ok (.pop, 1) := by decide +kernel
theorem dX4_personItem_57 : decode cX4_personItem 57 = .ok (.aload_n 0, 1) := by decide +kernel
theorem dX4_personItem_58 : decode cX4_personItem 58 = .ok (.invokevirtual 88, 3) := by decide +kernel
theorem dX4_personItem_61 : decode cX4_personItem 61 = .ok (.ireturn, 1) := by decide +kernel
set_option maxRecDepth 20000 in
theorem ggX4_loanItem_X4_numberWithin : GoodIn wsX4_loanItem wsX4_numberWithin := goodIn_r _ [7, 8, 2, 9, 10, 11, 6, 12, 13, 14, 15, 16, 17, 18, 19, 20, 21, 22, 23, 24, 25, 26, 27, 60, 61, 62, 63, 64, 65] (by decide +kernel) (by decide +kernel)
set_option maxRecDepth 20000 in
theorem gX4_loanItem_X4_numberWithin : GoodIn wsX4_loanItem (wsV RX4 79 RX4 yX4_numberWithin wsX4_numberWithin) := goodIn_app (goodIn_of _ (by decide +kernel)) ggX4_loanItem_X4_numberWithin
set_option maxRecDepth 20000 in
theorem ggX4_loanItem_X5_addLoan : GoodIn wsX4_loanItem wsX5_addLoan := goodIn_r _ [32, 33, 34, 35, 36, 37, 38, 43, 44, 45, 46, 47, 48, 49, 50, 51, 52, 53, 54, 55, 56, 57, 58, 59] (by decide +kernel) (by decide +kernel)
set_option maxRecDepth 20000 in
theorem gX4_loanItem_X5_addLoan : GoodIn wsX4_loanItem (wsV RX4 98 RX5 yX5_addLoan wsX5_addLoan) := goodIn_app (goodIn_of _ (by decide +kernel)) ggX4_loanItem_X5_addLoan
set_option maxRecDepth 20000 in
theorem ggX4_loanItem_X4_itemEnds : GoodIn wsX4_loanItem wsX4_itemEnds := goodIn_r _ [42, 8, 9, 10, 11, 6, 12, 13, 14, 15, 16, 17, 18, 19, 20, 21, 22, 23, 24, 2, 60, 61, 62, 63, 64, 65] (by decide +kernel) (by decide +kernel)
set_option maxRecDepth 20000 in
theorem gX4_loanItem_X4_itemEnds : GoodIn wsX4_loanItem (wsV RX4 88 RX4 yX4_itemEnds wsX4_itemEnds) := goodIn_app (goodIn_of _ (by decide +kernel)) ggX4_loanItem_X4_itemEnds
theorem dX4_loanItem_0 : decode cX4_loanItem 0 = .ok (.aload_n 0, 1) := by decide +kernel
theorem dX4_loanItem_1 : decode cX4_loanItem 1 = .ok (.iconst 0, 1) := by decide +kernel
theorem dX4_loanItem_2 : decode cX4_loanItem 2 = .ok (.aload_n 1, 1) := by decide +kernel
theorem dX4_loanItem_3 : decode cX4_loanItem 3 = .ok (.getfield 56, 3) := by decide +kernel
theorem dX4_loanItem_6 : decode cX4_loanItem 6 = .ok (.iconst 1, 1) := by decide +kernel
theorem dX4_loanItem_7 : decode cX4_loanItem 7 = .ok (.isub, 1) := by decide +kernel
theorem dX4_loanItem_8 : decode cX4_loanItem 8 = .ok (.invokevirtual 79, 3) := by decide +kernel
theorem dX4_loanItem_11 : decode cX4_loanItem 11 = .ok (.ifCond .ne 5, 3) := by decide +kernel
theorem dX4_loanItem_14 : decode cX4_loanItem 14 = .ok (.iconst 0, 1) := by decide +kernel
theorem dX4_loanItem_15 : decode cX4_loanItem 15 = .ok (.ireturn, 1) := by decide +kernel
theorem dX4_loanItem_16 : decode cX4_loanItem 16 = .ok (.aload_n 0, 1) := by decide +kernel
theorem dX4_loanItem_17 : decode cX4_loanItem 17 = .ok (.getfield 83, 3) := by decide +kernel
theorem dX4_loanItem_20 : decode cX4_loanItem 20 = .ok (.istore_n 2, 1) := by decide +kernel
theorem dX4_loanItem_21 : decode cX4_loanItem 21 = .ok (.aload_n 0, 1) := by decide +kernel
theorem dX4_loanItem_22 : decode cX4_loanItem 22 = .ok (.iconst 1, 1) := by decide +kernel
theorem dX4_loanItem_23 : decode cX4_loanItem 23 = .ok (.bipush 99, 2) := by decide +kernel
theorem dX4_loanItem_25 : decode cX4_loanItem 25 = .ok (.invokevirtual 79, 3) := by decide +kernel
theorem dX4_loanItem_28 : decode cX4_loanItem 28 = .ok (.ifCond .ne 5, 3) := by decide +kernel
theorem dX4_loanItem_31 : decode cX4_loanItem 31 = .ok (.iconst 0, 1) := by decide +kernel
theorem dX4_loanItem_32 : decode cX4_loanItem 32 = .ok (.ireturn, 1) := by decide +kernel
theorem dX4_loanItem_33 : decode cX4_loanItem 33 = .ok (.aload_n 0, 1) := by decide +kernel
theorem dX4_loanItem_34 : decode cX4_loanItem 34 = .ok (.getfield 83, 3) := by decide +kernel
theorem dX4_loanItem_37 : decode cX4_loanItem 37 = .ok (.istore_n 3, 1) := by decide +kernel
theorem dX4_loanItem_38 : decode cX4_loanItem 38 = .ok (.aload_n 0, 1) := by decide +kernel
theorem dX4_loanItem_39 : decode cX4_loanItem 39 = .ok (.iconst 1, 1) := by decide +kernel
theorem dX4_loanItem_40 : decode cX4_loanItem 40 = .ok (.bipush 12, 2) := by decide +kernel
theorem dX4_loanItem_42 : decode cX4_loanItem 42 = .ok (.invokevirtual 79, 3) := by decide +kernel
theorem dX4_loanItem_45 : decode cX4_loanItem 45 = .ok (.ifCond .ne 5, 3) := by decide +kernel
theorem dX4_loanItem_48 : decode cX4_loanItem 48 = .ok (.iconst 0, 1) := by decide +kernel
theorem dX4_loanItem_49 : decode cX4_loanItem 49 = .ok (.ireturn, 1) := by decide +kernel
theorem dX4_loanItem_50 : decode cX4_loanItem 50 = .ok (.aload_n 1, 1) := by decide +kernel
theorem dX4_loanItem_51 : decode cX4_loanItem 51 = .ok (.iload_n 2, 1) := by decide +kernel
theorem dX4_loanItem_52 : decode cX4_loanItem 52 = .ok (.iload_n 3, 1) := by decide +kernel
theorem dX4_loanItem_53 : decode cX4_loanItem 53 = .ok (.aload_n 0, 1) := by decide +kernel
theorem dX4_loanItem_54 : decode cX4_loanItem 54 = .ok (.getfield 83, 3) := by decide +kernel
theorem dX4_loanItem_57 : decode cX4_loanItem 57 = .ok (.invokevirtual 98, 3) := by decide +kernel
theorem dX4_loanItem_60 : decode cX4_loanItem 60 = .ok (.pop, 1) := by decide +kernel
theorem dX4_loanItem_61 : decode cX4_loanItem 61 = .ok (.aload_n 0, 1) := by decide +kernel
theorem dX4_loanItem_62 : decode cX4_loanItem 62 = .ok (.invokevirtual 88, 3) := by decide +kernel
theorem dX4_loanItem_65 : decode cX4_loanItem 65 = .ok (.ireturn, 1) := by decide +kernel
set_option maxRecDepth 20000 in
theorem ggX4_offerItem_X4_numberWithin : GoodIn wsX4_offerItem wsX4_numberWithin := goodIn_r _ [6, 7, 1, 8, 9, 10, 5, 11, 12, 13, 14, 15, 16, 17, 18, 19, 20, 21, 22, 23, 24, 25, 26, 39, 40, 41, 42, 43, 44] (by decide +kernel) (by decide +kernel)
set_option maxRecDepth 20000 in
theorem gX4_offerItem_X4_numberWithin : GoodIn wsX4_offerItem (wsV RX4 79 RX4 yX4_numberWithin wsX4_numberWithin) := goodIn_app (goodIn_of _ (by decide +kernel)) ggX4_offerItem_X4_numberWithin
set_option maxRecDepth 20000 in
theorem ggX4_offerItem_X5_addOffer : GoodIn wsX4_offerItem wsX5_addOffer := goodIn_r _ [31, 32, 33, 34, 45, 46, 47, 48, 49, 50, 51, 52, 53, 54, 55, 56, 57, 58, 59, 60, 61] (by decide +kernel) (by decide +kernel)
set_option maxRecDepth 20000 in
theorem gX4_offerItem_X5_addOffer : GoodIn wsX4_offerItem (wsV RX4 101 RX5 yX5_addOffer wsX5_addOffer) := goodIn_app (goodIn_of _ (by decide +kernel)) ggX4_offerItem_X5_addOffer
set_option maxRecDepth 20000 in
theorem ggX4_offerItem_X4_itemEnds : GoodIn wsX4_offerItem wsX4_itemEnds := goodIn_r _ [38, 7, 8, 9, 10, 5, 11, 12, 13, 14, 15, 16, 17, 18, 19, 20, 21, 22, 23, 1, 39, 40, 41, 42, 43, 44] (by decide +kernel) (by decide +kernel)
set_option maxRecDepth 20000 in
theorem gX4_offerItem_X4_itemEnds : GoodIn wsX4_offerItem (wsV RX4 88 RX4 yX4_itemEnds wsX4_itemEnds) := goodIn_app (goodIn_of _ (by decide +kernel)) ggX4_offerItem_X4_itemEnds
theorem dX4_offerItem_0 : decode cX4_offerItem 0 = .ok (.aload_n 0, 1) := by decide +kernel
theorem dX4_offerItem_1 : decode cX4_offerItem 1 = .ok (.iconst 1, 1) := by decide +kernel
theorem dX4_offerItem_2 : decode cX4_offerItem 2 = .ok (.bipush 99, 2) := by decide +kernel
theorem dX4_offerItem_4 : decode cX4_offerItem 4 = .ok (.invokevirtual 79, 3) := by decide +kernel
theorem dX4_offerItem_7 : decode cX4_offerItem 7 = .ok (.ifCond .ne 5, 3) := by decide +kernel
theorem dX4_offerItem_10 : decode cX4_offerItem 10 = .ok (.iconst 0, 1) := by decide +kernel
theorem dX4_offerItem_11 : decode cX4_offerItem 11 = .ok (.ireturn, 1) := by decide +kernel
theorem dX4_offerItem_12 : decode cX4_offerItem 12 = .ok (.aload_n 0, 1) := by decide +kernel
theorem dX4_offerItem_13 : decode cX4_offerItem 13 = .ok (.getfield 83, 3) := by decide +kernel
theorem dX4_offerItem_16 : decode cX4_offerItem 16 = .ok (.istore_n 2, 1) := by decide +kernel
theorem dX4_offerItem_17 : decode cX4_offerItem 17 = .ok (.aload_n 0, 1) := by decide +kernel
theorem dX4_offerItem_18 : decode cX4_offerItem 18 = .ok (.iconst 1, 1) := by decide +kernel
theorem dX4_offerItem_19 : decode cX4_offerItem 19 = .ok (.bipush 12, 2) := by decide +kernel
theorem dX4_offerItem_21 : decode cX4_offerItem 21 = .ok (.invokevirtual 79, 3) := by decide +kernel
theorem dX4_offerItem_24 : decode cX4_offerItem 24 = .ok (.ifCond .ne 5, 3) := by decide +kernel
theorem dX4_offerItem_27 : decode cX4_offerItem 27 = .ok (.iconst 0, 1) := by decide +kernel
theorem dX4_offerItem_28 : decode cX4_offerItem 28 = .ok (.ireturn, 1) := by decide +kernel
theorem dX4_offerItem_29 : decode cX4_offerItem 29 = .ok (.aload_n 1, 1) := by decide +kernel
theorem dX4_offerItem_30 : decode cX4_offerItem 30 = .ok (.iload_n 2, 1) := by decide +kernel
theorem dX4_offerItem_31 : decode cX4_offerItem 31 = .ok (.aload_n 0, 1) := by decide +kernel
theorem dX4_offerItem_32 : decode cX4_offerItem 32 = .ok (.getfield 83, 3) := by decide +kernel
theorem dX4_offerItem_35 : decode cX4_offerItem 35 = .ok (.invokevirtual 101, 3) := by decide +kernel
theorem dX4_offerItem_38 : decode cX4_offerItem 38 = .ok (.pop, 1) := by decide +kernel
theorem dX4_offerItem_39 : decode cX4_offerItem 39 = .ok (.aload_n 0, 1) := by decide +kernel
theorem dX4_offerItem_40 : decode cX4_offerItem 40 = .ok (.invokevirtual 88, 3) := by decide +kernel
theorem dX4_offerItem_43 : decode cX4_offerItem 43 = .ok (.ireturn, 1) := by decide +kernel
set_option maxRecDepth 20000 in
theorem ggX4_numberWithin_X4_step : GoodIn wsX4_numberWithin wsX4_step := goodIn_r _ [7, 8, 9, 10, 11, 1, 12, 13, 14, 6, 15, 16, 17, 18, 19, 2, 23, 24, 25, 26, 27, 28] (by decide +kernel) (by decide +kernel)
set_option maxRecDepth 20000 in
theorem gX4_numberWithin_X4_step : GoodIn wsX4_numberWithin (wsV RX4 27 RX4 yX4_step wsX4_step) := goodIn_app (goodIn_of _ (by decide +kernel)) ggX4_numberWithin_X4_step
set_option maxRecDepth 20000 in
theorem ggX4_numberWithin_X7_within : GoodIn wsX4_numberWithin wsX7_within := goodIn_r _ [22] (by decide +kernel) (by decide +kernel)
set_option maxRecDepth 20000 in
theorem gX4_numberWithin_X7_within_n105 : GoodIn wsX4_numberWithin (wsX7_within) := ggX4_numberWithin_X7_within
theorem dX4_numberWithin_0 : decode cX4_numberWithin 0 = .ok (.aload_n 0, 1) := by decide +kernel
theorem dX4_numberWithin_1 : decode cX4_numberWithin 1 = .ok (.invokevirtual 27, 3) := by decide +kernel
theorem dX4_numberWithin_4 : decode cX4_numberWithin 4 = .ok (.aload_n 0, 1) := by decide +kernel
theorem dX4_numberWithin_5 : decode cX4_numberWithin 5 = .ok (.getfield 30, 3) := by decide +kernel
theorem dX4_numberWithin_8 : decode cX4_numberWithin 8 = .ok (.iconst 2, 1) := by decide +kernel
theorem dX4_numberWithin_9 : decode cX4_numberWithin 9 = .ok (.if_icmp .ne 19, 3) := by decide +kernel
theorem dX4_numberWithin_12 : decode cX4_numberWithin 12 = .ok (.aload_n 0, 1) := by decide +kernel
theorem dX4_numberWithin_13 : decode cX4_numberWithin 13 = .ok (.getfield 83, 3) := by decide +kernel
theorem dX4_numberWithin_16 : decode cX4_numberWithin 16 = .ok (.iload_n 1, 1) := by decide +kernel
theorem dX4_numberWithin_17 : decode cX4_numberWithin 17 = .ok (.iload_n 2, 1) := by decide +kernel
theorem dX4_numberWithin_18 : decode cX4_numberWithin 18 = .ok (.invokestatic 105, 3) := by decide +kernel
theorem dX4_numberWithin_21 : decode cX4_numberWithin 21 = .ok (.ifCond .eq 7, 3) := by decide +kernel
theorem dX4_numberWithin_24 : decode cX4_numberWithin 24 = .ok (.iconst 1, 1) := by decide +kernel
theorem dX4_numberWithin_25 : decode cX4_numberWithin 25 = .ok (.goto 4, 3) := by decide +kernel
theorem dX4_numberWithin_28 : decode cX4_numberWithin 28 = .ok (.iconst 0, 1) := by decide +kernel
theorem dX4_numberWithin_29 : decode cX4_numberWithin 29 = .ok (.ireturn, 1) := by decide +kernel
set_option maxRecDepth 20000 in
theorem ggX4_itemEnds_X4_step : GoodIn wsX4_itemEnds wsX4_step := goodIn_r _ [6, 7, 8, 9, 10, 1, 11, 12, 13, 5, 14, 15, 16, 17, 18, 19, 20, 21, 22, 23, 24, 25] (by decide +kernel) (by decide +kernel)
set_option maxRecDepth 20000 in
theorem gX4_itemEnds_X4_step : GoodIn wsX4_itemEnds (wsV RX4 27 RX4 yX4_step wsX4_step) := goodIn_app (goodIn_of _ (by decide +kernel)) ggX4_itemEnds_X4_step
theorem dX4_itemEnds_0 : decode cX4_itemEnds 0 = .ok (.aload_n 0, 1) := by decide +kernel
theorem dX4_itemEnds_1 : decode cX4_itemEnds 1 = .ok (.invokevirtual 27, 3) := by decide +kernel
theorem dX4_itemEnds_4 : decode cX4_itemEnds 4 = .ok (.aload_n 0, 1) := by decide +kernel
theorem dX4_itemEnds_5 : decode cX4_itemEnds 5 = .ok (.getfield 30, 3) := by decide +kernel
theorem dX4_itemEnds_8 : decode cX4_itemEnds 8 = .ok (.iconst 3, 1) := by decide +kernel
theorem dX4_itemEnds_9 : decode cX4_itemEnds 9 = .ok (.if_icmp .ne 7, 3) := by decide +kernel
theorem dX4_itemEnds_12 : decode cX4_itemEnds 12 = .ok (.iconst 1, 1) := by decide +kernel
theorem dX4_itemEnds_13 : decode cX4_itemEnds 13 = .ok (.goto 4, 3) := by decide +kernel
theorem dX4_itemEnds_16 : decode cX4_itemEnds 16 = .ok (.iconst 0, 1) := by decide +kernel
theorem dX4_itemEnds_17 : decode cX4_itemEnds 17 = .ok (.ireturn, 1) := by decide +kernel
set_option maxRecDepth 20000 in
theorem ggX4_step_X4_takeWord : GoodIn wsX4_step wsX4_takeWord := goodIn_r _ [10, 5, 1, 3, 4, 2, 16, 17, 18, 19, 20, 21] (by decide +kernel) (by decide +kernel)
set_option maxRecDepth 20000 in
theorem gX4_step_X4_takeWord : GoodIn wsX4_step (wsV RX4 109 RX4 yX4_takeWord wsX4_takeWord) := goodIn_app (goodIn_of _ (by decide +kernel)) ggX4_step_X4_takeWord
set_option maxRecDepth 20000 in
theorem ggX4_step_X4_takeNumber : GoodIn wsX4_step wsX4_takeNumber := goodIn_r _ [14, 15, 1, 3, 4, 2, 5, 16, 17, 18, 19, 20, 21] (by decide +kernel) (by decide +kernel)
set_option maxRecDepth 20000 in
theorem gX4_step_X4_takeNumber : GoodIn wsX4_step (wsV RX4 112 RX4 yX4_takeNumber wsX4_takeNumber) := goodIn_app (goodIn_of _ (by decide +kernel)) ggX4_step_X4_takeNumber
theorem dX4_step_0 : decode cX4_step 0 = .ok (.aload_n 0, 1) := by decide +kernel
theorem dX4_step_1 : decode cX4_step 1 = .ok (.aload_n 0, 1) := by decide +kernel
theorem dX4_step_2 : decode cX4_step 2 = .ok (.getfield 19, 3) := by decide +kernel
theorem dX4_step_5 : decode cX4_step 5 = .ok (.putfield 46, 3) := by decide +kernel
theorem dX4_step_8 : decode cX4_step 8 = .ok (.aload_n 0, 1) := by decide +kernel
theorem dX4_step_9 : decode cX4_step 9 = .ok (.getfield 46, 3) := by decide +kernel
theorem dX4_step_12 : decode cX4_step 12 = .ok (.aload_n 0, 1) := by decide +kernel
theorem dX4_step_13 : decode cX4_step 13 = .ok (.getfield 15, 3) := by decide +kernel
theorem dX4_step_16 : decode cX4_step 16 = .ok (.if_icmp .ge 30, 3) := by decide +kernel
theorem dX4_step_19 : decode cX4_step 19 = .ok (.aload_n 0, 1) := by decide +kernel
theorem dX4_step_20 : decode cX4_step 20 = .ok (.getfield 9, 3) := by decide +kernel
theorem dX4_step_23 : decode cX4_step 23 = .ok (.aload_n 0, 1) := by decide +kernel
theorem dX4_step_24 : decode cX4_step 24 = .ok (.getfield 46, 3) := by decide +kernel
theorem dX4_step_27 : decode cX4_step 27 = .ok (.baload, 1) := by decide +kernel
theorem dX4_step_28 : decode cX4_step 28 = .ok (.bipush 32, 2) := by decide +kernel
theorem dX4_step_30 : decode cX4_step 30 = .ok (.if_icmp .ne 16, 3) := by decide +kernel
theorem dX4_step_33 : decode cX4_step 33 = .ok (.aload_n 0, 1) := by decide +kernel
theorem dX4_step_34 : decode cX4_step 34 = .ok (.dup, 1) := by decide +kernel
theorem dX4_step_35 : decode cX4_step 35 = .ok (.getfield 46, 3) := by decide +kernel
theorem dX4_step_38 : decode cX4_step 38 = .ok (.iconst 1, 1) := by decide +kernel
theorem dX4_step_39 : decode cX4_step 39 = .ok (.iadd, 1) := by decide +kernel
theorem dX4_step_40 : decode cX4_step 40 = .ok (.putfield 46, 3) := by decide +kernel
theorem dX4_step_43 : decode cX4_step 43 = .ok (.goto (-35), 3) := by decide +kernel
theorem dX4_step_46 : decode cX4_step 46 = .ok (.aload_n 0, 1) := by decide +kernel
theorem dX4_step_47 : decode cX4_step 47 = .ok (.aload_n 0, 1) := by decide +kernel
theorem dX4_step_48 : decode cX4_step 48 = .ok (.getfield 46, 3) := by decide +kernel
theorem dX4_step_51 : decode cX4_step 51 = .ok (.putfield 19, 3) := by decide +kernel
theorem dX4_step_54 : decode cX4_step 54 = .ok (.aload_n 0, 1) := by decide +kernel
theorem dX4_step_55 : decode cX4_step 55 = .ok (.getfield 46, 3) := by decide +kernel
theorem dX4_step_58 : decode cX4_step 58 = .ok (.aload_n 0, 1) := by decide +kernel
theorem dX4_step_59 : decode cX4_step 59 = .ok (.getfield 15, 3) := by decide +kernel
theorem dX4_step_62 : decode cX4_step 62 = .ok (.if_icmp .lt 9, 3) := by decide +kernel
theorem dX4_step_65 : decode cX4_step 65 = .ok (.aload_n 0, 1) := by decide +kernel
theorem dX4_step_66 : decode cX4_step 66 = .ok (.iconst 0, 1) := by decide +kernel
theorem dX4_step_67 : decode cX4_step 67 = .ok (.putfield 30, 3) := by decide +kernel
theorem dX4_step_70 : decode cX4_step 70 = .ok (.return_, 1) := by decide +kernel
theorem dX4_step_71 : decode cX4_step 71 = .ok (.aload_n 0, 1) := by decide +kernel
theorem dX4_step_72 : decode cX4_step 72 = .ok (.invokevirtual 109, 3) := by decide +kernel
theorem dX4_step_75 : decode cX4_step 75 = .ok (.ifCond .ne 10, 3) := by decide +kernel
theorem dX4_step_78 : decode cX4_step 78 = .ok (.aload_n 0, 1) := by decide +kernel
theorem dX4_step_79 : decode cX4_step 79 = .ok (.invokevirtual 112, 3) := by decide +kernel
theorem dX4_step_82 : decode cX4_step 82 = .ok (.ifCond .eq 4, 3) := by decide +kernel
theorem dX4_step_85 : decode cX4_step 85 = .ok (.return_, 1) := by decide +kernel
theorem dX4_step_86 : decode cX4_step 86 = .ok (.aload_n 0, 1) := by decide +kernel
theorem dX4_step_87 : decode cX4_step 87 = .ok (.aload_n 0, 1) := by decide +kernel
theorem dX4_step_88 : decode cX4_step 88 = .ok (.getfield 9, 3) := by decide +kernel
theorem dX4_step_91 : decode cX4_step 91 = .ok (.aload_n 0, 1) := by decide +kernel
theorem dX4_step_92 : decode cX4_step 92 = .ok (.getfield 46, 3) := by decide +kernel
theorem dX4_step_95 : decode cX4_step 95 = .ok (.baload, 1) := by decide +kernel
theorem dX4_step_96 : decode cX4_step 96 = .ok (.bipush 59, 2) := by decide +kernel
theorem dX4_step_98 : decode cX4_step 98 = .ok (.if_icmp .ne 7, 3) := by decide +kernel
theorem dX4_step_101 : decode cX4_step 101 = .ok (.iconst 3, 1) := by decide +kernel
theorem dX4_step_102 : decode cX4_step 102 = .ok (.goto 4, 3) := by decide +kernel
theorem dX4_step_105 : decode cX4_step 105 = .ok (.iconst 4, 1) := by decide +kernel
theorem dX4_step_106 : decode cX4_step 106 = .ok (.putfield 30, 3) := by decide +kernel
theorem dX4_step_109 : decode cX4_step 109 = .ok (.aload_n 0, 1) := by decide +kernel
theorem dX4_step_110 : decode cX4_step 110 = .ok (.aload_n 0, 1) := by decide +kernel
theorem dX4_step_111 : decode cX4_step 111 = .ok (.getfield 46, 3) := by decide +kernel
theorem dX4_step_114 : decode cX4_step 114 = .ok (.iconst 1, 1) := by decide +kernel
theorem dX4_step_115 : decode cX4_step 115 = .ok (.iadd, 1) := by decide +kernel
theorem dX4_step_116 : decode cX4_step 116 = .ok (.putfield 19, 3) := by decide +kernel
theorem dX4_step_119 : decode cX4_step 119 = .ok (.return_, 1) := by decide +kernel
theorem dX4_takeWord_0 : decode cX4_takeWord 0 = .ok (.aload_n 0, 1) := by decide +kernel
theorem dX4_takeWord_1 : decode cX4_takeWord 1 = .ok (.iconst 1, 1) := by decide +kernel
theorem dX4_takeWord_2 : decode cX4_takeWord 2 = .ok (.putfield 30, 3) := by decide +kernel
theorem dX4_takeWord_5 : decode cX4_takeWord 5 = .ok (.aload_n 0, 1) := by decide +kernel
theorem dX4_takeWord_6 : decode cX4_takeWord 6 = .ok (.getfield 19, 3) := by decide +kernel
theorem dX4_takeWord_9 : decode cX4_takeWord 9 = .ok (.aload_n 0, 1) := by decide +kernel
theorem dX4_takeWord_10 : decode cX4_takeWord 10 = .ok (.getfield 15, 3) := by decide +kernel
theorem dX4_takeWord_13 : decode cX4_takeWord 13 = .ok (.if_icmp .ge 44, 3) := by decide +kernel
theorem dX4_takeWord_16 : decode cX4_takeWord 16 = .ok (.aload_n 0, 1) := by decide +kernel
theorem dX4_takeWord_17 : decode cX4_takeWord 17 = .ok (.getfield 9, 3) := by decide +kernel
theorem dX4_takeWord_20 : decode cX4_takeWord 20 = .ok (.aload_n 0, 1) := by decide +kernel
theorem dX4_takeWord_21 : decode cX4_takeWord 21 = .ok (.getfield 19, 3) := by decide +kernel
theorem dX4_takeWord_24 : decode cX4_takeWord 24 = .ok (.baload, 1) := by decide +kernel
theorem dX4_takeWord_25 : decode cX4_takeWord 25 = .ok (.bipush 97, 2) := by decide +kernel
theorem dX4_takeWord_27 : decode cX4_takeWord 27 = .ok (.if_icmp .lt 30, 3) := by decide +kernel
theorem dX4_takeWord_30 : decode cX4_takeWord 30 = .ok (.aload_n 0, 1) := by decide +kernel
theorem dX4_takeWord_31 : decode cX4_takeWord 31 = .ok (.getfield 9, 3) := by decide +kernel
theorem dX4_takeWord_34 : decode cX4_takeWord 34 = .ok (.aload_n 0, 1) := by decide +kernel
theorem dX4_takeWord_35 : decode cX4_takeWord 35 = .ok (.getfield 19, 3) := by decide +kernel
theorem dX4_takeWord_38 : decode cX4_takeWord 38 = .ok (.baload, 1) := by decide +kernel
theorem dX4_takeWord_39 : decode cX4_takeWord 39 = .ok (.bipush 122, 2) := by decide +kernel
theorem dX4_takeWord_41 : decode cX4_takeWord 41 = .ok (.if_icmp .gt 16, 3) := by decide +kernel
theorem dX4_takeWord_44 : decode cX4_takeWord 44 = .ok (.aload_n 0, 1) := by decide +kernel
theorem dX4_takeWord_45 : decode cX4_takeWord 45 = .ok (.dup, 1) := by decide +kernel
theorem dX4_takeWord_46 : decode cX4_takeWord 46 = .ok (.getfield 19, 3) := by decide +kernel
theorem dX4_takeWord_49 : decode cX4_takeWord 49 = .ok (.iconst 1, 1) := by decide +kernel
theorem dX4_takeWord_50 : decode cX4_takeWord 50 = .ok (.iadd, 1) := by decide +kernel
theorem dX4_takeWord_51 : decode cX4_takeWord 51 = .ok (.putfield 19, 3) := by decide +kernel
theorem dX4_takeWord_54 : decode cX4_takeWord 54 = .ok (.goto (-49), 3) := by decide +kernel
theorem dX4_takeWord_57 : decode cX4_takeWord 57 = .ok (.aload_n 0, 1) := by decide +kernel
theorem dX4_takeWord_58 : decode cX4_takeWord 58 = .ok (.getfield 19, 3) := by decide +kernel
theorem dX4_takeWord_61 : decode cX4_takeWord 61 = .ok (.aload_n 0, 1) := by decide +kernel
theorem dX4_takeWord_62 : decode cX4_takeWord 62 = .ok (.getfield 46, 3) := by decide +kernel
theorem dX4_takeWord_65 : decode cX4_takeWord 65 = .ok (.if_icmp .le 7, 3) := by decide +kernel
theorem dX4_takeWord_68 : decode cX4_takeWord 68 = .ok (.iconst 1, 1) := by decide +kernel
theorem dX4_takeWord_69 : decode cX4_takeWord 69 = .ok (.goto 4, 3) := by decide +kernel
theorem dX4_takeWord_72 : decode cX4_takeWord 72 = .ok (.iconst 0, 1) := by decide +kernel
theorem dX4_takeWord_73 : decode cX4_takeWord 73 = .ok (.ireturn, 1) := by decide +kernel
theorem dX4_takeNumber_0 : decode cX4_takeNumber 0 = .ok (.aload_n 0, 1) := by decide +kernel
theorem dX4_takeNumber_1 : decode cX4_takeNumber 1 = .ok (.iconst 0, 1) := by decide +kernel
theorem dX4_takeNumber_2 : decode cX4_takeNumber 2 = .ok (.putfield 83, 3) := by decide +kernel
theorem dX4_takeNumber_5 : decode cX4_takeNumber 5 = .ok (.aload_n 0, 1) := by decide +kernel
theorem dX4_takeNumber_6 : decode cX4_takeNumber 6 = .ok (.getfield 19, 3) := by decide +kernel
theorem dX4_takeNumber_9 : decode cX4_takeNumber 9 = .ok (.aload_n 0, 1) := by decide +kernel
theorem dX4_takeNumber_10 : decode cX4_takeNumber 10 = .ok (.getfield 15, 3) := by decide +kernel
theorem dX4_takeNumber_13 : decode cX4_takeNumber 13 = .ok (.if_icmp .ge 81, 3) := by decide +kernel
theorem dX4_takeNumber_16 : decode cX4_takeNumber 16 = .ok (.aload_n 0, 1) := by decide +kernel
theorem dX4_takeNumber_17 : decode cX4_takeNumber 17 = .ok (.getfield 9, 3) := by decide +kernel
theorem dX4_takeNumber_20 : decode cX4_takeNumber 20 = .ok (.aload_n 0, 1) := by decide +kernel
theorem dX4_takeNumber_21 : decode cX4_takeNumber 21 = .ok (.getfield 19, 3) := by decide +kernel
theorem dX4_takeNumber_24 : decode cX4_takeNumber 24 = .ok (.baload, 1) := by decide +kernel
theorem dX4_takeNumber_25 : decode cX4_takeNumber 25 = .ok (.bipush 48, 2) := by decide +kernel
theorem dX4_takeNumber_27 : decode cX4_takeNumber 27 = .ok (.if_icmp .lt 67, 3) := by decide +kernel
theorem dX4_takeNumber_30 : decode cX4_takeNumber 30 = .ok (.aload_n 0, 1) := by decide +kernel
theorem dX4_takeNumber_31 : decode cX4_takeNumber 31 = .ok (.getfield 9, 3) := by decide +kernel
theorem dX4_takeNumber_34 : decode cX4_takeNumber 34 = .ok (.aload_n 0, 1) := by decide +kernel
theorem dX4_takeNumber_35 : decode cX4_takeNumber 35 = .ok (.getfield 19, 3) := by decide +kernel
theorem dX4_takeNumber_38 : decode cX4_takeNumber 38 = .ok (.baload, 1) := by decide +kernel
theorem dX4_takeNumber_39 : decode cX4_takeNumber 39 = .ok (.bipush 57, 2) := by decide +kernel
theorem dX4_takeNumber_41 : decode cX4_takeNumber 41 = .ok (.if_icmp .gt 53, 3) := by decide +kernel
theorem dX4_takeNumber_44 : decode cX4_takeNumber 44 = .ok (.aload_n 0, 1) := by decide +kernel
theorem dX4_takeNumber_45 : decode cX4_takeNumber 45 = .ok (.getfield 19, 3) := by decide +kernel
theorem dX4_takeNumber_48 : decode cX4_takeNumber 48 = .ok (.aload_n 0, 1) := by decide +kernel
theorem dX4_takeNumber_49 : decode cX4_takeNumber 49 = .ok (.getfield 46, 3) := by decide +kernel
theorem dX4_takeNumber_52 : decode cX4_takeNumber 52 = .ok (.isub, 1) := by decide +kernel
theorem dX4_takeNumber_53 : decode cX4_takeNumber 53 = .ok (.iconst 5, 1) := by decide +kernel
theorem dX4_takeNumber_54 : decode cX4_takeNumber 54 = .ok (.if_icmp .ge 27, 3) := by decide +kernel
theorem dX4_takeNumber_57 : decode cX4_takeNumber 57 = .ok (.aload_n 0, 1) := by decide +kernel
theorem dX4_takeNumber_58 : decode cX4_takeNumber 58 = .ok (.aload_n 0, 1) := by decide +kernel
theorem dX4_takeNumber_59 : decode cX4_takeNumber 59 = .ok (.getfield 83, 3) := by decide +kernel
theorem dX4_takeNumber_62 : decode cX4_takeNumber 62 = .ok (.bipush 10, 2) := by decide +kernel
theorem dX4_takeNumber_64 : decode cX4_takeNumber 64 = .ok (.imul, 1) := by decide +kernel
theorem dX4_takeNumber_65 : decode cX4_takeNumber 65 = .ok (.aload_n 0, 1) := by decide +kernel
theorem dX4_takeNumber_66 : decode cX4_takeNumber 66 = .ok (.getfield 9, 3) := by decide +kernel
theorem dX4_takeNumber_69 : decode cX4_takeNumber 69 = .ok (.aload_n 0, 1) := by decide +kernel
theorem dX4_takeNumber_70 : decode cX4_takeNumber 70 = .ok (.getfield 19, 3) := by decide +kernel
theorem dX4_takeNumber_73 : decode cX4_takeNumber 73 = .ok (.baload, 1) := by decide +kernel
theorem dX4_takeNumber_74 : decode cX4_takeNumber 74 = .ok (.bipush 48, 2) := by decide +kernel
theorem dX4_takeNumber_76 : decode cX4_takeNumber 76 = .ok (.isub, 1) := by decide +kernel
theorem dX4_takeNumber_77 : decode cX4_takeNumber 77 = .ok (.iadd, 1) := by decide +kernel
theorem dX4_takeNumber_78 : decode cX4_takeNumber 78 = .ok (.putfield 83, 3) := by decide +kernel
theorem dX4_takeNumber_81 : decode cX4_takeNumber 81 = .ok (.aload_n 0, 1) := by decide +kernel
theorem dX4_takeNumber_82 : decode cX4_takeNumber 82 = .ok (.dup, 1) := by decide +kernel
theorem dX4_takeNumber_83 : decode cX4_takeNumber 83 = .ok (.getfield 19, 3) := by decide +kernel
theorem dX4_takeNumber_86 : decode cX4_takeNumber 86 = .ok (.iconst 1, 1) := by decide +kernel
theorem dX4_takeNumber_87 : decode cX4_takeNumber 87 = .ok (.iadd, 1) := by decide +kernel
theorem dX4_takeNumber_88 : decode cX4_takeNumber 88 = .ok (.putfield 19, 3) := by decide +kernel
theorem dX4_takeNumber_91 : decode cX4_takeNumber 91 = .ok (.goto (-86), 3) := by decide +kernel
theorem dX4_takeNumber_94 : decode cX4_takeNumber 94 = .ok (.aload_n 0, 1) := by decide +kernel
theorem dX4_takeNumber_95 : decode cX4_takeNumber 95 = .ok (.aload_n 0, 1) := by decide +kernel
theorem dX4_takeNumber_96 : decode cX4_takeNumber 96 = .ok (.getfield 19, 3) := by decide +kernel
theorem dX4_takeNumber_99 : decode cX4_takeNumber 99 = .ok (.aload_n 0, 1) := by decide +kernel
theorem dX4_takeNumber_100 : decode cX4_takeNumber 100 = .ok (.getfield 46, 3) := by decide +kernel
theorem dX4_takeNumber_103 : decode cX4_takeNumber 103 = .ok (.isub, 1) := by decide +kernel
theorem dX4_takeNumber_104 : decode cX4_takeNumber 104 = .ok (.iconst 5, 1) := by decide +kernel
theorem dX4_takeNumber_105 : decode cX4_takeNumber 105 = .ok (.if_icmp .gt 7, 3) := by decide +kernel
theorem dX4_takeNumber_108 : decode cX4_takeNumber 108 = .ok (.iconst 2, 1) := by decide +kernel
theorem dX4_takeNumber_109 : decode cX4_takeNumber 109 = .ok (.goto 4, 3) := by decide +kernel
theorem dX4_takeNumber_112 : decode cX4_takeNumber 112 = .ok (.iconst 4, 1) := by decide +kernel
theorem dX4_takeNumber_113 : decode cX4_takeNumber 113 = .ok (.putfield 30, 3) := by decide +kernel
theorem dX4_takeNumber_116 : decode cX4_takeNumber 116 = .ok (.aload_n 0, 1) := by decide +kernel
theorem dX4_takeNumber_117 : decode cX4_takeNumber 117 = .ok (.getfield 19, 3) := by decide +kernel
theorem dX4_takeNumber_120 : decode cX4_takeNumber 120 = .ok (.aload_n 0, 1) := by decide +kernel
theorem dX4_takeNumber_121 : decode cX4_takeNumber 121 = .ok (.getfield 46, 3) := by decide +kernel
theorem dX4_takeNumber_124 : decode cX4_takeNumber 124 = .ok (.if_icmp .le 7, 3) := by decide +kernel
theorem dX4_takeNumber_127 : decode cX4_takeNumber 127 = .ok (.iconst 1, 1) := by decide +kernel
theorem dX4_takeNumber_128 : decode cX4_takeNumber 128 = .ok (.goto 4, 3) := by decide +kernel
theorem dX4_takeNumber_131 : decode cX4_takeNumber 131 = .ok (.iconst 0, 1) := by decide +kernel
theorem dX4_takeNumber_132 : decode cX4_takeNumber 132 = .ok (.ireturn, 1) := by decide +kernel
set_option maxRecDepth 20000 in
theorem ggX4_isWord_J0_length_8abf5 : GoodIn wsX4_isWord wsJ0_length_8abf5 := goodIn_r _ [9, 10, 11, 12, 13, 8, 14, 15, 16] (by decide +kernel) (by decide +kernel)
set_option maxRecDepth 20000 in
theorem gX4_isWord_J0_length_8abf5 : GoodIn wsX4_isWord (wsV RX4 115 RJ0 yJ0_length_8abf5 wsJ0_length_8abf5) := goodIn_app (goodIn_of _ (by decide +kernel)) ggX4_isWord_J0_length_8abf5
set_option maxRecDepth 20000 in
theorem ggX4_isWord_J0_charAt_5068e : GoodIn wsX4_isWord wsJ0_charAt_5068e := goodIn_r _ [20, 10, 21, 22, 23, 8, 24, 15, 16, 25, 26, 27, 28, 29, 30, 31, 32, 33, 34, 35, 36, 37, 38, 39, 40, 41, 42, 43, 44, 45, 46, 47, 48, 49, 50, 51, 52, 53] (by decide +kernel) (by decide +kernel)
set_option maxRecDepth 20000 in
theorem gX4_isWord_J0_charAt_5068e : GoodIn wsX4_isWord (wsV RX4 120 RJ0 yJ0_charAt_5068e wsJ0_charAt_5068e) := goodIn_app (goodIn_of _ (by decide +kernel)) ggX4_isWord_J0_charAt_5068e
theorem dX4_isWord_0 : decode cX4_isWord 0 = .ok (.aload_n 0, 1) := by decide +kernel
theorem dX4_isWord_1 : decode cX4_isWord 1 = .ok (.getfield 30, 3) := by decide +kernel
theorem dX4_isWord_4 : decode cX4_isWord 4 = .ok (.iconst 1, 1) := by decide +kernel
theorem dX4_isWord_5 : decode cX4_isWord 5 = .ok (.if_icmp .ne 19, 3) := by decide +kernel
theorem dX4_isWord_8 : decode cX4_isWord 8 = .ok (.aload_n 0, 1) := by decide +kernel
theorem dX4_isWord_9 : decode cX4_isWord 9 = .ok (.getfield 19, 3) := by decide +kernel
theorem dX4_isWord_12 : decode cX4_isWord 12 = .ok (.aload_n 0, 1) := by decide +kernel
theorem dX4_isWord_13 : decode cX4_isWord 13 = .ok (.getfield 46, 3) := by decide +kernel
theorem dX4_isWord_16 : decode cX4_isWord 16 = .ok (.isub, 1) := by decide +kernel
theorem dX4_isWord_17 : decode cX4_isWord 17 = .ok (.aload_n 1, 1) := by decide +kernel
theorem dX4_isWord_18 : decode cX4_isWord 18 = .ok (.invokevirtual 115, 3) := by decide +kernel
theorem dX4_isWord_21 : decode cX4_isWord 21 = .ok (.if_icmp .eq 5, 3) := by decide +kernel
theorem dX4_isWord_24 : decode cX4_isWord 24 = .ok (.iconst 0, 1) := by decide +kernel
theorem dX4_isWord_25 : decode cX4_isWord 25 = .ok (.ireturn, 1) := by decide +kernel
theorem dX4_isWord_26 : decode cX4_isWord 26 = .ok (.iconst 0, 1) := by decide +kernel
theorem dX4_isWord_27 : decode cX4_isWord 27 = .ok (.istore_n 2, 1) := by decide +kernel
theorem dX4_isWord_28 : decode cX4_isWord 28 = .ok (.iload_n 2, 1) := by decide +kernel
theorem dX4_isWord_29 : decode cX4_isWord 29 = .ok (.aload_n 1, 1) := by decide +kernel
theorem dX4_isWord_30 : decode cX4_isWord 30 = .ok (.invokevirtual 115, 3) := by decide +kernel
theorem dX4_isWord_33 : decode cX4_isWord 33 = .ok (.if_icmp .ge 30, 3) := by decide +kernel
theorem dX4_isWord_36 : decode cX4_isWord 36 = .ok (.aload_n 0, 1) := by decide +kernel
theorem dX4_isWord_37 : decode cX4_isWord 37 = .ok (.getfield 9, 3) := by decide +kernel
theorem dX4_isWord_40 : decode cX4_isWord 40 = .ok (.aload_n 0, 1) := by decide +kernel
theorem dX4_isWord_41 : decode cX4_isWord 41 = .ok (.getfield 46, 3) := by decide +kernel
theorem dX4_isWord_44 : decode cX4_isWord 44 = .ok (.iload_n 2, 1) := by decide +kernel
theorem dX4_isWord_45 : decode cX4_isWord 45 = .ok (.iadd, 1) := by decide +kernel
theorem dX4_isWord_46 : decode cX4_isWord 46 = .ok (.baload, 1) := by decide +kernel
theorem dX4_isWord_47 : decode cX4_isWord 47 = .ok (.aload_n 1, 1) := by decide +kernel
theorem dX4_isWord_48 : decode cX4_isWord 48 = .ok (.iload_n 2, 1) := by decide +kernel
theorem dX4_isWord_49 : decode cX4_isWord 49 = .ok (.invokevirtual 120, 3) := by decide +kernel
theorem dX4_isWord_52 : decode cX4_isWord 52 = .ok (.if_icmp .eq 5, 3) := by decide +kernel
theorem dX4_isWord_55 : decode cX4_isWord 55 = .ok (.iconst 0, 1) := by decide +kernel
theorem dX4_isWord_56 : decode cX4_isWord 56 = .ok (.ireturn, 1) := by decide +kernel
theorem dX4_isWord_57 : decode cX4_isWord 57 = .ok (.iinc 2 1, 3) := by decide +kernel
theorem dX4_isWord_60 : decode cX4_isWord 60 = .ok (.goto (-32), 3) := by decide +kernel
theorem dX4_isWord_63 : decode cX4_isWord 63 = .ok (.iconst 1, 1) := by decide +kernel
