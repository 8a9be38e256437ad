theorem dX8_sell_67 : decode cX8_sell 67 = .ok (.aload_n 0, 1) := by decide +kernel
theorem dX8_sell_68 : decode cX8_sell 68 = .ok (.getfield 7, 3) := by decide +kernel
theorem dX8_sell_71 : decode cX8_sell 71 = .ok (.iload 4, 2) := by decide +kernel
theorem dX8_sell_73 : decode cX8_sell 73 = .ok (.iconst 3, 1) := by decide +kernel
theorem dX8_sell_74 : decode cX8_sell 74 = .ok (.iadd, 1) := by decide +kernel
theorem dX8_sell_75 : decode cX8_sell 75 = .ok (.iaload, 1) := by decide +kernel
theorem dX8_sell_76 : decode cX8_sell 76 = .ok (.iconst 2, 1) := by decide +kernel
theorem dX8_sell_77 : decode cX8_sell 77 = .ok (.if_icmp .ne 20, 3) := by decide +kernel
theorem dX8_sell_80 : decode cX8_sell 80 = .ok (.aload_n 0, 1) := by decide +kernel
theorem dX8_sell_81 : decode cX8_sell 81 = .ok (.getfield 7, 3) := by decide +kernel
theorem dX8_sell_84 : decode cX8_sell 84 = .ok (.bipush 8, 2) := by decide +kernel
theorem dX8_sell_86 : decode cX8_sell 86 = .ok (.iconst 3, 1) := by decide +kernel
theorem dX8_sell_87 : decode cX8_sell 87 = .ok (.iload_n 2, 1) := by decide +kernel
theorem dX8_sell_88 : decode cX8_sell 88 = .ok (.imul, 1) := by decide +kernel
theorem dX8_sell_89 : decode cX8_sell 89 = .ok (.iadd, 1) := by decide +kernel
theorem dX8_sell_90 : decode cX8_sell 90 = .ok (.iconst 2, 1) := by decide +kernel
theorem dX8_sell_91 : decode cX8_sell 91 = .ok (.iadd, 1) := by decide +kernel
theorem dX8_sell_92 : decode cX8_sell 92 = .ok (.iaload, 1) := by decide +kernel
theorem dX8_sell_93 : decode cX8_sell 93 = .ok (.iload_n 3, 1) := by decide +kernel
theorem dX8_sell_94 : decode cX8_sell 94 = .ok (.if_icmp .ge 8, 3) := by decide +kernel
theorem dX8_sell_97 : decode cX8_sell 97 = .ok (.aload_n 0, 1) := by decide +kernel
theorem dX8_sell_98 : decode cX8_sell 98 = .ok (.invokevirtual 156, 3) := by decide +kernel
theorem dX8_sell_101 : decode cX8_sell 101 = .ok (.ireturn, 1) := by decide +kernel
theorem dX8_sell_102 : decode cX8_sell 102 = .ok (.aload_n 0, 1) := by decide +kernel
theorem dX8_sell_103 : decode cX8_sell 103 = .ok (.invokevirtual 159, 3) := by decide +kernel
theorem dX8_sell_106 : decode cX8_sell 106 = .ok (.aload_n 0, 1) := by decide +kernel
theorem dX8_sell_107 : decode cX8_sell 107 = .ok (.getfield 7, 3) := by decide +kernel
theorem dX8_sell_110 : decode cX8_sell 110 = .ok (.iload 4, 2) := by decide +kernel
theorem dX8_sell_112 : decode cX8_sell 112 = .ok (.iaload, 1) := by decide +kernel
theorem dX8_sell_113 : decode cX8_sell 113 = .ok (.istore 5, 2) := by decide +kernel
theorem dX8_sell_115 : decode cX8_sell 115 = .ok (.aload_n 0, 1) := by decide +kernel
theorem dX8_sell_116 : decode cX8_sell 116 = .ok (.getfield 7, 3) := by decide +kernel
theorem dX8_sell_119 : decode cX8_sell 119 = .ok (.bipush 8, 2) := by decide +kernel
theorem dX8_sell_121 : decode cX8_sell 121 = .ok (.iconst 3, 1) := by decide +kernel
theorem dX8_sell_122 : decode cX8_sell 122 = .ok (.iload_n 2, 1) := by decide +kernel
theorem dX8_sell_123 : decode cX8_sell 123 = .ok (.imul, 1) := by decide +kernel
theorem dX8_sell_124 : decode cX8_sell 124 = .ok (.iadd, 1) := by decide +kernel
theorem dX8_sell_125 : decode cX8_sell 125 = .ok (.iconst 2, 1) := by decide +kernel
theorem dX8_sell_126 : decode cX8_sell 126 = .ok (.iadd, 1) := by decide +kernel
theorem dX8_sell_127 : decode cX8_sell 127 = .ok (.dup2, 1) := by decide +kernel
theorem dX8_sell_128 : decode cX8_sell 128 = .ok (.iaload, 1) := by decide +kernel
theorem dX8_sell_129 : decode cX8_sell 129 = .ok (.iload_n 3, 1) := by decide +kernel
theorem dX8_sell_130 : decode cX8_sell 130 = .ok (.isub, 1) := by decide +kernel
theorem dX8_sell_131 : decode cX8_sell 131 = .ok (.iastore, 1) := by decide +kernel
theorem dX8_sell_132 : decode cX8_sell 132 = .ok (.aload_n 0, 1) := by decide +kernel
theorem dX8_sell_133 : decode cX8_sell 133 = .ok (.getfield 7, 3) := by decide +kernel
theorem dX8_sell_136 : decode cX8_sell 136 = .ok (.bipush 8, 2) := by decide +kernel
theorem dX8_sell_138 : decode cX8_sell 138 = .ok (.iconst 3, 1) := by decide +kernel
theorem dX8_sell_139 : decode cX8_sell 139 = .ok (.iload 5, 2) := by decide +kernel
theorem dX8_sell_141 : decode cX8_sell 141 = .ok (.imul, 1) := by decide +kernel
theorem dX8_sell_142 : decode cX8_sell 142 = .ok (.iadd, 1) := by decide +kernel
theorem dX8_sell_143 : decode cX8_sell 143 = .ok (.iconst 2, 1) := by decide +kernel
theorem dX8_sell_144 : decode cX8_sell 144 = .ok (.iadd, 1) := by decide +kernel
theorem dX8_sell_145 : decode cX8_sell 145 = .ok (.sipush 9999, 3) := by decide +kernel
theorem dX8_sell_148 : decode cX8_sell 148 = .ok (.aload_n 0, 1) := by decide +kernel
theorem dX8_sell_149 : decode cX8_sell 149 = .ok (.getfield 7, 3) := by decide +kernel
theorem dX8_sell_152 : decode cX8_sell 152 = .ok (.bipush 8, 2) := by decide +kernel
theorem dX8_sell_154 : decode cX8_sell 154 = .ok (.iconst 3, 1) := by decide +kernel
theorem dX8_sell_155 : decode cX8_sell 155 = .ok (.iload 5, 2) := by decide +kernel
theorem dX8_sell_157 : decode cX8_sell 157 = .ok (.imul, 1) := by decide +kernel
theorem dX8_sell_158 : decode cX8_sell 158 = .ok (.iadd, 1) := by decide +kernel
theorem dX8_sell_159 : decode cX8_sell 159 = .ok (.iconst 2, 1) := by decide +kernel
theorem dX8_sell_160 : decode cX8_sell 160 = .ok (.iadd, 1) := by decide +kernel
theorem dX8_sell_161 : decode cX8_sell 161 = .ok (.iaload, 1) := by decide +kernel
theorem dX8_sell_162 : decode cX8_sell 162 = .ok (.iload_n 3, 1) := by decide +kernel
theorem dX8_sell_163 : decode cX8_sell 163 = .ok (.iadd, 1) := by decide +kernel
theorem dX8_sell_164 : decode cX8_sell 164 = .ok (.invokestatic 137, 3) := by decide +kernel
theorem dX8_sell_167 : decode cX8_sell 167 = .ok (.iastore, 1) := by decide +kernel
theorem dX8_sell_168 : decode cX8_sell 168 = .ok (.aload_n 0, 1) := by decide +kernel
theorem dX8_sell_169 : decode cX8_sell 169 = .ok (.getfield 7, 3) := by decide +kernel
theorem dX8_sell_172 : decode cX8_sell 172 = .ok (.iload 4, 2) := by decide +kernel
theorem dX8_sell_174 : decode cX8_sell 174 = .ok (.iload_n 2, 1) := by decide +kernel
theorem dX8_sell_175 : decode cX8_sell 175 = .ok (.iastore, 1) := by decide +kernel
theorem dX8_sell_176 : decode cX8_sell 176 = .ok (.iload 5, 2) := by decide +kernel
theorem dX8_sell_178 : decode cX8_sell 178 = .ok (.ireturn, 1) := by decide +kernel
set_option maxRecDepth 20000 in
theorem ggX8_whose_X8_isPerson : GoodIn wsX8_whose wsX8_isPerson := goodIn_r _ [6, 1, 7, 8, 5, 9, 15, 16, 17, 18, 19, 20, 21, 22, 23, 24, 25, 26, 27, 28, 29, 30, 31, 32, 33, 34] (by decide +kernel) (by decide +kernel)
set_option maxRecDepth 20000 in
theorem gX8_whose_X8_isPerson : GoodIn wsX8_whose (wsV RX8 68 RX8 yX8_isPerson wsX8_isPerson) := goodIn_app (goodIn_of _ (by decide +kernel)) ggX8_whose_X8_isPerson
set_option maxRecDepth 20000 in
theorem ggX8_whose_X8_in : GoodIn wsX8_whose wsX8_in := goodIn_r _ [9] (by decide +kernel) (by decide +kernel)
set_option maxRecDepth 20000 in
theorem gX8_whose_X8_in : GoodIn wsX8_whose (va_wsS RX8 52 yX8_in wsX8_in) := goodIn_app (goodIn_of _ (by decide +kernel)) ggX8_whose_X8_in
set_option maxRecDepth 20000 in
theorem ggX8_whose_X8_bad : GoodIn wsX8_whose wsX8_bad := goodIn_r _ [13, 14, 15, 16, 17, 18, 19, 20, 21, 22, 23, 24, 25, 26, 27, 28, 29, 30, 31, 32, 33, 34] (by decide +kernel) (by decide +kernel)
set_option maxRecDepth 20000 in
theorem gX8_whose_X8_bad : GoodIn wsX8_whose (wsV RX8 57 RX8 yX8_bad wsX8_bad) := goodIn_app (goodIn_of _ (by decide +kernel)) ggX8_whose_X8_bad
theorem dX8_whose_0 : decode cX8_whose 0 = .ok (.aload_n 0, 1) := by decide +kernel
theorem dX8_whose_1 : decode cX8_whose 1 = .ok (.iload_n 1, 1) := by decide +kernel
theorem dX8_whose_2 : decode cX8_whose 2 = .ok (.invokevirtual 68, 3) := by decide +kernel
theorem dX8_whose_5 : decode cX8_whose 5 = .ok (.ifCond .eq 28, 3) := by decide +kernel
theorem dX8_whose_8 : decode cX8_whose 8 = .ok (.iload_n 2, 1) := by decide +kernel
theorem dX8_whose_9 : decode cX8_whose 9 = .ok (.iconst 0, 1) := by decide +kernel
theorem dX8_whose_10 : decode cX8_whose 10 = .ok (.iconst 2, 1) := by decide +kernel
theorem dX8_whose_11 : decode cX8_whose 11 = .ok (.invokestatic 52, 3) := by decide +kernel
theorem dX8_whose_14 : decode cX8_whose 14 = .ok (.ifCond .eq 19, 3) := by decide +kernel
theorem dX8_whose_17 : decode cX8_whose 17 = .ok (.aload_n 0, 1) := by decide +kernel
theorem dX8_whose_18 : decode cX8_whose 18 = .ok (.getfield 7, 3) := by decide +kernel
theorem dX8_whose_21 : decode cX8_whose 21 = .ok (.bipush 8, 2) := by decide +kernel
theorem dX8_whose_23 : decode cX8_whose 23 = .ok (.iconst 3, 1) := by decide +kernel
theorem dX8_whose_24 : decode cX8_whose 24 = .ok (.iload_n 1, 1) := by decide +kernel
theorem dX8_whose_25 : decode cX8_whose 25 = .ok (.imul, 1) := by decide +kernel
theorem dX8_whose_26 : decode cX8_whose 26 = .ok (.iadd, 1) := by decide +kernel
theorem dX8_whose_27 : decode cX8_whose 27 = .ok (.iload_n 2, 1) := by decide +kernel
theorem dX8_whose_28 : decode cX8_whose 28 = .ok (.iadd, 1) := by decide +kernel
theorem dX8_whose_29 : decode cX8_whose 29 = .ok (.iaload, 1) := by decide +kernel
theorem dX8_whose_30 : decode cX8_whose 30 = .ok (.goto 7, 3) := by decide +kernel
theorem dX8_whose_33 : decode cX8_whose 33 = .ok (.aload_n 0, 1) := by decide +kernel
theorem dX8_whose_34 : decode cX8_whose 34 = .ok (.invokevirtual 57, 3) := by decide +kernel
theorem dX8_whose_37 : decode cX8_whose 37 = .ok (.ireturn, 1) := by decide +kernel
set_option maxRecDepth 20000 in
theorem ggX8_about_X8_isLoan : GoodIn wsX8_about wsX8_isLoan := goodIn_r _ [6, 1, 7, 8, 5, 9, 18, 19, 20, 21, 22, 23, 24, 25, 26, 27, 28, 29, 30, 31, 32, 33, 34, 35, 36, 37] (by decide +kernel) (by decide +kernel)
set_option maxRecDepth 20000 in
theorem gX8_about_X8_isLoan : GoodIn wsX8_about (wsV RX8 165 RX8 yX8_isLoan wsX8_isLoan) := goodIn_app (goodIn_of _ (by decide +kernel)) ggX8_about_X8_isLoan
set_option maxRecDepth 20000 in
theorem ggX8_about_X8_in : GoodIn wsX8_about wsX8_in := goodIn_r _ [9] (by decide +kernel) (by decide +kernel)
set_option maxRecDepth 20000 in
theorem gX8_about_X8_in : GoodIn wsX8_about (va_wsS RX8 52 yX8_in wsX8_in) := goodIn_app (goodIn_of _ (by decide +kernel)) ggX8_about_X8_in
set_option maxRecDepth 20000 in
theorem ggX8_about_X8_bad : GoodIn wsX8_about wsX8_bad := goodIn_r _ [13, 14, 18, 19, 20, 21, 22, 23, 24, 25, 26, 27, 28, 29, 30, 31, 32, 33, 34, 35, 36, 37] (by decide +kernel) (by decide +kernel)
set_option maxRecDepth 20000 in
theorem gX8_about_X8_bad : GoodIn wsX8_about (wsV RX8 57 RX8 yX8_bad wsX8_bad) := goodIn_app (goodIn_of _ (by decide +kernel)) ggX8_about_X8_bad
set_option maxRecDepth 20000 in
theorem ggX8_about_X8_whole : GoodIn wsX8_about wsX8_whole := goodIn_r _ [17] (by decide +kernel) (by decide +kernel)
set_option maxRecDepth 20000 in
theorem gX8_about_X8_whole : GoodIn wsX8_about (va_wsS RX8 140 yX8_whole wsX8_whole) := goodIn_app (goodIn_of _ (by decide +kernel)) ggX8_about_X8_whole
theorem dX8_about_0 : decode cX8_about 0 = .ok (.aload_n 0, 1) := by decide +kernel
theorem dX8_about_1 : decode cX8_about 1 = .ok (.iload_n 1, 1) := by decide +kernel
theorem dX8_about_2 : decode cX8_about 2 = .ok (.invokevirtual 165, 3) := by decide +kernel
theorem dX8_about_5 : decode cX8_about 5 = .ok (.ifCond .eq 12, 3) := by decide +kernel
theorem dX8_about_8 : decode cX8_about 8 = .ok (.iload_n 2, 1) := by decide +kernel
theorem dX8_about_9 : decode cX8_about 9 = .ok (.iconst 0, 1) := by decide +kernel
theorem dX8_about_10 : decode cX8_about 10 = .ok (.iconst 5, 1) := by decide +kernel
theorem dX8_about_11 : decode cX8_about 11 = .ok (.invokestatic 52, 3) := by decide +kernel
theorem dX8_about_14 : decode cX8_about 14 = .ok (.ifCond .ne 8, 3) := by decide +kernel
theorem dX8_about_17 : decode cX8_about 17 = .ok (.aload_n 0, 1) := by decide +kernel
theorem dX8_about_18 : decode cX8_about 18 = .ok (.invokevirtual 57, 3) := by decide +kernel
theorem dX8_about_21 : decode cX8_about 21 = .ok (.ireturn, 1) := by decide +kernel
theorem dX8_about_22 : decode cX8_about 22 = .ok (.iload_n 2, 1) := by decide +kernel
theorem dX8_about_23 : decode cX8_about 23 = .ok (.iconst 5, 1) := by decide +kernel
theorem dX8_about_24 : decode cX8_about 24 = .ok (.if_icmp .ne 14, 3) := by decide +kernel
theorem dX8_about_27 : decode cX8_about 27 = .ok (.aload_n 0, 1) := by decide +kernel
theorem dX8_about_28 : decode cX8_about 28 = .ok (.getfield 7, 3) := by decide +kernel
theorem dX8_about_31 : decode cX8_about 31 = .ok (.iload_n 1, 1) := by decide +kernel
theorem dX8_about_32 : decode cX8_about 32 = .ok (.invokestatic 140, 3) := by decide +kernel
theorem dX8_about_35 : decode cX8_about 35 = .ok (.goto 16, 3) := by decide +kernel
theorem dX8_about_38 : decode cX8_about 38 = .ok (.aload_n 0, 1) := by decide +kernel
theorem dX8_about_39 : decode cX8_about 39 = .ok (.getfield 7, 3) := by decide +kernel
theorem dX8_about_42 : decode cX8_about 42 = .ok (.bipush 26, 2) := by decide +kernel
theorem dX8_about_44 : decode cX8_about 44 = .ok (.iconst 5, 1) := by decide +kernel
theorem dX8_about_45 : decode cX8_about 45 = .ok (.iload_n 1, 1) := by decide +kernel
theorem dX8_about_46 : decode cX8_about 46 = .ok (.imul, 1) := by decide +kernel
theorem dX8_about_47 : decode cX8_about 47 = .ok (.iadd, 1) := by decide +kernel
theorem dX8_about_48 : decode cX8_about 48 = .ok (.iload_n 2, 1) := by decide +kernel
theorem dX8_about_49 : decode cX8_about 49 = .ok (.iadd, 1) := by decide +kernel
theorem dX8_about_50 : decode cX8_about 50 = .ok (.iaload, 1) := by decide +kernel
theorem dX8_about_51 : decode cX8_about 51 = .ok (.ireturn, 1) := by decide +kernel
set_option maxRecDepth 20000 in
theorem ggX8_goes_X8_tries : GoodIn wsX8_goes wsX8_tries := goodIn_r _ [6, 7, 1, 8, 9, 5, 10, 30, 31, 32, 33, 34, 35, 36, 37, 38, 39, 40, 41, 42, 43, 44, 45, 46, 47, 48, 49] (by decide +kernel) (by decide +kernel)
set_option maxRecDepth 20000 in
theorem gX8_goes_X8_tries : GoodIn wsX8_goes (wsV RX8 168 RX8 yX8_tries wsX8_tries) := goodIn_app (goodIn_of _ (by decide +kernel)) ggX8_goes_X8_tries
set_option maxRecDepth 20000 in
theorem ggX8_goes_X8_month : GoodIn wsX8_goes wsX8_month := goodIn_r _ [13, 14, 15, 5, 16, 17, 18, 19, 20, 21, 22, 23, 24, 25, 26, 27, 28, 29] (by decide +kernel) (by decide +kernel)
set_option maxRecDepth 20000 in
theorem gX8_goes_X8_month : GoodIn wsX8_goes (va_wsS RX8 162 yX8_month wsX8_month) := goodIn_app (goodIn_of _ (by decide +kernel)) ggX8_goes_X8_month
theorem dX8_goes_0 : decode cX8_goes 0 = .ok (.aload_n 0, 1) := by decide +kernel
theorem dX8_goes_1 : decode cX8_goes 1 = .ok (.invokevirtual 168, 3) := by decide +kernel
theorem dX8_goes_4 : decode cX8_goes 4 = .ok (.iconst 0, 1) := by decide +kernel
theorem dX8_goes_5 : decode cX8_goes 5 = .ok (.istore_n 2, 1) := by decide +kernel
theorem dX8_goes_6 : decode cX8_goes 6 = .ok (.iload_n 2, 1) := by decide +kernel
theorem dX8_goes_7 : decode cX8_goes 7 = .ok (.iload_n 1, 1) := by decide +kernel
theorem dX8_goes_8 : decode cX8_goes 8 = .ok (.if_icmp .ge 18, 3) := by decide +kernel
theorem dX8_goes_11 : decode cX8_goes 11 = .ok (.aload_n 0, 1) := by decide +kernel
theorem dX8_goes_12 : decode cX8_goes 12 = .ok (.getfield 13, 3) := by decide +kernel
theorem dX8_goes_15 : decode cX8_goes 15 = .ok (.iconst 0, 1) := by decide +kernel
theorem dX8_goes_16 : decode cX8_goes 16 = .ok (.invokestatic 162, 3) := by decide +kernel
theorem dX8_goes_19 : decode cX8_goes 19 = .ok (.pop, 1) := by decide +kernel
theorem dX8_goes_20 : decode cX8_goes 20 = .ok (.iinc 2 1, 3) := by decide +kernel
theorem dX8_goes_23 : decode cX8_goes 23 = .ok (.goto (-17), 3) := by decide +kernel
theorem dX8_goes_26 : decode cX8_goes 26 = .ok (.return_, 1) := by decide +kernel
theorem dX8_many_0 : decode cX8_many 0 = .ok (.iconst 0, 1) := by decide +kernel
theorem dX8_many_1 : decode cX8_many 1 = .ok (.istore_n 3, 1) := by decide +kernel
theorem dX8_many_2 : decode cX8_many 2 = .ok (.iconst 0, 1) := by decide +kernel
theorem dX8_many_3 : decode cX8_many 3 = .ok (.istore 4, 2) := by decide +kernel
theorem dX8_many_5 : decode cX8_many 5 = .ok (.iload 4, 2) := by decide +kernel
theorem dX8_many_7 : decode cX8_many 7 = .ok (.iload_n 2, 1) := by decide +kernel
theorem dX8_many_8 : decode cX8_many 8 = .ok (.if_icmp .ge 32, 3) := by decide +kernel
theorem dX8_many_11 : decode cX8_many 11 = .ok (.iload_n 3, 1) := by decide +kernel
theorem dX8_many_12 : decode cX8_many 12 = .ok (.aload_n 0, 1) := by decide +kernel
theorem dX8_many_13 : decode cX8_many 13 = .ok (.bipush 26, 2) := by decide +kernel
theorem dX8_many_15 : decode cX8_many 15 = .ok (.iconst 5, 1) := by decide +kernel
theorem dX8_many_16 : decode cX8_many 16 = .ok (.iload 4, 2) := by decide +kernel
theorem dX8_many_18 : decode cX8_many 18 = .ok (.imul, 1) := by decide +kernel
theorem dX8_many_19 : decode cX8_many 19 = .ok (.iadd, 1) := by decide +kernel
theorem dX8_many_20 : decode cX8_many 20 = .ok (.iconst 3, 1) := by decide +kernel
theorem dX8_many_21 : decode cX8_many 21 = .ok (.iadd, 1) := by decide +kernel
theorem dX8_many_22 : decode cX8_many 22 = .ok (.iaload, 1) := by decide +kernel
theorem dX8_many_23 : decode cX8_many 23 = .ok (.iload_n 1, 1) := by decide +kernel
theorem dX8_many_24 : decode cX8_many 24 = .ok (.if_icmp .ne 7, 3) := by decide +kernel
theorem dX8_many_27 : decode cX8_many 27 = .ok (.iconst 1, 1) := by decide +kernel
theorem dX8_many_28 : decode cX8_many 28 = .ok (.goto 4, 3) := by decide +kernel
theorem dX8_many_31 : decode cX8_many 31 = .ok (.iconst 0, 1) := by decide +kernel
theorem dX8_many_32 : decode cX8_many 32 = .ok (.iadd, 1) := by decide +kernel
theorem dX8_many_33 : decode cX8_many 33 = .ok (.istore_n 3, 1) := by decide +kernel
theorem dX8_many_34 : decode cX8_many 34 = .ok (.iinc 4 1, 3) := by decide +kernel
theorem dX8_many_37 : decode cX8_many 37 = .ok (.goto (-32), 3) := by decide +kernel
theorem dX8_many_40 : decode cX8_many 40 = .ok (.iload_n 3, 1) := by decide +kernel
theorem dX8_many_41 : decode cX8_many 41 = .ok (.ireturn, 1) := by decide +kernel
set_option maxRecDepth 20000 in
theorem ggX8_foretold_X8_in : GoodIn wsX8_foretold wsX8_in := goodIn_r _ [5] (by decide +kernel) (by decide +kernel)
set_option maxRecDepth 20000 in
theorem gX8_foretold_X8_in : GoodIn wsX8_foretold (va_wsS RX8 52 yX8_in wsX8_in) := goodIn_app (goodIn_of _ (by decide +kernel)) ggX8_foretold_X8_in
set_option maxRecDepth 20000 in
theorem ggX8_foretold_X8_bad : GoodIn wsX8_foretold wsX8_bad := goodIn_r _ [9, 10, 45, 46, 47, 48, 49, 50, 51, 52, 53, 54, 55, 56, 57, 58, 59, 60, 61, 62, 63, 64] (by decide +kernel) (by decide +kernel)
set_option maxRecDepth 20000 in
theorem gX8_foretold_X8_bad : GoodIn wsX8_foretold (wsV RX8 57 RX8 yX8_bad wsX8_bad) := goodIn_app (goodIn_of _ (by decide +kernel)) ggX8_foretold_X8_bad
set_option maxRecDepth 20000 in
theorem ggX8_foretold_X8_goes : GoodIn wsX8_foretold wsX8_goes := goodIn_r _ [14, 1, 15, 16, 17, 4, 18, 19, 20, 21, 22, 23, 24, 25, 26, 27, 28, 29, 30, 31, 32, 33, 34, 35, 36, 37, 38, 39, 40, 41, 45, 46, 47, 48, 49, 50, 51, 52, 53, 54, 55, 56, 57, 58, 59, 60, 61, 62, 63, 64] (by decide +kernel) (by decide +kernel)
set_option maxRecDepth 20000 in
theorem gX8_foretold_X8_goes : GoodIn wsX8_foretold (wsV RX8 171 RX8 yX8_goes wsX8_goes) := goodIn_app (goodIn_of _ (by decide +kernel)) ggX8_foretold_X8_goes
set_option maxRecDepth 20000 in
theorem ggX8_foretold_X8_many : GoodIn wsX8_foretold wsX8_many := goodIn_r _ [44] (by decide +kernel) (by decide +kernel)
set_option maxRecDepth 20000 in
theorem gX8_foretold_X8_many : GoodIn wsX8_foretold (va_wsS RX8 175 yX8_many wsX8_many) := goodIn_app (goodIn_of _ (by decide +kernel)) ggX8_foretold_X8_many
theorem dX8_foretold_0 : decode cX8_foretold 0 = .ok (.iload_n 1, 1) := by decide +kernel
theorem dX8_foretold_1 : decode cX8_foretold 1 = .ok (.iconst 0, 1) := by decide +kernel
theorem dX8_foretold_2 : decode cX8_foretold 2 = .ok (.bipush 60, 2) := by decide +kernel
theorem dX8_foretold_4 : decode cX8_foretold 4 = .ok (.invokestatic 52, 3) := by decide +kernel
theorem dX8_foretold_7 : decode cX8_foretold 7 = .ok (.ifCond .eq 12, 3) := by decide +kernel
theorem dX8_foretold_10 : decode cX8_foretold 10 = .ok (.iload_n 2, 1) := by decide +kernel
theorem dX8_foretold_11 : decode cX8_foretold 11 = .ok (.iconst 0, 1) := by decide +kernel
theorem dX8_foretold_12 : decode cX8_foretold 12 = .ok (.iconst 4, 1) := by decide +kernel
theorem dX8_foretold_13 : decode cX8_foretold 13 = .ok (.invokestatic 52, 3) := by decide +kernel
theorem dX8_foretold_16 : decode cX8_foretold 16 = .ok (.ifCond .ne 8, 3) := by decide +kernel
theorem dX8_foretold_19 : decode cX8_foretold 19 = .ok (.aload_n 0, 1) := by decide +kernel
theorem dX8_foretold_20 : decode cX8_foretold 20 = .ok (.invokevirtual 57, 3) := by decide +kernel
theorem dX8_foretold_23 : decode cX8_foretold 23 = .ok (.ireturn, 1) := by decide +kernel
theorem dX8_foretold_24 : decode cX8_foretold 24 = .ok (.aload_n 0, 1) := by decide +kernel
theorem dX8_foretold_25 : decode cX8_foretold 25 = .ok (.iload_n 1, 1) := by decide +kernel
theorem dX8_foretold_26 : decode cX8_foretold 26 = .ok (.invokevirtual 171, 3) := by decide +kernel
theorem dX8_foretold_29 : decode cX8_foretold 29 = .ok (.iload_n 2, 1) := by decide +kernel
theorem dX8_foretold_30 : decode cX8_foretold 30 = .ok (.ifCond .ne 12, 3) := by decide +kernel
theorem dX8_foretold_33 : decode cX8_foretold 33 = .ok (.aload_n 0, 1) := by decide +kernel
theorem dX8_foretold_34 : decode cX8_foretold 34 = .ok (.getfield 13, 3) := by decide +kernel
theorem dX8_foretold_37 : decode cX8_foretold 37 = .ok (.iconst 0, 1) := by decide +kernel
theorem dX8_foretold_38 : decode cX8_foretold 38 = .ok (.iaload, 1) := by decide +kernel
theorem dX8_foretold_39 : decode cX8_foretold 39 = .ok (.goto 50, 3) := by decide +kernel
theorem dX8_foretold_42 : decode cX8_foretold 42 = .ok (.iload_n 2, 1) := by decide +kernel
theorem dX8_foretold_43 : decode cX8_foretold 43 = .ok (.iconst 1, 1) := by decide +kernel
theorem dX8_foretold_44 : decode cX8_foretold 44 = .ok (.if_icmp .ne 13, 3) := by decide +kernel
theorem dX8_foretold_47 : decode cX8_foretold 47 = .ok (.aload_n 0, 1) := by decide +kernel
theorem dX8_foretold_48 : decode cX8_foretold 48 = .ok (.getfield 13, 3) := by decide +kernel
theorem dX8_foretold_51 : decode cX8_foretold 51 = .ok (.bipush 6, 2) := by decide +kernel
theorem dX8_foretold_53 : decode cX8_foretold 53 = .ok (.iaload, 1) := by decide +kernel
theorem dX8_foretold_54 : decode cX8_foretold 54 = .ok (.goto 35, 3) := by decide +kernel
theorem dX8_foretold_57 : decode cX8_foretold 57 = .ok (.aload_n 0, 1) := by decide +kernel
theorem dX8_foretold_58 : decode cX8_foretold 58 = .ok (.getfield 13, 3) := by decide +kernel
theorem dX8_foretold_61 : decode cX8_foretold 61 = .ok (.iload_n 2, 1) := by decide +kernel
theorem dX8_foretold_62 : decode cX8_foretold 62 = .ok (.iconst 2, 1) := by decide +kernel
theorem dX8_foretold_63 : decode cX8_foretold 63 = .ok (.if_icmp .ne 7, 3) := by decide +kernel
theorem dX8_foretold_66 : decode cX8_foretold 66 = .ok (.iconst 1, 1) := by decide +kernel
theorem dX8_foretold_67 : decode cX8_foretold 67 = .ok (.goto 13, 3) := by decide +kernel
theorem dX8_foretold_70 : decode cX8_foretold 70 = .ok (.iload_n 2, 1) := by decide +kernel
theorem dX8_foretold_71 : decode cX8_foretold 71 = .ok (.iconst 3, 1) := by decide +kernel
theorem dX8_foretold_72 : decode cX8_foretold 72 = .ok (.if_icmp .ne 7, 3) := by decide +kernel
theorem dX8_foretold_75 : decode cX8_foretold 75 = .ok (.iconst 2, 1) := by decide +kernel
theorem dX8_foretold_76 : decode cX8_foretold 76 = .ok (.goto 4, 3) := by decide +kernel
theorem dX8_foretold_79 : decode cX8_foretold 79 = .ok (.iconst 3, 1) := by decide +kernel
theorem dX8_foretold_80 : decode cX8_foretold 80 = .ok (.aload_n 0, 1) := by decide +kernel
theorem dX8_foretold_81 : decode cX8_foretold 81 = .ok (.getfield 13, 3) := by decide +kernel
theorem dX8_foretold_84 : decode cX8_foretold 84 = .ok (.iconst 4, 1) := by decide +kernel
theorem dX8_foretold_85 : decode cX8_foretold 85 = .ok (.iaload, 1) := by decide +kernel
theorem dX8_foretold_86 : decode cX8_foretold 86 = .ok (.invokestatic 175, 3) := by decide +kernel
theorem dX8_foretold_89 : decode cX8_foretold 89 = .ok (.ireturn, 1) := by decide +kernel
set_option maxRecDepth 20000 in
theorem ggX8_purse_X8_in : GoodIn wsX8_purse wsX8_in := goodIn_r _ [5] (by decide +kernel) (by decide +kernel)
set_option maxRecDepth 20000 in
theorem gX8_purse_X8_in : GoodIn wsX8_purse (va_wsS RX8 52 yX8_in wsX8_in) := goodIn_app (goodIn_of _ (by decide +kernel)) ggX8_purse_X8_in
set_option maxRecDepth 20000 in
theorem ggX8_purse_X8_isPerson : GoodIn wsX8_purse wsX8_isPerson := goodIn_r _ [9, 10, 2, 3, 4, 5, 46, 47, 48, 49, 50, 51, 52, 53, 54, 55, 56, 57, 58, 59, 60, 61, 62, 63, 64, 65] (by decide +kernel) (by decide +kernel)
set_option maxRecDepth 20000 in
theorem gX8_purse_X8_isPerson : GoodIn wsX8_purse (wsV RX8 68 RX8 yX8_isPerson wsX8_isPerson) := goodIn_app (goodIn_of _ (by decide +kernel)) ggX8_purse_X8_isPerson
set_option maxRecDepth 20000 in
theorem ggX8_purse_X8_bad : GoodIn wsX8_purse wsX8_bad := goodIn_r _ [14, 15, 46, 47, 48, 49, 50, 51, 52, 53, 54, 55, 56, 57, 58, 59, 60, 61, 62, 63, 64, 65] (by decide +kernel) (by decide +kernel)
set_option maxRecDepth 20000 in
theorem gX8_purse_X8_bad : GoodIn wsX8_purse (wsV RX8 57 RX8 yX8_bad wsX8_bad) := goodIn_app (goodIn_of _ (by decide +kernel)) ggX8_purse_X8_bad
set_option maxRecDepth 20000 in
theorem ggX8_purse_X8_goes : GoodIn wsX8_purse wsX8_goes := goodIn_r _ [19, 1, 20, 21, 22, 4, 23, 10, 24, 25, 26, 27, 28, 29, 30, 31, 32, 33, 34, 35, 36, 37, 38, 39, 40, 41, 42, 43, 44, 45, 46, 47, 48, 49, 50, 51, 52, 53, 54, 55, 56, 57, 58, 59, 60, 61, 62, 63, 64, 65] (by decide +kernel) (by decide +kernel)
set_option maxRecDepth 20000 in
theorem gX8_purse_X8_goes : GoodIn wsX8_purse (wsV RX8 171 RX8 yX8_goes wsX8_goes) := goodIn_app (goodIn_of _ (by decide +kernel)) ggX8_purse_X8_goes
theorem dX8_purse_0 : decode cX8_purse 0 = .ok (.iload_n 1, 1) := by decide +kernel
theorem dX8_purse_1 : decode cX8_purse 1 = .ok (.iconst 0, 1) := by decide +kernel
theorem dX8_purse_2 : decode cX8_purse 2 = .ok (.bipush 60, 2) := by decide +kernel
theorem dX8_purse_4 : decode cX8_purse 4 = .ok (.invokestatic 52, 3) := by decide +kernel
theorem dX8_purse_7 : decode cX8_purse 7 = .ok (.ifCond .eq 11, 3) := by decide +kernel
theorem dX8_purse_10 : decode cX8_purse 10 = .ok (.aload_n 0, 1) := by decide +kernel
theorem dX8_purse_11 : decode cX8_purse 11 = .ok (.iload_n 2, 1) := by decide +kernel
theorem dX8_purse_12 : decode cX8_purse 12 = .ok (.invokevirtual 68, 3) := by decide +kernel
theorem dX8_purse_15 : decode cX8_purse 15 = .ok (.ifCond .ne 8, 3) := by decide +kernel
theorem dX8_purse_18 : decode cX8_purse 18 = .ok (.aload_n 0, 1) := by decide +kernel
theorem dX8_purse_19 : decode cX8_purse 19 = .ok (.invokevirtual 57, 3) := by decide +kernel
theorem dX8_purse_22 : decode cX8_purse 22 = .ok (.ireturn, 1) := by decide +kernel
theorem dX8_purse_23 : decode cX8_purse 23 = .ok (.aload_n 0, 1) := by decide +kernel
theorem dX8_purse_24 : decode cX8_purse 24 = .ok (.iload_n 1, 1) := by decide +kernel
theorem dX8_purse_25 : decode cX8_purse 25 = .ok (.invokevirtual 171, 3) := by decide +kernel
theorem dX8_purse_28 : decode cX8_purse 28 = .ok (.aload_n 0, 1) := by decide +kernel
theorem dX8_purse_29 : decode cX8_purse 29 = .ok (.getfield 13, 3) := by decide +kernel
theorem dX8_purse_32 : decode cX8_purse 32 = .ok (.bipush 8, 2) := by decide +kernel
theorem dX8_purse_34 : decode cX8_purse 34 = .ok (.iconst 3, 1) := by decide +kernel
theorem dX8_purse_35 : decode cX8_purse 35 = .ok (.iload_n 2, 1) := by decide +kernel
theorem dX8_purse_36 : decode cX8_purse 36 = .ok (.imul, 1) := by decide +kernel
theorem dX8_purse_37 : decode cX8_purse 37 = .ok (.iadd, 1) := by decide +kernel
theorem dX8_purse_38 : decode cX8_purse 38 = .ok (.iconst 2, 1) := by decide +kernel
theorem dX8_purse_39 : decode cX8_purse 39 = .ok (.iadd, 1) := by decide +kernel
theorem dX8_purse_40 : decode cX8_purse 40 = .ok (.iaload, 1) := by decide +kernel
theorem dX8_purse_41 : decode cX8_purse 41 = .ok (.ireturn, 1) := by decide +kernel
set_option maxRecDepth 20000 in
theorem ggX8_loanThen_X8_in : GoodIn wsX8_loanThen wsX8_in := goodIn_r _ [5] (by decide +kernel) (by decide +kernel)
set_option maxRecDepth 20000 in
theorem gX8_loanThen_X8_in : GoodIn wsX8_loanThen (va_wsS RX8 52 yX8_in wsX8_in) := goodIn_app (goodIn_of _ (by decide +kernel)) ggX8_loanThen_X8_in
set_option maxRecDepth 20000 in
theorem ggX8_loanThen_X8_isLoan : GoodIn wsX8_loanThen wsX8_isLoan := goodIn_r _ [9, 10, 2, 3, 4, 5, 46, 47, 48, 49, 50, 51, 52, 53, 54, 55, 56, 57, 58, 59, 60, 61, 62, 63, 64, 65] (by decide +kernel) (by decide +kernel)
set_option maxRecDepth 20000 in
theorem gX8_loanThen_X8_isLoan : GoodIn wsX8_loanThen (wsV RX8 165 RX8 yX8_isLoan wsX8_isLoan) := goodIn_app (goodIn_of _ (by decide +kernel)) ggX8_loanThen_X8_isLoan
set_option maxRecDepth 20000 in
theorem ggX8_loanThen_X8_bad : GoodIn wsX8_loanThen wsX8_bad := goodIn_r _ [14, 15, 46, 47, 48, 49, 50, 51, 52, 53, 54, 55, 56, 57, 58, 59, 60, 61, 62, 63, 64, 65] (by decide +kernel) (by decide +kernel)
set_option maxRecDepth 20000 in
theorem gX8_loanThen_X8_bad : GoodIn wsX8_loanThen (wsV RX8 57 RX8 yX8_bad wsX8_bad) := goodIn_app (goodIn_of _ (by decide +kernel)) ggX8_loanThen_X8_bad
set_option maxRecDepth 20000 in
theorem ggX8_loanThen_X8_goes : GoodIn wsX8_loanThen wsX8_goes := goodIn_r _ [19, 1, 20, 21, 22, 4, 23, 10, 24, 25, 26, 27, 28, 29, 30, 31, 32, 33, 34, 35, 36, 37, 38, 39, 40, 41, 42, 43, 44, 45, 46, 47, 48, 49, 50, 51, 52, 53, 54, 55, 56, 57, 58, 59, 60, 61, 62, 63, 64, 65] (by decide +kernel) (by decide +kernel)
set_option maxRecDepth 20000 in
theorem gX8_loanThen_X8_goes : GoodIn wsX8_loanThen (wsV RX8 171 RX8 yX8_goes wsX8_goes) := goodIn_app (goodIn_of _ (by decide +kernel)) ggX8_loanThen_X8_goes
theorem dX8_loanThen_0 : decode cX8_loanThen 0 = .ok (.iload_n 1, 1) := by decide +kernel
theorem dX8_loanThen_1 : decode cX8_loanThen 1 = .ok (.iconst 0, 1) := by decide +kernel
theorem dX8_loanThen_2 : decode cX8_loanThen 2 = .ok (.bipush 60, 2) := by decide +kernel
theorem dX8_loanThen_4 : decode cX8_loanThen 4 = .ok (.invokestatic 52, 3) := by decide +kernel
theorem dX8_loanThen_7 : decode cX8_loanThen 7 = .ok (.ifCond .eq 20, 3) := by decide +kernel
theorem dX8_loanThen_10 : decode cX8_loanThen 10 = .ok (.aload_n 0, 1) := by decide +kernel
theorem dX8_loanThen_11 : decode cX8_loanThen 11 = .ok (.iload_n 2, 1) := by decide +kernel
theorem dX8_loanThen_12 : decode cX8_loanThen 12 = .ok (.invokevirtual 165, 3) := by decide +kernel
theorem dX8_loanThen_15 : decode cX8_loanThen 15 = .ok (.ifCond .eq 12, 3) := by decide +kernel
theorem dX8_loanThen_18 : decode cX8_loanThen 18 = .ok (.iload_n 3, 1) := by decide +kernel
theorem dX8_loanThen_19 : decode cX8_loanThen 19 = .ok (.iconst 0, 1) := by decide +kernel
theorem dX8_loanThen_20 : decode cX8_loanThen 20 = .ok (.iconst 1, 1) := by decide +kernel
theorem dX8_loanThen_21 : decode cX8_loanThen 21 = .ok (.invokestatic 52, 3) := by decide +kernel
theorem dX8_loanThen_24 : decode cX8_loanThen 24 = .ok (.ifCond .ne 8, 3) := by decide +kernel
theorem dX8_loanThen_27 : decode cX8_loanThen 27 = .ok (.aload_n 0, 1) := by decide +kernel
theorem dX8_loanThen_28 : decode cX8_loanThen 28 = .ok (.invokevirtual 57, 3) := by decide +kernel
theorem dX8_loanThen_31 : decode cX8_loanThen 31 = .ok (.ireturn, 1) := by decide +kernel
theorem dX8_loanThen_32 : decode cX8_loanThen 32 = .ok (.aload_n 0, 1) := by decide +kernel
theorem dX8_loanThen_33 : decode cX8_loanThen 33 = .ok (.iload_n 1, 1) := by decide +kernel
theorem dX8_loanThen_34 : decode cX8_loanThen 34 = .ok (.invokevirtual 171, 3) := by decide +kernel
theorem dX8_loanThen_37 : decode cX8_loanThen 37 = .ok (.aload_n 0, 1) := by decide +kernel
theorem dX8_loanThen_38 : decode cX8_loanThen 38 = .ok (.getfield 13, 3) := by decide +kernel
theorem dX8_loanThen_41 : decode cX8_loanThen 41 = .ok (.bipush 26, 2) := by decide +kernel
theorem dX8_loanThen_43 : decode cX8_loanThen 43 = .ok (.iconst 5, 1) := by decide +kernel
theorem dX8_loanThen_44 : decode cX8_loanThen 44 = .ok (.iload_n 2, 1) := by decide +kernel
theorem dX8_loanThen_45 : decode cX8_loanThen 45 = .ok (.imul, 1) := by decide +kernel
theorem dX8_loanThen_46 : decode cX8_loanThen 46 = .ok (.iadd, 1) := by decide +kernel
theorem dX8_loanThen_47 : decode cX8_loanThen 47 = .ok (.iconst 3, 1) := by decide +kernel
theorem dX8_loanThen_48 : decode cX8_loanThen 48 = .ok (.iadd, 1) := by decide +kernel
theorem dX8_loanThen_49 : decode cX8_loanThen 49 = .ok (.iload_n 3, 1) := by decide +kernel
theorem dX8_loanThen_50 : decode cX8_loanThen 50 = .ok (.iadd, 1) := by decide +kernel
theorem dX8_loanThen_51 : decode cX8_loanThen 51 = .ok (.iaload, 1) := by decide +kernel
theorem dX8_loanThen_52 : decode cX8_loanThen 52 = .ok (.ireturn, 1) := by decide +kernel
set_option maxRecDepth 20000 in
theorem ggX8_firstLack_X8_month : GoodIn wsX8_firstLack wsX8_month := goodIn_r _ [5, 6, 7, 4, 8, 9, 10, 11, 12, 13, 14, 15, 16, 17, 18, 19, 20, 21] (by decide +kernel) (by decide +kernel)
set_option maxRecDepth 20000 in
theorem gX8_firstLack_X8_month : GoodIn wsX8_firstLack (va_wsS RX8 162 yX8_month wsX8_month) := goodIn_app (goodIn_of _ (by decide +kernel)) ggX8_firstLack_X8_month
theorem dX8_firstLack_0 : decode cX8_firstLack 0 = .ok (.iconst 0, 1) := by decide +kernel
theorem dX8_firstLack_1 : decode cX8_firstLack 1 = .ok (.istore_n 2, 1) := by decide +kernel
theorem dX8_firstLack_2 : decode cX8_firstLack 2 = .ok (.iload_n 2, 1) := by decide +kernel
theorem dX8_firstLack_3 : decode cX8_firstLack 3 = .ok (.iload_n 1, 1) := by decide +kernel
theorem dX8_firstLack_4 : decode cX8_firstLack 4 = .ok (.if_icmp .ge 39, 3) := by decide +kernel
theorem dX8_firstLack_7 : decode cX8_firstLack 7 = .ok (.aload_n 0, 1) := by decide +kernel
theorem dX8_firstLack_8 : decode cX8_firstLack 8 = .ok (.getfield 13, 3) := by decide +kernel
theorem dX8_firstLack_11 : decode cX8_firstLack 11 = .ok (.bipush 6, 2) := by decide +kernel
theorem dX8_firstLack_13 : decode cX8_firstLack 13 = .ok (.iaload, 1) := by decide +kernel
theorem dX8_firstLack_14 : decode cX8_firstLack 14 = .ok (.istore_n 3, 1) := by decide +kernel
theorem dX8_firstLack_15 : decode cX8_firstLack 15 = .ok (.aload_n 0, 1) := by decide +kernel
theorem dX8_firstLack_16 : decode cX8_firstLack 16 = .ok (.getfield 13, 3) := by decide +kernel
theorem dX8_firstLack_19 : decode cX8_firstLack 19 = .ok (.iconst 0, 1) := by decide +kernel
theorem dX8_firstLack_20 : decode cX8_firstLack 20 = .ok (.invokestatic 162, 3) := by decide +kernel
theorem dX8_firstLack_23 : decode cX8_firstLack 23 = .ok (.pop, 1) := by decide +kernel
theorem dX8_firstLack_24 : decode cX8_firstLack 24 = .ok (.aload_n 0, 1) := by decide +kernel
theorem dX8_firstLack_25 : decode cX8_firstLack 25 = .ok (.getfield 13, 3) := by decide +kernel
theorem dX8_firstLack_28 : decode cX8_firstLack 28 = .ok (.bipush 6, 2) := by decide +kernel
theorem dX8_firstLack_30 : decode cX8_firstLack 30 = .ok (.iaload, 1) := by decide +kernel
theorem dX8_firstLack_31 : decode cX8_firstLack 31 = .ok (.iload_n 3, 1) := by decide +kernel
theorem dX8_firstLack_32 : decode cX8_firstLack 32 = .ok (.if_icmp .le 5, 3) := by decide +kernel
theorem dX8_firstLack_35 : decode cX8_firstLack 35 = .ok (.iload_n 2, 1) := by decide +kernel
theorem dX8_firstLack_36 : decode cX8_firstLack 36 = .ok (.ireturn, 1) := by decide +kernel
theorem dX8_firstLack_37 : decode cX8_firstLack 37 = .ok (.iinc 2 1, 3) := by decide +kernel
theorem dX8_firstLack_40 : decode cX8_firstLack 40 = .ok (.goto (-38), 3) := by decide +kernel
theorem dX8_firstLack_43 : decode cX8_firstLack 43 = .ok (.iconst (-1), 1) := by decide +kernel
theorem dX8_firstLack_44 : decode cX8_firstLack 44 = .ok (.ireturn, 1) := by decide +kernel
set_option maxRecDepth 20000 in
theorem ggX8_lack_X8_in : GoodIn wsX8_lack wsX8_in := goodIn_r _ [4] (by decide +kernel) (by decide +kernel)
set_option maxRecDepth 20000 in
theorem gX8_lack_X8_in : GoodIn wsX8_lack (va_wsS RX8 52 yX8_in wsX8_in) := goodIn_app (goodIn_of _ (by decide +kernel)) ggX8_lack_X8_in
set_option maxRecDepth 20000 in
theorem ggX8_lack_X8_bad : GoodIn wsX8_lack wsX8_bad := goodIn_r _ [8, 9, 42, 43, 44, 45, 46, 47, 48, 49, 50, 51, 52, 53, 54, 55, 56, 57, 58, 59, 60, 61] (by decide +kernel) (by decide +kernel)
set_option maxRecDepth 20000 in
theorem gX8_lack_X8_bad : GoodIn wsX8_lack (wsV RX8 57 RX8 yX8_bad wsX8_bad) := goodIn_app (goodIn_of _ (by decide +kernel)) ggX8_lack_X8_bad
set_option maxRecDepth 20000 in
theorem ggX8_lack_X8_tries : GoodIn wsX8_lack wsX8_tries := goodIn_r _ [13, 14, 15, 16, 17, 3, 18, 42, 43, 44, 45, 46, 47, 48, 49, 50, 51, 52, 53, 54, 55, 56, 57, 58, 59, 60, 61] (by decide +kernel) (by decide +kernel)
set_option maxRecDepth 20000 in
theorem gX8_lack_X8_tries : GoodIn wsX8_lack (wsV RX8 168 RX8 yX8_tries wsX8_tries) := goodIn_app (goodIn_of _ (by decide +kernel)) ggX8_lack_X8_tries
set_option maxRecDepth 20000 in
theorem ggX8_lack_X8_firstLack : GoodIn wsX8_lack wsX8_firstLack := goodIn_r _ [22, 15, 23, 24, 3, 25, 26, 27, 28, 29, 30, 31, 32, 33, 34, 35, 36, 37, 38, 39, 40, 41, 42, 43, 44, 45, 46, 47, 48, 49, 50, 51, 52, 53, 54, 55, 56, 57, 58, 59, 60, 61] (by decide +kernel) (by decide +kernel)
set_option maxRecDepth 20000 in
theorem gX8_lack_X8_firstLack : GoodIn wsX8_lack (wsV RX8 179 RX8 yX8_firstLack wsX8_firstLack) := goodIn_app (goodIn_of _ (by decide +kernel)) ggX8_lack_X8_firstLack
theorem dX8_lack_0 : decode cX8_lack 0 = .ok (.iload_n 1, 1) := by decide +kernel
theorem dX8_lack_1 : decode cX8_lack 1 = .ok (.iconst 0, 1) := by decide +kernel
theorem dX8_lack_2 : decode cX8_lack 2 = .ok (.bipush 60, 2) := by decide +kernel
theorem dX8_lack_4 : decode cX8_lack 4 = .ok (.invokestatic 52, 3) := by decide +kernel
theorem dX8_lack_7 : decode cX8_lack 7 = .ok (.ifCond .ne 8, 3) := by decide +kernel
theorem dX8_lack_10 : decode cX8_lack 10 = .ok (.aload_n 0, 1) := by decide +kernel
theorem dX8_lack_11 : decode cX8_lack 11 = .ok (.invokevirtual 57, 3) := by decide +kernel
theorem dX8_lack_14 : decode cX8_lack 14 = .ok (.ireturn, 1) := by decide +kernel
theorem dX8_lack_15 : decode cX8_lack 15 = .ok (.aload_n 0, 1) := by decide +kernel
theorem dX8_lack_16 : decode cX8_lack 16 = .ok (.invokevirtual 168, 3) := by decide +kernel
theorem dX8_lack_19 : decode cX8_lack 19 = .ok (.aload_n 0, 1) := by decide +kernel
theorem dX8_lack_20 : decode cX8_lack 20 = .ok (.iload_n 1, 1) := by decide +kernel
theorem dX8_lack_21 : decode cX8_lack 21 = .ok (.invokevirtual 179, 3) := by decide +kernel
theorem dX8_lack_24 : decode cX8_lack 24 = .ok (.ireturn, 1) := by decide +kernel
set_option maxRecDepth 20000 in
theorem ggX8_holds_X8_in : GoodIn wsX8_holds wsX8_in := goodIn_r _ [5] (by decide +kernel) (by decide +kernel)
set_option maxRecDepth 20000 in
theorem gX8_holds_X8_in : GoodIn wsX8_holds (va_wsS RX8 52 yX8_in wsX8_in) := goodIn_app (goodIn_of _ (by decide +kernel)) ggX8_holds_X8_in
set_option maxRecDepth 20000 in
theorem ggX8_holds_X8_bad : GoodIn wsX8_holds wsX8_bad := goodIn_r _ [9, 10, 42, 43, 44, 45, 46, 47, 48, 49, 50, 51, 52, 53, 54, 55, 56, 57, 58, 59, 60, 61] (by decide +kernel) (by decide +kernel)
set_option maxRecDepth 20000 in
theorem gX8_holds_X8_bad : GoodIn wsX8_holds (wsV RX8 57 RX8 yX8_bad wsX8_bad) := goodIn_app (goodIn_of _ (by decide +kernel)) ggX8_holds_X8_bad
set_option maxRecDepth 20000 in
theorem ggX8_holds_X8_tries : GoodIn wsX8_holds wsX8_tries := goodIn_r _ [14, 15, 1, 16, 17, 4, 18, 42, 43, 44, 45, 46, 47, 48, 49, 50, 51, 52, 53, 54, 55, 56, 57, 58, 59, 60, 61] (by decide +kernel) (by decide +kernel)
set_option maxRecDepth 20000 in
theorem gX8_holds_X8_tries : GoodIn wsX8_holds (wsV RX8 168 RX8 yX8_tries wsX8_tries) := goodIn_app (goodIn_of _ (by decide +kernel)) ggX8_holds_X8_tries
set_option maxRecDepth 20000 in
theorem ggX8_holds_X8_firstLack : GoodIn wsX8_holds wsX8_firstLack := goodIn_r _ [22, 1, 23, 24, 4, 25, 26, 27, 28, 29, 30, 31, 32, 33, 34, 35, 36, 37, 38, 39, 40, 41, 42, 43, 44, 45, 46, 47, 48, 49, 50, 51, 52, 53, 54, 55, 56, 57, 58, 59, 60, 61] (by decide +kernel) (by decide +kernel)
set_option maxRecDepth 20000 in
theorem gX8_holds_X8_firstLack : GoodIn wsX8_holds (wsV RX8 179 RX8 yX8_firstLack wsX8_firstLack) := goodIn_app (goodIn_of _ (by decide +kernel)) ggX8_holds_X8_firstLack
theorem dX8_holds_0 : decode cX8_holds 0 = .ok (.iload_n 1, 1) := by decide +kernel
theorem dX8_holds_1 : decode cX8_holds 1 = .ok (.iconst 0, 1) := by decide +kernel
theorem dX8_holds_2 : decode cX8_holds 2 = .ok (.bipush 60, 2) := by decide +kernel
theorem dX8_holds_4 : decode cX8_holds 4 = .ok (.invokestatic 52, 3) := by decide +kernel
theorem dX8_holds_7 : decode cX8_holds 7 = .ok (.ifCond .ne 8, 3) := by decide +kernel
theorem dX8_holds_10 : decode cX8_holds 10 = .ok (.aload_n 0, 1) := by decide +kernel
theorem dX8_holds_11 : decode cX8_holds 11 = .ok (.invokevirtual 57, 3) := by decide +kernel
theorem dX8_holds_14 : decode cX8_holds 14 = .ok (.ireturn, 1) := by decide +kernel
theorem dX8_holds_15 : decode cX8_holds 15 = .ok (.iconst 0, 1) := by decide +kernel
theorem dX8_holds_16 : decode cX8_holds 16 = .ok (.istore_n 2, 1) := by decide +kernel
theorem dX8_holds_17 : decode cX8_holds 17 = .ok (.iload_n 2, 1) := by decide +kernel
theorem dX8_holds_18 : decode cX8_holds 18 = .ok (.sipush 10000, 3) := by decide +kernel
theorem dX8_holds_21 : decode cX8_holds 21 = .ok (.if_icmp .ge 31, 3) := by decide +kernel
theorem dX8_holds_24 : decode cX8_holds 24 = .ok (.aload_n 0, 1) := by decide +kernel
theorem dX8_holds_25 : decode cX8_holds 25 = .ok (.invokevirtual 168, 3) := by decide +kernel
theorem dX8_holds_28 : decode cX8_holds 28 = .ok (.aload_n 0, 1) := by decide +kernel
theorem dX8_holds_29 : decode cX8_holds 29 = .ok (.getfield 13, 3) := by decide +kernel
theorem dX8_holds_32 : decode cX8_holds 32 = .ok (.iconst 0, 1) := by decide +kernel
theorem dX8_holds_33 : decode cX8_holds 33 = .ok (.iload_n 2, 1) := by decide +kernel
theorem dX8_holds_34 : decode cX8_holds 34 = .ok (.iastore, 1) := by decide +kernel
theorem dX8_holds_35 : decode cX8_holds 35 = .ok (.aload_n 0, 1) := by decide +kernel
theorem dX8_holds_36 : decode cX8_holds 36 = .ok (.iload_n 1, 1) := by decide +kernel
theorem dX8_holds_37 : decode cX8_holds 37 = .ok (.invokevirtual 179, 3) := by decide +kernel
theorem dX8_holds_40 : decode cX8_holds 40 = .ok (.iconst (-1), 1) := by decide +kernel
theorem dX8_holds_41 : decode cX8_holds 41 = .ok (.if_icmp .ne 5, 3) := by decide +kernel
theorem dX8_holds_44 : decode cX8_holds 44 = .ok (.iload_n 2, 1) := by decide +kernel
theorem dX8_holds_45 : decode cX8_holds 45 = .ok (.ireturn, 1) := by decide +kernel
theorem dX8_holds_46 : decode cX8_holds 46 = .ok (.iinc 2 1, 3) := by decide +kernel
theorem dX8_holds_49 : decode cX8_holds 49 = .ok (.goto (-32), 3) := by decide +kernel
theorem dX8_holds_52 : decode cX8_holds 52 = .ok (.iconst (-1), 1) := by decide +kernel
theorem dX8_holds_53 : decode cX8_holds 53 = .ok (.ireturn, 1) := by decide +kernel
theorem dX8_ones_0 : decode cX8_ones 0 = .ok (.iconst 0, 1) := by decide +kernel
theorem dX8_ones_1 : decode cX8_ones 1 = .ok (.istore_n 1, 1) := by decide +kernel
theorem dX8_ones_2 : decode cX8_ones 2 = .ok (.iconst 0, 1) := by decide +kernel
theorem dX8_ones_3 : decode cX8_ones 3 = .ok (.istore_n 2, 1) := by decide +kernel
theorem dX8_ones_4 : decode cX8_ones 4 = .ok (.iload_n 2, 1) := by decide +kernel
theorem dX8_ones_5 : decode cX8_ones 5 = .ok (.bipush 8, 2) := by decide +kernel
theorem dX8_ones_7 : decode cX8_ones 7 = .ok (.if_icmp .ge 17, 3) := by decide +kernel
theorem dX8_ones_10 : decode cX8_ones 10 = .ok (.iload_n 1, 1) := by decide +kernel
theorem dX8_ones_11 : decode cX8_ones 11 = .ok (.iload_n 0, 1) := by decide +kernel
theorem dX8_ones_12 : decode cX8_ones 12 = .ok (.iload_n 2, 1) := by decide +kernel
theorem dX8_ones_13 : decode cX8_ones 13 = .ok (.ishr, 1) := by decide +kernel
theorem dX8_ones_14 : decode cX8_ones 14 = .ok (.iconst 1, 1) := by decide +kernel
theorem dX8_ones_15 : decode cX8_ones 15 = .ok (.iand, 1) := by decide +kernel
theorem dX8_ones_16 : decode cX8_ones 16 = .ok (.iadd, 1) := by decide +kernel
theorem dX8_ones_17 : decode cX8_ones 17 = .ok (.istore_n 1, 1) := by decide +kernel
theorem dX8_ones_18 : decode cX8_ones 18 = .ok (.iinc 2 1, 3) := by decide +kernel
theorem dX8_ones_21 : decode cX8_ones 21 = .ok (.goto (-17), 3) := by decide +kernel
theorem dX8_ones_24 : decode cX8_ones 24 = .ok (.iload_n 1, 1) := by decide +kernel
theorem dX8_ones_25 : decode cX8_ones 25 = .ok (.ireturn, 1) := by decide +kernel
set_option maxRecDepth 20000 in
theorem ggX8_bears_X8_tries : GoodIn wsX8_bears wsX8_tries := goodIn_r _ [7, 1, 2, 8, 9, 6, 10, 36, 37, 38, 39, 40, 41, 42, 43, 44, 45, 46, 47, 48, 49, 50, 51, 52, 53, 54, 55] (by decide +kernel) (by decide +kernel)
set_option maxRecDepth 20000 in
theorem gX8_bears_X8_tries : GoodIn wsX8_bears (wsV RX8 168 RX8 yX8_tries wsX8_tries) := goodIn_app (goodIn_of _ (by decide +kernel)) ggX8_bears_X8_tries
set_option maxRecDepth 20000 in
theorem ggX8_bears_X8_addLoan : GoodIn wsX8_bears wsX8_addLoan := goodIn_r _ [13] (by decide +kernel) (by decide +kernel)
set_option maxRecDepth 20000 in
theorem gX8_bears_X8_addLoan : GoodIn wsX8_bears (va_wsS RX8 72 yX8_addLoan wsX8_addLoan) := goodIn_app (goodIn_of _ (by decide +kernel)) ggX8_bears_X8_addLoan
set_option maxRecDepth 20000 in
theorem ggX8_bears_X8_month : GoodIn wsX8_bears wsX8_month := goodIn_r _ [16, 17, 18, 6, 19, 20, 21, 22, 23, 24, 25, 26, 27, 28, 29, 30, 31, 32] (by decide +kernel) (by decide +kernel)
set_option maxRecDepth 20000 in
theorem gX8_bears_X8_month : GoodIn wsX8_bears (va_wsS RX8 162 yX8_month wsX8_month) := goodIn_app (goodIn_of _ (by decide +kernel)) ggX8_bears_X8_month
set_option maxRecDepth 20000 in
theorem ggX8_bears_X8_many : GoodIn wsX8_bears wsX8_many := goodIn_r _ [35] (by decide +kernel) (by decide +kernel)
set_option maxRecDepth 20000 in
theorem gX8_bears_X8_many : GoodIn wsX8_bears (va_wsS RX8 175 yX8_many wsX8_many) := goodIn_app (goodIn_of _ (by decide +kernel)) ggX8_bears_X8_many
theorem dX8_bears_0 : decode cX8_bears 0 = .ok (.aload_n 0, 1) := by decide +kernel
theorem dX8_bears_1 : decode cX8_bears 1 = .ok (.invokevirtual 168, 3) := by decide +kernel
theorem dX8_bears_4 : decode cX8_bears 4 = .ok (.iconst 0, 1) := by decide +kernel
theorem dX8_bears_5 : decode cX8_bears 5 = .ok (.istore 4, 2) := by decide +kernel
theorem dX8_bears_7 : decode cX8_bears 7 = .ok (.iload 4, 2) := by decide +kernel
theorem dX8_bears_9 : decode cX8_bears 9 = .ok (.aload_n 0, 1) := by decide +kernel
theorem dX8_bears_10 : decode cX8_bears 10 = .ok (.getfield 7, 3) := by decide +kernel
theorem dX8_bears_13 : decode cX8_bears 13 = .ok (.iconst 5, 1) := by decide +kernel
theorem dX8_bears_14 : decode cX8_bears 14 = .ok (.iaload, 1) := by decide +kernel
theorem dX8_bears_15 : decode cX8_bears 15 = .ok (.if_icmp .ge 53, 3) := by decide +kernel
theorem dX8_bears_18 : decode cX8_bears 18 = .ok (.iload_n 2, 1) := by decide +kernel
theorem dX8_bears_19 : decode cX8_bears 19 = .ok (.iload 4, 2) := by decide +kernel
theorem dX8_bears_21 : decode cX8_bears 21 = .ok (.ishr, 1) := by decide +kernel
theorem dX8_bears_22 : decode cX8_bears 22 = .ok (.iconst 1, 1) := by decide +kernel
theorem dX8_bears_23 : decode cX8_bears 23 = .ok (.iand, 1) := by decide +kernel
theorem dX8_bears_24 : decode cX8_bears 24 = .ok (.iconst 1, 1) := by decide +kernel
theorem dX8_bears_25 : decode cX8_bears 25 = .ok (.if_icmp .ne 37, 3) := by decide +kernel
theorem dX8_bears_28 : decode cX8_bears 28 = .ok (.aload_n 0, 1) := by decide +kernel
theorem dX8_bears_29 : decode cX8_bears 29 = .ok (.getfield 13, 3) := by decide +kernel
theorem dX8_bears_32 : decode cX8_bears 32 = .ok (.iload_n 1, 1) := by decide +kernel
theorem dX8_bears_33 : decode cX8_bears 33 = .ok (.aload_n 0, 1) := by decide +kernel
theorem dX8_bears_34 : decode cX8_bears 34 = .ok (.getfield 7, 3) := by decide +kernel
theorem dX8_bears_37 : decode cX8_bears 37 = .ok (.bipush 66, 2) := by decide +kernel
theorem dX8_bears_39 : decode cX8_bears 39 = .ok (.iconst 2, 1) := by decide +kernel
theorem dX8_bears_40 : decode cX8_bears 40 = .ok (.iload 4, 2) := by decide +kernel
theorem dX8_bears_42 : decode cX8_bears 42 = .ok (.imul, 1) := by decide +kernel
theorem dX8_bears_43 : decode cX8_bears 43 = .ok (.iadd, 1) := by decide +kernel
theorem dX8_bears_44 : decode cX8_bears 44 = .ok (.iaload, 1) := by decide +kernel
theorem dX8_bears_45 : decode cX8_bears 45 = .ok (.aload_n 0, 1) := by decide +kernel
theorem dX8_bears_46 : decode cX8_bears 46 = .ok (.getfield 7, 3) := by decide +kernel
theorem dX8_bears_49 : decode cX8_bears 49 = .ok (.bipush 66, 2) := by decide +kernel
theorem dX8_bears_51 : decode cX8_bears 51 = .ok (.iconst 2, 1) := by decide +kernel
theorem dX8_bears_52 : decode cX8_bears 52 = .ok (.iload 4, 2) := by decide +kernel
theorem dX8_bears_54 : decode cX8_bears 54 = .ok (.imul, 1) := by decide +kernel
theorem dX8_bears_55 : decode cX8_bears 55 = .ok (.iadd, 1) := by decide +kernel
theorem dX8_bears_56 : decode cX8_bears 56 = .ok (.iconst 1, 1) := by decide +kernel
theorem dX8_bears_57 : decode cX8_bears 57 = .ok (.iadd, 1) := by decide +kernel
theorem dX8_bears_58 : decode cX8_bears 58 = .ok (.iaload, 1) := by decide +kernel
theorem dX8_bears_59 : decode cX8_bears 59 = .ok (.invokestatic 72, 3) := by decide +kernel
theorem dX8_bears_62 : decode cX8_bears 62 = .ok (.iinc 4 1, 3) := by decide +kernel
theorem dX8_bears_65 : decode cX8_bears 65 = .ok (.goto (-58), 3) := by decide +kernel
theorem dX8_bears_68 : decode cX8_bears 68 = .ok (.iconst 0, 1) := by decide +kernel
theorem dX8_bears_69 : decode cX8_bears 69 = .ok (.istore 4, 2) := by decide +kernel
theorem dX8_bears_71 : decode cX8_bears 71 = .ok (.iload 4, 2) := by decide +kernel
theorem dX8_bears_73 : decode cX8_bears 73 = .ok (.bipush 12, 2) := by decide +kernel
theorem dX8_bears_75 : decode cX8_bears 75 = .ok (.if_icmp .ge 18, 3) := by decide +kernel
theorem dX8_bears_78 : decode cX8_bears 78 = .ok (.aload_n 0, 1) := by decide +kernel
theorem dX8_bears_79 : decode cX8_bears 79 = .ok (.getfield 13, 3) := by decide +kernel
theorem dX8_bears_82 : decode cX8_bears 82 = .ok (.iconst 0, 1) := by decide +kernel
theorem dX8_bears_83 : decode cX8_bears 83 = .ok (.invokestatic 162, 3) := by decide +kernel
theorem dX8_bears_86 : decode cX8_bears 86 = .ok (.pop, 1) := by decide +kernel
theorem dX8_bears_87 : decode cX8_bears 87 = .ok (.iinc 4 1, 3) := by decide +kernel
theorem dX8_bears_90 : decode cX8_bears 90 = .ok (.goto (-19), 3) := by decide +kernel
theorem dX8_bears_93 : decode cX8_bears 93 = .ok (.aload_n 0, 1) := by decide +kernel
theorem dX8_bears_94 : decode cX8_bears 94 = .ok (.getfield 13, 3) := by decide +kernel
theorem dX8_bears_97 : decode cX8_bears 97 = .ok (.iconst 2, 1) := by decide +kernel
theorem dX8_bears_98 : decode cX8_bears 98 = .ok (.aload_n 0, 1) := by decide +kernel
theorem dX8_bears_99 : decode cX8_bears 99 = .ok (.getfield 7, 3) := by decide +kernel
theorem dX8_bears_102 : decode cX8_bears 102 = .ok (.iconst 4, 1) := by decide +kernel
theorem dX8_bears_103 : decode cX8_bears 103 = .ok (.iaload, 1) := by decide +kernel
theorem dX8_bears_104 : decode cX8_bears 104 = .ok (.invokestatic 175, 3) := by decide +kernel
theorem dX8_bears_107 : decode cX8_bears 107 = .ok (.istore 4, 2) := by decide +kernel
theorem dX8_bears_109 : decode cX8_bears 109 = .ok (.iload 4, 2) := by decide +kernel
theorem dX8_bears_111 : decode cX8_bears 111 = .ok (.iload_n 3, 1) := by decide +kernel
theorem dX8_bears_112 : decode cX8_bears 112 = .ok (.if_icmp .gt 26, 3) := by decide +kernel
theorem dX8_bears_115 : decode cX8_bears 115 = .ok (.aload_n 0, 1) := by decide +kernel
theorem dX8_bears_116 : decode cX8_bears 116 = .ok (.getfield 13, 3) := by decide +kernel
theorem dX8_bears_119 : decode cX8_bears 119 = .ok (.iconst 2, 1) := by decide +kernel
theorem dX8_bears_120 : decode cX8_bears 120 = .ok (.aload_n 0, 1) := by decide +kernel
theorem dX8_bears_121 : decode cX8_bears 121 = .ok (.getfield 13, 3) := by decide +kernel
theorem dX8_bears_124 : decode cX8_bears 124 = .ok (.iconst 4, 1) := by decide +kernel
theorem dX8_bears_125 : decode cX8_bears 125 = .ok (.iaload, 1) := by decide +kernel
theorem dX8_bears_126 : decode cX8_bears 126 = .ok (.invokestatic 175, 3) := by decide +kernel
theorem dX8_bears_129 : decode cX8_bears 129 = .ok (.iload 4, 2) := by decide +kernel
theorem dX8_bears_131 : decode cX8_bears 131 = .ok (.if_icmp .ne 7, 3) := by decide +kernel
theorem dX8_bears_134 : decode cX8_bears 134 = .ok (.iconst 1, 1) := by decide +kernel
theorem dX8_bears_135 : decode cX8_bears 135 = .ok (.goto 4, 3) := by decide +kernel
theorem dX8_bears_138 : decode cX8_bears 138 = .ok (.iconst 0, 1) := by decide +kernel
theorem dX8_bears_139 : decode cX8_bears 139 = .ok (.ireturn, 1) := by decide +kernel
theorem dX8_gained_0 : decode cX8_gained 0 = .ok (.iconst 0, 1) := by decide +kernel
theorem dX8_gained_1 : decode cX8_gained 1 = .ok (.istore_n 2, 1) := by decide +kernel
theorem dX8_gained_2 : decode cX8_gained 2 = .ok (.iconst 0, 1) := by decide +kernel
theorem dX8_gained_3 : decode cX8_gained 3 = .ok (.istore_n 3, 1) := by decide +kernel
theorem dX8_gained_4 : decode cX8_gained 4 = .ok (.iload_n 3, 1) := by decide +kernel
theorem dX8_gained_5 : decode cX8_gained 5 = .ok (.aload_n 0, 1) := by decide +kernel
theorem dX8_gained_6 : decode cX8_gained 6 = .ok (.getfield 7, 3) := by decide +kernel
theorem dX8_gained_9 : decode cX8_gained 9 = .ok (.iconst 5, 1) := by decide +kernel
theorem dX8_gained_10 : decode cX8_gained 10 = .ok (.iaload, 1) := by decide +kernel
theorem dX8_gained_11 : decode cX8_gained 11 = .ok (.if_icmp .ge 53, 3) := by decide +kernel
theorem dX8_gained_14 : decode cX8_gained 14 = .ok (.iload_n 2, 1) := by decide +kernel
theorem dX8_gained_15 : decode cX8_gained 15 = .ok (.iload_n 1, 1) := by decide +kernel
theorem dX8_gained_16 : decode cX8_gained 16 = .ok (.iload_n 3, 1) := by decide +kernel
theorem dX8_gained_17 : decode cX8_gained 17 = .ok (.ishr, 1) := by decide +kernel
theorem dX8_gained_18 : decode cX8_gained 18 = .ok (.iconst 1, 1) := by decide +kernel
theorem dX8_gained_19 : decode cX8_gained 19 = .ok (.iand, 1) := by decide +kernel
theorem dX8_gained_20 : decode cX8_gained 20 = .ok (.aload_n 0, 1) := by decide +kernel
theorem dX8_gained_21 : decode cX8_gained 21 = .ok (.getfield 7, 3) := by decide +kernel
theorem dX8_gained_24 : decode cX8_gained 24 = .ok (.bipush 66, 2) := by decide +kernel
theorem dX8_gained_26 : decode cX8_gained 26 = .ok (.iconst 2, 1) := by decide +kernel
theorem dX8_gained_27 : decode cX8_gained 27 = .ok (.iload_n 3, 1) := by decide +kernel
theorem dX8_gained_28 : decode cX8_gained 28 = .ok (.imul, 1) := by decide +kernel
theorem dX8_gained_29 : decode cX8_gained 29 = .ok (.iadd, 1) := by decide +kernel
theorem dX8_gained_30 : decode cX8_gained 30 = .ok (.iaload, 1) := by decide +kernel
theorem dX8_gained_31 : decode cX8_gained 31 = .ok (.aload_n 0, 1) := by decide +kernel
theorem dX8_gained_32 : decode cX8_gained 32 = .ok (.getfield 7, 3) := by decide +kernel
theorem dX8_gained_35 : decode cX8_gained 35 = .ok (.bipush 66, 2) := by decide +kernel
theorem dX8_gained_37 : decode cX8_gained 37 = .ok (.iconst 2, 1) := by decide +kernel
theorem dX8_gained_38 : decode cX8_gained 38 = .ok (.iload_n 3, 1) := by decide +kernel
theorem dX8_gained_39 : decode cX8_gained 39 = .ok (.imul, 1) := by decide +kernel
theorem dX8_gained_40 : decode cX8_gained 40 = .ok (.iadd, 1) := by decide +kernel
theorem dX8_gained_41 : decode cX8_gained 41 = .ok (.iconst 1, 1) := by decide +kernel
theorem dX8_gained_42 : decode cX8_gained 42 = .ok (.iadd, 1) := by decide +kernel
theorem dX8_gained_43 : decode cX8_gained 43 = .ok (.iaload, 1) := by decide +kernel
theorem dX8_gained_44 : decode cX8_gained 44 = .ok (.imul, 1) := by decide +kernel
theorem dX8_gained_45 : decode cX8_gained 45 = .ok (.aload_n 0, 1) := by decide +kernel
theorem dX8_gained_46 : decode cX8_gained 46 = .ok (.getfield 7, 3) := by decide +kernel
theorem dX8_gained_49 : decode cX8_gained 49 = .ok (.iconst 1, 1) := by decide +kernel
theorem dX8_gained_50 : decode cX8_gained 50 = .ok (.iaload, 1) := by decide +kernel
theorem dX8_gained_51 : decode cX8_gained 51 = .ok (.imul, 1) := by decide +kernel
theorem dX8_gained_52 : decode cX8_gained 52 = .ok (.bipush 100, 2) := by decide +kernel
theorem dX8_gained_54 : decode cX8_gained 54 = .ok (.idiv, 1) := by decide +kernel
theorem dX8_gained_55 : decode cX8_gained 55 = .ok (.imul, 1) := by decide +kernel
theorem dX8_gained_56 : decode cX8_gained 56 = .ok (.iadd, 1) := by decide +kernel
theorem dX8_gained_57 : decode cX8_gained 57 = .ok (.istore_n 2, 1) := by decide +kernel
theorem dX8_gained_58 : decode cX8_gained 58 = .ok (.iinc 3 1, 3) := by decide +kernel
theorem dX8_gained_61 : decode cX8_gained 61 = .ok (.goto (-57), 3) := by decide +kernel
theorem dX8_gained_64 : decode cX8_gained 64 = .ok (.iload_n 2, 1) := by decide +kernel
theorem dX8_gained_65 : decode cX8_gained 65 = .ok (.ireturn, 1) := by decide +kernel
set_option maxRecDepth 20000 in
theorem ggX8_best_X8_isPerson : GoodIn wsX8_best wsX8_isPerson := goodIn_r _ [7, 2, 8, 9, 6, 10, 63, 64, 65, 66, 67, 68, 69, 70, 71, 72, 73, 74, 75, 76, 77, 78, 79, 80, 81, 82] (by decide +kernel) (by decide +kernel)
set_option maxRecDepth 20000 in
theorem gX8_best_X8_isPerson : GoodIn wsX8_best (wsV RX8 68 RX8 yX8_isPerson wsX8_isPerson) := goodIn_app (goodIn_of _ (by decide +kernel)) ggX8_best_X8_isPerson
set_option maxRecDepth 20000 in
theorem ggX8_best_X8_in : GoodIn wsX8_best wsX8_in := goodIn_r _ [10] (by decide +kernel) (by decide +kernel)
set_option maxRecDepth 20000 in
theorem gX8_best_X8_in : GoodIn wsX8_best (va_wsS RX8 52 yX8_in wsX8_in) := goodIn_app (goodIn_of _ (by decide +kernel)) ggX8_best_X8_in
set_option maxRecDepth 20000 in
theorem ggX8_best_X8_bad : GoodIn wsX8_best wsX8_bad := goodIn_r _ [14, 15, 63, 64, 65, 66, 67, 68, 69, 70, 71, 72, 73, 74, 75, 76, 77, 78, 79, 80, 81, 82] (by decide +kernel) (by decide +kernel)
set_option maxRecDepth 20000 in
theorem gX8_best_X8_bad : GoodIn wsX8_best (wsV RX8 57 RX8 yX8_bad wsX8_bad) := goodIn_app (goodIn_of _ (by decide +kernel)) ggX8_best_X8_bad
set_option maxRecDepth 20000 in
theorem ggX8_best_X8_goes : GoodIn wsX8_best wsX8_goes := goodIn_r _ [19, 1, 20, 21, 22, 6, 23, 2, 24, 25, 26, 27, 28, 29, 30, 31, 32, 33, 34, 35, 36, 37, 38, 39, 40, 41, 42, 43, 44, 45, 63, 64, 65, 66, 67, 68, 69, 70, 71, 72, 73, 74, 75, 76, 77, 78, 79, 80, 81, 82] (by decide +kernel) (by decide +kernel)
set_option maxRecDepth 20000 in
theorem gX8_best_X8_goes : GoodIn wsX8_best (wsV RX8 171 RX8 yX8_goes wsX8_goes) := goodIn_app (goodIn_of _ (by decide +kernel)) ggX8_best_X8_goes
set_option maxRecDepth 20000 in
theorem ggX8_best_X8_many : GoodIn wsX8_best wsX8_many := goodIn_r _ [48] (by decide +kernel) (by decide +kernel)
set_option maxRecDepth 20000 in
theorem gX8_best_X8_many : GoodIn wsX8_best (va_wsS RX8 175 yX8_many wsX8_many) := goodIn_app (goodIn_of _ (by decide +kernel)) ggX8_best_X8_many
set_option maxRecDepth 20000 in
theorem ggX8_best_X8_ones : GoodIn wsX8_best wsX8_ones := goodIn_r _ [51] (by decide +kernel) (by decide +kernel)
set_option maxRecDepth 20000 in
theorem gX8_best_X8_ones : GoodIn wsX8_best (va_wsS RX8 182 yX8_ones wsX8_ones) := goodIn_app (goodIn_of _ (by decide +kernel)) ggX8_best_X8_ones
set_option maxRecDepth 20000 in
theorem ggX8_best_X8_gained : GoodIn wsX8_best wsX8_gained := goodIn_r _ [55, 2, 63, 64, 65, 66, 67, 68, 69, 70, 71, 72, 73, 74, 75, 76, 77, 78, 79, 80, 81, 82] (by decide +kernel) (by decide +kernel)
set_option maxRecDepth 20000 in
theorem gX8_best_X8_gained : GoodIn wsX8_best (wsV RX8 185 RX8 yX8_gained wsX8_gained) := goodIn_app (goodIn_of _ (by decide +kernel)) ggX8_best_X8_gained
set_option maxRecDepth 20000 in
theorem ggX8_best_X8_bears : GoodIn wsX8_best wsX8_bears := goodIn_r _ [59, 2, 1, 20, 21, 22, 6, 23, 24, 25, 26, 60, 61, 62, 27, 28, 29, 30, 31, 32, 33, 34, 35, 36, 37, 38, 39, 40, 41, 42, 43, 44, 45, 46, 47, 48, 63, 64, 65, 66, 67, 68, 69, 70, 71, 72, 73, 74, 75, 76, 77, 78, 79, 80, 81, 82] (by decide +kernel) (by decide +kernel)
set_option maxRecDepth 20000 in
theorem gX8_best_X8_bears : GoodIn wsX8_best (wsV RX8 188 RX8 yX8_bears wsX8_bears) := goodIn_app (goodIn_of _ (by decide +kernel)) ggX8_best_X8_bears
theorem dX8_best_0 : decode cX8_best 0 = .ok (.aload_n 0, 1) := by decide +kernel
theorem dX8_best_1 : decode cX8_best 1 = .ok (.iload_n 1, 1) := by decide +kernel
theorem dX8_best_2 : decode cX8_best 2 = .ok (.invokevirtual 68, 3) := by decide +kernel
theorem dX8_best_5 : decode cX8_best 5 = .ok (.ifCond .eq 12, 3) := by decide +kernel
theorem dX8_best_8 : decode cX8_best 8 = .ok (.iload_n 2, 1) := by decide +kernel
theorem dX8_best_9 : decode cX8_best 9 = .ok (.iconst 0, 1) := by decide +kernel
theorem dX8_best_10 : decode cX8_best 10 = .ok (.iconst 1, 1) := by decide +kernel
theorem dX8_best_11 : decode cX8_best 11 = .ok (.invokestatic 52, 3) := by decide +kernel
theorem dX8_best_14 : decode cX8_best 14 = .ok (.ifCond .ne 8, 3) := by decide +kernel
theorem dX8_best_17 : decode cX8_best 17 = .ok (.aload_n 0, 1) := by decide +kernel
theorem dX8_best_18 : decode cX8_best 18 = .ok (.invokevirtual 57, 3) := by decide +kernel
theorem dX8_best_21 : decode cX8_best 21 = .ok (.ireturn, 1) := by decide +kernel
theorem dX8_best_22 : decode cX8_best 22 = .ok (.aload_n 0, 1) := by decide +kernel
theorem dX8_best_23 : decode cX8_best 23 = .ok (.bipush 12, 2) := by decide +kernel
theorem dX8_best_25 : decode cX8_best 25 = .ok (.invokevirtual 171, 3) := by decide +kernel
theorem dX8_best_28 : decode cX8_best 28 = .ok (.aload_n 0, 1) := by decide +kernel
theorem dX8_best_29 : decode cX8_best 29 = .ok (.getfield 13, 3) := by decide +kernel
theorem dX8_best_32 : decode cX8_best 32 = .ok (.iconst 2, 1) := by decide +kernel
theorem dX8_best_33 : decode cX8_best 33 = .ok (.aload_n 0, 1) := by decide +kernel
theorem dX8_best_34 : decode cX8_best 34 = .ok (.getfield 7, 3) := by decide +kernel
theorem dX8_best_37 : decode cX8_best 37 = .ok (.iconst 4, 1) := by decide +kernel
theorem dX8_best_38 : decode cX8_best 38 = .ok (.iaload, 1) := by decide +kernel
theorem dX8_best_39 : decode cX8_best 39 = .ok (.invokestatic 175, 3) := by decide +kernel
theorem dX8_best_42 : decode cX8_best 42 = .ok (.istore_n 3, 1) := by decide +kernel
theorem dX8_best_43 : decode cX8_best 43 = .ok (.iconst 0, 1) := by decide +kernel
theorem dX8_best_44 : decode cX8_best 44 = .ok (.istore 4, 2) := by decide +kernel
theorem dX8_best_46 : decode cX8_best 46 = .ok (.iconst 0, 1) := by decide +kernel
theorem dX8_best_47 : decode cX8_best 47 = .ok (.istore 5, 2) := by decide +kernel
theorem dX8_best_49 : decode cX8_best 49 = .ok (.iconst 1, 1) := by decide +kernel
theorem dX8_best_50 : decode cX8_best 50 = .ok (.istore 6, 2) := by decide +kernel
theorem dX8_best_52 : decode cX8_best 52 = .ok (.iload 6, 2) := by decide +kernel
theorem dX8_best_54 : decode cX8_best 54 = .ok (.iconst 1, 1) := by decide +kernel
theorem dX8_best_55 : decode cX8_best 55 = .ok (.aload_n 0, 1) := by decide +kernel
theorem dX8_best_56 : decode cX8_best 56 = .ok (.getfield 7, 3) := by decide +kernel
theorem dX8_best_59 : decode cX8_best 59 = .ok (.iconst 5, 1) := by decide +kernel
theorem dX8_best_60 : decode cX8_best 60 = .ok (.iaload, 1) := by decide +kernel
theorem dX8_best_61 : decode cX8_best 61 = .ok (.ishl, 1) := by decide +kernel
theorem dX8_best_62 : decode cX8_best 62 = .ok (.if_icmp .ge 72, 3) := by decide +kernel
theorem dX8_best_65 : decode cX8_best 65 = .ok (.iload 6, 2) := by decide +kernel
theorem dX8_best_67 : decode cX8_best 67 = .ok (.invokestatic 182, 3) := by decide +kernel
theorem dX8_best_70 : decode cX8_best 70 = .ok (.aload_n 0, 1) := by decide +kernel
theorem dX8_best_71 : decode cX8_best 71 = .ok (.getfield 7, 3) := by decide +kernel
theorem dX8_best_74 : decode cX8_best 74 = .ok (.iconst 4, 1) := by decide +kernel
theorem dX8_best_75 : decode cX8_best 75 = .ok (.iaload, 1) := by decide +kernel
theorem dX8_best_76 : decode cX8_best 76 = .ok (.iadd, 1) := by decide +kernel
theorem dX8_best_77 : decode cX8_best 77 = .ok (.bipush 8, 2) := by decide +kernel
theorem dX8_best_79 : decode cX8_best 79 = .ok (.if_icmp .gt 18, 3) := by decide +kernel
theorem dX8_best_82 : decode cX8_best 82 = .ok (.aload_n 0, 1) := by decide +kernel
theorem dX8_best_83 : decode cX8_best 83 = .ok (.iload 6, 2) := by decide +kernel
theorem dX8_best_85 : decode cX8_best 85 = .ok (.invokevirtual 185, 3) := by decide +kernel
theorem dX8_best_88 : decode cX8_best 88 = .ok (.iload 5, 2) := by decide +kernel
theorem dX8_best_90 : decode cX8_best 90 = .ok (.if_icmp .le 7, 3) := by decide +kernel
theorem dX8_best_93 : decode cX8_best 93 = .ok (.iconst 1, 1) := by decide +kernel
theorem dX8_best_94 : decode cX8_best 94 = .ok (.goto 4, 3) := by decide +kernel
theorem dX8_best_97 : decode cX8_best 97 = .ok (.iconst 0, 1) := by decide +kernel
theorem dX8_best_98 : decode cX8_best 98 = .ok (.istore 7, 2) := by decide +kernel
theorem dX8_best_100 : decode cX8_best 100 = .ok (.iload 7, 2) := by decide +kernel
theorem dX8_best_102 : decode cX8_best 102 = .ok (.ifCond .eq 26, 3) := by decide +kernel
theorem dX8_best_105 : decode cX8_best 105 = .ok (.aload_n 0, 1) := by decide +kernel
theorem dX8_best_106 : decode cX8_best 106 = .ok (.iload_n 1, 1) := by decide +kernel
theorem dX8_best_107 : decode cX8_best 107 = .ok (.iload 6, 2) := by decide +kernel
theorem dX8_best_109 : decode cX8_best 109 = .ok (.iload_n 3, 1) := by decide +kernel
theorem dX8_best_110 : decode cX8_best 110 = .ok (.invokevirtual 188, 3) := by decide +kernel
theorem dX8_best_113 : decode cX8_best 113 = .ok (.ifCond .eq 15, 3) := by decide +kernel
theorem dX8_best_116 : decode cX8_best 116 = .ok (.iload 6, 2) := by decide +kernel
theorem dX8_best_118 : decode cX8_best 118 = .ok (.istore 4, 2) := by decide +kernel
theorem dX8_best_120 : decode cX8_best 120 = .ok (.aload_n 0, 1) := by decide +kernel
theorem dX8_best_121 : decode cX8_best 121 = .ok (.iload 6, 2) := by decide +kernel
theorem dX8_best_123 : decode cX8_best 123 = .ok (.invokevirtual 185, 3) := by decide +kernel
theorem dX8_best_126 : decode cX8_best 126 = .ok (.istore 5, 2) := by decide +kernel
theorem dX8_best_128 : decode cX8_best 128 = .ok (.iinc 6 1, 3) := by decide +kernel
theorem dX8_best_131 : decode cX8_best 131 = .ok (.goto (-79), 3) := by decide +kernel
theorem dX8_best_134 : decode cX8_best 134 = .ok (.iload_n 2, 1) := by decide +kernel
theorem dX8_best_135 : decode cX8_best 135 = .ok (.ifCond .ne 8, 3) := by decide +kernel
theorem dX8_best_138 : decode cX8_best 138 = .ok (.iload 5, 2) := by decide +kernel
theorem dX8_best_140 : decode cX8_best 140 = .ok (.goto 5, 3) := by decide +kernel
theorem dX8_best_143 : decode cX8_best 143 = .ok (.iload 4, 2) := by decide +kernel
theorem dX8_best_145 : decode cX8_best 145 = .ok (.ireturn, 1) := by decide +kernel
theorem dX8_makes_0 : decode cX8_makes 0 = .ok (.iconst (-1), 1) := by decide +kernel
theorem dX8_makes_1 : decode cX8_makes 1 = .ok (.istore_n 2, 1) := by decide +kernel
theorem dX8_makes_2 : decode cX8_makes 2 = .ok (.iconst 0, 1) := by decide +kernel
theorem dX8_makes_3 : decode cX8_makes 3 = .ok (.istore_n 3, 1) := by decide +kernel
theorem dX8_makes_4 : decode cX8_makes 4 = .ok (.iconst 0, 1) := by decide +kernel
theorem dX8_makes_5 : decode cX8_makes 5 = .ok (.istore 4, 2) := by decide +kernel
theorem dX8_makes_7 : decode cX8_makes 7 = .ok (.iload 4, 2) := by decide +kernel
theorem dX8_makes_9 : decode cX8_makes 9 = .ok (.aload_n 0, 1) := by decide +kernel
theorem dX8_makes_10 : decode cX8_makes 10 = .ok (.getfield 7, 3) := by decide +kernel
theorem dX8_makes_13 : decode cX8_makes 13 = .ok (.iconst 4, 1) := by decide +kernel
theorem dX8_makes_14 : decode cX8_makes 14 = .ok (.iaload, 1) := by decide +kernel
theorem dX8_makes_15 : decode cX8_makes 15 = .ok (.if_icmp .ge 107, 3) := by decide +kernel
theorem dX8_makes_18 : decode cX8_makes 18 = .ok (.iload_n 1, 1) := by decide +kernel
theorem dX8_makes_19 : decode cX8_makes 19 = .ok (.iload 4, 2) := by decide +kernel
theorem dX8_makes_21 : decode cX8_makes 21 = .ok (.ishr, 1) := by decide +kernel
theorem dX8_makes_22 : decode cX8_makes 22 = .ok (.iconst 1, 1) := by decide +kernel
theorem dX8_makes_23 : decode cX8_makes 23 = .ok (.iand, 1) := by decide +kernel
theorem dX8_makes_24 : decode cX8_makes 24 = .ok (.iconst 1, 1) := by decide +kernel
theorem dX8_makes_25 : decode cX8_makes 25 = .ok (.if_icmp .ne 91, 3) := by decide +kernel
theorem dX8_makes_28 : decode cX8_makes 28 = .ok (.bipush 26, 2) := by decide +kernel
theorem dX8_makes_30 : decode cX8_makes 30 = .ok (.iconst 5, 1) := by decide +kernel
theorem dX8_makes_31 : decode cX8_makes 31 = .ok (.iload 4, 2) := by decide +kernel
theorem dX8_makes_33 : decode cX8_makes 33 = .ok (.imul, 1) := by decide +kernel
theorem dX8_makes_34 : decode cX8_makes 34 = .ok (.iadd, 1) := by decide +kernel
theorem dX8_makes_35 : decode cX8_makes 35 = .ok (.istore 5, 2) := by decide +kernel
theorem dX8_makes_37 : decode cX8_makes 37 = .ok (.iload_n 2, 1) := by decide +kernel
theorem dX8_makes_38 : decode cX8_makes 38 = .ok (.iconst (-1), 1) := by decide +kernel
theorem dX8_makes_39 : decode cX8_makes 39 = .ok (.if_icmp .ne 8, 3) := by decide +kernel
theorem dX8_makes_42 : decode cX8_makes 42 = .ok (.iload 5, 2) := by decide +kernel
theorem dX8_makes_44 : decode cX8_makes 44 = .ok (.goto 4, 3) := by decide +kernel
theorem dX8_makes_47 : decode cX8_makes 47 = .ok (.iload_n 2, 1) := by decide +kernel
theorem dX8_makes_48 : decode cX8_makes 48 = .ok (.istore_n 2, 1) := by decide +kernel
theorem dX8_makes_49 : decode cX8_makes 49 = .ok (.aload_n 0, 1) := by decide +kernel
theorem dX8_makes_50 : decode cX8_makes 50 = .ok (.getfield 7, 3) := by decide +kernel
theorem dX8_makes_53 : decode cX8_makes 53 = .ok (.iload 5, 2) := by decide +kernel
theorem dX8_makes_55 : decode cX8_makes 55 = .ok (.iconst 3, 1) := by decide +kernel
theorem dX8_makes_56 : decode cX8_makes 56 = .ok (.iadd, 1) := by decide +kernel
theorem dX8_makes_57 : decode cX8_makes 57 = .ok (.iaload, 1) := by decide +kernel
theorem dX8_makes_58 : decode cX8_makes 58 = .ok (.iconst 2, 1) := by decide +kernel
theorem dX8_makes_59 : decode cX8_makes 59 = .ok (.if_icmp .ne 43, 3) := by decide +kernel
theorem dX8_makes_62 : decode cX8_makes 62 = .ok (.aload_n 0, 1) := by decide +kernel
theorem dX8_makes_63 : decode cX8_makes 63 = .ok (.getfield 7, 3) := by decide +kernel
theorem dX8_makes_66 : decode cX8_makes 66 = .ok (.iload 5, 2) := by decide +kernel
theorem dX8_makes_68 : decode cX8_makes 68 = .ok (.iconst 1, 1) := by decide +kernel
theorem dX8_makes_69 : decode cX8_makes 69 = .ok (.iadd, 1) := by decide +kernel
theorem dX8_makes_70 : decode cX8_makes 70 = .ok (.iaload, 1) := by decide +kernel
theorem dX8_makes_71 : decode cX8_makes 71 = .ok (.aload_n 0, 1) := by decide +kernel
theorem dX8_makes_72 : decode cX8_makes 72 = .ok (.getfield 7, 3) := by decide +kernel
theorem dX8_makes_75 : decode cX8_makes 75 = .ok (.iload_n 2, 1) := by decide +kernel
theorem dX8_makes_76 : decode cX8_makes 76 = .ok (.iconst 1, 1) := by decide +kernel
theorem dX8_makes_77 : decode cX8_makes 77 = .ok (.iadd, 1) := by decide +kernel
theorem dX8_makes_78 : decode cX8_makes 78 = .ok (.iaload, 1) := by decide +kernel
theorem dX8_makes_79 : decode cX8_makes 79 = .ok (.if_icmp .ne 23, 3) := by decide +kernel
theorem dX8_makes_82 : decode cX8_makes 82 = .ok (.aload_n 0, 1) := by decide +kernel
theorem dX8_makes_83 : decode cX8_makes 83 = .ok (.getfield 7, 3) := by decide +kernel
theorem dX8_makes_86 : decode cX8_makes 86 = .ok (.iload 5, 2) := by decide +kernel
theorem dX8_makes_88 : decode cX8_makes 88 = .ok (.iconst 2, 1) := by decide +kernel
theorem dX8_makes_89 : decode cX8_makes 89 = .ok (.iadd, 1) := by decide +kernel
theorem dX8_makes_90 : decode cX8_makes 90 = .ok (.iaload, 1) := by decide +kernel
theorem dX8_makes_91 : decode cX8_makes 91 = .ok (.aload_n 0, 1) := by decide +kernel
theorem dX8_makes_92 : decode cX8_makes 92 = .ok (.getfield 7, 3) := by decide +kernel
theorem dX8_makes_95 : decode cX8_makes 95 = .ok (.iload_n 2, 1) := by decide +kernel
theorem dX8_makes_96 : decode cX8_makes 96 = .ok (.iconst 2, 1) := by decide +kernel
theorem dX8_makes_97 : decode cX8_makes 97 = .ok (.iadd, 1) := by decide +kernel
theorem dX8_makes_98 : decode cX8_makes 98 = .ok (.iaload, 1) := by decide +kernel
theorem dX8_makes_99 : decode cX8_makes 99 = .ok (.if_icmp .eq 5, 3) := by decide +kernel
theorem dX8_makes_102 : decode cX8_makes 102 = .ok (.iconst 0, 1) := by decide +kernel
theorem dX8_makes_103 : decode cX8_makes 103 = .ok (.ireturn, 1) := by decide +kernel
theorem dX8_makes_104 : decode cX8_makes 104 = .ok (.iload_n 3, 1) := by decide +kernel
theorem dX8_makes_105 : decode cX8_makes 105 = .ok (.aload_n 0, 1) := by decide +kernel
theorem dX8_makes_106 : decode cX8_makes 106 = .ok (.getfield 7, 3) := by decide +kernel
theorem dX8_makes_109 : decode cX8_makes 109 = .ok (.iload 5, 2) := by decide +kernel
theorem dX8_makes_111 : decode cX8_makes 111 = .ok (.iconst 4, 1) := by decide +kernel
theorem dX8_makes_112 : decode cX8_makes 112 = .ok (.iadd, 1) := by decide +kernel
theorem dX8_makes_113 : decode cX8_makes 113 = .ok (.iaload, 1) := by decide +kernel
theorem dX8_makes_114 : decode cX8_makes 114 = .ok (.iadd, 1) := by decide +kernel
theorem dX8_makes_115 : decode cX8_makes 115 = .ok (.istore_n 3, 1) := by decide +kernel
theorem dX8_makes_116 : decode cX8_makes 116 = .ok (.iinc 4 1, 3) := by decide +kernel
theorem dX8_makes_119 : decode cX8_makes 119 = .ok (.goto (-112), 3) := by decide +kernel
theorem dX8_makes_122 : decode cX8_makes 122 = .ok (.iload_n 2, 1) := by decide +kernel
theorem dX8_makes_123 : decode cX8_makes 123 = .ok (.iconst (-1), 1) := by decide +kernel
theorem dX8_makes_124 : decode cX8_makes 124 = .ok (.if_icmp .eq 19, 3) := by decide +kernel
theorem dX8_makes_127 : decode cX8_makes 127 = .ok (.iload_n 3, 1) := by decide +kernel
theorem dX8_makes_128 : decode cX8_makes 128 = .ok (.aload_n 0, 1) := by decide +kernel
theorem dX8_makes_129 : decode cX8_makes 129 = .ok (.getfield 7, 3) := by decide +kernel
theorem dX8_makes_132 : decode cX8_makes 132 = .ok (.iload_n 2, 1) := by decide +kernel
theorem dX8_makes_133 : decode cX8_makes 133 = .ok (.iconst 2, 1) := by decide +kernel
theorem dX8_makes_134 : decode cX8_makes 134 = .ok (.iadd, 1) := by decide +kernel
theorem dX8_makes_135 : decode cX8_makes 135 = .ok (.iaload, 1) := by decide +kernel
theorem dX8_makes_136 : decode cX8_makes 136 = .ok (.if_icmp .lt 7, 3) := by decide +kernel
theorem dX8_makes_139 : decode cX8_makes 139 = .ok (.iconst 1, 1) := by decide +kernel
theorem dX8_makes_140 : decode cX8_makes 140 = .ok (.goto 4, 3) := by decide +kernel
theorem dX8_makes_143 : decode cX8_makes 143 = .ok (.iconst 0, 1) := by decide +kernel
theorem dX8_makes_144 : decode cX8_makes 144 = .ok (.ireturn, 1) := by decide +kernel
set_option maxRecDepth 20000 in
theorem ggX8_joins_X8_ones : GoodIn wsX8_joins wsX8_ones := goodIn_r _ [5] (by decide +kernel) (by decide +kernel)
set_option maxRecDepth 20000 in
theorem gX8_joins_X8_ones : GoodIn wsX8_joins (va_wsS RX8 182 yX8_ones wsX8_ones) := goodIn_app (goodIn_of _ (by decide +kernel)) ggX8_joins_X8_ones
set_option maxRecDepth 20000 in
theorem ggX8_joins_X8_makes : GoodIn wsX8_joins wsX8_makes := goodIn_r _ [9, 1, 10, 11, 12, 13, 14, 15, 16, 17, 18, 19, 20, 21, 22, 23, 24, 25, 26, 27, 28, 29] (by decide +kernel) (by decide +kernel)
set_option maxRecDepth 20000 in
theorem gX8_joins_X8_makes : GoodIn wsX8_joins (wsV RX8 191 RX8 yX8_makes wsX8_makes) := goodIn_app (goodIn_of _ (by decide +kernel)) ggX8_joins_X8_makes
theorem dX8_joins_0 : decode cX8_joins 0 = .ok (.iconst (-1), 1) := by decide +kernel
theorem dX8_joins_1 : decode cX8_joins 1 = .ok (.istore_n 1, 1) := by decide +kernel
theorem dX8_joins_2 : decode cX8_joins 2 = .ok (.iconst 1, 1) := by decide +kernel
theorem dX8_joins_3 : decode cX8_joins 3 = .ok (.istore_n 2, 1) := by decide +kernel
theorem dX8_joins_4 : decode cX8_joins 4 = .ok (.iload_n 2, 1) := by decide +kernel
theorem dX8_joins_5 : decode cX8_joins 5 = .ok (.iconst 1, 1) := by decide +kernel
theorem dX8_joins_6 : decode cX8_joins 6 = .ok (.aload_n 0, 1) := by decide +kernel
theorem dX8_joins_7 : decode cX8_joins 7 = .ok (.getfield 7, 3) := by decide +kernel
theorem dX8_joins_10 : decode cX8_joins 10 = .ok (.iconst 4, 1) := by decide +kernel
theorem dX8_joins_11 : decode cX8_joins 11 = .ok (.iaload, 1) := by decide +kernel
theorem dX8_joins_12 : decode cX8_joins 12 = .ok (.ishl, 1) := by decide +kernel
theorem dX8_joins_13 : decode cX8_joins 13 = .ok (.if_icmp .ge 49, 3) := by decide +kernel
theorem dX8_joins_16 : decode cX8_joins 16 = .ok (.iload_n 1, 1) := by decide +kernel
theorem dX8_joins_17 : decode cX8_joins 17 = .ok (.iconst (-1), 1) := by decide +kernel
theorem dX8_joins_18 : decode cX8_joins 18 = .ok (.if_icmp .eq 14, 3) := by decide +kernel
theorem dX8_joins_21 : decode cX8_joins 21 = .ok (.iload_n 2, 1) := by decide +kernel
theorem dX8_joins_22 : decode cX8_joins 22 = .ok (.invokestatic 182, 3) := by decide +kernel
theorem dX8_joins_25 : decode cX8_joins 25 = .ok (.iload_n 1, 1) := by decide +kernel
theorem dX8_joins_26 : decode cX8_joins 26 = .ok (.invokestatic 182, 3) := by decide +kernel
theorem dX8_joins_29 : decode cX8_joins 29 = .ok (.if_icmp .ge 7, 3) := by decide +kernel
theorem dX8_joins_32 : decode cX8_joins 32 = .ok (.iconst 1, 1) := by decide +kernel
theorem dX8_joins_33 : decode cX8_joins 33 = .ok (.goto 4, 3) := by decide +kernel
theorem dX8_joins_36 : decode cX8_joins 36 = .ok (.iconst 0, 1) := by decide +kernel
theorem dX8_joins_37 : decode cX8_joins 37 = .ok (.istore_n 3, 1) := by decide +kernel
theorem dX8_joins_38 : decode cX8_joins 38 = .ok (.iload_n 3, 1) := by decide +kernel
theorem dX8_joins_39 : decode cX8_joins 39 = .ok (.ifCond .eq 15, 3) := by decide +kernel
theorem dX8_joins_42 : decode cX8_joins 42 = .ok (.aload_n 0, 1) := by decide +kernel
theorem dX8_joins_43 : decode cX8_joins 43 = .ok (.iload_n 2, 1) := by decide +kernel
theorem dX8_joins_44 : decode cX8_joins 44 = .ok (.invokevirtual 191, 3) := by decide +kernel
theorem dX8_joins_47 : decode cX8_joins 47 = .ok (.ifCond .eq 7, 3) := by decide +kernel
theorem dX8_joins_50 : decode cX8_joins 50 = .ok (.iload_n 2, 1) := by decide +kernel
theorem dX8_joins_51 : decode cX8_joins 51 = .ok (.goto 4, 3) := by decide +kernel
theorem dX8_joins_54 : decode cX8_joins 54 = .ok (.iload_n 1, 1) := by decide +kernel
theorem dX8_joins_55 : decode cX8_joins 55 = .ok (.istore_n 1, 1) := by decide +kernel
theorem dX8_joins_56 : decode cX8_joins 56 = .ok (.iinc 2 1, 3) := by decide +kernel
theorem dX8_joins_59 : decode cX8_joins 59 = .ok (.goto (-55), 3) := by decide +kernel
theorem dX8_joins_62 : decode cX8_joins 62 = .ok (.iload_n 1, 1) := by decide +kernel
theorem dX8_joins_63 : decode cX8_joins 63 = .ok (.ireturn, 1) := by decide +kernel
theorem dX8_given_0 : decode cX8_given 0 = .ok (.aload_n 0, 1) := by decide +kernel
theorem dX8_given_1 : decode cX8_given 1 = .ok (.getfield 7, 3) := by decide +kernel
theorem dX8_given_4 : decode cX8_given 4 = .ok (.bipush 26, 2) := by decide +kernel
theorem dX8_given_6 : decode cX8_given 6 = .ok (.iconst 5, 1) := by decide +kernel
theorem dX8_given_7 : decode cX8_given 7 = .ok (.iload_n 1, 1) := by decide +kernel
theorem dX8_given_8 : decode cX8_given 8 = .ok (.imul, 1) := by decide +kernel
theorem dX8_given_9 : decode cX8_given 9 = .ok (.iadd, 1) := by decide +kernel
theorem dX8_given_10 : decode cX8_given 10 = .ok (.iconst 1, 1) := by decide +kernel
theorem dX8_given_11 : decode cX8_given 11 = .ok (.iadd, 1) := by decide +kernel
theorem dX8_given_12 : decode cX8_given 12 = .ok (.iaload, 1) := by decide +kernel
theorem dX8_given_13 : decode cX8_given 13 = .ok (.aload_n 0, 1) := by decide +kernel
theorem dX8_given_14 : decode cX8_given 14 = .ok (.getfield 7, 3) := by decide +kernel
theorem dX8_given_17 : decode cX8_given 17 = .ok (.bipush 26, 2) := by decide +kernel
theorem dX8_given_19 : decode cX8_given 19 = .ok (.iconst 5, 1) := by decide +kernel
theorem dX8_given_20 : decode cX8_given 20 = .ok (.iload_n 1, 1) := by decide +kernel
theorem dX8_given_21 : decode cX8_given 21 = .ok (.imul, 1) := by decide +kernel
theorem dX8_given_22 : decode cX8_given 22 = .ok (.iadd, 1) := by decide +kernel
theorem dX8_given_23 : decode cX8_given 23 = .ok (.iconst 4, 1) := by decide +kernel
theorem dX8_given_24 : decode cX8_given 24 = .ok (.iadd, 1) := by decide +kernel
theorem dX8_given_25 : decode cX8_given 25 = .ok (.iaload, 1) := by decide +kernel
theorem dX8_given_26 : decode cX8_given 26 = .ok (.imul, 1) := by decide +kernel
theorem dX8_given_27 : decode cX8_given 27 = .ok (.ireturn, 1) := by decide +kernel
set_option maxRecDepth 20000 in
theorem ggX8_wants_X8_whole : GoodIn wsX8_wants wsX8_whole := goodIn_r _ [5] (by decide +kernel) (by decide +kernel)
set_option maxRecDepth 20000 in
theorem gX8_wants_X8_whole : GoodIn wsX8_wants (va_wsS RX8 140 yX8_whole wsX8_whole) := goodIn_app (goodIn_of _ (by decide +kernel)) ggX8_wants_X8_whole
set_option maxRecDepth 20000 in
theorem ggX8_wants_X8_given : GoodIn wsX8_wants wsX8_given := goodIn_r _ [9, 1, 10, 11, 12, 13, 14, 15, 16, 17, 18, 19, 20, 21, 22, 23, 24, 25, 26, 27, 28, 29] (by decide +kernel) (by decide +kernel)
set_option maxRecDepth 20000 in
theorem gX8_wants_X8_given : GoodIn wsX8_wants (wsV RX8 194 RX8 yX8_given wsX8_given) := goodIn_app (goodIn_of _ (by decide +kernel)) ggX8_wants_X8_given
theorem dX8_wants_0 : decode cX8_wants 0 = .ok (.aload_n 0, 1) := by decide +kernel
theorem dX8_wants_1 : decode cX8_wants 1 = .ok (.getfield 7, 3) := by decide +kernel
theorem dX8_wants_4 : decode cX8_wants 4 = .ok (.bipush 26, 2) := by decide +kernel
theorem dX8_wants_6 : decode cX8_wants 6 = .ok (.iconst 5, 1) := by decide +kernel
theorem dX8_wants_7 : decode cX8_wants 7 = .ok (.iload_n 1, 1) := by decide +kernel
theorem dX8_wants_8 : decode cX8_wants 8 = .ok (.imul, 1) := by decide +kernel
theorem dX8_wants_9 : decode cX8_wants 9 = .ok (.iadd, 1) := by decide +kernel
theorem dX8_wants_10 : decode cX8_wants 10 = .ok (.iconst 3, 1) := by decide +kernel
theorem dX8_wants_11 : decode cX8_wants 11 = .ok (.iadd, 1) := by decide +kernel
theorem dX8_wants_12 : decode cX8_wants 12 = .ok (.iaload, 1) := by decide +kernel
theorem dX8_wants_13 : decode cX8_wants 13 = .ok (.istore_n 2, 1) := by decide +kernel
theorem dX8_wants_14 : decode cX8_wants 14 = .ok (.iload_n 2, 1) := by decide +kernel
theorem dX8_wants_15 : decode cX8_wants 15 = .ok (.iconst 3, 1) := by decide +kernel
theorem dX8_wants_16 : decode cX8_wants 16 = .ok (.if_icmp .ne 14, 3) := by decide +kernel
theorem dX8_wants_19 : decode cX8_wants 19 = .ok (.aload_n 0, 1) := by decide +kernel
theorem dX8_wants_20 : decode cX8_wants 20 = .ok (.getfield 7, 3) := by decide +kernel
theorem dX8_wants_23 : decode cX8_wants 23 = .ok (.iload_n 1, 1) := by decide +kernel
theorem dX8_wants_24 : decode cX8_wants 24 = .ok (.invokestatic 140, 3) := by decide +kernel
theorem dX8_wants_27 : decode cX8_wants 27 = .ok (.goto 21, 3) := by decide +kernel
theorem dX8_wants_30 : decode cX8_wants 30 = .ok (.iload_n 2, 1) := by decide +kernel
theorem dX8_wants_31 : decode cX8_wants 31 = .ok (.ifCond .eq 8, 3) := by decide +kernel
theorem dX8_wants_34 : decode cX8_wants 34 = .ok (.iload_n 2, 1) := by decide +kernel
theorem dX8_wants_35 : decode cX8_wants 35 = .ok (.iconst 2, 1) := by decide +kernel
theorem dX8_wants_36 : decode cX8_wants 36 = .ok (.if_icmp .ne 11, 3) := by decide +kernel
theorem dX8_wants_39 : decode cX8_wants 39 = .ok (.aload_n 0, 1) := by decide +kernel
theorem dX8_wants_40 : decode cX8_wants 40 = .ok (.iload_n 1, 1) := by decide +kernel
theorem dX8_wants_41 : decode cX8_wants 41 = .ok (.invokevirtual 194, 3) := by decide +kernel
theorem dX8_wants_44 : decode cX8_wants 44 = .ok (.goto 4, 3) := by decide +kernel
theorem dX8_wants_47 : decode cX8_wants 47 = .ok (.iconst 0, 1) := by decide +kernel
theorem dX8_wants_48 : decode cX8_wants 48 = .ok (.ireturn, 1) := by decide +kernel
set_option maxRecDepth 20000 in
theorem ggX8_runs_X8_wants : GoodIn wsX8_runs wsX8_wants := goodIn_r _ [8, 2, 9, 10, 7, 11, 12, 13, 14, 15, 16, 17, 18, 19, 20, 21, 22, 23, 24, 25, 26, 27, 28, 29, 30, 31, 32, 33, 34, 35] (by decide +kernel) (by decide +kernel)
set_option maxRecDepth 20000 in
theorem gX8_runs_X8_wants : GoodIn wsX8_runs (wsV RX8 203 RX8 yX8_wants wsX8_wants) := goodIn_app (goodIn_of _ (by decide +kernel)) ggX8_runs_X8_wants
theorem dX8_runs_0 : decode cX8_runs 0 = .ok (.aload_n 0, 1) := by decide +kernel
theorem dX8_runs_1 : decode cX8_runs 1 = .ok (.iconst 0, 1) := by decide +kernel
theorem dX8_runs_2 : decode cX8_runs 2 = .ok (.putfield 197, 3) := by decide +kernel
theorem dX8_runs_5 : decode cX8_runs 5 = .ok (.aload_n 0, 1) := by decide +kernel
theorem dX8_runs_6 : decode cX8_runs 6 = .ok (.aload_n 0, 1) := by decide +kernel
theorem dX8_runs_7 : decode cX8_runs 7 = .ok (.getfield 7, 3) := by decide +kernel
theorem dX8_runs_10 : decode cX8_runs 10 = .ok (.iconst 0, 1) := by decide +kernel
theorem dX8_runs_11 : decode cX8_runs 11 = .ok (.iaload, 1) := by decide +kernel
theorem dX8_runs_12 : decode cX8_runs 12 = .ok (.putfield 200, 3) := by decide +kernel
theorem dX8_runs_15 : decode cX8_runs 15 = .ok (.iconst 0, 1) := by decide +kernel
theorem dX8_runs_16 : decode cX8_runs 16 = .ok (.istore_n 1, 1) := by decide +kernel
theorem dX8_runs_17 : decode cX8_runs 17 = .ok (.iload_n 1, 1) := by decide +kernel
theorem dX8_runs_18 : decode cX8_runs 18 = .ok (.aload_n 0, 1) := by decide +kernel
theorem dX8_runs_19 : decode cX8_runs 19 = .ok (.getfield 7, 3) := by decide +kernel
theorem dX8_runs_22 : decode cX8_runs 22 = .ok (.iconst 4, 1) := by decide +kernel
theorem dX8_runs_23 : decode cX8_runs 23 = .ok (.iaload, 1) := by decide +kernel
theorem dX8_runs_24 : decode cX8_runs 24 = .ok (.if_icmp .ge 47, 3) := by decide +kernel
theorem dX8_runs_27 : decode cX8_runs 27 = .ok (.aload_n 0, 1) := by decide +kernel
theorem dX8_runs_28 : decode cX8_runs 28 = .ok (.iload_n 1, 1) := by decide +kernel
theorem dX8_runs_29 : decode cX8_runs 29 = .ok (.invokevirtual 203, 3) := by decide +kernel
theorem dX8_runs_32 : decode cX8_runs 32 = .ok (.istore_n 2, 1) := by decide +kernel
theorem dX8_runs_33 : decode cX8_runs 33 = .ok (.iload_n 2, 1) := by decide +kernel
theorem dX8_runs_34 : decode cX8_runs 34 = .ok (.ifCond .le 31, 3) := by decide +kernel
theorem dX8_runs_37 : decode cX8_runs 37 = .ok (.iload_n 2, 1) := by decide +kernel
theorem dX8_runs_38 : decode cX8_runs 38 = .ok (.aload_n 0, 1) := by decide +kernel
theorem dX8_runs_39 : decode cX8_runs 39 = .ok (.getfield 200, 3) := by decide +kernel
theorem dX8_runs_42 : decode cX8_runs 42 = .ok (.if_icmp .gt 23, 3) := by decide +kernel
theorem dX8_runs_45 : decode cX8_runs 45 = .ok (.aload_n 0, 1) := by decide +kernel
theorem dX8_runs_46 : decode cX8_runs 46 = .ok (.dup, 1) := by decide +kernel
theorem dX8_runs_47 : decode cX8_runs 47 = .ok (.getfield 200, 3) := by decide +kernel
theorem dX8_runs_50 : decode cX8_runs 50 = .ok (.iload_n 2, 1) := by decide +kernel
theorem dX8_runs_51 : decode cX8_runs 51 = .ok (.isub, 1) := by decide +kernel
theorem dX8_runs_52 : decode cX8_runs 52 = .ok (.putfield 200, 3) := by decide +kernel
theorem dX8_runs_55 : decode cX8_runs 55 = .ok (.aload_n 0, 1) := by decide +kernel
theorem dX8_runs_56 : decode cX8_runs 56 = .ok (.dup, 1) := by decide +kernel
theorem dX8_runs_57 : decode cX8_runs 57 = .ok (.getfield 197, 3) := by decide +kernel
theorem dX8_runs_60 : decode cX8_runs 60 = .ok (.iconst 1, 1) := by decide +kernel
theorem dX8_runs_61 : decode cX8_runs 61 = .ok (.iadd, 1) := by decide +kernel
theorem dX8_runs_62 : decode cX8_runs 62 = .ok (.putfield 197, 3) := by decide +kernel
theorem dX8_runs_65 : decode cX8_runs 65 = .ok (.iinc 1 1, 3) := by decide +kernel
theorem dX8_runs_68 : decode cX8_runs 68 = .ok (.goto (-51), 3) := by decide +kernel
theorem dX8_runs_71 : decode cX8_runs 71 = .ok (.return_, 1) := by decide +kernel
set_option maxRecDepth 20000 in
theorem ggX8_ordered_X8_wants : GoodIn wsX8_ordered wsX8_wants := goodIn_r _ [6, 1, 7, 8, 5, 9, 10, 11, 12, 13, 14, 15, 16, 17, 18, 19, 20, 21, 22, 23, 24, 25, 26, 27, 28, 29, 30, 31, 32, 33] (by decide +kernel) (by decide +kernel)
set_option maxRecDepth 20000 in
theorem gX8_ordered_X8_wants : GoodIn wsX8_ordered (wsV RX8 203 RX8 yX8_wants wsX8_wants) := goodIn_app (goodIn_of _ (by decide +kernel)) ggX8_ordered_X8_wants
theorem dX8_ordered_0 : decode cX8_ordered 0 = .ok (.aload_n 0, 1) := by decide +kernel
theorem dX8_ordered_1 : decode cX8_ordered 1 = .ok (.getfield 7, 3) := by decide +kernel
theorem dX8_ordered_4 : decode cX8_ordered 4 = .ok (.iconst 0, 1) := by decide +kernel
theorem dX8_ordered_5 : decode cX8_ordered 5 = .ok (.iaload, 1) := by decide +kernel
theorem dX8_ordered_6 : decode cX8_ordered 6 = .ok (.istore_n 1, 1) := by decide +kernel
theorem dX8_ordered_7 : decode cX8_ordered 7 = .ok (.iconst 0, 1) := by decide +kernel
theorem dX8_ordered_8 : decode cX8_ordered 8 = .ok (.istore_n 2, 1) := by decide +kernel
theorem dX8_ordered_9 : decode cX8_ordered 9 = .ok (.iconst 0, 1) := by decide +kernel
theorem dX8_ordered_10 : decode cX8_ordered 10 = .ok (.istore_n 3, 1) := by decide +kernel
theorem dX8_ordered_11 : decode cX8_ordered 11 = .ok (.iconst 0, 1) := by decide +kernel
theorem dX8_ordered_12 : decode cX8_ordered 12 = .ok (.istore 4, 2) := by decide +kernel
theorem dX8_ordered_14 : decode cX8_ordered 14 = .ok (.iload 4, 2) := by decide +kernel
theorem dX8_ordered_16 : decode cX8_ordered 16 = .ok (.aload_n 0, 1) := by decide +kernel
theorem dX8_ordered_17 : decode cX8_ordered 17 = .ok (.getfield 7, 3) := by decide +kernel
theorem dX8_ordered_20 : decode cX8_ordered 20 = .ok (.iconst 4, 1) := by decide +kernel
theorem dX8_ordered_21 : decode cX8_ordered 21 = .ok (.iaload, 1) := by decide +kernel
theorem dX8_ordered_22 : decode cX8_ordered 22 = .ok (.if_icmp .ge 129, 3) := by decide +kernel
theorem dX8_ordered_25 : decode cX8_ordered 25 = .ok (.iconst (-1), 1) := by decide +kernel
theorem dX8_ordered_26 : decode cX8_ordered 26 = .ok (.istore 5, 2) := by decide +kernel
theorem dX8_ordered_28 : decode cX8_ordered 28 = .ok (.iconst 0, 1) := by decide +kernel
theorem dX8_ordered_29 : decode cX8_ordered 29 = .ok (.istore 6, 2) := by decide +kernel
theorem dX8_ordered_31 : decode cX8_ordered 31 = .ok (.iload 6, 2) := by decide +kernel
theorem dX8_ordered_33 : decode cX8_ordered 33 = .ok (.aload_n 0, 1) := by decide +kernel
theorem dX8_ordered_34 : decode cX8_ordered 34 = .ok (.getfield 7, 3) := by decide +kernel
theorem dX8_ordered_37 : decode cX8_ordered 37 = .ok (.iconst 4, 1) := by decide +kernel
theorem dX8_ordered_38 : decode cX8_ordered 38 = .ok (.iaload, 1) := by decide +kernel
theorem dX8_ordered_39 : decode cX8_ordered 39 = .ok (.if_icmp .ge 69, 3) := by decide +kernel
theorem dX8_ordered_42 : decode cX8_ordered 42 = .ok (.iload_n 2, 1) := by decide +kernel
theorem dX8_ordered_43 : decode cX8_ordered 43 = .ok (.iload 6, 2) := by decide +kernel
theorem dX8_ordered_45 : decode cX8_ordered 45 = .ok (.ishr, 1) := by decide +kernel
theorem dX8_ordered_46 : decode cX8_ordered 46 = .ok (.iconst 1, 1) := by decide +kernel
theorem dX8_ordered_47 : decode cX8_ordered 47 = .ok (.iand, 1) := by decide +kernel
theorem dX8_ordered_48 : decode cX8_ordered 48 = .ok (.ifCond .ne 16, 3) := by decide +kernel
theorem dX8_ordered_51 : decode cX8_ordered 51 = .ok (.aload_n 0, 1) := by decide +kernel
theorem dX8_ordered_52 : decode cX8_ordered 52 = .ok (.iload 6, 2) := by decide +kernel
theorem dX8_ordered_54 : decode cX8_ordered 54 = .ok (.invokevirtual 203, 3) := by decide +kernel
theorem dX8_ordered_57 : decode cX8_ordered 57 = .ok (.ifCond .le 7, 3) := by decide +kernel
theorem dX8_ordered_60 : decode cX8_ordered 60 = .ok (.iconst 1, 1) := by decide +kernel
theorem dX8_ordered_61 : decode cX8_ordered 61 = .ok (.goto 4, 3) := by decide +kernel
theorem dX8_ordered_64 : decode cX8_ordered 64 = .ok (.iconst 0, 1) := by decide +kernel
theorem dX8_ordered_65 : decode cX8_ordered 65 = .ok (.istore 7, 2) := by decide +kernel
theorem dX8_ordered_67 : decode cX8_ordered 67 = .ok (.iload 7, 2) := by decide +kernel
theorem dX8_ordered_69 : decode cX8_ordered 69 = .ok (.ifCond .eq 29, 3) := by decide +kernel
theorem dX8_ordered_72 : decode cX8_ordered 72 = .ok (.iload 5, 2) := by decide +kernel
theorem dX8_ordered_74 : decode cX8_ordered 74 = .ok (.iconst (-1), 1) := by decide +kernel
theorem dX8_ordered_75 : decode cX8_ordered 75 = .ok (.if_icmp .eq 18, 3) := by decide +kernel
theorem dX8_ordered_78 : decode cX8_ordered 78 = .ok (.aload_n 0, 1) := by decide +kernel
theorem dX8_ordered_79 : decode cX8_ordered 79 = .ok (.iload 6, 2) := by decide +kernel
theorem dX8_ordered_81 : decode cX8_ordered 81 = .ok (.invokevirtual 203, 3) := by decide +kernel
theorem dX8_ordered_84 : decode cX8_ordered 84 = .ok (.aload_n 0, 1) := by decide +kernel
theorem dX8_ordered_85 : decode cX8_ordered 85 = .ok (.iload 5, 2) := by decide +kernel
theorem dX8_ordered_87 : decode cX8_ordered 87 = .ok (.invokevirtual 203, 3) := by decide +kernel
theorem dX8_ordered_90 : decode cX8_ordered 90 = .ok (.if_icmp .ge 8, 3) := by decide +kernel
theorem dX8_ordered_93 : decode cX8_ordered 93 = .ok (.iload 6, 2) := by decide +kernel
theorem dX8_ordered_95 : decode cX8_ordered 95 = .ok (.goto 5, 3) := by decide +kernel
theorem dX8_ordered_98 : decode cX8_ordered 98 = .ok (.iload 5, 2) := by decide +kernel
theorem dX8_ordered_100 : decode cX8_ordered 100 = .ok (.istore 5, 2) := by decide +kernel
theorem dX8_ordered_102 : decode cX8_ordered 102 = .ok (.iinc 6 1, 3) := by decide +kernel
theorem dX8_ordered_105 : decode cX8_ordered 105 = .ok (.goto (-74), 3) := by decide +kernel
theorem dX8_ordered_108 : decode cX8_ordered 108 = .ok (.iload 5, 2) := by decide +kernel
theorem dX8_ordered_110 : decode cX8_ordered 110 = .ok (.iconst (-1), 1) := by decide +kernel
theorem dX8_ordered_111 : decode cX8_ordered 111 = .ok (.if_icmp .eq 13, 3) := by decide +kernel
theorem dX8_ordered_114 : decode cX8_ordered 114 = .ok (.aload_n 0, 1) := by decide +kernel
theorem dX8_ordered_115 : decode cX8_ordered 115 = .ok (.iload 5, 2) := by decide +kernel
theorem dX8_ordered_117 : decode cX8_ordered 117 = .ok (.invokevirtual 203, 3) := by decide +kernel
theorem dX8_ordered_120 : decode cX8_ordered 120 = .ok (.iload_n 1, 1) := by decide +kernel
theorem dX8_ordered_121 : decode cX8_ordered 121 = .ok (.if_icmp .le 5, 3) := by decide +kernel
theorem dX8_ordered_124 : decode cX8_ordered 124 = .ok (.iload_n 3, 1) := by decide +kernel
theorem dX8_ordered_125 : decode cX8_ordered 125 = .ok (.ireturn, 1) := by decide +kernel
theorem dX8_ordered_126 : decode cX8_ordered 126 = .ok (.iload_n 2, 1) := by decide +kernel
theorem dX8_ordered_127 : decode cX8_ordered 127 = .ok (.iconst 1, 1) := by decide +kernel
theorem dX8_ordered_128 : decode cX8_ordered 128 = .ok (.iload 5, 2) := by decide +kernel
theorem dX8_ordered_130 : decode cX8_ordered 130 = .ok (.ishl, 1) := by decide +kernel
theorem dX8_ordered_131 : decode cX8_ordered 131 = .ok (.ior, 1) := by decide +kernel
theorem dX8_ordered_132 : decode cX8_ordered 132 = .ok (.istore_n 2, 1) := by decide +kernel
theorem dX8_ordered_133 : decode cX8_ordered 133 = .ok (.iload_n 1, 1) := by decide +kernel
theorem dX8_ordered_134 : decode cX8_ordered 134 = .ok (.aload_n 0, 1) := by decide +kernel
theorem dX8_ordered_135 : decode cX8_ordered 135 = .ok (.iload 5, 2) := by decide +kernel
theorem dX8_ordered_137 : decode cX8_ordered 137 = .ok (.invokevirtual 203, 3) := by decide +kernel
theorem dX8_ordered_140 : decode cX8_ordered 140 = .ok (.isub, 1) := by decide +kernel
theorem dX8_ordered_141 : decode cX8_ordered 141 = .ok (.istore_n 1, 1) := by decide +kernel
theorem dX8_ordered_142 : decode cX8_ordered 142 = .ok (.iinc 3 1, 3) := by decide +kernel
theorem dX8_ordered_145 : decode cX8_ordered 145 = .ok (.iinc 4 1, 3) := by decide +kernel
theorem dX8_ordered_148 : decode cX8_ordered 148 = .ok (.goto (-134), 3) := by decide +kernel
theorem dX8_ordered_151 : decode cX8_ordered 151 = .ok (.iload_n 3, 1) := by decide +kernel
theorem dX8_ordered_152 : decode cX8_ordered 152 = .ok (.ireturn, 1) := by decide +kernel
set_option maxRecDepth 20000 in
theorem ggX8_run_X8_in : GoodIn wsX8_run wsX8_in := goodIn_r _ [7] (by decide +kernel) (by decide +kernel)
set_option maxRecDepth 20000 in
theorem gX8_run_X8_in : GoodIn wsX8_run (va_wsS RX8 52 yX8_in wsX8_in) := goodIn_app (goodIn_of _ (by decide +kernel)) ggX8_run_X8_in
set_option maxRecDepth 20000 in
theorem ggX8_run_X8_bad : GoodIn wsX8_run wsX8_bad := goodIn_r _ [11, 12, 32, 33, 34, 35, 36, 37, 38, 39, 40, 41, 42, 43, 44, 45, 46, 47, 48, 49, 50, 51] (by decide +kernel) (by decide +kernel)
set_option maxRecDepth 20000 in
theorem gX8_run_X8_bad : GoodIn wsX8_run (wsV RX8 57 RX8 yX8_bad wsX8_bad) := goodIn_app (goodIn_of _ (by decide +kernel)) ggX8_run_X8_bad
set_option maxRecDepth 20000 in
theorem ggX8_run_X8_ordered : GoodIn wsX8_run wsX8_ordered := goodIn_r _ [16, 1, 17, 18, 19, 6, 20, 21, 22, 23, 24, 25, 26, 27, 32, 33, 34, 35, 36, 37, 38, 39, 40, 41, 42, 43, 44, 45, 46, 47, 48, 49, 50, 51] (by decide +kernel) (by decide +kernel)
set_option maxRecDepth 20000 in
theorem gX8_run_X8_ordered : GoodIn wsX8_run (wsV RX8 206 RX8 yX8_ordered wsX8_ordered) := goodIn_app (goodIn_of _ (by decide +kernel)) ggX8_run_X8_ordered
set_option maxRecDepth 20000 in
theorem ggX8_run_X8_wants : GoodIn wsX8_run wsX8_wants := goodIn_r _ [20, 1, 21, 22, 6, 23, 24, 25, 26, 27, 32, 33, 34, 35, 36, 37, 38, 39, 40, 41, 42, 43, 44, 45, 46, 47, 48, 49, 50, 51] (by decide +kernel) (by decide +kernel)
set_option maxRecDepth 20000 in
theorem gX8_run_X8_wants : GoodIn wsX8_run (wsV RX8 203 RX8 yX8_wants wsX8_wants) := goodIn_app (goodIn_of _ (by decide +kernel)) ggX8_run_X8_wants
set_option maxRecDepth 20000 in
theorem ggX8_run_X8_runs : GoodIn wsX8_run wsX8_runs := goodIn_r _ [31, 2, 1, 3, 17, 18, 19, 6, 20, 21, 22, 23, 24, 25, 26, 27, 32, 33, 34, 35, 36, 37, 38, 39, 40, 41, 42, 43, 44, 45, 46, 47, 48, 49, 50, 51] (by decide +kernel) (by decide +kernel)
set_option maxRecDepth 20000 in
theorem gX8_run_X8_runs : GoodIn wsX8_run (wsV RX8 209 RX8 yX8_runs wsX8_runs) := goodIn_app (goodIn_of _ (by decide +kernel)) ggX8_run_X8_runs
theorem dX8_run_0 : decode cX8_run 0 = .ok (.iload_n 1, 1) := by decide +kernel
theorem dX8_run_1 : decode cX8_run 1 = .ok (.iconst 0, 1) := by decide +kernel
theorem dX8_run_2 : decode cX8_run 2 = .ok (.iconst 3, 1) := by decide +kernel
theorem dX8_run_3 : decode cX8_run 3 = .ok (.invokestatic 52, 3) := by decide +kernel
theorem dX8_run_6 : decode cX8_run 6 = .ok (.ifCond .ne 8, 3) := by decide +kernel
theorem dX8_run_9 : decode cX8_run 9 = .ok (.aload_n 0, 1) := by decide +kernel
theorem dX8_run_10 : decode cX8_run 10 = .ok (.invokevirtual 57, 3) := by decide +kernel
theorem dX8_run_13 : decode cX8_run 13 = .ok (.ireturn, 1) := by decide +kernel
theorem dX8_run_14 : decode cX8_run 14 = .ok (.iload_n 1, 1) := by decide +kernel
theorem dX8_run_15 : decode cX8_run 15 = .ok (.iconst 2, 1) := by decide +kernel
theorem dX8_run_16 : decode cX8_run 16 = .ok (.if_icmp .ne 8, 3) := by decide +kernel
theorem dX8_run_19 : decode cX8_run 19 = .ok (.aload_n 0, 1) := by decide +kernel
theorem dX8_run_20 : decode cX8_run 20 = .ok (.invokevirtual 206, 3) := by decide +kernel
theorem dX8_run_23 : decode cX8_run 23 = .ok (.ireturn, 1) := by decide +kernel
theorem dX8_run_24 : decode cX8_run 24 = .ok (.iload_n 1, 1) := by decide +kernel
theorem dX8_run_25 : decode cX8_run 25 = .ok (.iconst 3, 1) := by decide +kernel
theorem dX8_run_26 : decode cX8_run 26 = .ok (.if_icmp .ne 47, 3) := by decide +kernel
theorem dX8_run_29 : decode cX8_run 29 = .ok (.aload_n 0, 1) := by decide +kernel
theorem dX8_run_30 : decode cX8_run 30 = .ok (.getfield 7, 3) := by decide +kernel
theorem dX8_run_33 : decode cX8_run 33 = .ok (.iconst 0, 1) := by decide +kernel
theorem dX8_run_34 : decode cX8_run 34 = .ok (.iaload, 1) := by decide +kernel
theorem dX8_run_35 : decode cX8_run 35 = .ok (.ineg, 1) := by decide +kernel
theorem dX8_run_36 : decode cX8_run 36 = .ok (.istore_n 2, 1) := by decide +kernel
theorem dX8_run_37 : decode cX8_run 37 = .ok (.iconst 0, 1) := by decide +kernel
theorem dX8_run_38 : decode cX8_run 38 = .ok (.istore_n 3, 1) := by decide +kernel
theorem dX8_run_39 : decode cX8_run 39 = .ok (.iload_n 3, 1) := by decide +kernel
theorem dX8_run_40 : decode cX8_run 40 = .ok (.aload_n 0, 1) := by decide +kernel
theorem dX8_run_41 : decode cX8_run 41 = .ok (.getfield 7, 3) := by decide +kernel
theorem dX8_run_44 : decode cX8_run 44 = .ok (.iconst 4, 1) := by decide +kernel
theorem dX8_run_45 : decode cX8_run 45 = .ok (.iaload, 1) := by decide +kernel
theorem dX8_run_46 : decode cX8_run 46 = .ok (.if_icmp .ge 17, 3) := by decide +kernel
theorem dX8_run_49 : decode cX8_run 49 = .ok (.iload_n 2, 1) := by decide +kernel
theorem dX8_run_50 : decode cX8_run 50 = .ok (.aload_n 0, 1) := by decide +kernel
theorem dX8_run_51 : decode cX8_run 51 = .ok (.iload_n 3, 1) := by decide +kernel
theorem dX8_run_52 : decode cX8_run 52 = .ok (.invokevirtual 203, 3) := by decide +kernel
theorem dX8_run_55 : decode cX8_run 55 = .ok (.iadd, 1) := by decide +kernel
theorem dX8_run_56 : decode cX8_run 56 = .ok (.istore_n 2, 1) := by decide +kernel
theorem dX8_run_57 : decode cX8_run 57 = .ok (.iinc 3 1, 3) := by decide +kernel
theorem dX8_run_60 : decode cX8_run 60 = .ok (.goto (-21), 3) := by decide +kernel
theorem dX8_run_63 : decode cX8_run 63 = .ok (.iload_n 2, 1) := by decide +kernel
theorem dX8_run_64 : decode cX8_run 64 = .ok (.ifCond .ge 7, 3) := by decide +kernel
theorem dX8_run_67 : decode cX8_run 67 = .ok (.iconst 0, 1) := by decide +kernel
theorem dX8_run_68 : decode cX8_run 68 = .ok (.goto 4, 3) := by decide +kernel
theorem dX8_run_71 : decode cX8_run 71 = .ok (.iload_n 2, 1) := by decide +kernel
theorem dX8_run_72 : decode cX8_run 72 = .ok (.ireturn, 1) := by decide +kernel
theorem dX8_run_73 : decode cX8_run 73 = .ok (.aload_n 0, 1) := by decide +kernel
theorem dX8_run_74 : decode cX8_run 74 = .ok (.invokevirtual 209, 3) := by decide +kernel
theorem dX8_run_77 : decode cX8_run 77 = .ok (.iload_n 1, 1) := by decide +kernel
theorem dX8_run_78 : decode cX8_run 78 = .ok (.ifCond .ne 10, 3) := by decide +kernel
theorem dX8_run_81 : decode cX8_run 81 = .ok (.aload_n 0, 1) := by decide +kernel
theorem dX8_run_82 : decode cX8_run 82 = .ok (.getfield 197, 3) := by decide +kernel
theorem dX8_run_85 : decode cX8_run 85 = .ok (.goto 7, 3) := by decide +kernel
theorem dX8_run_88 : decode cX8_run 88 = .ok (.aload_n 0, 1) := by decide +kernel
theorem dX8_run_89 : decode cX8_run 89 = .ok (.getfield 200, 3) := by decide +kernel
theorem dX8_run_92 : decode cX8_run 92 = .ok (.ireturn, 1) := by decide +kernel
set_option maxRecDepth 20000 in
theorem ggX8_leastBy_X8_given : GoodIn wsX8_leastBy wsX8_given := goodIn_r _ [8, 9, 13, 14, 15, 16, 17, 18, 19, 20, 21, 22, 23, 24, 25, 26, 27, 28, 29, 30, 31, 32] (by decide +kernel) (by decide +kernel)
set_option maxRecDepth 20000 in
theorem gX8_leastBy_X8_given : GoodIn wsX8_leastBy (wsV RX8 194 RX8 yX8_given wsX8_given) := goodIn_app (goodIn_of _ (by decide +kernel)) ggX8_leastBy_X8_given
set_option maxRecDepth 20000 in
theorem ggX8_leastBy_X8_least : GoodIn wsX8_leastBy wsX8_least := goodIn_r _ [12] (by decide +kernel) (by decide +kernel)
set_option maxRecDepth 20000 in
theorem gX8_leastBy_X8_least : GoodIn wsX8_leastBy (va_wsS RX8 137 yX8_least wsX8_least) := goodIn_app (goodIn_of _ (by decide +kernel)) ggX8_leastBy_X8_least
theorem dX8_leastBy_0 : decode cX8_leastBy 0 = .ok (.iconst 0, 1) := by decide +kernel
theorem dX8_leastBy_1 : decode cX8_leastBy 1 = .ok (.istore 4, 2) := by decide +kernel
theorem dX8_leastBy_3 : decode cX8_leastBy 3 = .ok (.iload 4, 2) := by decide +kernel
theorem dX8_leastBy_5 : decode cX8_leastBy 5 = .ok (.iload_n 2, 1) := by decide +kernel
theorem dX8_leastBy_6 : decode cX8_leastBy 6 = .ok (.if_icmp .ge 17, 3) := by decide +kernel
theorem dX8_leastBy_9 : decode cX8_leastBy 9 = .ok (.aload_n 0, 1) := by decide +kernel
theorem dX8_leastBy_10 : decode cX8_leastBy 10 = .ok (.getfield 39, 3) := by decide +kernel
theorem dX8_leastBy_13 : decode cX8_leastBy 13 = .ok (.iload 4, 2) := by decide +kernel
theorem dX8_leastBy_15 : decode cX8_leastBy 15 = .ok (.iconst 0, 1) := by decide +kernel
theorem dX8_leastBy_16 : decode cX8_leastBy 16 = .ok (.iastore, 1) := by decide +kernel
theorem dX8_leastBy_17 : decode cX8_leastBy 17 = .ok (.iinc 4 1, 3) := by decide +kernel
theorem dX8_leastBy_20 : decode cX8_leastBy 20 = .ok (.goto (-17), 3) := by decide +kernel
theorem dX8_leastBy_23 : decode cX8_leastBy 23 = .ok (.iload_n 1, 1) := by decide +kernel
theorem dX8_leastBy_24 : decode cX8_leastBy 24 = .ok (.istore 4, 2) := by decide +kernel
theorem dX8_leastBy_26 : decode cX8_leastBy 26 = .ok (.iload_n 3, 1) := by decide +kernel
theorem dX8_leastBy_27 : decode cX8_leastBy 27 = .ok (.iconst 1, 1) := by decide +kernel
theorem dX8_leastBy_28 : decode cX8_leastBy 28 = .ok (.isub, 1) := by decide +kernel
theorem dX8_leastBy_29 : decode cX8_leastBy 29 = .ok (.istore 5, 2) := by decide +kernel
theorem dX8_leastBy_31 : decode cX8_leastBy 31 = .ok (.iload 5, 2) := by decide +kernel
theorem dX8_leastBy_33 : decode cX8_leastBy 33 = .ok (.ifCond .lt 52, 3) := by decide +kernel
theorem dX8_leastBy_36 : decode cX8_leastBy 36 = .ok (.aload_n 0, 1) := by decide +kernel
theorem dX8_leastBy_37 : decode cX8_leastBy 37 = .ok (.getfield 45, 3) := by decide +kernel
theorem dX8_leastBy_40 : decode cX8_leastBy 40 = .ok (.iload 5, 2) := by decide +kernel
theorem dX8_leastBy_42 : decode cX8_leastBy 42 = .ok (.iload 4, 2) := by decide +kernel
theorem dX8_leastBy_44 : decode cX8_leastBy 44 = .ok (.iload_n 2, 1) := by decide +kernel
theorem dX8_leastBy_45 : decode cX8_leastBy 45 = .ok (.irem, 1) := by decide +kernel
theorem dX8_leastBy_46 : decode cX8_leastBy 46 = .ok (.iastore, 1) := by decide +kernel
theorem dX8_leastBy_47 : decode cX8_leastBy 47 = .ok (.iload 4, 2) := by decide +kernel
theorem dX8_leastBy_49 : decode cX8_leastBy 49 = .ok (.iload_n 2, 1) := by decide +kernel
theorem dX8_leastBy_50 : decode cX8_leastBy 50 = .ok (.idiv, 1) := by decide +kernel
theorem dX8_leastBy_51 : decode cX8_leastBy 51 = .ok (.istore 4, 2) := by decide +kernel
theorem dX8_leastBy_53 : decode cX8_leastBy 53 = .ok (.aload_n 0, 1) := by decide +kernel
theorem dX8_leastBy_54 : decode cX8_leastBy 54 = .ok (.getfield 39, 3) := by decide +kernel
theorem dX8_leastBy_57 : decode cX8_leastBy 57 = .ok (.aload_n 0, 1) := by decide +kernel
theorem dX8_leastBy_58 : decode cX8_leastBy 58 = .ok (.getfield 45, 3) := by decide +kernel
theorem dX8_leastBy_61 : decode cX8_leastBy 61 = .ok (.iload 5, 2) := by decide +kernel
theorem dX8_leastBy_63 : decode cX8_leastBy 63 = .ok (.iaload, 1) := by decide +kernel
theorem dX8_leastBy_64 : decode cX8_leastBy 64 = .ok (.dup2, 1) := by decide +kernel
theorem dX8_leastBy_65 : decode cX8_leastBy 65 = .ok (.iaload, 1) := by decide +kernel
theorem dX8_leastBy_66 : decode cX8_leastBy 66 = .ok (.aload_n 0, 1) := by decide +kernel
theorem dX8_leastBy_67 : decode cX8_leastBy 67 = .ok (.aload_n 0, 1) := by decide +kernel
theorem dX8_leastBy_68 : decode cX8_leastBy 68 = .ok (.getfield 42, 3) := by decide +kernel
theorem dX8_leastBy_71 : decode cX8_leastBy 71 = .ok (.iload 5, 2) := by decide +kernel
theorem dX8_leastBy_73 : decode cX8_leastBy 73 = .ok (.iaload, 1) := by decide +kernel
theorem dX8_leastBy_74 : decode cX8_leastBy 74 = .ok (.invokevirtual 194, 3) := by decide +kernel
theorem dX8_leastBy_77 : decode cX8_leastBy 77 = .ok (.iadd, 1) := by decide +kernel
theorem dX8_leastBy_78 : decode cX8_leastBy 78 = .ok (.iastore, 1) := by decide +kernel
theorem dX8_leastBy_79 : decode cX8_leastBy 79 = .ok (.iinc 5 (-1), 3) := by decide +kernel
theorem dX8_leastBy_82 : decode cX8_leastBy 82 = .ok (.goto (-51), 3) := by decide +kernel
theorem dX8_leastBy_85 : decode cX8_leastBy 85 = .ok (.aload_n 0, 1) := by decide +kernel
theorem dX8_leastBy_86 : decode cX8_leastBy 86 = .ok (.getfield 39, 3) := by decide +kernel
theorem dX8_leastBy_89 : decode cX8_leastBy 89 = .ok (.iconst 0, 1) := by decide +kernel
theorem dX8_leastBy_90 : decode cX8_leastBy 90 = .ok (.iaload, 1) := by decide +kernel
theorem dX8_leastBy_91 : decode cX8_leastBy 91 = .ok (.istore 5, 2) := by decide +kernel
theorem dX8_leastBy_93 : decode cX8_leastBy 93 = .ok (.iconst 1, 1) := by decide +kernel
theorem dX8_leastBy_94 : decode cX8_leastBy 94 = .ok (.istore 6, 2) := by decide +kernel
theorem dX8_leastBy_96 : decode cX8_leastBy 96 = .ok (.iload 6, 2) := by decide +kernel
theorem dX8_leastBy_98 : decode cX8_leastBy 98 = .ok (.iload_n 2, 1) := by decide +kernel
theorem dX8_leastBy_99 : decode cX8_leastBy 99 = .ok (.if_icmp .ge 23, 3) := by decide +kernel
theorem dX8_leastBy_102 : decode cX8_leastBy 102 = .ok (.iload 5, 2) := by decide +kernel
theorem dX8_leastBy_104 : decode cX8_leastBy 104 = .ok (.aload_n 0, 1) := by decide +kernel
theorem dX8_leastBy_105 : decode cX8_leastBy 105 = .ok (.getfield 39, 3) := by decide +kernel
theorem dX8_leastBy_108 : decode cX8_leastBy 108 = .ok (.iload 6, 2) := by decide +kernel
theorem dX8_leastBy_110 : decode cX8_leastBy 110 = .ok (.iaload, 1) := by decide +kernel
theorem dX8_leastBy_111 : decode cX8_leastBy 111 = .ok (.invokestatic 137, 3) := by decide +kernel
theorem dX8_leastBy_114 : decode cX8_leastBy 114 = .ok (.istore 5, 2) := by decide +kernel
theorem dX8_leastBy_116 : decode cX8_leastBy 116 = .ok (.iinc 6 1, 3) := by decide +kernel
theorem dX8_leastBy_119 : decode cX8_leastBy 119 = .ok (.goto (-23), 3) := by decide +kernel
theorem dX8_leastBy_122 : decode cX8_leastBy 122 = .ok (.iload 5, 2) := by decide +kernel
theorem dX8_leastBy_124 : decode cX8_leastBy 124 = .ok (.ireturn, 1) := by decide +kernel
theorem dX8_power_0 : decode cX8_power 0 = .ok (.iconst 1, 1) := by decide +kernel
theorem dX8_power_1 : decode cX8_power 1 = .ok (.istore_n 2, 1) := by decide +kernel
theorem dX8_power_2 : decode cX8_power 2 = .ok (.iconst 0, 1) := by decide +kernel
theorem dX8_power_3 : decode cX8_power 3 = .ok (.istore_n 3, 1) := by decide +kernel
theorem dX8_power_4 : decode cX8_power 4 = .ok (.iload_n 3, 1) := by decide +kernel
theorem dX8_power_5 : decode cX8_power 5 = .ok (.iload_n 1, 1) := by decide +kernel
theorem dX8_power_6 : decode cX8_power 6 = .ok (.if_icmp .ge 13, 3) := by decide +kernel
theorem dX8_power_9 : decode cX8_power 9 = .ok (.iload_n 2, 1) := by decide +kernel
theorem dX8_power_10 : decode cX8_power 10 = .ok (.iload_n 0, 1) := by decide +kernel
theorem dX8_power_11 : decode cX8_power 11 = .ok (.imul, 1) := by decide +kernel
theorem dX8_power_12 : decode cX8_power 12 = .ok (.istore_n 2, 1) := by decide +kernel
theorem dX8_power_13 : decode cX8_power 13 = .ok (.iinc 3 1, 3) := by decide +kernel
theorem dX8_power_16 : decode cX8_power 16 = .ok (.goto (-12), 3) := by decide +kernel
theorem dX8_power_19 : decode cX8_power 19 = .ok (.iload_n 2, 1) := by decide +kernel
theorem dX8_power_20 : decode cX8_power 20 = .ok (.ireturn, 1) := by decide +kernel
set_option maxRecDepth 20000 in
theorem ggX8_will_X8_isPerson : GoodIn wsX8_will wsX8_isPerson := goodIn_r _ [9, 1, 10, 11, 8, 12, 36, 37, 38, 39, 40, 41, 42, 43, 44, 45, 46, 47, 48, 49, 50, 51, 52, 53, 54, 55] (by decide +kernel) (by decide +kernel)
set_option maxRecDepth 20000 in
theorem gX8_will_X8_isPerson : GoodIn wsX8_will (wsV RX8 68 RX8 yX8_isPerson wsX8_isPerson) := goodIn_app (goodIn_of _ (by decide +kernel)) ggX8_will_X8_isPerson
set_option maxRecDepth 20000 in
theorem ggX8_will_X8_in : GoodIn wsX8_will wsX8_in := goodIn_r _ [12] (by decide +kernel) (by decide +kernel)
set_option maxRecDepth 20000 in
theorem gX8_will_X8_in : GoodIn wsX8_will (va_wsS RX8 52 yX8_in wsX8_in) := goodIn_app (goodIn_of _ (by decide +kernel)) ggX8_will_X8_in
set_option maxRecDepth 20000 in
theorem ggX8_will_X8_ones : GoodIn wsX8_will wsX8_ones := goodIn_r _ [15] (by decide +kernel) (by decide +kernel)
set_option maxRecDepth 20000 in
theorem gX8_will_X8_ones : GoodIn wsX8_will (va_wsS RX8 182 yX8_ones wsX8_ones) := goodIn_app (goodIn_of _ (by decide +kernel)) ggX8_will_X8_ones
set_option maxRecDepth 20000 in
theorem ggX8_will_X8_badAs : GoodIn wsX8_will wsX8_badAs := goodIn_r _ [19, 20, 36, 37, 38, 39, 40, 41, 42, 43, 44, 45, 46, 47, 48, 49, 50, 51, 52, 53, 54, 55] (by decide +kernel) (by decide +kernel)
set_option maxRecDepth 20000 in
theorem gX8_will_X8_badAs : GoodIn wsX8_will (wsV RX8 212 RX8 yX8_badAs wsX8_badAs) := goodIn_app (goodIn_of _ (by decide +kernel)) ggX8_will_X8_badAs
set_option maxRecDepth 20000 in
theorem ggX8_will_X8_power : GoodIn wsX8_will wsX8_power := goodIn_r _ [23] (by decide +kernel) (by decide +kernel)
set_option maxRecDepth 20000 in
theorem gX8_will_X8_power : GoodIn wsX8_will (va_wsS RX8 215 yX8_power wsX8_power) := goodIn_app (goodIn_of _ (by decide +kernel)) ggX8_will_X8_power
set_option maxRecDepth 20000 in
theorem ggX8_will_X8_leastBy : GoodIn wsX8_will wsX8_leastBy := goodIn_r _ [27, 28, 4, 3, 29, 30, 31, 8, 32, 1, 33, 34, 35, 36, 37, 38, 39, 40, 41, 42, 43, 44, 45, 46, 47, 48, 49, 50, 51, 52, 53, 54, 55] (by decide +kernel) (by decide +kernel)
set_option maxRecDepth 20000 in
theorem gX8_will_X8_leastBy : GoodIn wsX8_will (wsV RX8 218 RX8 yX8_leastBy wsX8_leastBy) := goodIn_app (goodIn_of _ (by decide +kernel)) ggX8_will_X8_leastBy
theorem dX8_will_0 : decode cX8_will 0 = .ok (.aload_n 0, 1) := by decide +kernel
theorem dX8_will_1 : decode cX8_will 1 = .ok (.iload_n 1, 1) := by decide +kernel
theorem dX8_will_2 : decode cX8_will 2 = .ok (.invokevirtual 68, 3) := by decide +kernel
theorem dX8_will_5 : decode cX8_will 5 = .ok (.ifCond .eq 34, 3) := by decide +kernel
theorem dX8_will_8 : decode cX8_will 8 = .ok (.iload_n 2, 1) := by decide +kernel
theorem dX8_will_9 : decode cX8_will 9 = .ok (.iconst 0, 1) := by decide +kernel
theorem dX8_will_10 : decode cX8_will 10 = .ok (.iconst 1, 1) := by decide +kernel
theorem dX8_will_11 : decode cX8_will 11 = .ok (.aload_n 0, 1) := by decide +kernel
theorem dX8_will_12 : decode cX8_will 12 = .ok (.getfield 7, 3) := by decide +kernel
theorem dX8_will_15 : decode cX8_will 15 = .ok (.iconst 3, 1) := by decide +kernel
theorem dX8_will_16 : decode cX8_will 16 = .ok (.iaload, 1) := by decide +kernel
theorem dX8_will_17 : decode cX8_will 17 = .ok (.ishl, 1) := by decide +kernel
theorem dX8_will_18 : decode cX8_will 18 = .ok (.iconst 1, 1) := by decide +kernel
theorem dX8_will_19 : decode cX8_will 19 = .ok (.isub, 1) := by decide +kernel
theorem dX8_will_20 : decode cX8_will 20 = .ok (.invokestatic 52, 3) := by decide +kernel
theorem dX8_will_23 : decode cX8_will 23 = .ok (.ifCond .eq 16, 3) := by decide +kernel
theorem dX8_will_26 : decode cX8_will 26 = .ok (.iload_n 2, 1) := by decide +kernel
theorem dX8_will_27 : decode cX8_will 27 = .ok (.invokestatic 182, 3) := by decide +kernel
theorem dX8_will_30 : decode cX8_will 30 = .ok (.iconst 3, 1) := by decide +kernel
theorem dX8_will_31 : decode cX8_will 31 = .ok (.if_icmp .gt 8, 3) := by decide +kernel
theorem dX8_will_34 : decode cX8_will 34 = .ok (.iload_n 3, 1) := by decide +kernel
theorem dX8_will_35 : decode cX8_will 35 = .ok (.iconst (-1), 1) := by decide +kernel
theorem dX8_will_36 : decode cX8_will 36 = .ok (.if_icmp .ge 10, 3) := by decide +kernel
theorem dX8_will_39 : decode cX8_will 39 = .ok (.aload_n 0, 1) := by decide +kernel
theorem dX8_will_40 : decode cX8_will 40 = .ok (.bipush (-10), 2) := by decide +kernel
theorem dX8_will_42 : decode cX8_will 42 = .ok (.invokevirtual 212, 3) := by decide +kernel
theorem dX8_will_45 : decode cX8_will 45 = .ok (.ireturn, 1) := by decide +kernel
theorem dX8_will_46 : decode cX8_will 46 = .ok (.iload_n 2, 1) := by decide +kernel
theorem dX8_will_47 : decode cX8_will 47 = .ok (.ifCond .eq 12, 3) := by decide +kernel
theorem dX8_will_50 : decode cX8_will 50 = .ok (.iload_n 2, 1) := by decide +kernel
theorem dX8_will_51 : decode cX8_will 51 = .ok (.iload_n 1, 1) := by decide +kernel
theorem dX8_will_52 : decode cX8_will 52 = .ok (.ishr, 1) := by decide +kernel
theorem dX8_will_53 : decode cX8_will 53 = .ok (.iconst 1, 1) := by decide +kernel
theorem dX8_will_54 : decode cX8_will 54 = .ok (.iand, 1) := by decide +kernel
theorem dX8_will_55 : decode cX8_will 55 = .ok (.iconst 1, 1) := by decide +kernel
theorem dX8_will_56 : decode cX8_will 56 = .ok (.if_icmp .ne 5, 3) := by decide +kernel
theorem dX8_will_59 : decode cX8_will 59 = .ok (.iconst (-1), 1) := by decide +kernel
theorem dX8_will_60 : decode cX8_will 60 = .ok (.ireturn, 1) := by decide +kernel
theorem dX8_will_61 : decode cX8_will 61 = .ok (.iconst 0, 1) := by decide +kernel
theorem dX8_will_62 : decode cX8_will 62 = .ok (.istore 4, 2) := by decide +kernel
theorem dX8_will_64 : decode cX8_will 64 = .ok (.iconst 0, 1) := by decide +kernel
theorem dX8_will_65 : decode cX8_will 65 = .ok (.istore 5, 2) := by decide +kernel
theorem dX8_will_67 : decode cX8_will 67 = .ok (.iload 5, 2) := by decide +kernel
theorem dX8_will_69 : decode cX8_will 69 = .ok (.aload_n 0, 1) := by decide +kernel
theorem dX8_will_70 : decode cX8_will 70 = .ok (.getfield 7, 3) := by decide +kernel
theorem dX8_will_73 : decode cX8_will 73 = .ok (.iconst 3, 1) := by decide +kernel
theorem dX8_will_74 : decode cX8_will 74 = .ok (.iaload, 1) := by decide +kernel
theorem dX8_will_75 : decode cX8_will 75 = .ok (.if_icmp .ge 31, 3) := by decide +kernel
theorem dX8_will_78 : decode cX8_will 78 = .ok (.iload_n 2, 1) := by decide +kernel
theorem dX8_will_79 : decode cX8_will 79 = .ok (.iload 5, 2) := by decide +kernel
theorem dX8_will_81 : decode cX8_will 81 = .ok (.ishr, 1) := by decide +kernel
theorem dX8_will_82 : decode cX8_will 82 = .ok (.iconst 1, 1) := by decide +kernel
theorem dX8_will_83 : decode cX8_will 83 = .ok (.iand, 1) := by decide +kernel
theorem dX8_will_84 : decode cX8_will 84 = .ok (.iconst 1, 1) := by decide +kernel
theorem dX8_will_85 : decode cX8_will 85 = .ok (.if_icmp .ne 15, 3) := by decide +kernel
theorem dX8_will_88 : decode cX8_will 88 = .ok (.aload_n 0, 1) := by decide +kernel
theorem dX8_will_89 : decode cX8_will 89 = .ok (.getfield 36, 3) := by decide +kernel
theorem dX8_will_92 : decode cX8_will 92 = .ok (.iload 4, 2) := by decide +kernel
theorem dX8_will_94 : decode cX8_will 94 = .ok (.iload 5, 2) := by decide +kernel
theorem dX8_will_96 : decode cX8_will 96 = .ok (.iastore, 1) := by decide +kernel
theorem dX8_will_97 : decode cX8_will 97 = .ok (.iinc 4 1, 3) := by decide +kernel
theorem dX8_will_100 : decode cX8_will 100 = .ok (.iinc 5 1, 3) := by decide +kernel
theorem dX8_will_103 : decode cX8_will 103 = .ok (.goto (-36), 3) := by decide +kernel
theorem dX8_will_106 : decode cX8_will 106 = .ok (.iconst 0, 1) := by decide +kernel
theorem dX8_will_107 : decode cX8_will 107 = .ok (.istore 5, 2) := by decide +kernel
theorem dX8_will_109 : decode cX8_will 109 = .ok (.iconst 0, 1) := by decide +kernel
theorem dX8_will_110 : decode cX8_will 110 = .ok (.istore 6, 2) := by decide +kernel
theorem dX8_will_112 : decode cX8_will 112 = .ok (.iload 6, 2) := by decide +kernel
theorem dX8_will_114 : decode cX8_will 114 = .ok (.aload_n 0, 1) := by decide +kernel
theorem dX8_will_115 : decode cX8_will 115 = .ok (.getfield 7, 3) := by decide +kernel
theorem dX8_will_118 : decode cX8_will 118 = .ok (.iconst 4, 1) := by decide +kernel
theorem dX8_will_119 : decode cX8_will 119 = .ok (.iaload, 1) := by decide +kernel
theorem dX8_will_120 : decode cX8_will 120 = .ok (.if_icmp .ge 70, 3) := by decide +kernel
theorem dX8_will_123 : decode cX8_will 123 = .ok (.aload_n 0, 1) := by decide +kernel
theorem dX8_will_124 : decode cX8_will 124 = .ok (.getfield 7, 3) := by decide +kernel
theorem dX8_will_127 : decode cX8_will 127 = .ok (.bipush 26, 2) := by decide +kernel
theorem dX8_will_129 : decode cX8_will 129 = .ok (.iconst 5, 1) := by decide +kernel
theorem dX8_will_130 : decode cX8_will 130 = .ok (.iload 6, 2) := by decide +kernel
theorem dX8_will_132 : decode cX8_will 132 = .ok (.imul, 1) := by decide +kernel
theorem dX8_will_133 : decode cX8_will 133 = .ok (.iadd, 1) := by decide +kernel
theorem dX8_will_134 : decode cX8_will 134 = .ok (.iconst 3, 1) := by decide +kernel
theorem dX8_will_135 : decode cX8_will 135 = .ok (.iadd, 1) := by decide +kernel
theorem dX8_will_136 : decode cX8_will 136 = .ok (.iaload, 1) := by decide +kernel
theorem dX8_will_137 : decode cX8_will 137 = .ok (.istore 7, 2) := by decide +kernel
theorem dX8_will_139 : decode cX8_will 139 = .ok (.aload_n 0, 1) := by decide +kernel
theorem dX8_will_140 : decode cX8_will 140 = .ok (.getfield 7, 3) := by decide +kernel
theorem dX8_will_143 : decode cX8_will 143 = .ok (.bipush 26, 2) := by decide +kernel
theorem dX8_will_145 : decode cX8_will 145 = .ok (.iconst 5, 1) := by decide +kernel
theorem dX8_will_146 : decode cX8_will 146 = .ok (.iload 6, 2) := by decide +kernel
theorem dX8_will_148 : decode cX8_will 148 = .ok (.imul, 1) := by decide +kernel
theorem dX8_will_149 : decode cX8_will 149 = .ok (.iadd, 1) := by decide +kernel
theorem dX8_will_150 : decode cX8_will 150 = .ok (.iaload, 1) := by decide +kernel
theorem dX8_will_151 : decode cX8_will 151 = .ok (.iload_n 1, 1) := by decide +kernel
theorem dX8_will_152 : decode cX8_will 152 = .ok (.if_icmp .ne 32, 3) := by decide +kernel
theorem dX8_will_155 : decode cX8_will 155 = .ok (.iload 7, 2) := by decide +kernel
theorem dX8_will_157 : decode cX8_will 157 = .ok (.ifCond .eq 15, 3) := by decide +kernel
theorem dX8_will_160 : decode cX8_will 160 = .ok (.iload 7, 2) := by decide +kernel
theorem dX8_will_162 : decode cX8_will 162 = .ok (.iconst 2, 1) := by decide +kernel
theorem dX8_will_163 : decode cX8_will 163 = .ok (.if_icmp .eq 9, 3) := by decide +kernel
theorem dX8_will_166 : decode cX8_will 166 = .ok (.iload 7, 2) := by decide +kernel
theorem dX8_will_168 : decode cX8_will 168 = .ok (.iconst 3, 1) := by decide +kernel
theorem dX8_will_169 : decode cX8_will 169 = .ok (.if_icmp .ne 15, 3) := by decide +kernel
theorem dX8_will_172 : decode cX8_will 172 = .ok (.aload_n 0, 1) := by decide +kernel
theorem dX8_will_173 : decode cX8_will 173 = .ok (.getfield 42, 3) := by decide +kernel
theorem dX8_will_176 : decode cX8_will 176 = .ok (.iload 5, 2) := by decide +kernel
theorem dX8_will_178 : decode cX8_will 178 = .ok (.iload 6, 2) := by decide +kernel
theorem dX8_will_180 : decode cX8_will 180 = .ok (.iastore, 1) := by decide +kernel
theorem dX8_will_181 : decode cX8_will 181 = .ok (.iinc 5 1, 3) := by decide +kernel
theorem dX8_will_184 : decode cX8_will 184 = .ok (.iinc 6 1, 3) := by decide +kernel
theorem dX8_will_187 : decode cX8_will 187 = .ok (.goto (-75), 3) := by decide +kernel
theorem dX8_will_190 : decode cX8_will 190 = .ok (.iconst (-1), 1) := by decide +kernel
theorem dX8_will_191 : decode cX8_will 191 = .ok (.istore 6, 2) := by decide +kernel
theorem dX8_will_193 : decode cX8_will 193 = .ok (.iconst 0, 1) := by decide +kernel
theorem dX8_will_194 : decode cX8_will 194 = .ok (.istore 7, 2) := by decide +kernel
theorem dX8_will_196 : decode cX8_will 196 = .ok (.iconst 0, 1) := by decide +kernel
theorem dX8_will_197 : decode cX8_will 197 = .ok (.istore 8, 2) := by decide +kernel
theorem dX8_will_199 : decode cX8_will 199 = .ok (.iload 8, 2) := by decide +kernel
theorem dX8_will_201 : decode cX8_will 201 = .ok (.iload 4, 2) := by decide +kernel
theorem dX8_will_203 : decode cX8_will 203 = .ok (.iload 5, 2) := by decide +kernel
theorem dX8_will_205 : decode cX8_will 205 = .ok (.invokestatic 215, 3) := by decide +kernel
theorem dX8_will_208 : decode cX8_will 208 = .ok (.if_icmp .ge 53, 3) := by decide +kernel
theorem dX8_will_211 : decode cX8_will 211 = .ok (.aload_n 0, 1) := by decide +kernel
theorem dX8_will_212 : decode cX8_will 212 = .ok (.iload 8, 2) := by decide +kernel
theorem dX8_will_214 : decode cX8_will 214 = .ok (.iload 4, 2) := by decide +kernel
theorem dX8_will_216 : decode cX8_will 216 = .ok (.iload 5, 2) := by decide +kernel
theorem dX8_will_218 : decode cX8_will 218 = .ok (.invokevirtual 218, 3) := by decide +kernel
theorem dX8_will_221 : decode cX8_will 221 = .ok (.istore 9, 2) := by decide +kernel
theorem dX8_will_223 : decode cX8_will 223 = .ok (.iload 9, 2) := by decide +kernel
theorem dX8_will_225 : decode cX8_will 225 = .ok (.iload 6, 2) := by decide +kernel
theorem dX8_will_227 : decode cX8_will 227 = .ok (.if_icmp .le 8, 3) := by decide +kernel
theorem dX8_will_230 : decode cX8_will 230 = .ok (.iload 8, 2) := by decide +kernel
theorem dX8_will_232 : decode cX8_will 232 = .ok (.goto 5, 3) := by decide +kernel
theorem dX8_will_235 : decode cX8_will 235 = .ok (.iload 7, 2) := by decide +kernel
theorem dX8_will_237 : decode cX8_will 237 = .ok (.istore 7, 2) := by decide +kernel
theorem dX8_will_239 : decode cX8_will 239 = .ok (.iload 9, 2) := by decide +kernel
theorem dX8_will_241 : decode cX8_will 241 = .ok (.iload 6, 2) := by decide +kernel
theorem dX8_will_243 : decode cX8_will 243 = .ok (.if_icmp .le 8, 3) := by decide +kernel
theorem dX8_will_246 : decode cX8_will 246 = .ok (.iload 9, 2) := by decide +kernel
theorem dX8_will_248 : decode cX8_will 248 = .ok (.goto 5, 3) := by decide +kernel
theorem dX8_will_251 : decode cX8_will 251 = .ok (.iload 6, 2) := by decide +kernel
theorem dX8_will_253 : decode cX8_will 253 = .ok (.istore 6, 2) := by decide +kernel
theorem dX8_will_255 : decode cX8_will 255 = .ok (.iinc 8 1, 3) := by decide +kernel
theorem dX8_will_258 : decode cX8_will 258 = .ok (.goto (-59), 3) := by decide +kernel
theorem dX8_will_261 : decode cX8_will 261 = .ok (.aload_n 0, 1) := by decide +kernel
theorem dX8_will_262 : decode cX8_will 262 = .ok (.iload 7, 2) := by decide +kernel
theorem dX8_will_264 : decode cX8_will 264 = .ok (.iload 4, 2) := by decide +kernel
theorem dX8_will_266 : decode cX8_will 266 = .ok (.iload 5, 2) := by decide +kernel
theorem dX8_will_268 : decode cX8_will 268 = .ok (.invokevirtual 218, 3) := by decide +kernel
theorem dX8_will_271 : decode cX8_will 271 = .ok (.pop, 1) := by decide +kernel
theorem dX8_will_272 : decode cX8_will 272 = .ok (.iload_n 3, 1) := by decide +kernel
theorem dX8_will_273 : decode cX8_will 273 = .ok (.iconst (-1), 1) := by decide +kernel
theorem dX8_will_274 : decode cX8_will 274 = .ok (.if_icmp .ne 8, 3) := by decide +kernel
theorem dX8_will_277 : decode cX8_will 277 = .ok (.iload 6, 2) := by decide +kernel
theorem dX8_will_279 : decode cX8_will 279 = .ok (.goto 25, 3) := by decide +kernel
theorem dX8_will_282 : decode cX8_will 282 = .ok (.iload_n 3, 1) := by decide +kernel
theorem dX8_will_283 : decode cX8_will 283 = .ok (.iload 5, 2) := by decide +kernel
theorem dX8_will_285 : decode cX8_will 285 = .ok (.if_icmp .ge 17, 3) := by decide +kernel
theorem dX8_will_288 : decode cX8_will 288 = .ok (.aload_n 0, 1) := by decide +kernel
theorem dX8_will_289 : decode cX8_will 289 = .ok (.getfield 36, 3) := by decide +kernel
theorem dX8_will_292 : decode cX8_will 292 = .ok (.aload_n 0, 1) := by decide +kernel
theorem dX8_will_293 : decode cX8_will 293 = .ok (.getfield 45, 3) := by decide +kernel
theorem dX8_will_296 : decode cX8_will 296 = .ok (.iload_n 3, 1) := by decide +kernel
theorem dX8_will_297 : decode cX8_will 297 = .ok (.iaload, 1) := by decide +kernel
theorem dX8_will_298 : decode cX8_will 298 = .ok (.iaload, 1) := by decide +kernel
theorem dX8_will_299 : decode cX8_will 299 = .ok (.goto 5, 3) := by decide +kernel
theorem dX8_will_302 : decode cX8_will 302 = .ok (.bipush (-5), 2) := by decide +kernel
theorem dX8_will_304 : decode cX8_will 304 = .ok (.ireturn, 1) := by decide +kernel
set_option maxRecDepth 20000 in
theorem ggX8_whom_X8_in : GoodIn wsX8_whom wsX8_in := goodIn_r _ [6] (by decide +kernel) (by decide +kernel)
set_option maxRecDepth 20000 in
theorem gX8_whom_X8_in : GoodIn wsX8_whom (va_wsS RX8 52 yX8_in wsX8_in) := goodIn_app (goodIn_of _ (by decide +kernel)) ggX8_whom_X8_in
set_option maxRecDepth 20000 in
theorem ggX8_whom_X8_bad : GoodIn wsX8_whom wsX8_bad := goodIn_r _ [10, 11, 42, 43, 44, 45, 46, 47, 48, 49, 50, 51, 52, 53, 54, 55, 56, 57, 58, 59, 60, 61] (by decide +kernel) (by decide +kernel)
set_option maxRecDepth 20000 in
theorem gX8_whom_X8_bad : GoodIn wsX8_whom (wsV RX8 57 RX8 yX8_bad wsX8_bad) := goodIn_app (goodIn_of _ (by decide +kernel)) ggX8_whom_X8_bad
set_option maxRecDepth 20000 in
theorem ggX8_whom_X8_goes : GoodIn wsX8_whom wsX8_goes := goodIn_r _ [15, 2, 16, 17, 18, 5, 19, 1, 20, 21, 22, 23, 24, 25, 26, 27, 28, 29, 30, 31, 32, 33, 34, 35, 36, 37, 38, 39, 40, 41, 42, 43, 44, 45, 46, 47, 48, 49, 50, 51, 52, 53, 54, 55, 56, 57, 58, 59, 60, 61] (by decide +kernel) (by decide +kernel)
set_option maxRecDepth 20000 in
theorem gX8_whom_X8_goes : GoodIn wsX8_whom (wsV RX8 171 RX8 yX8_goes wsX8_goes) := goodIn_app (goodIn_of _ (by decide +kernel)) ggX8_whom_X8_goes
set_option maxRecDepth 20000 in
theorem ggX8_whom_X8_month : GoodIn wsX8_whom wsX8_month := goodIn_r _ [25, 26, 27, 5, 28, 29, 30, 31, 32, 33, 34, 35, 36, 37, 38, 39, 40, 41] (by decide +kernel) (by decide +kernel)
set_option maxRecDepth 20000 in
theorem gX8_whom_X8_month : GoodIn wsX8_whom (va_wsS RX8 162 yX8_month wsX8_month) := goodIn_app (goodIn_of _ (by decide +kernel)) ggX8_whom_X8_month
set_option maxRecDepth 20000 in
theorem ggX8_whom_X8_whole : GoodIn wsX8_whom wsX8_whole := goodIn_r _ [41] (by decide +kernel) (by decide +kernel)
set_option maxRecDepth 20000 in
theorem gX8_whom_X8_whole : GoodIn wsX8_whom (va_wsS RX8 140 yX8_whole wsX8_whole) := goodIn_app (goodIn_of _ (by decide +kernel)) ggX8_whom_X8_whole
theorem dX8_whom_0 : decode cX8_whom 0 = .ok (.iload_n 1, 1) := by decide +kernel
theorem dX8_whom_1 : decode cX8_whom 1 = .ok (.iconst 0, 1) := by decide +kernel
theorem dX8_whom_2 : decode cX8_whom 2 = .ok (.bipush 59, 2) := by decide +kernel
theorem dX8_whom_4 : decode cX8_whom 4 = .ok (.invokestatic 52, 3) := by decide +kernel
theorem dX8_whom_7 : decode cX8_whom 7 = .ok (.ifCond .ne 8, 3) := by decide +kernel
theorem dX8_whom_10 : decode cX8_whom 10 = .ok (.aload_n 0, 1) := by decide +kernel
theorem dX8_whom_11 : decode cX8_whom 11 = .ok (.invokevirtual 57, 3) := by decide +kernel
theorem dX8_whom_14 : decode cX8_whom 14 = .ok (.ireturn, 1) := by decide +kernel
theorem dX8_whom_15 : decode cX8_whom 15 = .ok (.aload_n 0, 1) := by decide +kernel
theorem dX8_whom_16 : decode cX8_whom 16 = .ok (.iload_n 1, 1) := by decide +kernel
theorem dX8_whom_17 : decode cX8_whom 17 = .ok (.invokevirtual 171, 3) := by decide +kernel
theorem dX8_whom_20 : decode cX8_whom 20 = .ok (.iconst 0, 1) := by decide +kernel
theorem dX8_whom_21 : decode cX8_whom 21 = .ok (.istore_n 3, 1) := by decide +kernel
theorem dX8_whom_22 : decode cX8_whom 22 = .ok (.iconst 0, 1) := by decide +kernel
theorem dX8_whom_23 : decode cX8_whom 23 = .ok (.istore 4, 2) := by decide +kernel
theorem dX8_whom_25 : decode cX8_whom 25 = .ok (.iload 4, 2) := by decide +kernel
theorem dX8_whom_27 : decode cX8_whom 27 = .ok (.aload_n 0, 1) := by decide +kernel
theorem dX8_whom_28 : decode cX8_whom 28 = .ok (.getfield 7, 3) := by decide +kernel
theorem dX8_whom_31 : decode cX8_whom 31 = .ok (.iconst 4, 1) := by decide +kernel
theorem dX8_whom_32 : decode cX8_whom 32 = .ok (.iaload, 1) := by decide +kernel
theorem dX8_whom_33 : decode cX8_whom 33 = .ok (.if_icmp .ge 38, 3) := by decide +kernel
theorem dX8_whom_36 : decode cX8_whom 36 = .ok (.iload_n 3, 1) := by decide +kernel
theorem dX8_whom_37 : decode cX8_whom 37 = .ok (.aload_n 0, 1) := by decide +kernel
theorem dX8_whom_38 : decode cX8_whom 38 = .ok (.getfield 13, 3) := by decide +kernel
theorem dX8_whom_41 : decode cX8_whom 41 = .ok (.bipush 26, 2) := by decide +kernel
theorem dX8_whom_43 : decode cX8_whom 43 = .ok (.iconst 5, 1) := by decide +kernel
theorem dX8_whom_44 : decode cX8_whom 44 = .ok (.iload 4, 2) := by decide +kernel
theorem dX8_whom_46 : decode cX8_whom 46 = .ok (.imul, 1) := by decide +kernel
theorem dX8_whom_47 : decode cX8_whom 47 = .ok (.iadd, 1) := by decide +kernel
theorem dX8_whom_48 : decode cX8_whom 48 = .ok (.iconst 3, 1) := by decide +kernel
theorem dX8_whom_49 : decode cX8_whom 49 = .ok (.iadd, 1) := by decide +kernel
theorem dX8_whom_50 : decode cX8_whom 50 = .ok (.iaload, 1) := by decide +kernel
theorem dX8_whom_51 : decode cX8_whom 51 = .ok (.iconst 1, 1) := by decide +kernel
theorem dX8_whom_52 : decode cX8_whom 52 = .ok (.if_icmp .ne 10, 3) := by decide +kernel
theorem dX8_whom_55 : decode cX8_whom 55 = .ok (.iconst 1, 1) := by decide +kernel
theorem dX8_whom_56 : decode cX8_whom 56 = .ok (.iload 4, 2) := by decide +kernel
theorem dX8_whom_58 : decode cX8_whom 58 = .ok (.ishl, 1) := by decide +kernel
theorem dX8_whom_59 : decode cX8_whom 59 = .ok (.goto 4, 3) := by decide +kernel
theorem dX8_whom_62 : decode cX8_whom 62 = .ok (.iconst 0, 1) := by decide +kernel
theorem dX8_whom_63 : decode cX8_whom 63 = .ok (.ior, 1) := by decide +kernel
theorem dX8_whom_64 : decode cX8_whom 64 = .ok (.istore_n 3, 1) := by decide +kernel
theorem dX8_whom_65 : decode cX8_whom 65 = .ok (.iinc 4 1, 3) := by decide +kernel
theorem dX8_whom_68 : decode cX8_whom 68 = .ok (.goto (-43), 3) := by decide +kernel
theorem dX8_whom_71 : decode cX8_whom 71 = .ok (.aload_n 0, 1) := by decide +kernel
theorem dX8_whom_72 : decode cX8_whom 72 = .ok (.getfield 13, 3) := by decide +kernel
theorem dX8_whom_75 : decode cX8_whom 75 = .ok (.iconst 0, 1) := by decide +kernel
theorem dX8_whom_76 : decode cX8_whom 76 = .ok (.invokestatic 162, 3) := by decide +kernel
theorem dX8_whom_79 : decode cX8_whom 79 = .ok (.pop, 1) := by decide +kernel
theorem dX8_whom_80 : decode cX8_whom 80 = .ok (.iconst 0, 1) := by decide +kernel
theorem dX8_whom_81 : decode cX8_whom 81 = .ok (.istore 4, 2) := by decide +kernel
theorem dX8_whom_83 : decode cX8_whom 83 = .ok (.iconst 0, 1) := by decide +kernel
theorem dX8_whom_84 : decode cX8_whom 84 = .ok (.istore 5, 2) := by decide +kernel
theorem dX8_whom_86 : decode cX8_whom 86 = .ok (.iload 5, 2) := by decide +kernel
theorem dX8_whom_88 : decode cX8_whom 88 = .ok (.aload_n 0, 1) := by decide +kernel
theorem dX8_whom_89 : decode cX8_whom 89 = .ok (.getfield 7, 3) := by decide +kernel
theorem dX8_whom_92 : decode cX8_whom 92 = .ok (.iconst 4, 1) := by decide +kernel
theorem dX8_whom_93 : decode cX8_whom 93 = .ok (.iaload, 1) := by decide +kernel
theorem dX8_whom_94 : decode cX8_whom 94 = .ok (.if_icmp .ge 74, 3) := by decide +kernel
theorem dX8_whom_97 : decode cX8_whom 97 = .ok (.aload_n 0, 1) := by decide +kernel
theorem dX8_whom_98 : decode cX8_whom 98 = .ok (.getfield 13, 3) := by decide +kernel
theorem dX8_whom_101 : decode cX8_whom 101 = .ok (.bipush 26, 2) := by decide +kernel
theorem dX8_whom_103 : decode cX8_whom 103 = .ok (.iconst 5, 1) := by decide +kernel
theorem dX8_whom_104 : decode cX8_whom 104 = .ok (.iload 5, 2) := by decide +kernel
theorem dX8_whom_106 : decode cX8_whom 106 = .ok (.imul, 1) := by decide +kernel
theorem dX8_whom_107 : decode cX8_whom 107 = .ok (.iadd, 1) := by decide +kernel
theorem dX8_whom_108 : decode cX8_whom 108 = .ok (.iconst 3, 1) := by decide +kernel
theorem dX8_whom_109 : decode cX8_whom 109 = .ok (.iadd, 1) := by decide +kernel
theorem dX8_whom_110 : decode cX8_whom 110 = .ok (.iaload, 1) := by decide +kernel
theorem dX8_whom_111 : decode cX8_whom 111 = .ok (.iconst 1, 1) := by decide +kernel
theorem dX8_whom_112 : decode cX8_whom 112 = .ok (.if_icmp .ne 29, 3) := by decide +kernel
theorem dX8_whom_115 : decode cX8_whom 115 = .ok (.iload_n 3, 1) := by decide +kernel
theorem dX8_whom_116 : decode cX8_whom 116 = .ok (.iload 5, 2) := by decide +kernel
theorem dX8_whom_118 : decode cX8_whom 118 = .ok (.ishr, 1) := by decide +kernel
theorem dX8_whom_119 : decode cX8_whom 119 = .ok (.iconst 1, 1) := by decide +kernel
theorem dX8_whom_120 : decode cX8_whom 120 = .ok (.iand, 1) := by decide +kernel
theorem dX8_whom_121 : decode cX8_whom 121 = .ok (.ifCond .ne 20, 3) := by decide +kernel
theorem dX8_whom_124 : decode cX8_whom 124 = .ok (.aload_n 0, 1) := by decide +kernel
theorem dX8_whom_125 : decode cX8_whom 125 = .ok (.getfield 13, 3) := by decide +kernel
theorem dX8_whom_128 : decode cX8_whom 128 = .ok (.iload 5, 2) := by decide +kernel
theorem dX8_whom_130 : decode cX8_whom 130 = .ok (.invokestatic 140, 3) := by decide +kernel
theorem dX8_whom_133 : decode cX8_whom 133 = .ok (.iload_n 2, 1) := by decide +kernel
theorem dX8_whom_134 : decode cX8_whom 134 = .ok (.if_icmp .ne 7, 3) := by decide +kernel
theorem dX8_whom_137 : decode cX8_whom 137 = .ok (.iconst 1, 1) := by decide +kernel
theorem dX8_whom_138 : decode cX8_whom 138 = .ok (.goto 4, 3) := by decide +kernel
theorem dX8_whom_141 : decode cX8_whom 141 = .ok (.iconst 0, 1) := by decide +kernel
theorem dX8_whom_142 : decode cX8_whom 142 = .ok (.istore 6, 2) := by decide +kernel
theorem dX8_whom_144 : decode cX8_whom 144 = .ok (.iload 4, 2) := by decide +kernel
theorem dX8_whom_146 : decode cX8_whom 146 = .ok (.iload 6, 2) := by decide +kernel
theorem dX8_whom_148 : decode cX8_whom 148 = .ok (.ifCond .eq 10, 3) := by decide +kernel
theorem dX8_whom_151 : decode cX8_whom 151 = .ok (.iconst 1, 1) := by decide +kernel
theorem dX8_whom_152 : decode cX8_whom 152 = .ok (.iload 5, 2) := by decide +kernel
theorem dX8_whom_154 : decode cX8_whom 154 = .ok (.ishl, 1) := by decide +kernel
theorem dX8_whom_155 : decode cX8_whom 155 = .ok (.goto 4, 3) := by decide +kernel
theorem dX8_whom_158 : decode cX8_whom 158 = .ok (.iconst 0, 1) := by decide +kernel
theorem dX8_whom_159 : decode cX8_whom 159 = .ok (.ior, 1) := by decide +kernel
theorem dX8_whom_160 : decode cX8_whom 160 = .ok (.istore 4, 2) := by decide +kernel
theorem dX8_whom_162 : decode cX8_whom 162 = .ok (.iinc 5 1, 3) := by decide +kernel
theorem dX8_whom_165 : decode cX8_whom 165 = .ok (.goto (-79), 3) := by decide +kernel
theorem dX8_whom_168 : decode cX8_whom 168 = .ok (.iload 4, 2) := by decide +kernel
theorem dX8_whom_170 : decode cX8_whom 170 = .ok (.ireturn, 1) := by decide +kernel
set_option maxRecDepth 20000 in
theorem ggX8_price_X8_isLoan : GoodIn wsX8_price wsX8_isLoan := goodIn_r _ [6, 1, 7, 8, 5, 9, 19, 20, 21, 22, 23, 24, 25, 26, 27, 28, 29, 30, 31, 32, 33, 34, 35, 36, 37, 38] (by decide +kernel) (by decide +kernel)
set_option maxRecDepth 20000 in
theorem gX8_price_X8_isLoan : GoodIn wsX8_price (wsV RX8 165 RX8 yX8_isLoan wsX8_isLoan) := goodIn_app (goodIn_of _ (by decide +kernel)) ggX8_price_X8_isLoan
set_option maxRecDepth 20000 in
theorem ggX8_price_X8_given : GoodIn wsX8_price wsX8_given := goodIn_r _ [13, 1, 19, 20, 21, 22, 23, 24, 25, 26, 27, 28, 29, 30, 31, 32, 33, 34, 35, 36, 37, 38] (by decide +kernel) (by decide +kernel)
set_option maxRecDepth 20000 in
theorem gX8_price_X8_given : GoodIn wsX8_price (wsV RX8 194 RX8 yX8_given wsX8_given) := goodIn_app (goodIn_of _ (by decide +kernel)) ggX8_price_X8_given
set_option maxRecDepth 20000 in
theorem ggX8_price_X8_bad : GoodIn wsX8_price wsX8_bad := goodIn_r _ [17, 18, 19, 20, 21, 22, 23, 24, 25, 26, 27, 28, 29, 30, 31, 32, 33, 34, 35, 36, 37, 38] (by decide +kernel) (by decide +kernel)
set_option maxRecDepth 20000 in
theorem gX8_price_X8_bad : GoodIn wsX8_price (wsV RX8 57 RX8 yX8_bad wsX8_bad) := goodIn_app (goodIn_of _ (by decide +kernel)) ggX8_price_X8_bad
theorem dX8_price_0 : decode cX8_price 0 = .ok (.aload_n 0, 1) := by decide +kernel
theorem dX8_price_1 : decode cX8_price 1 = .ok (.iload_n 1, 1) := by decide +kernel
theorem dX8_price_2 : decode cX8_price 2 = .ok (.invokevirtual 165, 3) := by decide +kernel
theorem dX8_price_5 : decode cX8_price 5 = .ok (.ifCond .eq 39, 3) := by decide +kernel
theorem dX8_price_8 : decode cX8_price 8 = .ok (.aload_n 0, 1) := by decide +kernel
theorem dX8_price_9 : decode cX8_price 9 = .ok (.iload_n 1, 1) := by decide +kernel
theorem dX8_price_10 : decode cX8_price 10 = .ok (.invokevirtual 194, 3) := by decide +kernel
theorem dX8_price_13 : decode cX8_price 13 = .ok (.aload_n 0, 1) := by decide +kernel
theorem dX8_price_14 : decode cX8_price 14 = .ok (.getfield 7, 3) := by decide +kernel
theorem dX8_price_17 : decode cX8_price 17 = .ok (.bipush 26, 2) := by decide +kernel
theorem dX8_price_19 : decode cX8_price 19 = .ok (.iconst 5, 1) := by decide +kernel
theorem dX8_price_20 : decode cX8_price 20 = .ok (.iload_n 1, 1) := by decide +kernel
theorem dX8_price_21 : decode cX8_price 21 = .ok (.imul, 1) := by decide +kernel
theorem dX8_price_22 : decode cX8_price 22 = .ok (.iadd, 1) := by decide +kernel
theorem dX8_price_23 : decode cX8_price 23 = .ok (.iconst 4, 1) := by decide +kernel
theorem dX8_price_24 : decode cX8_price 24 = .ok (.iadd, 1) := by decide +kernel
theorem dX8_price_25 : decode cX8_price 25 = .ok (.iaload, 1) := by decide +kernel
theorem dX8_price_26 : decode cX8_price 26 = .ok (.imul, 1) := by decide +kernel
theorem dX8_price_27 : decode cX8_price 27 = .ok (.aload_n 0, 1) := by decide +kernel
theorem dX8_price_28 : decode cX8_price 28 = .ok (.getfield 7, 3) := by decide +kernel
theorem dX8_price_31 : decode cX8_price 31 = .ok (.bipush 26, 2) := by decide +kernel
theorem dX8_price_33 : decode cX8_price 33 = .ok (.iconst 5, 1) := by decide +kernel
theorem dX8_price_34 : decode cX8_price 34 = .ok (.iload_n 1, 1) := by decide +kernel
theorem dX8_price_35 : decode cX8_price 35 = .ok (.imul, 1) := by decide +kernel
theorem dX8_price_36 : decode cX8_price 36 = .ok (.iadd, 1) := by decide +kernel
theorem dX8_price_37 : decode cX8_price 37 = .ok (.iconst 2, 1) := by decide +kernel
theorem dX8_price_38 : decode cX8_price 38 = .ok (.iadd, 1) := by decide +kernel
theorem dX8_price_39 : decode cX8_price 39 = .ok (.iaload, 1) := by decide +kernel
theorem dX8_price_40 : decode cX8_price 40 = .ok (.idiv, 1) := by decide +kernel
theorem dX8_price_41 : decode cX8_price 41 = .ok (.goto 7, 3) := by decide +kernel
theorem dX8_price_44 : decode cX8_price 44 = .ok (.aload_n 0, 1) := by decide +kernel
theorem dX8_price_45 : decode cX8_price 45 = .ok (.invokevirtual 57, 3) := by decide +kernel
theorem dX8_price_48 : decode cX8_price 48 = .ok (.ireturn, 1) := by decide +kernel
set_option maxRecDepth 20000 in
theorem ggX8_lucky_X8_least : GoodIn wsX8_lucky wsX8_least := goodIn_r _ [4] (by decide +kernel) (by decide +kernel)
set_option maxRecDepth 20000 in
theorem gX8_lucky_X8_least : GoodIn wsX8_lucky (va_wsS RX8 137 yX8_least wsX8_least) := goodIn_app (goodIn_of _ (by decide +kernel)) ggX8_lucky_X8_least
theorem dX8_lucky_0 : decode cX8_lucky 0 = .ok (.lconst 1, 1) := by decide +kernel
theorem dX8_lucky_1 : decode cX8_lucky 1 = .ok (.lstore 6, 2) := by decide +kernel
theorem dX8_lucky_3 : decode cX8_lucky 3 = .ok (.iload_n 1, 1) := by decide +kernel
theorem dX8_lucky_4 : decode cX8_lucky 4 = .ok (.istore 8, 2) := by decide +kernel
theorem dX8_lucky_6 : decode cX8_lucky 6 = .ok (.iconst 0, 1) := by decide +kernel
theorem dX8_lucky_7 : decode cX8_lucky 7 = .ok (.istore 9, 2) := by decide +kernel
theorem dX8_lucky_9 : decode cX8_lucky 9 = .ok (.iload 9, 2) := by decide +kernel
theorem dX8_lucky_11 : decode cX8_lucky 11 = .ok (.iload 4, 2) := by decide +kernel
theorem dX8_lucky_13 : decode cX8_lucky 13 = .ok (.if_icmp .ge 84, 3) := by decide +kernel
theorem dX8_lucky_16 : decode cX8_lucky 16 = .ok (.iload_n 0, 1) := by decide +kernel
theorem dX8_lucky_17 : decode cX8_lucky 17 = .ok (.iload 9, 2) := by decide +kernel
theorem dX8_lucky_19 : decode cX8_lucky 19 = .ok (.ishr, 1) := by decide +kernel
theorem dX8_lucky_20 : decode cX8_lucky 20 = .ok (.iconst 1, 1) := by decide +kernel
theorem dX8_lucky_21 : decode cX8_lucky 21 = .ok (.iand, 1) := by decide +kernel
theorem dX8_lucky_22 : decode cX8_lucky 22 = .ok (.iconst 1, 1) := by decide +kernel
theorem dX8_lucky_23 : decode cX8_lucky 23 = .ok (.if_icmp .ne 7, 3) := by decide +kernel
theorem dX8_lucky_26 : decode cX8_lucky 26 = .ok (.iconst 1, 1) := by decide +kernel
theorem dX8_lucky_27 : decode cX8_lucky 27 = .ok (.goto 4, 3) := by decide +kernel
theorem dX8_lucky_30 : decode cX8_lucky 30 = .ok (.iconst 0, 1) := by decide +kernel
theorem dX8_lucky_31 : decode cX8_lucky 31 = .ok (.istore 10, 2) := by decide +kernel
theorem dX8_lucky_33 : decode cX8_lucky 33 = .ok (.iload 10, 2) := by decide +kernel
theorem dX8_lucky_35 : decode cX8_lucky 35 = .ok (.ifCond .eq 16, 3) := by decide +kernel
theorem dX8_lucky_38 : decode cX8_lucky 38 = .ok (.sipush 9999, 3) := by decide +kernel
theorem dX8_lucky_41 : decode cX8_lucky 41 = .ok (.iload 8, 2) := by decide +kernel
theorem dX8_lucky_43 : decode cX8_lucky 43 = .ok (.iload_n 2, 1) := by decide +kernel
theorem dX8_lucky_44 : decode cX8_lucky 44 = .ok (.iadd, 1) := by decide +kernel
theorem dX8_lucky_45 : decode cX8_lucky 45 = .ok (.invokestatic 137, 3) := by decide +kernel
theorem dX8_lucky_48 : decode cX8_lucky 48 = .ok (.goto 5, 3) := by decide +kernel
theorem dX8_lucky_51 : decode cX8_lucky 51 = .ok (.iload 8, 2) := by decide +kernel
theorem dX8_lucky_53 : decode cX8_lucky 53 = .ok (.istore 8, 2) := by decide +kernel
theorem dX8_lucky_55 : decode cX8_lucky 55 = .ok (.iload 8, 2) := by decide +kernel
theorem dX8_lucky_57 : decode cX8_lucky 57 = .ok (.iload_n 3, 1) := by decide +kernel
theorem dX8_lucky_58 : decode cX8_lucky 58 = .ok (.if_icmp .ge 5, 3) := by decide +kernel
theorem dX8_lucky_61 : decode cX8_lucky 61 = .ok (.lconst 0, 1) := by decide +kernel
theorem dX8_lucky_62 : decode cX8_lucky 62 = .ok (.lreturn, 1) := by decide +kernel
theorem dX8_lucky_63 : decode cX8_lucky 63 = .ok (.iload 8, 2) := by decide +kernel
theorem dX8_lucky_65 : decode cX8_lucky 65 = .ok (.iload_n 3, 1) := by decide +kernel
theorem dX8_lucky_66 : decode cX8_lucky 66 = .ok (.isub, 1) := by decide +kernel
theorem dX8_lucky_67 : decode cX8_lucky 67 = .ok (.istore 8, 2) := by decide +kernel
theorem dX8_lucky_69 : decode cX8_lucky 69 = .ok (.lload 6, 2) := by decide +kernel
theorem dX8_lucky_71 : decode cX8_lucky 71 = .ok (.iload 10, 2) := by decide +kernel
theorem dX8_lucky_73 : decode cX8_lucky 73 = .ok (.ifCond .eq 9, 3) := by decide +kernel
theorem dX8_lucky_76 : decode cX8_lucky 76 = .ok (.iload 5, 2) := by decide +kernel
theorem dX8_lucky_78 : decode cX8_lucky 78 = .ok (.i2l, 1) := by decide +kernel
theorem dX8_lucky_79 : decode cX8_lucky 79 = .ok (.goto 9, 3) := by decide +kernel
theorem dX8_lucky_82 : decode cX8_lucky 82 = .ok (.bipush 10, 2) := by decide +kernel
theorem dX8_lucky_84 : decode cX8_lucky 84 = .ok (.iload 5, 2) := by decide +kernel
theorem dX8_lucky_86 : decode cX8_lucky 86 = .ok (.isub, 1) := by decide +kernel
theorem dX8_lucky_87 : decode cX8_lucky 87 = .ok (.i2l, 1) := by decide +kernel
theorem dX8_lucky_88 : decode cX8_lucky 88 = .ok (.lmul, 1) := by decide +kernel
theorem dX8_lucky_89 : decode cX8_lucky 89 = .ok (.lstore 6, 2) := by decide +kernel
theorem dX8_lucky_91 : decode cX8_lucky 91 = .ok (.iinc 9 1, 3) := by decide +kernel
theorem dX8_lucky_94 : decode cX8_lucky 94 = .ok (.goto (-85), 3) := by decide +kernel
theorem dX8_lucky_97 : decode cX8_lucky 97 = .ok (.lload 6, 2) := by decide +kernel
theorem dX8_lucky_99 : decode cX8_lucky 99 = .ok (.lreturn, 1) := by decide +kernel
theorem dX8_tells_0 : decode cX8_tells 0 = .ok (.lload_n 1, 1) := by decide +kernel
theorem dX8_tells_1 : decode cX8_tells 1 = .ok (.lstore 5, 2) := by decide +kernel
theorem dX8_tells_3 : decode cX8_tells 3 = .ok (.lload_n 3, 1) := by decide +kernel
theorem dX8_tells_4 : decode cX8_tells 4 = .ok (.lstore 7, 2) := by decide +kernel
theorem dX8_tells_6 : decode cX8_tells 6 = .ok (.lload 7, 2) := by decide +kernel
theorem dX8_tells_8 : decode cX8_tells 8 = .ok (.lconst 0, 1) := by decide +kernel
theorem dX8_tells_9 : decode cX8_tells 9 = .ok (.lcmp, 1) := by decide +kernel
theorem dX8_tells_10 : decode cX8_tells 10 = .ok (.ifCond .eq 21, 3) := by decide +kernel
theorem dX8_tells_13 : decode cX8_tells 13 = .ok (.lload 5, 2) := by decide +kernel
theorem dX8_tells_15 : decode cX8_tells 15 = .ok (.lload 7, 2) := by decide +kernel
theorem dX8_tells_17 : decode cX8_tells 17 = .ok (.lrem, 1) := by decide +kernel
theorem dX8_tells_18 : decode cX8_tells 18 = .ok (.lstore 9, 2) := by decide +kernel
theorem dX8_tells_20 : decode cX8_tells 20 = .ok (.lload 7, 2) := by decide +kernel
theorem dX8_tells_22 : decode cX8_tells 22 = .ok (.lstore 5, 2) := by decide +kernel
theorem dX8_tells_24 : decode cX8_tells 24 = .ok (.lload 9, 2) := by decide +kernel
theorem dX8_tells_26 : decode cX8_tells 26 = .ok (.lstore 7, 2) := by decide +kernel
theorem dX8_tells_28 : decode cX8_tells 28 = .ok (.goto (-22), 3) := by decide +kernel
theorem dX8_tells_31 : decode cX8_tells 31 = .ok (.aload_n 0, 1) := by decide +kernel
theorem dX8_tells_32 : decode cX8_tells 32 = .ok (.lload_n 1, 1) := by decide +kernel
theorem dX8_tells_33 : decode cX8_tells 33 = .ok (.lload 5, 2) := by decide +kernel
theorem dX8_tells_35 : decode cX8_tells 35 = .ok (.ldiv, 1) := by decide +kernel
theorem dX8_tells_36 : decode cX8_tells 36 = .ok (.putfield 221, 3) := by decide +kernel
theorem dX8_tells_39 : decode cX8_tells 39 = .ok (.aload_n 0, 1) := by decide +kernel
theorem dX8_tells_40 : decode cX8_tells 40 = .ok (.lload_n 3, 1) := by decide +kernel
theorem dX8_tells_41 : decode cX8_tells 41 = .ok (.lload 5, 2) := by decide +kernel
theorem dX8_tells_43 : decode cX8_tells 43 = .ok (.ldiv, 1) := by decide +kernel
theorem dX8_tells_44 : decode cX8_tells 44 = .ok (.putfield 32, 3) := by decide +kernel
theorem dX8_tells_47 : decode cX8_tells 47 = .ok (.return_, 1) := by decide +kernel
set_option maxRecDepth 20000 in
theorem ggX8_luck_X8_isLoan : GoodIn wsX8_luck wsX8_isLoan := goodIn_r _ [7, 1, 8, 9, 6, 10, 32, 33, 34, 35, 36, 37, 38, 39, 40, 41, 42, 43, 44, 45, 46, 47, 48, 49, 50, 51] (by decide +kernel) (by decide +kernel)
set_option maxRecDepth 20000 in
theorem gX8_luck_X8_isLoan : GoodIn wsX8_luck (wsV RX8 165 RX8 yX8_isLoan wsX8_isLoan) := goodIn_app (goodIn_of _ (by decide +kernel)) ggX8_luck_X8_isLoan
set_option maxRecDepth 20000 in
theorem ggX8_luck_X8_in : GoodIn wsX8_luck wsX8_in := goodIn_r _ [10] (by decide +kernel) (by decide +kernel)
set_option maxRecDepth 20000 in
theorem gX8_luck_X8_in : GoodIn wsX8_luck (va_wsS RX8 52 yX8_in wsX8_in) := goodIn_app (goodIn_of _ (by decide +kernel)) ggX8_luck_X8_in
set_option maxRecDepth 20000 in
theorem ggX8_luck_X8_bad : GoodIn wsX8_luck wsX8_bad := goodIn_r _ [14, 15, 32, 33, 34, 35, 36, 37, 38, 39, 40, 41, 42, 43, 44, 45, 46, 47, 48, 49, 50, 51] (by decide +kernel) (by decide +kernel)
set_option maxRecDepth 20000 in
theorem gX8_luck_X8_bad : GoodIn wsX8_luck (wsV RX8 57 RX8 yX8_bad wsX8_bad) := goodIn_app (goodIn_of _ (by decide +kernel)) ggX8_luck_X8_bad
set_option maxRecDepth 20000 in
theorem ggX8_luck_X8_no : GoodIn wsX8_luck wsX8_no := goodIn_r _ [19, 15, 32, 33, 34, 35, 36, 37, 38, 39, 40, 41, 42, 43, 44, 45, 46, 47, 48, 49, 50, 51] (by decide +kernel) (by decide +kernel)
set_option maxRecDepth 20000 in
theorem gX8_luck_X8_no : GoodIn wsX8_luck (wsV RX8 156 RX8 yX8_no wsX8_no) := goodIn_app (goodIn_of _ (by decide +kernel)) ggX8_luck_X8_no
set_option maxRecDepth 20000 in
theorem ggX8_luck_X8_lucky : GoodIn wsX8_luck wsX8_lucky := goodIn_r _ [22, 23, 24, 6, 25] (by decide +kernel) (by decide +kernel)
set_option maxRecDepth 20000 in
theorem gX8_luck_X8_lucky : GoodIn wsX8_luck (va_wsS RX8 226 yX8_lucky wsX8_lucky) := goodIn_app (goodIn_of _ (by decide +kernel)) ggX8_luck_X8_lucky
set_option maxRecDepth 20000 in
theorem ggX8_luck_X8_tells : GoodIn wsX8_luck wsX8_tells := goodIn_r _ [29, 30, 31, 32, 33, 34, 35, 36, 37, 38, 39, 40, 41, 42, 43, 44, 45, 46, 47, 48, 49, 50, 51] (by decide +kernel) (by decide +kernel)
set_option maxRecDepth 20000 in
theorem gX8_luck_X8_tells : GoodIn wsX8_luck (wsV RX8 229 RX8 yX8_tells wsX8_tells) := goodIn_app (goodIn_of _ (by decide +kernel)) ggX8_luck_X8_tells
theorem dX8_luck_0 : decode cX8_luck 0 = .ok (.aload_n 0, 1) := by decide +kernel
theorem dX8_luck_1 : decode cX8_luck 1 = .ok (.iload_n 1, 1) := by decide +kernel
theorem dX8_luck_2 : decode cX8_luck 2 = .ok (.invokevirtual 165, 3) := by decide +kernel
theorem dX8_luck_5 : decode cX8_luck 5 = .ok (.ifCond .eq 13, 3) := by decide +kernel
theorem dX8_luck_8 : decode cX8_luck 8 = .ok (.iload_n 2, 1) := by decide +kernel
theorem dX8_luck_9 : decode cX8_luck 9 = .ok (.iconst 0, 1) := by decide +kernel
theorem dX8_luck_10 : decode cX8_luck 10 = .ok (.bipush 10, 2) := by decide +kernel
theorem dX8_luck_12 : decode cX8_luck 12 = .ok (.invokestatic 52, 3) := by decide +kernel
theorem dX8_luck_15 : decode cX8_luck 15 = .ok (.ifCond .ne 8, 3) := by decide +kernel
theorem dX8_luck_18 : decode cX8_luck 18 = .ok (.aload_n 0, 1) := by decide +kernel
theorem dX8_luck_19 : decode cX8_luck 19 = .ok (.invokevirtual 57, 3) := by decide +kernel
theorem dX8_luck_22 : decode cX8_luck 22 = .ok (.ireturn, 1) := by decide +kernel
theorem dX8_luck_23 : decode cX8_luck 23 = .ok (.bipush 26, 2) := by decide +kernel
theorem dX8_luck_25 : decode cX8_luck 25 = .ok (.iconst 5, 1) := by decide +kernel
theorem dX8_luck_26 : decode cX8_luck 26 = .ok (.iload_n 1, 1) := by decide +kernel
theorem dX8_luck_27 : decode cX8_luck 27 = .ok (.imul, 1) := by decide +kernel
theorem dX8_luck_28 : decode cX8_luck 28 = .ok (.iadd, 1) := by decide +kernel
theorem dX8_luck_29 : decode cX8_luck 29 = .ok (.istore_n 3, 1) := by decide +kernel
theorem dX8_luck_30 : decode cX8_luck 30 = .ok (.aload_n 0, 1) := by decide +kernel
theorem dX8_luck_31 : decode cX8_luck 31 = .ok (.getfield 7, 3) := by decide +kernel
theorem dX8_luck_34 : decode cX8_luck 34 = .ok (.iload_n 3, 1) := by decide +kernel
theorem dX8_luck_35 : decode cX8_luck 35 = .ok (.iconst 3, 1) := by decide +kernel
theorem dX8_luck_36 : decode cX8_luck 36 = .ok (.iadd, 1) := by decide +kernel
theorem dX8_luck_37 : decode cX8_luck 37 = .ok (.iaload, 1) := by decide +kernel
theorem dX8_luck_38 : decode cX8_luck 38 = .ok (.ifCond .eq 8, 3) := by decide +kernel
theorem dX8_luck_41 : decode cX8_luck 41 = .ok (.aload_n 0, 1) := by decide +kernel
theorem dX8_luck_42 : decode cX8_luck 42 = .ok (.invokevirtual 156, 3) := by decide +kernel
theorem dX8_luck_45 : decode cX8_luck 45 = .ok (.ireturn, 1) := by decide +kernel
theorem dX8_luck_46 : decode cX8_luck 46 = .ok (.bipush 8, 2) := by decide +kernel
theorem dX8_luck_48 : decode cX8_luck 48 = .ok (.iconst 3, 1) := by decide +kernel
theorem dX8_luck_49 : decode cX8_luck 49 = .ok (.aload_n 0, 1) := by decide +kernel
theorem dX8_luck_50 : decode cX8_luck 50 = .ok (.getfield 7, 3) := by decide +kernel
theorem dX8_luck_53 : decode cX8_luck 53 = .ok (.iload_n 3, 1) := by decide +kernel
theorem dX8_luck_54 : decode cX8_luck 54 = .ok (.iaload, 1) := by decide +kernel
theorem dX8_luck_55 : decode cX8_luck 55 = .ok (.imul, 1) := by decide +kernel
theorem dX8_luck_56 : decode cX8_luck 56 = .ok (.iadd, 1) := by decide +kernel
theorem dX8_luck_57 : decode cX8_luck 57 = .ok (.istore 4, 2) := by decide +kernel
theorem dX8_luck_59 : decode cX8_luck 59 = .ok (.aload_n 0, 1) := by decide +kernel
theorem dX8_luck_60 : decode cX8_luck 60 = .ok (.getfield 7, 3) := by decide +kernel
theorem dX8_luck_63 : decode cX8_luck 63 = .ok (.iload_n 3, 1) := by decide +kernel
theorem dX8_luck_64 : decode cX8_luck 64 = .ok (.iconst 2, 1) := by decide +kernel
theorem dX8_luck_65 : decode cX8_luck 65 = .ok (.iadd, 1) := by decide +kernel
theorem dX8_luck_66 : decode cX8_luck 66 = .ok (.iaload, 1) := by decide +kernel
theorem dX8_luck_67 : decode cX8_luck 67 = .ok (.aload_n 0, 1) := by decide +kernel
theorem dX8_luck_68 : decode cX8_luck 68 = .ok (.getfield 7, 3) := by decide +kernel
theorem dX8_luck_71 : decode cX8_luck 71 = .ok (.iload_n 3, 1) := by decide +kernel
theorem dX8_luck_72 : decode cX8_luck 72 = .ok (.iconst 4, 1) := by decide +kernel
theorem dX8_luck_73 : decode cX8_luck 73 = .ok (.iadd, 1) := by decide +kernel
theorem dX8_luck_74 : decode cX8_luck 74 = .ok (.iaload, 1) := by decide +kernel
theorem dX8_luck_75 : decode cX8_luck 75 = .ok (.isub, 1) := by decide +kernel
theorem dX8_luck_76 : decode cX8_luck 76 = .ok (.istore 5, 2) := by decide +kernel
theorem dX8_luck_78 : decode cX8_luck 78 = .ok (.lconst 1, 1) := by decide +kernel
theorem dX8_luck_79 : decode cX8_luck 79 = .ok (.lstore 6, 2) := by decide +kernel
theorem dX8_luck_81 : decode cX8_luck 81 = .ok (.iconst 0, 1) := by decide +kernel
theorem dX8_luck_82 : decode cX8_luck 82 = .ok (.istore 8, 2) := by decide +kernel
theorem dX8_luck_84 : decode cX8_luck 84 = .ok (.iload 8, 2) := by decide +kernel
theorem dX8_luck_86 : decode cX8_luck 86 = .ok (.iload 5, 2) := by decide +kernel
theorem dX8_luck_88 : decode cX8_luck 88 = .ok (.if_icmp .ge 17, 3) := by decide +kernel
theorem dX8_luck_91 : decode cX8_luck 91 = .ok (.lload 6, 2) := by decide +kernel
theorem dX8_luck_93 : decode cX8_luck 93 = .ok (.ldc2_w 224, 3) := by decide +kernel
theorem dX8_luck_96 : decode cX8_luck 96 = .ok (.lmul, 1) := by decide +kernel
theorem dX8_luck_97 : decode cX8_luck 97 = .ok (.lstore 6, 2) := by decide +kernel
theorem dX8_luck_99 : decode cX8_luck 99 = .ok (.iinc 8 1, 3) := by decide +kernel
theorem dX8_luck_102 : decode cX8_luck 102 = .ok (.goto (-18), 3) := by decide +kernel
theorem dX8_luck_105 : decode cX8_luck 105 = .ok (.lconst 0, 1) := by decide +kernel
theorem dX8_luck_106 : decode cX8_luck 106 = .ok (.lstore 8, 2) := by decide +kernel
theorem dX8_luck_108 : decode cX8_luck 108 = .ok (.iconst 0, 1) := by decide +kernel
theorem dX8_luck_109 : decode cX8_luck 109 = .ok (.istore 10, 2) := by decide +kernel
theorem dX8_luck_111 : decode cX8_luck 111 = .ok (.iload 10, 2) := by decide +kernel
theorem dX8_luck_113 : decode cX8_luck 113 = .ok (.iconst 1, 1) := by decide +kernel
theorem dX8_luck_114 : decode cX8_luck 114 = .ok (.iload 5, 2) := by decide +kernel
theorem dX8_luck_116 : decode cX8_luck 116 = .ok (.ishl, 1) := by decide +kernel
theorem dX8_luck_117 : decode cX8_luck 117 = .ok (.if_icmp .ge 48, 3) := by decide +kernel
theorem dX8_luck_120 : decode cX8_luck 120 = .ok (.lload 8, 2) := by decide +kernel
theorem dX8_luck_122 : decode cX8_luck 122 = .ok (.iload 10, 2) := by decide +kernel
theorem dX8_luck_124 : decode cX8_luck 124 = .ok (.aload_n 0, 1) := by decide +kernel
theorem dX8_luck_125 : decode cX8_luck 125 = .ok (.getfield 7, 3) := by decide +kernel
theorem dX8_luck_128 : decode cX8_luck 128 = .ok (.iload 4, 2) := by decide +kernel
theorem dX8_luck_130 : decode cX8_luck 130 = .ok (.iconst 2, 1) := by decide +kernel
theorem dX8_luck_131 : decode cX8_luck 131 = .ok (.iadd, 1) := by decide +kernel
theorem dX8_luck_132 : decode cX8_luck 132 = .ok (.iaload, 1) := by decide +kernel
theorem dX8_luck_133 : decode cX8_luck 133 = .ok (.aload_n 0, 1) := by decide +kernel
theorem dX8_luck_134 : decode cX8_luck 134 = .ok (.getfield 7, 3) := by decide +kernel
theorem dX8_luck_137 : decode cX8_luck 137 = .ok (.iload 4, 2) := by decide +kernel
theorem dX8_luck_139 : decode cX8_luck 139 = .ok (.iconst 1, 1) := by decide +kernel
theorem dX8_luck_140 : decode cX8_luck 140 = .ok (.iadd, 1) := by decide +kernel
theorem dX8_luck_141 : decode cX8_luck 141 = .ok (.iaload, 1) := by decide +kernel
theorem dX8_luck_142 : decode cX8_luck 142 = .ok (.aload_n 0, 1) := by decide +kernel
theorem dX8_luck_143 : decode cX8_luck 143 = .ok (.getfield 7, 3) := by decide +kernel
theorem dX8_luck_146 : decode cX8_luck 146 = .ok (.iload_n 3, 1) := by decide +kernel
theorem dX8_luck_147 : decode cX8_luck 147 = .ok (.iconst 1, 1) := by decide +kernel
theorem dX8_luck_148 : decode cX8_luck 148 = .ok (.iadd, 1) := by decide +kernel
theorem dX8_luck_149 : decode cX8_luck 149 = .ok (.iaload, 1) := by decide +kernel
theorem dX8_luck_150 : decode cX8_luck 150 = .ok (.iload 5, 2) := by decide +kernel
theorem dX8_luck_152 : decode cX8_luck 152 = .ok (.iload_n 2, 1) := by decide +kernel
theorem dX8_luck_153 : decode cX8_luck 153 = .ok (.invokestatic 226, 3) := by decide +kernel
theorem dX8_luck_156 : decode cX8_luck 156 = .ok (.ladd, 1) := by decide +kernel
theorem dX8_luck_157 : decode cX8_luck 157 = .ok (.lstore 8, 2) := by decide +kernel
theorem dX8_luck_159 : decode cX8_luck 159 = .ok (.iinc 10 1, 3) := by decide +kernel
theorem dX8_luck_162 : decode cX8_luck 162 = .ok (.goto (-51), 3) := by decide +kernel
theorem dX8_luck_165 : decode cX8_luck 165 = .ok (.aload_n 0, 1) := by decide +kernel
theorem dX8_luck_166 : decode cX8_luck 166 = .ok (.lload 8, 2) := by decide +kernel
theorem dX8_luck_168 : decode cX8_luck 168 = .ok (.lload 6, 2) := by decide +kernel
theorem dX8_luck_170 : decode cX8_luck 170 = .ok (.invokevirtual 229, 3) := by decide +kernel
theorem dX8_luck_173 : decode cX8_luck 173 = .ok (.iconst 1, 1) := by decide +kernel
theorem dX8_luck_174 : decode cX8_luck 174 = .ok (.ireturn, 1) := by decide +kernel
set_option maxRecDepth 20000 in
theorem ggX8_drawn_X8_in : GoodIn wsX8_drawn wsX8_in := goodIn_r _ [12] (by decide +kernel) (by decide +kernel)
set_option maxRecDepth 20000 in
theorem gX8_drawn_X8_in : GoodIn wsX8_drawn (va_wsS RX8 52 yX8_in wsX8_in) := goodIn_app (goodIn_of _ (by decide +kernel)) ggX8_drawn_X8_in
set_option maxRecDepth 20000 in
theorem ggX8_drawn_X8_bad : GoodIn wsX8_drawn wsX8_bad := goodIn_r _ [16, 17, 47, 48, 49, 50, 51, 52, 53, 54, 55, 56, 57, 58, 59, 60, 61, 62, 63, 64, 65, 66] (by decide +kernel) (by decide +kernel)
set_option maxRecDepth 20000 in
theorem gX8_drawn_X8_bad : GoodIn wsX8_drawn (wsV RX8 57 RX8 yX8_bad wsX8_bad) := goodIn_app (goodIn_of _ (by decide +kernel)) ggX8_drawn_X8_bad
set_option maxRecDepth 20000 in
theorem ggX8_drawn_X8_tries : GoodIn wsX8_drawn wsX8_tries := goodIn_r _ [21, 2, 8, 22, 23, 11, 24, 47, 48, 49, 50, 51, 52, 53, 54, 55, 56, 57, 58, 59, 60, 61, 62, 63, 64, 65, 66] (by decide +kernel) (by decide +kernel)
set_option maxRecDepth 20000 in
theorem gX8_drawn_X8_tries : GoodIn wsX8_drawn (wsV RX8 168 RX8 yX8_tries wsX8_tries) := goodIn_app (goodIn_of _ (by decide +kernel)) ggX8_drawn_X8_tries
set_option maxRecDepth 20000 in
theorem ggX8_drawn_X8_month : GoodIn wsX8_drawn wsX8_month := goodIn_r _ [27, 28, 29, 11, 30, 31, 32, 33, 34, 35, 36, 37, 38, 39, 40, 41, 42, 43] (by decide +kernel) (by decide +kernel)
set_option maxRecDepth 20000 in
theorem gX8_drawn_X8_month : GoodIn wsX8_drawn (va_wsS RX8 162 yX8_month wsX8_month) := goodIn_app (goodIn_of _ (by decide +kernel)) ggX8_drawn_X8_month
set_option maxRecDepth 20000 in
theorem ggX8_drawn_X8_many : GoodIn wsX8_drawn wsX8_many := goodIn_r _ [46] (by decide +kernel) (by decide +kernel)
set_option maxRecDepth 20000 in
theorem gX8_drawn_X8_many : GoodIn wsX8_drawn (va_wsS RX8 175 yX8_many wsX8_many) := goodIn_app (goodIn_of _ (by decide +kernel)) ggX8_drawn_X8_many
theorem dX8_drawn_0 : decode cX8_drawn 0 = .ok (.iload_n 1, 1) := by decide +kernel
theorem dX8_drawn_1 : decode cX8_drawn 1 = .ok (.iconst 0, 1) := by decide +kernel
theorem dX8_drawn_2 : decode cX8_drawn 2 = .ok (.ldc 233, 2) := by decide +kernel
theorem dX8_drawn_4 : decode cX8_drawn 4 = .ok (.invokestatic 52, 3) := by decide +kernel
theorem dX8_drawn_7 : decode cX8_drawn 7 = .ok (.ifCond .eq 33, 3) := by decide +kernel
theorem dX8_drawn_10 : decode cX8_drawn 10 = .ok (.iload_n 2, 1) := by decide +kernel
theorem dX8_drawn_11 : decode cX8_drawn 11 = .ok (.iconst 0, 1) := by decide +kernel
theorem dX8_drawn_12 : decode cX8_drawn 12 = .ok (.bipush 100, 2) := by decide +kernel
theorem dX8_drawn_14 : decode cX8_drawn 14 = .ok (.invokestatic 52, 3) := by decide +kernel
theorem dX8_drawn_17 : decode cX8_drawn 17 = .ok (.ifCond .eq 23, 3) := by decide +kernel
theorem dX8_drawn_20 : decode cX8_drawn 20 = .ok (.iload_n 3, 1) := by decide +kernel
theorem dX8_drawn_21 : decode cX8_drawn 21 = .ok (.iconst 0, 1) := by decide +kernel
theorem dX8_drawn_22 : decode cX8_drawn 22 = .ok (.bipush 60, 2) := by decide +kernel
theorem dX8_drawn_24 : decode cX8_drawn 24 = .ok (.invokestatic 52, 3) := by decide +kernel
theorem dX8_drawn_27 : decode cX8_drawn 27 = .ok (.ifCond .eq 13, 3) := by decide +kernel
theorem dX8_drawn_30 : decode cX8_drawn 30 = .ok (.iload 4, 2) := by decide +kernel
theorem dX8_drawn_32 : decode cX8_drawn 32 = .ok (.iconst 0, 1) := by decide +kernel
theorem dX8_drawn_33 : decode cX8_drawn 33 = .ok (.iconst 1, 1) := by decide +kernel
theorem dX8_drawn_34 : decode cX8_drawn 34 = .ok (.invokestatic 52, 3) := by decide +kernel
theorem dX8_drawn_37 : decode cX8_drawn 37 = .ok (.ifCond .ne 8, 3) := by decide +kernel
theorem dX8_drawn_40 : decode cX8_drawn 40 = .ok (.aload_n 0, 1) := by decide +kernel
theorem dX8_drawn_41 : decode cX8_drawn 41 = .ok (.invokevirtual 57, 3) := by decide +kernel
theorem dX8_drawn_44 : decode cX8_drawn 44 = .ok (.ireturn, 1) := by decide +kernel
theorem dX8_drawn_45 : decode cX8_drawn 45 = .ok (.aload_n 0, 1) := by decide +kernel
theorem dX8_drawn_46 : decode cX8_drawn 46 = .ok (.invokevirtual 168, 3) := by decide +kernel
theorem dX8_drawn_49 : decode cX8_drawn 49 = .ok (.iload_n 1, 1) := by decide +kernel
theorem dX8_drawn_50 : decode cX8_drawn 50 = .ok (.i2l, 1) := by decide +kernel
theorem dX8_drawn_51 : decode cX8_drawn 51 = .ok (.lstore 5, 2) := by decide +kernel
theorem dX8_drawn_53 : decode cX8_drawn 53 = .ok (.iconst 0, 1) := by decide +kernel
theorem dX8_drawn_54 : decode cX8_drawn 54 = .ok (.istore 7, 2) := by decide +kernel
theorem dX8_drawn_56 : decode cX8_drawn 56 = .ok (.iload 7, 2) := by decide +kernel
theorem dX8_drawn_58 : decode cX8_drawn 58 = .ok (.iload_n 3, 1) := by decide +kernel
theorem dX8_drawn_59 : decode cX8_drawn 59 = .ok (.if_icmp .ge 87, 3) := by decide +kernel
theorem dX8_drawn_62 : decode cX8_drawn 62 = .ok (.iconst 0, 1) := by decide +kernel
theorem dX8_drawn_63 : decode cX8_drawn 63 = .ok (.istore 8, 2) := by decide +kernel
theorem dX8_drawn_65 : decode cX8_drawn 65 = .ok (.iconst 0, 1) := by decide +kernel
theorem dX8_drawn_66 : decode cX8_drawn 66 = .ok (.istore 9, 2) := by decide +kernel
theorem dX8_drawn_68 : decode cX8_drawn 68 = .ok (.iload 9, 2) := by decide +kernel
theorem dX8_drawn_70 : decode cX8_drawn 70 = .ok (.aload_n 0, 1) := by decide +kernel
theorem dX8_drawn_71 : decode cX8_drawn 71 = .ok (.getfield 7, 3) := by decide +kernel
theorem dX8_drawn_74 : decode cX8_drawn 74 = .ok (.iconst 3, 1) := by decide +kernel
theorem dX8_drawn_75 : decode cX8_drawn 75 = .ok (.iaload, 1) := by decide +kernel
theorem dX8_drawn_76 : decode cX8_drawn 76 = .ok (.if_icmp .ge 54, 3) := by decide +kernel
theorem dX8_drawn_79 : decode cX8_drawn 79 = .ok (.lload 5, 2) := by decide +kernel
theorem dX8_drawn_81 : decode cX8_drawn 81 = .ok (.ldc2_w 234, 3) := by decide +kernel
theorem dX8_drawn_84 : decode cX8_drawn 84 = .ok (.lmul, 1) := by decide +kernel
theorem dX8_drawn_85 : decode cX8_drawn 85 = .ok (.ldc2_w 236, 3) := by decide +kernel
theorem dX8_drawn_88 : decode cX8_drawn 88 = .ok (.ladd, 1) := by decide +kernel
theorem dX8_drawn_89 : decode cX8_drawn 89 = .ok (.ldc2_w 238, 3) := by decide +kernel
theorem dX8_drawn_92 : decode cX8_drawn 92 = .ok (.lrem, 1) := by decide +kernel
theorem dX8_drawn_93 : decode cX8_drawn 93 = .ok (.lstore 5, 2) := by decide +kernel
theorem dX8_drawn_95 : decode cX8_drawn 95 = .ok (.iload 8, 2) := by decide +kernel
theorem dX8_drawn_97 : decode cX8_drawn 97 = .ok (.lload 5, 2) := by decide +kernel
theorem dX8_drawn_99 : decode cX8_drawn 99 = .ok (.ldc2_w 240, 3) := by decide +kernel
theorem dX8_drawn_102 : decode cX8_drawn 102 = .ok (.ldiv, 1) := by decide +kernel
theorem dX8_drawn_103 : decode cX8_drawn 103 = .ok (.ldc2_w 242, 3) := by decide +kernel
theorem dX8_drawn_106 : decode cX8_drawn 106 = .ok (.lrem, 1) := by decide +kernel
theorem dX8_drawn_107 : decode cX8_drawn 107 = .ok (.iload_n 2, 1) := by decide +kernel
theorem dX8_drawn_108 : decode cX8_drawn 108 = .ok (.i2l, 1) := by decide +kernel
theorem dX8_drawn_109 : decode cX8_drawn 109 = .ok (.lcmp, 1) := by decide +kernel
theorem dX8_drawn_110 : decode cX8_drawn 110 = .ok (.ifCond .ge 10, 3) := by decide +kernel
theorem dX8_drawn_113 : decode cX8_drawn 113 = .ok (.iconst 1, 1) := by decide +kernel
theorem dX8_drawn_114 : decode cX8_drawn 114 = .ok (.iload 9, 2) := by decide +kernel
theorem dX8_drawn_116 : decode cX8_drawn 116 = .ok (.ishl, 1) := by decide +kernel
theorem dX8_drawn_117 : decode cX8_drawn 117 = .ok (.goto 4, 3) := by decide +kernel
theorem dX8_drawn_120 : decode cX8_drawn 120 = .ok (.iconst 0, 1) := by decide +kernel
theorem dX8_drawn_121 : decode cX8_drawn 121 = .ok (.ior, 1) := by decide +kernel
theorem dX8_drawn_122 : decode cX8_drawn 122 = .ok (.istore 8, 2) := by decide +kernel
theorem dX8_drawn_124 : decode cX8_drawn 124 = .ok (.iinc 9 1, 3) := by decide +kernel
theorem dX8_drawn_127 : decode cX8_drawn 127 = .ok (.goto (-59), 3) := by decide +kernel
theorem dX8_drawn_130 : decode cX8_drawn 130 = .ok (.aload_n 0, 1) := by decide +kernel
theorem dX8_drawn_131 : decode cX8_drawn 131 = .ok (.getfield 13, 3) := by decide +kernel
theorem dX8_drawn_134 : decode cX8_drawn 134 = .ok (.iload 8, 2) := by decide +kernel
theorem dX8_drawn_136 : decode cX8_drawn 136 = .ok (.invokestatic 162, 3) := by decide +kernel
theorem dX8_drawn_139 : decode cX8_drawn 139 = .ok (.pop, 1) := by decide +kernel
theorem dX8_drawn_140 : decode cX8_drawn 140 = .ok (.iinc 7 1, 3) := by decide +kernel
theorem dX8_drawn_143 : decode cX8_drawn 143 = .ok (.goto (-87), 3) := by decide +kernel
theorem dX8_drawn_146 : decode cX8_drawn 146 = .ok (.aload_n 0, 1) := by decide +kernel
theorem dX8_drawn_147 : decode cX8_drawn 147 = .ok (.getfield 13, 3) := by decide +kernel
theorem dX8_drawn_150 : decode cX8_drawn 150 = .ok (.iload 4, 2) := by decide +kernel
theorem dX8_drawn_152 : decode cX8_drawn 152 = .ok (.ifCond .ne 7, 3) := by decide +kernel
theorem dX8_drawn_155 : decode cX8_drawn 155 = .ok (.iconst 1, 1) := by decide +kernel
theorem dX8_drawn_156 : decode cX8_drawn 156 = .ok (.goto 4, 3) := by decide +kernel
theorem dX8_drawn_159 : decode cX8_drawn 159 = .ok (.iconst 2, 1) := by decide +kernel
theorem dX8_drawn_160 : decode cX8_drawn 160 = .ok (.aload_n 0, 1) := by decide +kernel
theorem dX8_drawn_161 : decode cX8_drawn 161 = .ok (.getfield 7, 3) := by decide +kernel
theorem dX8_drawn_164 : decode cX8_drawn 164 = .ok (.iconst 4, 1) := by decide +kernel
theorem dX8_drawn_165 : decode cX8_drawn 165 = .ok (.iaload, 1) := by decide +kernel
theorem dX8_drawn_166 : decode cX8_drawn 166 = .ok (.invokestatic 175, 3) := by decide +kernel
theorem dX8_drawn_169 : decode cX8_drawn 169 = .ok (.ireturn, 1) := by decide +kernel
set_option maxRecDepth 20000 in
theorem ggX8_part_X8_bad : GoodIn wsX8_part wsX8_bad := goodIn_r _ [7, 8, 9, 10, 11, 12, 13, 14, 15, 16, 17, 18, 19, 20, 21, 22, 23, 24, 25, 26, 27, 28] (by decide +kernel) (by decide +kernel)
set_option maxRecDepth 20000 in
theorem gX8_part_X8_bad : GoodIn wsX8_part (wsV RX8 57 RX8 yX8_bad wsX8_bad) := goodIn_app (goodIn_of _ (by decide +kernel)) ggX8_part_X8_bad
theorem dX8_part_0 : decode cX8_part 0 = .ok (.iload_n 1, 1) := by decide +kernel
theorem dX8_part_1 : decode cX8_part 1 = .ok (.ifCond .ne 10, 3) := by decide +kernel
theorem dX8_part_4 : decode cX8_part 4 = .ok (.aload_n 0, 1) := by decide +kernel
theorem dX8_part_5 : decode cX8_part 5 = .ok (.getfield 221, 3) := by decide +kernel
theorem dX8_part_8 : decode cX8_part 8 = .ok (.goto 20, 3) := by decide +kernel
theorem dX8_part_11 : decode cX8_part 11 = .ok (.iload_n 1, 1) := by decide +kernel
theorem dX8_part_12 : decode cX8_part 12 = .ok (.iconst 1, 1) := by decide +kernel
theorem dX8_part_13 : decode cX8_part 13 = .ok (.if_icmp .ne 10, 3) := by decide +kernel
theorem dX8_part_16 : decode cX8_part 16 = .ok (.aload_n 0, 1) := by decide +kernel
theorem dX8_part_17 : decode cX8_part 17 = .ok (.getfield 32, 3) := by decide +kernel
theorem dX8_part_20 : decode cX8_part 20 = .ok (.goto 8, 3) := by decide +kernel
theorem dX8_part_23 : decode cX8_part 23 = .ok (.aload_n 0, 1) := by decide +kernel
theorem dX8_part_24 : decode cX8_part 24 = .ok (.invokevirtual 57, 3) := by decide +kernel
theorem dX8_part_27 : decode cX8_part 27 = .ok (.i2l, 1) := by decide +kernel
theorem dX8_part_28 : decode cX8_part 28 = .ok (.lreturn, 1) := by decide +kernel
set_option maxRecDepth 20000 in
theorem ggX8_image_X8_in : GoodIn wsX8_image wsX8_in := goodIn_r _ [7] (by decide +kernel) (by decide +kernel)
set_option maxRecDepth 20000 in
theorem gX8_image_X8_in : GoodIn wsX8_image (va_wsS RX8 52 yX8_in wsX8_in) := goodIn_app (goodIn_of _ (by decide +kernel)) ggX8_image_X8_in
set_option maxRecDepth 20000 in
theorem ggX8_image_X8_bad : GoodIn wsX8_image wsX8_bad := goodIn_r _ [11, 12, 16, 17, 18, 19, 20, 21, 22, 23, 24, 25, 26, 27, 28, 29, 30, 31, 32, 33, 34, 35] (by decide +kernel) (by decide +kernel)
set_option maxRecDepth 20000 in
theorem gX8_image_X8_bad : GoodIn wsX8_image (wsV RX8 57 RX8 yX8_bad wsX8_bad) := goodIn_app (goodIn_of _ (by decide +kernel)) ggX8_image_X8_bad
set_option maxRecDepth 20000 in
theorem ggX8_image_X8_copy : GoodIn wsX8_image wsX8_copy := goodIn_r _ [15] (by decide +kernel) (by decide +kernel)
set_option maxRecDepth 20000 in
theorem gX8_image_X8_copy : GoodIn wsX8_image (va_wsS RX8 48 yX8_copy wsX8_copy) := goodIn_app (goodIn_of _ (by decide +kernel)) ggX8_image_X8_copy
theorem dX8_image_0 : decode cX8_image 0 = .ok (.iload_n 1, 1) := by decide +kernel
theorem dX8_image_1 : decode cX8_image 1 = .ok (.iconst 0, 1) := by decide +kernel
theorem dX8_image_2 : decode cX8_image 2 = .ok (.iconst 1, 1) := by decide +kernel
theorem dX8_image_3 : decode cX8_image 3 = .ok (.invokestatic 52, 3) := by decide +kernel
theorem dX8_image_6 : decode cX8_image 6 = .ok (.ifCond .ne 8, 3) := by decide +kernel
theorem dX8_image_9 : decode cX8_image 9 = .ok (.aload_n 0, 1) := by decide +kernel
theorem dX8_image_10 : decode cX8_image 10 = .ok (.invokevirtual 57, 3) := by decide +kernel
theorem dX8_image_13 : decode cX8_image 13 = .ok (.ireturn, 1) := by decide +kernel
theorem dX8_image_14 : decode cX8_image 14 = .ok (.aload_n 0, 1) := by decide +kernel
theorem dX8_image_15 : decode cX8_image 15 = .ok (.getfield 7, 3) := by decide +kernel
theorem dX8_image_18 : decode cX8_image 18 = .ok (.iconst 0, 1) := by decide +kernel
theorem dX8_image_19 : decode cX8_image 19 = .ok (.aload_n 0, 1) := by decide +kernel
theorem dX8_image_20 : decode cX8_image 20 = .ok (.getfield 19, 3) := by decide +kernel
theorem dX8_image_23 : decode cX8_image 23 = .ok (.sipush 362, 3) := by decide +kernel
theorem dX8_image_26 : decode cX8_image 26 = .ok (.iload_n 1, 1) := by decide +kernel
theorem dX8_image_27 : decode cX8_image 27 = .ok (.imul, 1) := by decide +kernel
theorem dX8_image_28 : decode cX8_image 28 = .ok (.invokestatic 48, 3) := by decide +kernel
theorem dX8_image_31 : decode cX8_image 31 = .ok (.aload_n 0, 1) := by decide +kernel
theorem dX8_image_32 : decode cX8_image 32 = .ok (.getfield 22, 3) := by decide +kernel
theorem dX8_image_35 : decode cX8_image 35 = .ok (.iload_n 1, 1) := by decide +kernel
theorem dX8_image_36 : decode cX8_image 36 = .ok (.iconst 1, 1) := by decide +kernel
theorem dX8_image_37 : decode cX8_image 37 = .ok (.bastore, 1) := by decide +kernel
theorem dX8_image_38 : decode cX8_image 38 = .ok (.iconst 1, 1) := by decide +kernel
theorem dX8_image_39 : decode cX8_image 39 = .ok (.ireturn, 1) := by decide +kernel
set_option maxRecDepth 20000 in
theorem ggX8_from_X8_in : GoodIn wsX8_from wsX8_in := goodIn_r _ [7] (by decide +kernel) (by decide +kernel)
set_option maxRecDepth 20000 in
theorem gX8_from_X8_in : GoodIn wsX8_from (va_wsS RX8 52 yX8_in wsX8_in) := goodIn_app (goodIn_of _ (by decide +kernel)) ggX8_from_X8_in
set_option maxRecDepth 20000 in
theorem ggX8_from_X8_bad : GoodIn wsX8_from wsX8_bad := goodIn_r _ [11, 12, 20, 21, 22, 23, 24, 25, 26, 27, 28, 29, 30, 31, 32, 33, 34, 35, 36, 37, 38, 39] (by decide +kernel) (by decide +kernel)
set_option maxRecDepth 20000 in
theorem gX8_from_X8_bad : GoodIn wsX8_from (wsV RX8 57 RX8 yX8_bad wsX8_bad) := goodIn_app (goodIn_of _ (by decide +kernel)) ggX8_from_X8_bad
set_option maxRecDepth 20000 in
theorem ggX8_from_X8_no : GoodIn wsX8_from wsX8_no := goodIn_r _ [16, 12, 20, 21, 22, 23, 24, 25, 26, 27, 28, 29, 30, 31, 32, 33, 34, 35, 36, 37, 38, 39] (by decide +kernel) (by decide +kernel)
set_option maxRecDepth 20000 in
theorem gX8_from_X8_no : GoodIn wsX8_from (wsV RX8 156 RX8 yX8_no wsX8_no) := goodIn_app (goodIn_of _ (by decide +kernel)) ggX8_from_X8_no
set_option maxRecDepth 20000 in
theorem ggX8_from_X8_copy : GoodIn wsX8_from wsX8_copy := goodIn_r _ [19] (by decide +kernel) (by decide +kernel)
set_option maxRecDepth 20000 in
theorem gX8_from_X8_copy : GoodIn wsX8_from (va_wsS RX8 48 yX8_copy wsX8_copy) := goodIn_app (goodIn_of _ (by decide +kernel)) ggX8_from_X8_copy
theorem dX8_from_0 : decode cX8_from 0 = .ok (.iload_n 1, 1) := by decide +kernel
theorem dX8_from_1 : decode cX8_from 1 = .ok (.iconst 0, 1) := by decide +kernel
theorem dX8_from_2 : decode cX8_from 2 = .ok (.iconst 1, 1) := by decide +kernel
theorem dX8_from_3 : decode cX8_from 3 = .ok (.invokestatic 52, 3) := by decide +kernel
theorem dX8_from_6 : decode cX8_from 6 = .ok (.ifCond .ne 8, 3) := by decide +kernel
theorem dX8_from_9 : decode cX8_from 9 = .ok (.aload_n 0, 1) := by decide +kernel
theorem dX8_from_10 : decode cX8_from 10 = .ok (.invokevirtual 57, 3) := by decide +kernel
theorem dX8_from_13 : decode cX8_from 13 = .ok (.ireturn, 1) := by decide +kernel
theorem dX8_from_14 : decode cX8_from 14 = .ok (.aload_n 0, 1) := by decide +kernel
theorem dX8_from_15 : decode cX8_from 15 = .ok (.getfield 22, 3) := by decide +kernel
theorem dX8_from_18 : decode cX8_from 18 = .ok (.iload_n 1, 1) := by decide +kernel
theorem dX8_from_19 : decode cX8_from 19 = .ok (.baload, 1) := by decide +kernel
theorem dX8_from_20 : decode cX8_from 20 = .ok (.ifCond .ne 8, 3) := by decide +kernel
theorem dX8_from_23 : decode cX8_from 23 = .ok (.aload_n 0, 1) := by decide +kernel
theorem dX8_from_24 : decode cX8_from 24 = .ok (.invokevirtual 156, 3) := by decide +kernel
theorem dX8_from_27 : decode cX8_from 27 = .ok (.ireturn, 1) := by decide +kernel
theorem dX8_from_28 : decode cX8_from 28 = .ok (.aload_n 0, 1) := by decide +kernel
theorem dX8_from_29 : decode cX8_from 29 = .ok (.getfield 19, 3) := by decide +kernel
theorem dX8_from_32 : decode cX8_from 32 = .ok (.sipush 362, 3) := by decide +kernel
theorem dX8_from_35 : decode cX8_from 35 = .ok (.iload_n 1, 1) := by decide +kernel
theorem dX8_from_36 : decode cX8_from 36 = .ok (.imul, 1) := by decide +kernel
theorem dX8_from_37 : decode cX8_from 37 = .ok (.aload_n 0, 1) := by decide +kernel
theorem dX8_from_38 : decode cX8_from 38 = .ok (.getfield 7, 3) := by decide +kernel
theorem dX8_from_41 : decode cX8_from 41 = .ok (.iconst 0, 1) := by decide +kernel
theorem dX8_from_42 : decode cX8_from 42 = .ok (.invokestatic 48, 3) := by decide +kernel
theorem dX8_from_45 : decode cX8_from 45 = .ok (.iconst 1, 1) := by decide +kernel
theorem dX8_from_46 : decode cX8_from 46 = .ok (.ireturn, 1) := by decide +kernel
set_option maxRecDepth 20000 in
theorem ggX8_status_X8_in : GoodIn wsX8_status wsX8_in := goodIn_r _ [5] (by decide +kernel) (by decide +kernel)
set_option maxRecDepth 20000 in
theorem gX8_status_X8_in : GoodIn wsX8_status (va_wsS RX8 52 yX8_in wsX8_in) := goodIn_app (goodIn_of _ (by decide +kernel)) ggX8_status_X8_in
set_option maxRecDepth 20000 in
theorem ggX8_status_X8_badAs : GoodIn wsX8_status wsX8_badAs := goodIn_r _ [9, 1, 10, 11, 12, 13, 14, 15, 16, 17, 18, 19, 20, 21, 22, 23, 24, 25, 26, 27, 28, 29] (by decide +kernel) (by decide +kernel)
set_option maxRecDepth 20000 in
theorem gX8_status_X8_badAs : GoodIn wsX8_status (wsV RX8 212 RX8 yX8_badAs wsX8_badAs) := goodIn_app (goodIn_of _ (by decide +kernel)) ggX8_status_X8_badAs
theorem dX8_status_0 : decode cX8_status 0 = .ok (.iload_n 1, 1) := by decide +kernel
theorem dX8_status_1 : decode cX8_status 1 = .ok (.iconst 0, 1) := by decide +kernel
theorem dX8_status_2 : decode cX8_status 2 = .ok (.iconst 2, 1) := by decide +kernel
theorem dX8_status_3 : decode cX8_status 3 = .ok (.invokestatic 52, 3) := by decide +kernel
theorem dX8_status_6 : decode cX8_status 6 = .ok (.ifCond .eq 12, 3) := by decide +kernel
theorem dX8_status_9 : decode cX8_status 9 = .ok (.aload_n 0, 1) := by decide +kernel
theorem dX8_status_10 : decode cX8_status 10 = .ok (.getfield 26, 3) := by decide +kernel
theorem dX8_status_13 : decode cX8_status 13 = .ok (.iload_n 1, 1) := by decide +kernel
theorem dX8_status_14 : decode cX8_status 14 = .ok (.iaload, 1) := by decide +kernel
theorem dX8_status_15 : decode cX8_status 15 = .ok (.goto 8, 3) := by decide +kernel
theorem dX8_status_18 : decode cX8_status 18 = .ok (.aload_n 0, 1) := by decide +kernel
theorem dX8_status_19 : decode cX8_status 19 = .ok (.iconst (-1), 1) := by decide +kernel
theorem dX8_status_20 : decode cX8_status 20 = .ok (.invokevirtual 212, 3) := by decide +kernel
theorem dX8_status_23 : decode cX8_status 23 = .ok (.ireturn, 1) := by decide +kernel
theorem dX8_countOf_0 : decode cX8_countOf 0 = .ok (.iload_n 1, 1) := by decide +kernel
theorem dX8_countOf_1 : decode cX8_countOf 1 = .ok (.bipush 8, 2) := by decide +kernel
theorem dX8_countOf_3 : decode cX8_countOf 3 = .ok (.if_icmp .ne 10, 3) := by decide +kernel
theorem dX8_countOf_6 : decode cX8_countOf 6 = .ok (.aload_n 0, 1) := by decide +kernel
theorem dX8_countOf_7 : decode cX8_countOf 7 = .ok (.getfield 79, 3) := by decide +kernel
theorem dX8_countOf_10 : decode cX8_countOf 10 = .ok (.goto 41, 3) := by decide +kernel
theorem dX8_countOf_13 : decode cX8_countOf 13 = .ok (.iload_n 1, 1) := by decide +kernel
theorem dX8_countOf_14 : decode cX8_countOf 14 = .ok (.bipush 7, 2) := by decide +kernel
theorem dX8_countOf_16 : decode cX8_countOf 16 = .ok (.if_icmp .ne 13, 3) := by decide +kernel
theorem dX8_countOf_19 : decode cX8_countOf 19 = .ok (.aload_n 0, 1) := by decide +kernel
theorem dX8_countOf_20 : decode cX8_countOf 20 = .ok (.getfield 7, 3) := by decide +kernel
theorem dX8_countOf_23 : decode cX8_countOf 23 = .ok (.bipush 7, 2) := by decide +kernel
theorem dX8_countOf_25 : decode cX8_countOf 25 = .ok (.iaload, 1) := by decide +kernel
theorem dX8_countOf_26 : decode cX8_countOf 26 = .ok (.goto 25, 3) := by decide +kernel
theorem dX8_countOf_29 : decode cX8_countOf 29 = .ok (.iload_n 1, 1) := by decide +kernel
theorem dX8_countOf_30 : decode cX8_countOf 30 = .ok (.bipush 6, 2) := by decide +kernel
theorem dX8_countOf_32 : decode cX8_countOf 32 = .ok (.if_icmp .ne 13, 3) := by decide +kernel
theorem dX8_countOf_35 : decode cX8_countOf 35 = .ok (.aload_n 0, 1) := by decide +kernel
theorem dX8_countOf_36 : decode cX8_countOf 36 = .ok (.getfield 7, 3) := by decide +kernel
theorem dX8_countOf_39 : decode cX8_countOf 39 = .ok (.bipush 6, 2) := by decide +kernel
theorem dX8_countOf_41 : decode cX8_countOf 41 = .ok (.iaload, 1) := by decide +kernel
theorem dX8_countOf_42 : decode cX8_countOf 42 = .ok (.goto 9, 3) := by decide +kernel
theorem dX8_countOf_45 : decode cX8_countOf 45 = .ok (.aload_n 0, 1) := by decide +kernel
theorem dX8_countOf_46 : decode cX8_countOf 46 = .ok (.getfield 7, 3) := by decide +kernel
theorem dX8_countOf_49 : decode cX8_countOf 49 = .ok (.iload_n 1, 1) := by decide +kernel
theorem dX8_countOf_50 : decode cX8_countOf 50 = .ok (.iaload, 1) := by decide +kernel
theorem dX8_countOf_51 : decode cX8_countOf 51 = .ok (.ireturn, 1) := by decide +kernel
set_option maxRecDepth 20000 in
theorem ggX8_count_X8_in : GoodIn wsX8_count wsX8_in := goodIn_r _ [4] (by decide +kernel) (by decide +kernel)
set_option maxRecDepth 20000 in
theorem gX8_count_X8_in : GoodIn wsX8_count (va_wsS RX8 52 yX8_in wsX8_in) := goodIn_app (goodIn_of _ (by decide +kernel)) ggX8_count_X8_in
set_option maxRecDepth 20000 in
theorem ggX8_count_X8_countOf : GoodIn wsX8_count wsX8_countOf := goodIn_r _ [8, 9, 10, 16, 17, 18, 19, 20, 21, 22, 23, 24, 25, 26, 27, 28, 29, 30, 31, 32, 33, 34, 35] (by decide +kernel) (by decide +kernel)
set_option maxRecDepth 20000 in
theorem gX8_count_X8_countOf : GoodIn wsX8_count (wsV RX8 244 RX8 yX8_countOf wsX8_countOf) := goodIn_app (goodIn_of _ (by decide +kernel)) ggX8_count_X8_countOf
set_option maxRecDepth 20000 in
theorem ggX8_count_X8_bad : GoodIn wsX8_count wsX8_bad := goodIn_r _ [14, 15, 16, 17, 18, 19, 20, 21, 22, 23, 24, 25, 26, 27, 28, 29, 30, 31, 32, 33, 34, 35] (by decide +kernel) (by decide +kernel)
set_option maxRecDepth 20000 in
theorem gX8_count_X8_bad : GoodIn wsX8_count (wsV RX8 57 RX8 yX8_bad wsX8_bad) := goodIn_app (goodIn_of _ (by decide +kernel)) ggX8_count_X8_bad
theorem dX8_count_0 : decode cX8_count 0 = .ok (.iload_n 1, 1) := by decide +kernel
theorem dX8_count_1 : decode cX8_count 1 = .ok (.iconst 0, 1) := by decide +kernel
theorem dX8_count_2 : decode cX8_count 2 = .ok (.bipush 8, 2) := by decide +kernel
theorem dX8_count_4 : decode cX8_count 4 = .ok (.invokestatic 52, 3) := by decide +kernel
theorem dX8_count_7 : decode cX8_count 7 = .ok (.ifCond .eq 11, 3) := by decide +kernel
theorem dX8_count_10 : decode cX8_count 10 = .ok (.aload_n 0, 1) := by decide +kernel
theorem dX8_count_11 : decode cX8_count 11 = .ok (.iload_n 1, 1) := by decide +kernel
theorem dX8_count_12 : decode cX8_count 12 = .ok (.invokevirtual 244, 3) := by decide +kernel
theorem dX8_count_15 : decode cX8_count 15 = .ok (.goto 7, 3) := by decide +kernel
theorem dX8_count_18 : decode cX8_count 18 = .ok (.aload_n 0, 1) := by decide +kernel
theorem dX8_count_19 : decode cX8_count 19 = .ok (.invokevirtual 57, 3) := by decide +kernel
theorem dX8_count_22 : decode cX8_count 22 = .ok (.ireturn, 1) := by decide +kernel
theorem dX8_mixed_0 : decode cX8_mixed 0 = .ok (.lload_n 1, 1) := by decide +kernel
theorem dX8_mixed_1 : decode cX8_mixed 1 = .ok (.lstore 5, 2) := by decide +kernel
theorem dX8_mixed_3 : decode cX8_mixed 3 = .ok (.iload_n 3, 1) := by decide +kernel
theorem dX8_mixed_4 : decode cX8_mixed 4 = .ok (.istore 7, 2) := by decide +kernel
theorem dX8_mixed_6 : decode cX8_mixed 6 = .ok (.iload 7, 2) := by decide +kernel
theorem dX8_mixed_8 : decode cX8_mixed 8 = .ok (.iload_n 3, 1) := by decide +kernel
theorem dX8_mixed_9 : decode cX8_mixed 9 = .ok (.iload 4, 2) := by decide +kernel
theorem dX8_mixed_11 : decode cX8_mixed 11 = .ok (.iadd, 1) := by decide +kernel
theorem dX8_mixed_12 : decode cX8_mixed 12 = .ok (.if_icmp .ge 26, 3) := by decide +kernel
theorem dX8_mixed_15 : decode cX8_mixed 15 = .ok (.ldc2_w 247, 3) := by decide +kernel
theorem dX8_mixed_18 : decode cX8_mixed 18 = .ok (.lload 5, 2) := by decide +kernel
theorem dX8_mixed_20 : decode cX8_mixed 20 = .ok (.lmul, 1) := by decide +kernel
theorem dX8_mixed_21 : decode cX8_mixed 21 = .ok (.aload_n 0, 1) := by decide +kernel
theorem dX8_mixed_22 : decode cX8_mixed 22 = .ok (.getfield 7, 3) := by decide +kernel
theorem dX8_mixed_25 : decode cX8_mixed 25 = .ok (.iload 7, 2) := by decide +kernel
theorem dX8_mixed_27 : decode cX8_mixed 27 = .ok (.iaload, 1) := by decide +kernel
theorem dX8_mixed_28 : decode cX8_mixed 28 = .ok (.i2l, 1) := by decide +kernel
theorem dX8_mixed_29 : decode cX8_mixed 29 = .ok (.ladd, 1) := by decide +kernel
theorem dX8_mixed_30 : decode cX8_mixed 30 = .ok (.lstore 5, 2) := by decide +kernel
theorem dX8_mixed_32 : decode cX8_mixed 32 = .ok (.iinc 7 1, 3) := by decide +kernel
theorem dX8_mixed_35 : decode cX8_mixed 35 = .ok (.goto (-29), 3) := by decide +kernel
theorem dX8_mixed_38 : decode cX8_mixed 38 = .ok (.lload 5, 2) := by decide +kernel
theorem dX8_mixed_40 : decode cX8_mixed 40 = .ok (.lreturn, 1) := by decide +kernel
set_option maxRecDepth 20000 in
theorem ggX8_digest_X8_countOf : GoodIn wsX8_digest wsX8_countOf := goodIn_r _ [10, 11, 3, 16, 17, 18, 19, 20, 21, 22, 23, 24, 25, 26, 27, 28, 29, 30, 31, 32, 33, 34, 35] (by decide +kernel) (by decide +kernel)
set_option maxRecDepth 20000 in
theorem gX8_digest_X8_countOf : GoodIn wsX8_digest (wsV RX8 244 RX8 yX8_countOf wsX8_countOf) := goodIn_app (goodIn_of _ (by decide +kernel)) ggX8_digest_X8_countOf
set_option maxRecDepth 20000 in
theorem ggX8_digest_X8_mixed : GoodIn wsX8_digest wsX8_mixed := goodIn_r _ [15, 2, 3, 16, 17, 18, 19, 20, 21, 22, 23, 24, 25, 26, 27, 28, 29, 30, 31, 32, 33, 34, 35] (by decide +kernel) (by decide +kernel)
set_option maxRecDepth 20000 in
theorem gX8_digest_X8_mixed : GoodIn wsX8_digest (wsV RX8 251 RX8 yX8_mixed wsX8_mixed) := goodIn_app (goodIn_of _ (by decide +kernel)) ggX8_digest_X8_mixed
theorem dX8_digest_0 : decode cX8_digest 0 = .ok (.ldc2_w 249, 3) := by decide +kernel
theorem dX8_digest_3 : decode cX8_digest 3 = .ok (.lstore_n 1, 1) := by decide +kernel
theorem dX8_digest_4 : decode cX8_digest 4 = .ok (.iconst 0, 1) := by decide +kernel
theorem dX8_digest_5 : decode cX8_digest 5 = .ok (.istore_n 3, 1) := by decide +kernel
theorem dX8_digest_6 : decode cX8_digest 6 = .ok (.iload_n 3, 1) := by decide +kernel
theorem dX8_digest_7 : decode cX8_digest 7 = .ok (.bipush 9, 2) := by decide +kernel
theorem dX8_digest_9 : decode cX8_digest 9 = .ok (.if_icmp .ge 22, 3) := by decide +kernel
theorem dX8_digest_12 : decode cX8_digest 12 = .ok (.ldc2_w 247, 3) := by decide +kernel
theorem dX8_digest_15 : decode cX8_digest 15 = .ok (.lload_n 1, 1) := by decide +kernel
theorem dX8_digest_16 : decode cX8_digest 16 = .ok (.lmul, 1) := by decide +kernel
theorem dX8_digest_17 : decode cX8_digest 17 = .ok (.aload_n 0, 1) := by decide +kernel
theorem dX8_digest_18 : decode cX8_digest 18 = .ok (.iload_n 3, 1) := by decide +kernel
theorem dX8_digest_19 : decode cX8_digest 19 = .ok (.invokevirtual 244, 3) := by decide +kernel
theorem dX8_digest_22 : decode cX8_digest 22 = .ok (.i2l, 1) := by decide +kernel
theorem dX8_digest_23 : decode cX8_digest 23 = .ok (.ladd, 1) := by decide +kernel
theorem dX8_digest_24 : decode cX8_digest 24 = .ok (.lstore_n 1, 1) := by decide +kernel
theorem dX8_digest_25 : decode cX8_digest 25 = .ok (.iinc 3 1, 3) := by decide +kernel
theorem dX8_digest_28 : decode cX8_digest 28 = .ok (.goto (-22), 3) := by decide +kernel
theorem dX8_digest_31 : decode cX8_digest 31 = .ok (.aload_n 0, 1) := by decide +kernel
theorem dX8_digest_32 : decode cX8_digest 32 = .ok (.lload_n 1, 1) := by decide +kernel
theorem dX8_digest_33 : decode cX8_digest 33 = .ok (.bipush 8, 2) := by decide +kernel
theorem dX8_digest_35 : decode cX8_digest 35 = .ok (.iconst 3, 1) := by decide +kernel
theorem dX8_digest_36 : decode cX8_digest 36 = .ok (.aload_n 0, 1) := by decide +kernel
theorem dX8_digest_37 : decode cX8_digest 37 = .ok (.getfield 7, 3) := by decide +kernel
theorem dX8_digest_40 : decode cX8_digest 40 = .ok (.iconst 3, 1) := by decide +kernel
theorem dX8_digest_41 : decode cX8_digest 41 = .ok (.iaload, 1) := by decide +kernel
theorem dX8_digest_42 : decode cX8_digest 42 = .ok (.imul, 1) := by decide +kernel
theorem dX8_digest_43 : decode cX8_digest 43 = .ok (.invokevirtual 251, 3) := by decide +kernel
theorem dX8_digest_46 : decode cX8_digest 46 = .ok (.lstore_n 1, 1) := by decide +kernel
theorem dX8_digest_47 : decode cX8_digest 47 = .ok (.aload_n 0, 1) := by decide +kernel
theorem dX8_digest_48 : decode cX8_digest 48 = .ok (.lload_n 1, 1) := by decide +kernel
theorem dX8_digest_49 : decode cX8_digest 49 = .ok (.bipush 26, 2) := by decide +kernel
theorem dX8_digest_51 : decode cX8_digest 51 = .ok (.iconst 5, 1) := by decide +kernel
theorem dX8_digest_52 : decode cX8_digest 52 = .ok (.aload_n 0, 1) := by decide +kernel
theorem dX8_digest_53 : decode cX8_digest 53 = .ok (.getfield 7, 3) := by decide +kernel
theorem dX8_digest_56 : decode cX8_digest 56 = .ok (.iconst 4, 1) := by decide +kernel
theorem dX8_digest_57 : decode cX8_digest 57 = .ok (.iaload, 1) := by decide +kernel
theorem dX8_digest_58 : decode cX8_digest 58 = .ok (.imul, 1) := by decide +kernel
theorem dX8_digest_59 : decode cX8_digest 59 = .ok (.invokevirtual 251, 3) := by decide +kernel
theorem dX8_digest_62 : decode cX8_digest 62 = .ok (.lstore_n 1, 1) := by decide +kernel
theorem dX8_digest_63 : decode cX8_digest 63 = .ok (.aload_n 0, 1) := by decide +kernel
theorem dX8_digest_64 : decode cX8_digest 64 = .ok (.lload_n 1, 1) := by decide +kernel
theorem dX8_digest_65 : decode cX8_digest 65 = .ok (.bipush 66, 2) := by decide +kernel
theorem dX8_digest_67 : decode cX8_digest 67 = .ok (.iconst 2, 1) := by decide +kernel
theorem dX8_digest_68 : decode cX8_digest 68 = .ok (.aload_n 0, 1) := by decide +kernel
theorem dX8_digest_69 : decode cX8_digest 69 = .ok (.getfield 7, 3) := by decide +kernel
theorem dX8_digest_72 : decode cX8_digest 72 = .ok (.iconst 5, 1) := by decide +kernel
theorem dX8_digest_73 : decode cX8_digest 73 = .ok (.iaload, 1) := by decide +kernel
theorem dX8_digest_74 : decode cX8_digest 74 = .ok (.imul, 1) := by decide +kernel
theorem dX8_digest_75 : decode cX8_digest 75 = .ok (.invokevirtual 251, 3) := by decide +kernel
theorem dX8_digest_78 : decode cX8_digest 78 = .ok (.lstore_n 1, 1) := by decide +kernel
theorem dX8_digest_79 : decode cX8_digest 79 = .ok (.ldc2_w 247, 3) := by decide +kernel
theorem dX8_digest_82 : decode cX8_digest 82 = .ok (.ldc2_w 247, 3) := by decide +kernel
theorem dX8_digest_85 : decode cX8_digest 85 = .ok (.lload_n 1, 1) := by decide +kernel
theorem dX8_digest_86 : decode cX8_digest 86 = .ok (.lmul, 1) := by decide +kernel
theorem dX8_digest_87 : decode cX8_digest 87 = .ok (.aload_n 0, 1) := by decide +kernel
theorem dX8_digest_88 : decode cX8_digest 88 = .ok (.getfield 221, 3) := by decide +kernel
theorem dX8_digest_91 : decode cX8_digest 91 = .ok (.ladd, 1) := by decide +kernel
theorem dX8_digest_92 : decode cX8_digest 92 = .ok (.lmul, 1) := by decide +kernel
theorem dX8_digest_93 : decode cX8_digest 93 = .ok (.aload_n 0, 1) := by decide +kernel
theorem dX8_digest_94 : decode cX8_digest 94 = .ok (.getfield 32, 3) := by decide +kernel
theorem dX8_digest_97 : decode cX8_digest 97 = .ok (.ladd, 1) := by decide +kernel
theorem dX8_digest_98 : decode cX8_digest 98 = .ok (.lreturn, 1) := by decide +kernel
