theorem dX4_isWord_64 : decode cX4_isWord 64 = .ok (.ireturn, 1) := by decide +kernel
theorem dX5_init_0 : decode cX5_init 0 = .ok (.aload_n 0, 1) := by decide +kernel
theorem dX5_init_1 : decode cX5_init 1 = .ok (.invokespecial 3, 3) := by decide +kernel
theorem dX5_init_4 : decode cX5_init 4 = .ok (.aload_n 0, 1) := by decide +kernel
theorem dX5_init_5 : decode cX5_init 5 = .ok (.bipush 6, 2) := by decide +kernel
theorem dX5_init_7 : decode cX5_init 7 = .ok (.newarray .int, 2) := by decide +kernel
theorem dX5_init_9 : decode cX5_init 9 = .ok (.putfield 9, 3) := by decide +kernel
theorem dX5_init_12 : decode cX5_init 12 = .ok (.aload_n 0, 1) := by decide +kernel
theorem dX5_init_13 : decode cX5_init 13 = .ok (.bipush 6, 2) := by decide +kernel
theorem dX5_init_15 : decode cX5_init 15 = .ok (.newarray .int, 2) := by decide +kernel
theorem dX5_init_17 : decode cX5_init 17 = .ok (.putfield 15, 3) := by decide +kernel
theorem dX5_init_20 : decode cX5_init 20 = .ok (.aload_n 0, 1) := by decide +kernel
theorem dX5_init_21 : decode cX5_init 21 = .ok (.bipush 6, 2) := by decide +kernel
theorem dX5_init_23 : decode cX5_init 23 = .ok (.newarray .int, 2) := by decide +kernel
theorem dX5_init_25 : decode cX5_init 25 = .ok (.putfield 18, 3) := by decide +kernel
theorem dX5_init_28 : decode cX5_init 28 = .ok (.aload_n 0, 1) := by decide +kernel
theorem dX5_init_29 : decode cX5_init 29 = .ok (.bipush 8, 2) := by decide +kernel
theorem dX5_init_31 : decode cX5_init 31 = .ok (.newarray .int, 2) := by decide +kernel
theorem dX5_init_33 : decode cX5_init 33 = .ok (.putfield 21, 3) := by decide +kernel
theorem dX5_init_36 : decode cX5_init 36 = .ok (.aload_n 0, 1) := by decide +kernel
theorem dX5_init_37 : decode cX5_init 37 = .ok (.bipush 8, 2) := by decide +kernel
theorem dX5_init_39 : decode cX5_init 39 = .ok (.newarray .int, 2) := by decide +kernel
theorem dX5_init_41 : decode cX5_init 41 = .ok (.putfield 24, 3) := by decide +kernel
theorem dX5_init_44 : decode cX5_init 44 = .ok (.aload_n 0, 1) := by decide +kernel
theorem dX5_init_45 : decode cX5_init 45 = .ok (.bipush 8, 2) := by decide +kernel
theorem dX5_init_47 : decode cX5_init 47 = .ok (.newarray .int, 2) := by decide +kernel
theorem dX5_init_49 : decode cX5_init 49 = .ok (.putfield 27, 3) := by decide +kernel
theorem dX5_init_52 : decode cX5_init 52 = .ok (.aload_n 0, 1) := by decide +kernel
theorem dX5_init_53 : decode cX5_init 53 = .ok (.bipush 8, 2) := by decide +kernel
theorem dX5_init_55 : decode cX5_init 55 = .ok (.newarray .int, 2) := by decide +kernel
theorem dX5_init_57 : decode cX5_init 57 = .ok (.putfield 30, 3) := by decide +kernel
theorem dX5_init_60 : decode cX5_init 60 = .ok (.aload_n 0, 1) := by decide +kernel
theorem dX5_init_61 : decode cX5_init 61 = .ok (.bipush 8, 2) := by decide +kernel
theorem dX5_init_63 : decode cX5_init 63 = .ok (.newarray .int, 2) := by decide +kernel
theorem dX5_init_65 : decode cX5_init 65 = .ok (.putfield 33, 3) := by decide +kernel
theorem dX5_init_68 : decode cX5_init 68 = .ok (.aload_n 0, 1) := by decide +kernel
theorem dX5_init_69 : decode cX5_init 69 = .ok (.bipush 8, 2) := by decide +kernel
theorem dX5_init_71 : decode cX5_init 71 = .ok (.newarray .int, 2) := by decide +kernel
theorem dX5_init_73 : decode cX5_init 73 = .ok (.putfield 36, 3) := by decide +kernel
theorem dX5_init_76 : decode cX5_init 76 = .ok (.aload_n 0, 1) := by decide +kernel
theorem dX5_init_77 : decode cX5_init 77 = .ok (.bipush 8, 2) := by decide +kernel
theorem dX5_init_79 : decode cX5_init 79 = .ok (.newarray .int, 2) := by decide +kernel
theorem dX5_init_81 : decode cX5_init 81 = .ok (.putfield 39, 3) := by decide +kernel
theorem dX5_init_84 : decode cX5_init 84 = .ok (.return_, 1) := by decide +kernel
theorem dX5_makeEmpty_0 : decode cX5_makeEmpty 0 = .ok (.aload_n 0, 1) := by decide +kernel
theorem dX5_makeEmpty_1 : decode cX5_makeEmpty 1 = .ok (.iconst 0, 1) := by decide +kernel
theorem dX5_makeEmpty_2 : decode cX5_makeEmpty 2 = .ok (.putfield 42, 3) := by decide +kernel
theorem dX5_makeEmpty_5 : decode cX5_makeEmpty 5 = .ok (.aload_n 0, 1) := by decide +kernel
theorem dX5_makeEmpty_6 : decode cX5_makeEmpty 6 = .ok (.iconst 0, 1) := by decide +kernel
theorem dX5_makeEmpty_7 : decode cX5_makeEmpty 7 = .ok (.putfield 46, 3) := by decide +kernel
theorem dX5_makeEmpty_10 : decode cX5_makeEmpty 10 = .ok (.aload_n 0, 1) := by decide +kernel
theorem dX5_makeEmpty_11 : decode cX5_makeEmpty 11 = .ok (.iconst 0, 1) := by decide +kernel
theorem dX5_makeEmpty_12 : decode cX5_makeEmpty 12 = .ok (.putfield 49, 3) := by decide +kernel
theorem dX5_makeEmpty_15 : decode cX5_makeEmpty 15 = .ok (.aload_n 0, 1) := by decide +kernel
theorem dX5_makeEmpty_16 : decode cX5_makeEmpty 16 = .ok (.iconst 0, 1) := by decide +kernel
theorem dX5_makeEmpty_17 : decode cX5_makeEmpty 17 = .ok (.putfield 52, 3) := by decide +kernel
theorem dX5_makeEmpty_20 : decode cX5_makeEmpty 20 = .ok (.aload_n 0, 1) := by decide +kernel
theorem dX5_makeEmpty_21 : decode cX5_makeEmpty 21 = .ok (.iconst 0, 1) := by decide +kernel
theorem dX5_makeEmpty_22 : decode cX5_makeEmpty 22 = .ok (.putfield 55, 3) := by decide +kernel
theorem dX5_makeEmpty_25 : decode cX5_makeEmpty 25 = .ok (.aload_n 0, 1) := by decide +kernel
theorem dX5_makeEmpty_26 : decode cX5_makeEmpty 26 = .ok (.iconst 0, 1) := by decide +kernel
theorem dX5_makeEmpty_27 : decode cX5_makeEmpty 27 = .ok (.putfield 58, 3) := by decide +kernel
theorem dX5_makeEmpty_30 : decode cX5_makeEmpty 30 = .ok (.aload_n 0, 1) := by decide +kernel
theorem dX5_makeEmpty_31 : decode cX5_makeEmpty 31 = .ok (.iconst 0, 1) := by decide +kernel
theorem dX5_makeEmpty_32 : decode cX5_makeEmpty 32 = .ok (.putfield 61, 3) := by decide +kernel
theorem dX5_makeEmpty_35 : decode cX5_makeEmpty 35 = .ok (.return_, 1) := by decide +kernel
theorem dX5_copyFrom_0 : decode cX5_copyFrom 0 = .ok (.aload_n 0, 1) := by decide +kernel
theorem dX5_copyFrom_1 : decode cX5_copyFrom 1 = .ok (.aload_n 1, 1) := by decide +kernel
theorem dX5_copyFrom_2 : decode cX5_copyFrom 2 = .ok (.getfield 42, 3) := by decide +kernel
theorem dX5_copyFrom_5 : decode cX5_copyFrom 5 = .ok (.putfield 42, 3) := by decide +kernel
theorem dX5_copyFrom_8 : decode cX5_copyFrom 8 = .ok (.aload_n 0, 1) := by decide +kernel
theorem dX5_copyFrom_9 : decode cX5_copyFrom 9 = .ok (.aload_n 1, 1) := by decide +kernel
theorem dX5_copyFrom_10 : decode cX5_copyFrom 10 = .ok (.getfield 46, 3) := by decide +kernel
theorem dX5_copyFrom_13 : decode cX5_copyFrom 13 = .ok (.putfield 46, 3) := by decide +kernel
theorem dX5_copyFrom_16 : decode cX5_copyFrom 16 = .ok (.aload_n 0, 1) := by decide +kernel
theorem dX5_copyFrom_17 : decode cX5_copyFrom 17 = .ok (.aload_n 1, 1) := by decide +kernel
theorem dX5_copyFrom_18 : decode cX5_copyFrom 18 = .ok (.getfield 49, 3) := by decide +kernel
theorem dX5_copyFrom_21 : decode cX5_copyFrom 21 = .ok (.putfield 49, 3) := by decide +kernel
theorem dX5_copyFrom_24 : decode cX5_copyFrom 24 = .ok (.aload_n 0, 1) := by decide +kernel
theorem dX5_copyFrom_25 : decode cX5_copyFrom 25 = .ok (.aload_n 1, 1) := by decide +kernel
theorem dX5_copyFrom_26 : decode cX5_copyFrom 26 = .ok (.getfield 52, 3) := by decide +kernel
theorem dX5_copyFrom_29 : decode cX5_copyFrom 29 = .ok (.putfield 52, 3) := by decide +kernel
theorem dX5_copyFrom_32 : decode cX5_copyFrom 32 = .ok (.aload_n 0, 1) := by decide +kernel
theorem dX5_copyFrom_33 : decode cX5_copyFrom 33 = .ok (.aload_n 1, 1) := by decide +kernel
theorem dX5_copyFrom_34 : decode cX5_copyFrom 34 = .ok (.getfield 55, 3) := by decide +kernel
theorem dX5_copyFrom_37 : decode cX5_copyFrom 37 = .ok (.putfield 55, 3) := by decide +kernel
theorem dX5_copyFrom_40 : decode cX5_copyFrom 40 = .ok (.aload_n 0, 1) := by decide +kernel
theorem dX5_copyFrom_41 : decode cX5_copyFrom 41 = .ok (.aload_n 1, 1) := by decide +kernel
theorem dX5_copyFrom_42 : decode cX5_copyFrom 42 = .ok (.getfield 58, 3) := by decide +kernel
theorem dX5_copyFrom_45 : decode cX5_copyFrom 45 = .ok (.putfield 58, 3) := by decide +kernel
theorem dX5_copyFrom_48 : decode cX5_copyFrom 48 = .ok (.aload_n 0, 1) := by decide +kernel
theorem dX5_copyFrom_49 : decode cX5_copyFrom 49 = .ok (.aload_n 1, 1) := by decide +kernel
theorem dX5_copyFrom_50 : decode cX5_copyFrom 50 = .ok (.getfield 61, 3) := by decide +kernel
theorem dX5_copyFrom_53 : decode cX5_copyFrom 53 = .ok (.putfield 61, 3) := by decide +kernel
theorem dX5_copyFrom_56 : decode cX5_copyFrom 56 = .ok (.aload_n 1, 1) := by decide +kernel
theorem dX5_copyFrom_57 : decode cX5_copyFrom 57 = .ok (.getfield 9, 3) := by decide +kernel
theorem dX5_copyFrom_60 : decode cX5_copyFrom 60 = .ok (.iconst 0, 1) := by decide +kernel
theorem dX5_copyFrom_61 : decode cX5_copyFrom 61 = .ok (.aload_n 0, 1) := by decide +kernel
theorem dX5_copyFrom_62 : decode cX5_copyFrom 62 = .ok (.getfield 9, 3) := by decide +kernel
theorem dX5_copyFrom_65 : decode cX5_copyFrom 65 = .ok (.iconst 0, 1) := by decide +kernel
theorem dX5_copyFrom_66 : decode cX5_copyFrom 66 = .ok (.bipush 6, 2) := by decide +kernel
theorem dX5_copyFrom_68 : decode cX5_copyFrom 68 = .ok (.invokestatic 64, 3) := by decide +kernel
theorem dX5_copyFrom_71 : decode cX5_copyFrom 71 = .ok (.aload_n 1, 1) := by decide +kernel
theorem dX5_copyFrom_72 : decode cX5_copyFrom 72 = .ok (.getfield 15, 3) := by decide +kernel
theorem dX5_copyFrom_75 : decode cX5_copyFrom 75 = .ok (.iconst 0, 1) := by decide +kernel
theorem dX5_copyFrom_76 : decode cX5_copyFrom 76 = .ok (.aload_n 0, 1) := by decide +kernel
theorem dX5_copyFrom_77 : decode cX5_copyFrom 77 = .ok (.getfield 15, 3) := by decide +kernel
theorem dX5_copyFrom_80 : decode cX5_copyFrom 80 = .ok (.iconst 0, 1) := by decide +kernel
theorem dX5_copyFrom_81 : decode cX5_copyFrom 81 = .ok (.bipush 6, 2) := by decide +kernel
theorem dX5_copyFrom_83 : decode cX5_copyFrom 83 = .ok (.invokestatic 64, 3) := by decide +kernel
theorem dX5_copyFrom_86 : decode cX5_copyFrom 86 = .ok (.aload_n 1, 1) := by decide +kernel
theorem dX5_copyFrom_87 : decode cX5_copyFrom 87 = .ok (.getfield 18, 3) := by decide +kernel
theorem dX5_copyFrom_90 : decode cX5_copyFrom 90 = .ok (.iconst 0, 1) := by decide +kernel
theorem dX5_copyFrom_91 : decode cX5_copyFrom 91 = .ok (.aload_n 0, 1) := by decide +kernel
theorem dX5_copyFrom_92 : decode cX5_copyFrom 92 = .ok (.getfield 18, 3) := by decide +kernel
theorem dX5_copyFrom_95 : decode cX5_copyFrom 95 = .ok (.iconst 0, 1) := by decide +kernel
theorem dX5_copyFrom_96 : decode cX5_copyFrom 96 = .ok (.bipush 6, 2) := by decide +kernel
theorem dX5_copyFrom_98 : decode cX5_copyFrom 98 = .ok (.invokestatic 64, 3) := by decide +kernel
theorem dX5_copyFrom_101 : decode cX5_copyFrom 101 = .ok (.aload_n 1, 1) := by decide +kernel
theorem dX5_copyFrom_102 : decode cX5_copyFrom 102 = .ok (.getfield 21, 3) := by decide +kernel
theorem dX5_copyFrom_105 : decode cX5_copyFrom 105 = .ok (.iconst 0, 1) := by decide +kernel
theorem dX5_copyFrom_106 : decode cX5_copyFrom 106 = .ok (.aload_n 0, 1) := by decide +kernel
theorem dX5_copyFrom_107 : decode cX5_copyFrom 107 = .ok (.getfield 21, 3) := by decide +kernel
theorem dX5_copyFrom_110 : decode cX5_copyFrom 110 = .ok (.iconst 0, 1) := by decide +kernel
theorem dX5_copyFrom_111 : decode cX5_copyFrom 111 = .ok (.bipush 8, 2) := by decide +kernel
theorem dX5_copyFrom_113 : decode cX5_copyFrom 113 = .ok (.invokestatic 64, 3) := by decide +kernel
theorem dX5_copyFrom_116 : decode cX5_copyFrom 116 = .ok (.aload_n 1, 1) := by decide +kernel
theorem dX5_copyFrom_117 : decode cX5_copyFrom 117 = .ok (.getfield 24, 3) := by decide +kernel
theorem dX5_copyFrom_120 : decode cX5_copyFrom 120 = .ok (.iconst 0, 1) := by decide +kernel
theorem dX5_copyFrom_121 : decode cX5_copyFrom 121 = .ok (.aload_n 0, 1) := by decide +kernel
theorem dX5_copyFrom_122 : decode cX5_copyFrom 122 = .ok (.getfield 24, 3) := by decide +kernel
theorem dX5_copyFrom_125 : decode cX5_copyFrom 125 = .ok (.iconst 0, 1) := by decide +kernel
theorem dX5_copyFrom_126 : decode cX5_copyFrom 126 = .ok (.bipush 8, 2) := by decide +kernel
theorem dX5_copyFrom_128 : decode cX5_copyFrom 128 = .ok (.invokestatic 64, 3) := by decide +kernel
theorem dX5_copyFrom_131 : decode cX5_copyFrom 131 = .ok (.aload_n 1, 1) := by decide +kernel
theorem dX5_copyFrom_132 : decode cX5_copyFrom 132 = .ok (.getfield 27, 3) := by decide +kernel
theorem dX5_copyFrom_135 : decode cX5_copyFrom 135 = .ok (.iconst 0, 1) := by decide +kernel
theorem dX5_copyFrom_136 : decode cX5_copyFrom 136 = .ok (.aload_n 0, 1) := by decide +kernel
theorem dX5_copyFrom_137 : decode cX5_copyFrom 137 = .ok (.getfield 27, 3) := by decide +kernel
theorem dX5_copyFrom_140 : decode cX5_copyFrom 140 = .ok (.iconst 0, 1) := by decide +kernel
theorem dX5_copyFrom_141 : decode cX5_copyFrom 141 = .ok (.bipush 8, 2) := by decide +kernel
theorem dX5_copyFrom_143 : decode cX5_copyFrom 143 = .ok (.invokestatic 64, 3) := by decide +kernel
theorem dX5_copyFrom_146 : decode cX5_copyFrom 146 = .ok (.aload_n 1, 1) := by decide +kernel
theorem dX5_copyFrom_147 : decode cX5_copyFrom 147 = .ok (.getfield 30, 3) := by decide +kernel
theorem dX5_copyFrom_150 : decode cX5_copyFrom 150 = .ok (.iconst 0, 1) := by decide +kernel
theorem dX5_copyFrom_151 : decode cX5_copyFrom 151 = .ok (.aload_n 0, 1) := by decide +kernel
theorem dX5_copyFrom_152 : decode cX5_copyFrom 152 = .ok (.getfield 30, 3) := by decide +kernel
theorem dX5_copyFrom_155 : decode cX5_copyFrom 155 = .ok (.iconst 0, 1) := by decide +kernel
theorem dX5_copyFrom_156 : decode cX5_copyFrom 156 = .ok (.bipush 8, 2) := by decide +kernel
theorem dX5_copyFrom_158 : decode cX5_copyFrom 158 = .ok (.invokestatic 64, 3) := by decide +kernel
theorem dX5_copyFrom_161 : decode cX5_copyFrom 161 = .ok (.aload_n 1, 1) := by decide +kernel
theorem dX5_copyFrom_162 : decode cX5_copyFrom 162 = .ok (.getfield 33, 3) := by decide +kernel
theorem dX5_copyFrom_165 : decode cX5_copyFrom 165 = .ok (.iconst 0, 1) := by decide +kernel
theorem dX5_copyFrom_166 : decode cX5_copyFrom 166 = .ok (.aload_n 0, 1) := by decide +kernel
theorem dX5_copyFrom_167 : decode cX5_copyFrom 167 = .ok (.getfield 33, 3) := by decide +kernel
theorem dX5_copyFrom_170 : decode cX5_copyFrom 170 = .ok (.iconst 0, 1) := by decide +kernel
theorem dX5_copyFrom_171 : decode cX5_copyFrom 171 = .ok (.bipush 8, 2) := by decide +kernel
theorem dX5_copyFrom_173 : decode cX5_copyFrom 173 = .ok (.invokestatic 64, 3) := by decide +kernel
theorem dX5_copyFrom_176 : decode cX5_copyFrom 176 = .ok (.aload_n 1, 1) := by decide +kernel
theorem dX5_copyFrom_177 : decode cX5_copyFrom 177 = .ok (.getfield 36, 3) := by decide +kernel
theorem dX5_copyFrom_180 : decode cX5_copyFrom 180 = .ok (.iconst 0, 1) := by decide +kernel
theorem dX5_copyFrom_181 : decode cX5_copyFrom 181 = .ok (.aload_n 0, 1) := by decide +kernel
theorem dX5_copyFrom_182 : decode cX5_copyFrom 182 = .ok (.getfield 36, 3) := by decide +kernel
theorem dX5_copyFrom_185 : decode cX5_copyFrom 185 = .ok (.iconst 0, 1) := by decide +kernel
theorem dX5_copyFrom_186 : decode cX5_copyFrom 186 = .ok (.bipush 8, 2) := by decide +kernel
theorem dX5_copyFrom_188 : decode cX5_copyFrom 188 = .ok (.invokestatic 64, 3) := by decide +kernel
theorem dX5_copyFrom_191 : decode cX5_copyFrom 191 = .ok (.aload_n 1, 1) := by decide +kernel
theorem dX5_copyFrom_192 : decode cX5_copyFrom 192 = .ok (.getfield 39, 3) := by decide +kernel
theorem dX5_copyFrom_195 : decode cX5_copyFrom 195 = .ok (.iconst 0, 1) := by decide +kernel
theorem dX5_copyFrom_196 : decode cX5_copyFrom 196 = .ok (.aload_n 0, 1) := by decide +kernel
theorem dX5_copyFrom_197 : decode cX5_copyFrom 197 = .ok (.getfield 39, 3) := by decide +kernel
theorem dX5_copyFrom_200 : decode cX5_copyFrom 200 = .ok (.iconst 0, 1) := by decide +kernel
theorem dX5_copyFrom_201 : decode cX5_copyFrom 201 = .ok (.bipush 8, 2) := by decide +kernel
theorem dX5_copyFrom_203 : decode cX5_copyFrom 203 = .ok (.invokestatic 64, 3) := by decide +kernel
theorem dX5_copyFrom_206 : decode cX5_copyFrom 206 = .ok (.return_, 1) := by decide +kernel
theorem dX5_hasPerson_0 : decode cX5_hasPerson 0 = .ok (.iload_n 1, 1) := by decide +kernel
theorem dX5_hasPerson_1 : decode cX5_hasPerson 1 = .ok (.ifCond .lt 15, 3) := by decide +kernel
theorem dX5_hasPerson_4 : decode cX5_hasPerson 4 = .ok (.iload_n 1, 1) := by decide +kernel
theorem dX5_hasPerson_5 : decode cX5_hasPerson 5 = .ok (.aload_n 0, 1) := by decide +kernel
theorem dX5_hasPerson_6 : decode cX5_hasPerson 6 = .ok (.getfield 55, 3) := by decide +kernel
theorem dX5_hasPerson_9 : decode cX5_hasPerson 9 = .ok (.if_icmp .ge 7, 3) := by decide +kernel
theorem dX5_hasPerson_12 : decode cX5_hasPerson 12 = .ok (.iconst 1, 1) := by decide +kernel
theorem dX5_hasPerson_13 : decode cX5_hasPerson 13 = .ok (.goto 4, 3) := by decide +kernel
theorem dX5_hasPerson_16 : decode cX5_hasPerson 16 = .ok (.iconst 0, 1) := by decide +kernel
theorem dX5_hasPerson_17 : decode cX5_hasPerson 17 = .ok (.ireturn, 1) := by decide +kernel
theorem dX5_hasLoan_0 : decode cX5_hasLoan 0 = .ok (.iload_n 1, 1) := by decide +kernel
theorem dX5_hasLoan_1 : decode cX5_hasLoan 1 = .ok (.ifCond .lt 15, 3) := by decide +kernel
theorem dX5_hasLoan_4 : decode cX5_hasLoan 4 = .ok (.iload_n 1, 1) := by decide +kernel
theorem dX5_hasLoan_5 : decode cX5_hasLoan 5 = .ok (.aload_n 0, 1) := by decide +kernel
theorem dX5_hasLoan_6 : decode cX5_hasLoan 6 = .ok (.getfield 58, 3) := by decide +kernel
theorem dX5_hasLoan_9 : decode cX5_hasLoan 9 = .ok (.if_icmp .ge 7, 3) := by decide +kernel
theorem dX5_hasLoan_12 : decode cX5_hasLoan 12 = .ok (.iconst 1, 1) := by decide +kernel
theorem dX5_hasLoan_13 : decode cX5_hasLoan 13 = .ok (.goto 4, 3) := by decide +kernel
theorem dX5_hasLoan_16 : decode cX5_hasLoan 16 = .ok (.iconst 0, 1) := by decide +kernel
theorem dX5_hasLoan_17 : decode cX5_hasLoan 17 = .ok (.ireturn, 1) := by decide +kernel
theorem dX5_addPerson_0 : decode cX5_addPerson 0 = .ok (.aload_n 0, 1) := by decide +kernel
theorem dX5_addPerson_1 : decode cX5_addPerson 1 = .ok (.getfield 55, 3) := by decide +kernel
theorem dX5_addPerson_4 : decode cX5_addPerson 4 = .ok (.bipush 6, 2) := by decide +kernel
theorem dX5_addPerson_6 : decode cX5_addPerson 6 = .ok (.if_icmp .lt 6, 3) := by decide +kernel
theorem dX5_addPerson_9 : decode cX5_addPerson 9 = .ok (.bipush (-4), 2) := by decide +kernel
theorem dX5_addPerson_11 : decode cX5_addPerson 11 = .ok (.ireturn, 1) := by decide +kernel
theorem dX5_addPerson_12 : decode cX5_addPerson 12 = .ok (.aload_n 0, 1) := by decide +kernel
theorem dX5_addPerson_13 : decode cX5_addPerson 13 = .ok (.getfield 9, 3) := by decide +kernel
theorem dX5_addPerson_16 : decode cX5_addPerson 16 = .ok (.aload_n 0, 1) := by decide +kernel
theorem dX5_addPerson_17 : decode cX5_addPerson 17 = .ok (.getfield 55, 3) := by decide +kernel
theorem dX5_addPerson_20 : decode cX5_addPerson 20 = .ok (.iload_n 1, 1) := by decide +kernel
theorem dX5_addPerson_21 : decode cX5_addPerson 21 = .ok (.iastore, 1) := by decide +kernel
theorem dX5_addPerson_22 : decode cX5_addPerson 22 = .ok (.aload_n 0, 1) := by decide +kernel
theorem dX5_addPerson_23 : decode cX5_addPerson 23 = .ok (.getfield 15, 3) := by decide +kernel
theorem dX5_addPerson_26 : decode cX5_addPerson 26 = .ok (.aload_n 0, 1) := by decide +kernel
theorem dX5_addPerson_27 : decode cX5_addPerson 27 = .ok (.getfield 55, 3) := by decide +kernel
theorem dX5_addPerson_30 : decode cX5_addPerson 30 = .ok (.iload_n 2, 1) := by decide +kernel
theorem dX5_addPerson_31 : decode cX5_addPerson 31 = .ok (.iastore, 1) := by decide +kernel
theorem dX5_addPerson_32 : decode cX5_addPerson 32 = .ok (.aload_n 0, 1) := by decide +kernel
theorem dX5_addPerson_33 : decode cX5_addPerson 33 = .ok (.getfield 18, 3) := by decide +kernel
theorem dX5_addPerson_36 : decode cX5_addPerson 36 = .ok (.aload_n 0, 1) := by decide +kernel
theorem dX5_addPerson_37 : decode cX5_addPerson 37 = .ok (.getfield 55, 3) := by decide +kernel
theorem dX5_addPerson_40 : decode cX5_addPerson 40 = .ok (.iload_n 3, 1) := by decide +kernel
theorem dX5_addPerson_41 : decode cX5_addPerson 41 = .ok (.iastore, 1) := by decide +kernel
theorem dX5_addPerson_42 : decode cX5_addPerson 42 = .ok (.aload_n 0, 1) := by decide +kernel
theorem dX5_addPerson_43 : decode cX5_addPerson 43 = .ok (.dup, 1) := by decide +kernel
theorem dX5_addPerson_44 : decode cX5_addPerson 44 = .ok (.getfield 55, 3) := by decide +kernel
theorem dX5_addPerson_47 : decode cX5_addPerson 47 = .ok (.iconst 1, 1) := by decide +kernel
theorem dX5_addPerson_48 : decode cX5_addPerson 48 = .ok (.iadd, 1) := by decide +kernel
theorem dX5_addPerson_49 : decode cX5_addPerson 49 = .ok (.putfield 55, 3) := by decide +kernel
theorem dX5_addPerson_52 : decode cX5_addPerson 52 = .ok (.aload_n 0, 1) := by decide +kernel
theorem dX5_addPerson_53 : decode cX5_addPerson 53 = .ok (.getfield 55, 3) := by decide +kernel
theorem dX5_addPerson_56 : decode cX5_addPerson 56 = .ok (.iconst 1, 1) := by decide +kernel
theorem dX5_addPerson_57 : decode cX5_addPerson 57 = .ok (.isub, 1) := by decide +kernel
theorem dX5_addPerson_58 : decode cX5_addPerson 58 = .ok (.ireturn, 1) := by decide +kernel
theorem dX5_addLoan_0 : decode cX5_addLoan 0 = .ok (.aload_n 0, 1) := by decide +kernel
theorem dX5_addLoan_1 : decode cX5_addLoan 1 = .ok (.getfield 58, 3) := by decide +kernel
theorem dX5_addLoan_4 : decode cX5_addLoan 4 = .ok (.bipush 8, 2) := by decide +kernel
theorem dX5_addLoan_6 : decode cX5_addLoan 6 = .ok (.if_icmp .lt 6, 3) := by decide +kernel
theorem dX5_addLoan_9 : decode cX5_addLoan 9 = .ok (.bipush (-4), 2) := by decide +kernel
theorem dX5_addLoan_11 : decode cX5_addLoan 11 = .ok (.ireturn, 1) := by decide +kernel
theorem dX5_addLoan_12 : decode cX5_addLoan 12 = .ok (.aload_n 0, 1) := by decide +kernel
theorem dX5_addLoan_13 : decode cX5_addLoan 13 = .ok (.getfield 21, 3) := by decide +kernel
theorem dX5_addLoan_16 : decode cX5_addLoan 16 = .ok (.aload_n 0, 1) := by decide +kernel
theorem dX5_addLoan_17 : decode cX5_addLoan 17 = .ok (.getfield 58, 3) := by decide +kernel
theorem dX5_addLoan_20 : decode cX5_addLoan 20 = .ok (.iload_n 1, 1) := by decide +kernel
theorem dX5_addLoan_21 : decode cX5_addLoan 21 = .ok (.iastore, 1) := by decide +kernel
theorem dX5_addLoan_22 : decode cX5_addLoan 22 = .ok (.aload_n 0, 1) := by decide +kernel
theorem dX5_addLoan_23 : decode cX5_addLoan 23 = .ok (.getfield 24, 3) := by decide +kernel
theorem dX5_addLoan_26 : decode cX5_addLoan 26 = .ok (.aload_n 0, 1) := by decide +kernel
theorem dX5_addLoan_27 : decode cX5_addLoan 27 = .ok (.getfield 58, 3) := by decide +kernel
theorem dX5_addLoan_30 : decode cX5_addLoan 30 = .ok (.iload_n 2, 1) := by decide +kernel
theorem dX5_addLoan_31 : decode cX5_addLoan 31 = .ok (.iastore, 1) := by decide +kernel
theorem dX5_addLoan_32 : decode cX5_addLoan 32 = .ok (.aload_n 0, 1) := by decide +kernel
theorem dX5_addLoan_33 : decode cX5_addLoan 33 = .ok (.getfield 27, 3) := by decide +kernel
theorem dX5_addLoan_36 : decode cX5_addLoan 36 = .ok (.aload_n 0, 1) := by decide +kernel
theorem dX5_addLoan_37 : decode cX5_addLoan 37 = .ok (.getfield 58, 3) := by decide +kernel
theorem dX5_addLoan_40 : decode cX5_addLoan 40 = .ok (.iload_n 3, 1) := by decide +kernel
theorem dX5_addLoan_41 : decode cX5_addLoan 41 = .ok (.iastore, 1) := by decide +kernel
theorem dX5_addLoan_42 : decode cX5_addLoan 42 = .ok (.aload_n 0, 1) := by decide +kernel
theorem dX5_addLoan_43 : decode cX5_addLoan 43 = .ok (.getfield 30, 3) := by decide +kernel
theorem dX5_addLoan_46 : decode cX5_addLoan 46 = .ok (.aload_n 0, 1) := by decide +kernel
theorem dX5_addLoan_47 : decode cX5_addLoan 47 = .ok (.getfield 58, 3) := by decide +kernel
theorem dX5_addLoan_50 : decode cX5_addLoan 50 = .ok (.iconst 0, 1) := by decide +kernel
theorem dX5_addLoan_51 : decode cX5_addLoan 51 = .ok (.iastore, 1) := by decide +kernel
theorem dX5_addLoan_52 : decode cX5_addLoan 52 = .ok (.aload_n 0, 1) := by decide +kernel
theorem dX5_addLoan_53 : decode cX5_addLoan 53 = .ok (.getfield 33, 3) := by decide +kernel
theorem dX5_addLoan_56 : decode cX5_addLoan 56 = .ok (.aload_n 0, 1) := by decide +kernel
theorem dX5_addLoan_57 : decode cX5_addLoan 57 = .ok (.getfield 58, 3) := by decide +kernel
theorem dX5_addLoan_60 : decode cX5_addLoan 60 = .ok (.iconst 0, 1) := by decide +kernel
theorem dX5_addLoan_61 : decode cX5_addLoan 61 = .ok (.iastore, 1) := by decide +kernel
theorem dX5_addLoan_62 : decode cX5_addLoan 62 = .ok (.aload_n 0, 1) := by decide +kernel
theorem dX5_addLoan_63 : decode cX5_addLoan 63 = .ok (.dup, 1) := by decide +kernel
theorem dX5_addLoan_64 : decode cX5_addLoan 64 = .ok (.getfield 58, 3) := by decide +kernel
theorem dX5_addLoan_67 : decode cX5_addLoan 67 = .ok (.iconst 1, 1) := by decide +kernel
theorem dX5_addLoan_68 : decode cX5_addLoan 68 = .ok (.iadd, 1) := by decide +kernel
theorem dX5_addLoan_69 : decode cX5_addLoan 69 = .ok (.putfield 58, 3) := by decide +kernel
theorem dX5_addLoan_72 : decode cX5_addLoan 72 = .ok (.aload_n 0, 1) := by decide +kernel
theorem dX5_addLoan_73 : decode cX5_addLoan 73 = .ok (.getfield 58, 3) := by decide +kernel
theorem dX5_addLoan_76 : decode cX5_addLoan 76 = .ok (.iconst 1, 1) := by decide +kernel
theorem dX5_addLoan_77 : decode cX5_addLoan 77 = .ok (.isub, 1) := by decide +kernel
theorem dX5_addLoan_78 : decode cX5_addLoan 78 = .ok (.ireturn, 1) := by decide +kernel
theorem dX5_addOffer_0 : decode cX5_addOffer 0 = .ok (.aload_n 0, 1) := by decide +kernel
theorem dX5_addOffer_1 : decode cX5_addOffer 1 = .ok (.getfield 61, 3) := by decide +kernel
theorem dX5_addOffer_4 : decode cX5_addOffer 4 = .ok (.bipush 8, 2) := by decide +kernel
theorem dX5_addOffer_6 : decode cX5_addOffer 6 = .ok (.if_icmp .lt 6, 3) := by decide +kernel
theorem dX5_addOffer_9 : decode cX5_addOffer 9 = .ok (.bipush (-4), 2) := by decide +kernel
theorem dX5_addOffer_11 : decode cX5_addOffer 11 = .ok (.ireturn, 1) := by decide +kernel
theorem dX5_addOffer_12 : decode cX5_addOffer 12 = .ok (.aload_n 0, 1) := by decide +kernel
theorem dX5_addOffer_13 : decode cX5_addOffer 13 = .ok (.getfield 36, 3) := by decide +kernel
theorem dX5_addOffer_16 : decode cX5_addOffer 16 = .ok (.aload_n 0, 1) := by decide +kernel
theorem dX5_addOffer_17 : decode cX5_addOffer 17 = .ok (.getfield 61, 3) := by decide +kernel
theorem dX5_addOffer_20 : decode cX5_addOffer 20 = .ok (.iload_n 1, 1) := by decide +kernel
theorem dX5_addOffer_21 : decode cX5_addOffer 21 = .ok (.iastore, 1) := by decide +kernel
theorem dX5_addOffer_22 : decode cX5_addOffer 22 = .ok (.aload_n 0, 1) := by decide +kernel
theorem dX5_addOffer_23 : decode cX5_addOffer 23 = .ok (.getfield 39, 3) := by decide +kernel
theorem dX5_addOffer_26 : decode cX5_addOffer 26 = .ok (.aload_n 0, 1) := by decide +kernel
theorem dX5_addOffer_27 : decode cX5_addOffer 27 = .ok (.getfield 61, 3) := by decide +kernel
theorem dX5_addOffer_30 : decode cX5_addOffer 30 = .ok (.iload_n 2, 1) := by decide +kernel
theorem dX5_addOffer_31 : decode cX5_addOffer 31 = .ok (.iastore, 1) := by decide +kernel
theorem dX5_addOffer_32 : decode cX5_addOffer 32 = .ok (.aload_n 0, 1) := by decide +kernel
theorem dX5_addOffer_33 : decode cX5_addOffer 33 = .ok (.dup, 1) := by decide +kernel
theorem dX5_addOffer_34 : decode cX5_addOffer 34 = .ok (.getfield 61, 3) := by decide +kernel
theorem dX5_addOffer_37 : decode cX5_addOffer 37 = .ok (.iconst 1, 1) := by decide +kernel
theorem dX5_addOffer_38 : decode cX5_addOffer 38 = .ok (.iadd, 1) := by decide +kernel
theorem dX5_addOffer_39 : decode cX5_addOffer 39 = .ok (.putfield 61, 3) := by decide +kernel
theorem dX5_addOffer_42 : decode cX5_addOffer 42 = .ok (.aload_n 0, 1) := by decide +kernel
theorem dX5_addOffer_43 : decode cX5_addOffer 43 = .ok (.getfield 61, 3) := by decide +kernel
theorem dX5_addOffer_46 : decode cX5_addOffer 46 = .ok (.iconst 1, 1) := by decide +kernel
theorem dX5_addOffer_47 : decode cX5_addOffer 47 = .ok (.isub, 1) := by decide +kernel
theorem dX5_addOffer_48 : decode cX5_addOffer 48 = .ok (.ireturn, 1) := by decide +kernel
theorem dX5_howManyAre_0 : decode cX5_howManyAre 0 = .ok (.iconst 0, 1) := by decide +kernel
theorem dX5_howManyAre_1 : decode cX5_howManyAre 1 = .ok (.istore_n 2, 1) := by decide +kernel
theorem dX5_howManyAre_2 : decode cX5_howManyAre 2 = .ok (.iconst 0, 1) := by decide +kernel
theorem dX5_howManyAre_3 : decode cX5_howManyAre 3 = .ok (.istore_n 3, 1) := by decide +kernel
theorem dX5_howManyAre_4 : decode cX5_howManyAre 4 = .ok (.iload_n 3, 1) := by decide +kernel
theorem dX5_howManyAre_5 : decode cX5_howManyAre 5 = .ok (.aload_n 0, 1) := by decide +kernel
theorem dX5_howManyAre_6 : decode cX5_howManyAre 6 = .ok (.getfield 58, 3) := by decide +kernel
theorem dX5_howManyAre_9 : decode cX5_howManyAre 9 = .ok (.if_icmp .ge 22, 3) := by decide +kernel
theorem dX5_howManyAre_12 : decode cX5_howManyAre 12 = .ok (.aload_n 0, 1) := by decide +kernel
theorem dX5_howManyAre_13 : decode cX5_howManyAre 13 = .ok (.getfield 30, 3) := by decide +kernel
theorem dX5_howManyAre_16 : decode cX5_howManyAre 16 = .ok (.iload_n 3, 1) := by decide +kernel
theorem dX5_howManyAre_17 : decode cX5_howManyAre 17 = .ok (.iaload, 1) := by decide +kernel
theorem dX5_howManyAre_18 : decode cX5_howManyAre 18 = .ok (.iload_n 1, 1) := by decide +kernel
theorem dX5_howManyAre_19 : decode cX5_howManyAre 19 = .ok (.if_icmp .ne 6, 3) := by decide +kernel
theorem dX5_howManyAre_22 : decode cX5_howManyAre 22 = .ok (.iinc 2 1, 3) := by decide +kernel
theorem dX5_howManyAre_25 : decode cX5_howManyAre 25 = .ok (.iinc 3 1, 3) := by decide +kernel
theorem dX5_howManyAre_28 : decode cX5_howManyAre 28 = .ok (.goto (-24), 3) := by decide +kernel
theorem dX5_howManyAre_31 : decode cX5_howManyAre 31 = .ok (.iload_n 2, 1) := by decide +kernel
theorem dX5_howManyAre_32 : decode cX5_howManyAre 32 = .ok (.ireturn, 1) := by decide +kernel
theorem dX5_gainOf_0 : decode cX5_gainOf 0 = .ok (.iload_n 1, 1) := by decide +kernel
theorem dX5_gainOf_1 : decode cX5_gainOf 1 = .ok (.iload_n 2, 1) := by decide +kernel
theorem dX5_gainOf_2 : decode cX5_gainOf 2 = .ok (.imul, 1) := by decide +kernel
theorem dX5_gainOf_3 : decode cX5_gainOf 3 = .ok (.aload_n 0, 1) := by decide +kernel
theorem dX5_gainOf_4 : decode cX5_gainOf 4 = .ok (.getfield 46, 3) := by decide +kernel
theorem dX5_gainOf_7 : decode cX5_gainOf 7 = .ok (.imul, 1) := by decide +kernel
theorem dX5_gainOf_8 : decode cX5_gainOf 8 = .ok (.bipush 100, 2) := by decide +kernel
theorem dX5_gainOf_10 : decode cX5_gainOf 10 = .ok (.idiv, 1) := by decide +kernel
theorem dX5_gainOf_11 : decode cX5_gainOf 11 = .ok (.ireturn, 1) := by decide +kernel
set_option maxRecDepth 20000 in
theorem ggX5_wholeOf_X5_gainOf : GoodIn wsX5_wholeOf wsX5_gainOf := goodIn_r _ [7, 8, 9, 10, 11, 12, 13, 14, 15, 16, 17, 18, 19, 20, 21, 22, 23, 24, 25] (by decide +kernel) (by decide +kernel)
set_option maxRecDepth 20000 in
theorem gX5_wholeOf_X5_gainOf : GoodIn wsX5_wholeOf (wsV RX5 70 RX5 yX5_gainOf wsX5_gainOf) := goodIn_app (goodIn_of _ (by decide +kernel)) ggX5_wholeOf_X5_gainOf
theorem dX5_wholeOf_0 : decode cX5_wholeOf 0 = .ok (.aload_n 0, 1) := by decide +kernel
theorem dX5_wholeOf_1 : decode cX5_wholeOf 1 = .ok (.getfield 24, 3) := by decide +kernel
theorem dX5_wholeOf_4 : decode cX5_wholeOf 4 = .ok (.iload_n 1, 1) := by decide +kernel
theorem dX5_wholeOf_5 : decode cX5_wholeOf 5 = .ok (.iaload, 1) := by decide +kernel
theorem dX5_wholeOf_6 : decode cX5_wholeOf 6 = .ok (.aload_n 0, 1) := by decide +kernel
theorem dX5_wholeOf_7 : decode cX5_wholeOf 7 = .ok (.getfield 27, 3) := by decide +kernel
theorem dX5_wholeOf_10 : decode cX5_wholeOf 10 = .ok (.iload_n 1, 1) := by decide +kernel
theorem dX5_wholeOf_11 : decode cX5_wholeOf 11 = .ok (.iaload, 1) := by decide +kernel
theorem dX5_wholeOf_12 : decode cX5_wholeOf 12 = .ok (.imul, 1) := by decide +kernel
theorem dX5_wholeOf_13 : decode cX5_wholeOf 13 = .ok (.aload_n 0, 1) := by decide +kernel
theorem dX5_wholeOf_14 : decode cX5_wholeOf 14 = .ok (.aload_n 0, 1) := by decide +kernel
theorem dX5_wholeOf_15 : decode cX5_wholeOf 15 = .ok (.getfield 24, 3) := by decide +kernel
theorem dX5_wholeOf_18 : decode cX5_wholeOf 18 = .ok (.iload_n 1, 1) := by decide +kernel
theorem dX5_wholeOf_19 : decode cX5_wholeOf 19 = .ok (.iaload, 1) := by decide +kernel
theorem dX5_wholeOf_20 : decode cX5_wholeOf 20 = .ok (.aload_n 0, 1) := by decide +kernel
theorem dX5_wholeOf_21 : decode cX5_wholeOf 21 = .ok (.getfield 27, 3) := by decide +kernel
theorem dX5_wholeOf_24 : decode cX5_wholeOf 24 = .ok (.iload_n 1, 1) := by decide +kernel
theorem dX5_wholeOf_25 : decode cX5_wholeOf 25 = .ok (.iaload, 1) := by decide +kernel
theorem dX5_wholeOf_26 : decode cX5_wholeOf 26 = .ok (.invokevirtual 70, 3) := by decide +kernel
theorem dX5_wholeOf_29 : decode cX5_wholeOf 29 = .ok (.iadd, 1) := by decide +kernel
theorem dX5_wholeOf_30 : decode cX5_wholeOf 30 = .ok (.ireturn, 1) := by decide +kernel
theorem dX5_givenPence_0 : decode cX5_givenPence 0 = .ok (.aload_n 0, 1) := by decide +kernel
theorem dX5_givenPence_1 : decode cX5_givenPence 1 = .ok (.getfield 24, 3) := by decide +kernel
theorem dX5_givenPence_4 : decode cX5_givenPence 4 = .ok (.iload_n 1, 1) := by decide +kernel
theorem dX5_givenPence_5 : decode cX5_givenPence 5 = .ok (.iaload, 1) := by decide +kernel
theorem dX5_givenPence_6 : decode cX5_givenPence 6 = .ok (.aload_n 0, 1) := by decide +kernel
theorem dX5_givenPence_7 : decode cX5_givenPence 7 = .ok (.getfield 33, 3) := by decide +kernel
theorem dX5_givenPence_10 : decode cX5_givenPence 10 = .ok (.iload_n 1, 1) := by decide +kernel
theorem dX5_givenPence_11 : decode cX5_givenPence 11 = .ok (.iaload, 1) := by decide +kernel
theorem dX5_givenPence_12 : decode cX5_givenPence 12 = .ok (.imul, 1) := by decide +kernel
theorem dX5_givenPence_13 : decode cX5_givenPence 13 = .ok (.ireturn, 1) := by decide +kernel
set_option maxRecDepth 20000 in
theorem ggX5_liveMonth_X7_hasBit : GoodIn wsX5_liveMonth wsX7_hasBit := goodIn_r _ [7] (by decide +kernel) (by decide +kernel)
set_option maxRecDepth 20000 in
theorem gX5_liveMonth_X7_hasBit_n74 : GoodIn wsX5_liveMonth (wsX7_hasBit) := ggX5_liveMonth_X7_hasBit
set_option maxRecDepth 20000 in
theorem ggX5_liveMonth_X5_takeMeans : GoodIn wsX5_liveMonth wsX5_takeMeans := goodIn_r _ [12, 13, 14, 15, 16, 17, 18, 19, 20, 11, 21, 22, 4, 23, 52, 53, 54, 55, 56, 57, 58, 59, 60, 61, 62, 63, 64, 65, 66, 67, 68] (by decide +kernel) (by decide +kernel)
set_option maxRecDepth 20000 in
theorem gX5_liveMonth_X5_takeMeans : GoodIn wsX5_liveMonth (wsV RX5 78 RX5 yX5_takeMeans wsX5_takeMeans) := goodIn_app (goodIn_of _ (by decide +kernel)) ggX5_liveMonth_X5_takeMeans
set_option maxRecDepth 20000 in
theorem ggX5_liveMonth_X5_spendHalf : GoodIn wsX5_liveMonth wsX5_spendHalf := goodIn_r _ [27, 22, 13, 52, 53, 54, 55, 56, 57, 58, 59, 60, 61, 62, 63, 64, 65, 66, 67, 68] (by decide +kernel) (by decide +kernel)
set_option maxRecDepth 20000 in
theorem gX5_liveMonth_X5_spendHalf : GoodIn wsX5_liveMonth (wsV RX5 82 RX5 yX5_spendHalf wsX5_spendHalf) := goodIn_app (goodIn_of _ (by decide +kernel)) ggX5_liveMonth_X5_spendHalf
set_option maxRecDepth 20000 in
theorem ggX5_liveMonth_X5_giveOrStop : GoodIn wsX5_liveMonth wsX5_giveOrStop := goodIn_r _ [31, 32, 22, 33, 13, 3, 34, 35, 14, 15, 16, 17, 36, 37, 52, 53, 54, 55, 56, 57, 58, 59, 60, 61, 62, 63, 64, 65, 66, 67, 68] (by decide +kernel) (by decide +kernel)
set_option maxRecDepth 20000 in
theorem gX5_liveMonth_X5_giveOrStop : GoodIn wsX5_liveMonth (wsV RX5 85 RX5 yX5_giveOrStop wsX5_giveOrStop) := goodIn_app (goodIn_of _ (by decide +kernel)) ggX5_liveMonth_X5_giveOrStop
set_option maxRecDepth 20000 in
theorem ggX5_liveMonth_X5_payOrLack : GoodIn wsX5_liveMonth wsX5_payOrLack := goodIn_r _ [41, 35, 42, 32, 13, 14, 15, 16, 17, 3, 43, 44, 45, 11, 46, 33, 37, 47, 48, 49, 50, 51, 52, 53, 54, 55, 56, 57, 58, 59, 60, 61, 62, 63, 64, 65, 66, 67, 68] (by decide +kernel) (by decide +kernel)
set_option maxRecDepth 20000 in
theorem gX5_liveMonth_X5_payOrLack : GoodIn wsX5_liveMonth (wsV RX5 88 RX5 yX5_payOrLack wsX5_payOrLack) := goodIn_app (goodIn_of _ (by decide +kernel)) ggX5_liveMonth_X5_payOrLack
theorem dX5_liveMonth_0 : decode cX5_liveMonth 0 = .ok (.iconst 0, 1) := by decide +kernel
theorem dX5_liveMonth_1 : decode cX5_liveMonth 1 = .ok (.istore_n 2, 1) := by decide +kernel
theorem dX5_liveMonth_2 : decode cX5_liveMonth 2 = .ok (.iload_n 2, 1) := by decide +kernel
theorem dX5_liveMonth_3 : decode cX5_liveMonth 3 = .ok (.aload_n 0, 1) := by decide +kernel
theorem dX5_liveMonth_4 : decode cX5_liveMonth 4 = .ok (.getfield 55, 3) := by decide +kernel
theorem dX5_liveMonth_7 : decode cX5_liveMonth 7 = .ok (.if_icmp .ge 27, 3) := by decide +kernel
theorem dX5_liveMonth_10 : decode cX5_liveMonth 10 = .ok (.iload_n 1, 1) := by decide +kernel
theorem dX5_liveMonth_11 : decode cX5_liveMonth 11 = .ok (.iload_n 2, 1) := by decide +kernel
theorem dX5_liveMonth_12 : decode cX5_liveMonth 12 = .ok (.invokestatic 74, 3) := by decide +kernel
theorem dX5_liveMonth_15 : decode cX5_liveMonth 15 = .ok (.ifCond .ne 8, 3) := by decide +kernel
theorem dX5_liveMonth_18 : decode cX5_liveMonth 18 = .ok (.aload_n 0, 1) := by decide +kernel
theorem dX5_liveMonth_19 : decode cX5_liveMonth 19 = .ok (.iload_n 2, 1) := by decide +kernel
theorem dX5_liveMonth_20 : decode cX5_liveMonth 20 = .ok (.invokevirtual 78, 3) := by decide +kernel
theorem dX5_liveMonth_23 : decode cX5_liveMonth 23 = .ok (.aload_n 0, 1) := by decide +kernel
theorem dX5_liveMonth_24 : decode cX5_liveMonth 24 = .ok (.iload_n 2, 1) := by decide +kernel
theorem dX5_liveMonth_25 : decode cX5_liveMonth 25 = .ok (.invokevirtual 82, 3) := by decide +kernel
theorem dX5_liveMonth_28 : decode cX5_liveMonth 28 = .ok (.iinc 2 1, 3) := by decide +kernel
theorem dX5_liveMonth_31 : decode cX5_liveMonth 31 = .ok (.goto (-29), 3) := by decide +kernel
theorem dX5_liveMonth_34 : decode cX5_liveMonth 34 = .ok (.iconst 0, 1) := by decide +kernel
theorem dX5_liveMonth_35 : decode cX5_liveMonth 35 = .ok (.istore_n 2, 1) := by decide +kernel
theorem dX5_liveMonth_36 : decode cX5_liveMonth 36 = .ok (.iload_n 2, 1) := by decide +kernel
theorem dX5_liveMonth_37 : decode cX5_liveMonth 37 = .ok (.aload_n 0, 1) := by decide +kernel
theorem dX5_liveMonth_38 : decode cX5_liveMonth 38 = .ok (.getfield 58, 3) := by decide +kernel
theorem dX5_liveMonth_41 : decode cX5_liveMonth 41 = .ok (.if_icmp .ge 23, 3) := by decide +kernel
theorem dX5_liveMonth_44 : decode cX5_liveMonth 44 = .ok (.aload_n 0, 1) := by decide +kernel
theorem dX5_liveMonth_45 : decode cX5_liveMonth 45 = .ok (.getfield 30, 3) := by decide +kernel
theorem dX5_liveMonth_48 : decode cX5_liveMonth 48 = .ok (.iload_n 2, 1) := by decide +kernel
theorem dX5_liveMonth_49 : decode cX5_liveMonth 49 = .ok (.iaload, 1) := by decide +kernel
theorem dX5_liveMonth_50 : decode cX5_liveMonth 50 = .ok (.ifCond .ne 8, 3) := by decide +kernel
theorem dX5_liveMonth_53 : decode cX5_liveMonth 53 = .ok (.aload_n 0, 1) := by decide +kernel
theorem dX5_liveMonth_54 : decode cX5_liveMonth 54 = .ok (.iload_n 2, 1) := by decide +kernel
theorem dX5_liveMonth_55 : decode cX5_liveMonth 55 = .ok (.invokevirtual 85, 3) := by decide +kernel
theorem dX5_liveMonth_58 : decode cX5_liveMonth 58 = .ok (.iinc 2 1, 3) := by decide +kernel
theorem dX5_liveMonth_61 : decode cX5_liveMonth 61 = .ok (.goto (-25), 3) := by decide +kernel
theorem dX5_liveMonth_64 : decode cX5_liveMonth 64 = .ok (.iconst 0, 1) := by decide +kernel
theorem dX5_liveMonth_65 : decode cX5_liveMonth 65 = .ok (.istore_n 2, 1) := by decide +kernel
theorem dX5_liveMonth_66 : decode cX5_liveMonth 66 = .ok (.iload_n 2, 1) := by decide +kernel
theorem dX5_liveMonth_67 : decode cX5_liveMonth 67 = .ok (.aload_n 0, 1) := by decide +kernel
theorem dX5_liveMonth_68 : decode cX5_liveMonth 68 = .ok (.getfield 58, 3) := by decide +kernel
theorem dX5_liveMonth_71 : decode cX5_liveMonth 71 = .ok (.if_icmp .ge 24, 3) := by decide +kernel
theorem dX5_liveMonth_74 : decode cX5_liveMonth 74 = .ok (.aload_n 0, 1) := by decide +kernel
theorem dX5_liveMonth_75 : decode cX5_liveMonth 75 = .ok (.getfield 30, 3) := by decide +kernel
theorem dX5_liveMonth_78 : decode cX5_liveMonth 78 = .ok (.iload_n 2, 1) := by decide +kernel
theorem dX5_liveMonth_79 : decode cX5_liveMonth 79 = .ok (.iaload, 1) := by decide +kernel
theorem dX5_liveMonth_80 : decode cX5_liveMonth 80 = .ok (.iconst 3, 1) := by decide +kernel
theorem dX5_liveMonth_81 : decode cX5_liveMonth 81 = .ok (.if_icmp .ne 8, 3) := by decide +kernel
theorem dX5_liveMonth_84 : decode cX5_liveMonth 84 = .ok (.aload_n 0, 1) := by decide +kernel
theorem dX5_liveMonth_85 : decode cX5_liveMonth 85 = .ok (.iload_n 2, 1) := by decide +kernel
theorem dX5_liveMonth_86 : decode cX5_liveMonth 86 = .ok (.invokevirtual 88, 3) := by decide +kernel
theorem dX5_liveMonth_89 : decode cX5_liveMonth 89 = .ok (.iinc 2 1, 3) := by decide +kernel
theorem dX5_liveMonth_92 : decode cX5_liveMonth 92 = .ok (.goto (-26), 3) := by decide +kernel
theorem dX5_liveMonth_95 : decode cX5_liveMonth 95 = .ok (.aload_n 0, 1) := by decide +kernel
theorem dX5_liveMonth_96 : decode cX5_liveMonth 96 = .ok (.dup, 1) := by decide +kernel
theorem dX5_liveMonth_97 : decode cX5_liveMonth 97 = .ok (.getfield 49, 3) := by decide +kernel
theorem dX5_liveMonth_100 : decode cX5_liveMonth 100 = .ok (.iconst 1, 1) := by decide +kernel
theorem dX5_liveMonth_101 : decode cX5_liveMonth 101 = .ok (.iadd, 1) := by decide +kernel
theorem dX5_liveMonth_102 : decode cX5_liveMonth 102 = .ok (.putfield 49, 3) := by decide +kernel
theorem dX5_liveMonth_105 : decode cX5_liveMonth 105 = .ok (.return_, 1) := by decide +kernel
set_option maxRecDepth 20000 in
theorem ggX5_takeMeans_X5_comesTo : GoodIn wsX5_takeMeans wsX5_comesTo := goodIn_r _ [10, 11, 12, 13, 14, 15, 16, 17, 18, 19, 20, 21, 22, 23, 24, 25, 26, 27, 28, 29, 30] (by decide +kernel) (by decide +kernel)
set_option maxRecDepth 20000 in
theorem gX5_takeMeans_X5_comesTo : GoodIn wsX5_takeMeans (wsV RX5 91 RX5 yX5_comesTo wsX5_comesTo) := goodIn_app (goodIn_of _ (by decide +kernel)) ggX5_takeMeans_X5_comesTo
theorem dX5_takeMeans_0 : decode cX5_takeMeans 0 = .ok (.aload_n 0, 1) := by decide +kernel
theorem dX5_takeMeans_1 : decode cX5_takeMeans 1 = .ok (.getfield 18, 3) := by decide +kernel
theorem dX5_takeMeans_4 : decode cX5_takeMeans 4 = .ok (.iload_n 1, 1) := by decide +kernel
theorem dX5_takeMeans_5 : decode cX5_takeMeans 5 = .ok (.sipush 9999, 3) := by decide +kernel
theorem dX5_takeMeans_8 : decode cX5_takeMeans 8 = .ok (.aload_n 0, 1) := by decide +kernel
theorem dX5_takeMeans_9 : decode cX5_takeMeans 9 = .ok (.getfield 18, 3) := by decide +kernel
theorem dX5_takeMeans_12 : decode cX5_takeMeans 12 = .ok (.iload_n 1, 1) := by decide +kernel
theorem dX5_takeMeans_13 : decode cX5_takeMeans 13 = .ok (.iaload, 1) := by decide +kernel
theorem dX5_takeMeans_14 : decode cX5_takeMeans 14 = .ok (.aload_n 0, 1) := by decide +kernel
theorem dX5_takeMeans_15 : decode cX5_takeMeans 15 = .ok (.iload_n 1, 1) := by decide +kernel
theorem dX5_takeMeans_16 : decode cX5_takeMeans 16 = .ok (.invokevirtual 91, 3) := by decide +kernel
theorem dX5_takeMeans_19 : decode cX5_takeMeans 19 = .ok (.iadd, 1) := by decide +kernel
theorem dX5_takeMeans_20 : decode cX5_takeMeans 20 = .ok (.invokestatic 95, 3) := by decide +kernel
theorem dX5_takeMeans_23 : decode cX5_takeMeans 23 = .ok (.iastore, 1) := by decide +kernel
theorem dX5_takeMeans_24 : decode cX5_takeMeans 24 = .ok (.return_, 1) := by decide +kernel
theorem dX5_spendHalf_0 : decode cX5_spendHalf 0 = .ok (.aload_n 0, 1) := by decide +kernel
theorem dX5_spendHalf_1 : decode cX5_spendHalf 1 = .ok (.getfield 9, 3) := by decide +kernel
theorem dX5_spendHalf_4 : decode cX5_spendHalf 4 = .ok (.iload_n 1, 1) := by decide +kernel
theorem dX5_spendHalf_5 : decode cX5_spendHalf 5 = .ok (.iaload, 1) := by decide +kernel
theorem dX5_spendHalf_6 : decode cX5_spendHalf 6 = .ok (.iconst 2, 1) := by decide +kernel
theorem dX5_spendHalf_7 : decode cX5_spendHalf 7 = .ok (.if_icmp .eq 13, 3) := by decide +kernel
theorem dX5_spendHalf_10 : decode cX5_spendHalf 10 = .ok (.aload_n 0, 1) := by decide +kernel
theorem dX5_spendHalf_11 : decode cX5_spendHalf 11 = .ok (.getfield 9, 3) := by decide +kernel
theorem dX5_spendHalf_14 : decode cX5_spendHalf 14 = .ok (.iload_n 1, 1) := by decide +kernel
theorem dX5_spendHalf_15 : decode cX5_spendHalf 15 = .ok (.iaload, 1) := by decide +kernel
theorem dX5_spendHalf_16 : decode cX5_spendHalf 16 = .ok (.iconst 4, 1) := by decide +kernel
theorem dX5_spendHalf_17 : decode cX5_spendHalf 17 = .ok (.if_icmp .ne 7, 3) := by decide +kernel
theorem dX5_spendHalf_20 : decode cX5_spendHalf 20 = .ok (.iconst 1, 1) := by decide +kernel
theorem dX5_spendHalf_21 : decode cX5_spendHalf 21 = .ok (.goto 4, 3) := by decide +kernel
theorem dX5_spendHalf_24 : decode cX5_spendHalf 24 = .ok (.iconst 0, 1) := by decide +kernel
theorem dX5_spendHalf_25 : decode cX5_spendHalf 25 = .ok (.istore_n 2, 1) := by decide +kernel
theorem dX5_spendHalf_26 : decode cX5_spendHalf 26 = .ok (.iload_n 2, 1) := by decide +kernel
theorem dX5_spendHalf_27 : decode cX5_spendHalf 27 = .ok (.ifCond .eq 24, 3) := by decide +kernel
theorem dX5_spendHalf_30 : decode cX5_spendHalf 30 = .ok (.aload_n 0, 1) := by decide +kernel
theorem dX5_spendHalf_31 : decode cX5_spendHalf 31 = .ok (.getfield 18, 3) := by decide +kernel
theorem dX5_spendHalf_34 : decode cX5_spendHalf 34 = .ok (.iload_n 1, 1) := by decide +kernel
theorem dX5_spendHalf_35 : decode cX5_spendHalf 35 = .ok (.iaload, 1) := by decide +kernel
theorem dX5_spendHalf_36 : decode cX5_spendHalf 36 = .ok (.bipush 50, 2) := by decide +kernel
theorem dX5_spendHalf_38 : decode cX5_spendHalf 38 = .ok (.if_icmp .le 13, 3) := by decide +kernel
theorem dX5_spendHalf_41 : decode cX5_spendHalf 41 = .ok (.aload_n 0, 1) := by decide +kernel
theorem dX5_spendHalf_42 : decode cX5_spendHalf 42 = .ok (.getfield 18, 3) := by decide +kernel
theorem dX5_spendHalf_45 : decode cX5_spendHalf 45 = .ok (.iload_n 1, 1) := by decide +kernel
theorem dX5_spendHalf_46 : decode cX5_spendHalf 46 = .ok (.dup2, 1) := by decide +kernel
theorem dX5_spendHalf_47 : decode cX5_spendHalf 47 = .ok (.iaload, 1) := by decide +kernel
theorem dX5_spendHalf_48 : decode cX5_spendHalf 48 = .ok (.iconst 2, 1) := by decide +kernel
theorem dX5_spendHalf_49 : decode cX5_spendHalf 49 = .ok (.idiv, 1) := by decide +kernel
theorem dX5_spendHalf_50 : decode cX5_spendHalf 50 = .ok (.iastore, 1) := by decide +kernel
theorem dX5_spendHalf_51 : decode cX5_spendHalf 51 = .ok (.return_, 1) := by decide +kernel
theorem dX5_comesTo_0 : decode cX5_comesTo 0 = .ok (.aload_n 0, 1) := by decide +kernel
theorem dX5_comesTo_1 : decode cX5_comesTo 1 = .ok (.getfield 9, 3) := by decide +kernel
theorem dX5_comesTo_4 : decode cX5_comesTo 4 = .ok (.iload_n 1, 1) := by decide +kernel
theorem dX5_comesTo_5 : decode cX5_comesTo 5 = .ok (.iaload, 1) := by decide +kernel
theorem dX5_comesTo_6 : decode cX5_comesTo 6 = .ok (.iconst 1, 1) := by decide +kernel
theorem dX5_comesTo_7 : decode cX5_comesTo 7 = .ok (.if_icmp .eq 13, 3) := by decide +kernel
theorem dX5_comesTo_10 : decode cX5_comesTo 10 = .ok (.aload_n 0, 1) := by decide +kernel
theorem dX5_comesTo_11 : decode cX5_comesTo 11 = .ok (.getfield 9, 3) := by decide +kernel
theorem dX5_comesTo_14 : decode cX5_comesTo 14 = .ok (.iload_n 1, 1) := by decide +kernel
theorem dX5_comesTo_15 : decode cX5_comesTo 15 = .ok (.iaload, 1) := by decide +kernel
theorem dX5_comesTo_16 : decode cX5_comesTo 16 = .ok (.iconst 3, 1) := by decide +kernel
theorem dX5_comesTo_17 : decode cX5_comesTo 17 = .ok (.if_icmp .ne 7, 3) := by decide +kernel
theorem dX5_comesTo_20 : decode cX5_comesTo 20 = .ok (.iconst 1, 1) := by decide +kernel
theorem dX5_comesTo_21 : decode cX5_comesTo 21 = .ok (.goto 4, 3) := by decide +kernel
theorem dX5_comesTo_24 : decode cX5_comesTo 24 = .ok (.iconst 0, 1) := by decide +kernel
theorem dX5_comesTo_25 : decode cX5_comesTo 25 = .ok (.istore_n 2, 1) := by decide +kernel
theorem dX5_comesTo_26 : decode cX5_comesTo 26 = .ok (.iload_n 2, 1) := by decide +kernel
theorem dX5_comesTo_27 : decode cX5_comesTo 27 = .ok (.ifCond .eq 16, 3) := by decide +kernel
theorem dX5_comesTo_30 : decode cX5_comesTo 30 = .ok (.aload_n 0, 1) := by decide +kernel
theorem dX5_comesTo_31 : decode cX5_comesTo 31 = .ok (.getfield 49, 3) := by decide +kernel
theorem dX5_comesTo_34 : decode cX5_comesTo 34 = .ok (.iconst 3, 1) := by decide +kernel
theorem dX5_comesTo_35 : decode cX5_comesTo 35 = .ok (.irem, 1) := by decide +kernel
theorem dX5_comesTo_36 : decode cX5_comesTo 36 = .ok (.ifCond .ne 7, 3) := by decide +kernel
theorem dX5_comesTo_39 : decode cX5_comesTo 39 = .ok (.iconst 0, 1) := by decide +kernel
theorem dX5_comesTo_40 : decode cX5_comesTo 40 = .ok (.goto 9, 3) := by decide +kernel
theorem dX5_comesTo_43 : decode cX5_comesTo 43 = .ok (.aload_n 0, 1) := by decide +kernel
theorem dX5_comesTo_44 : decode cX5_comesTo 44 = .ok (.getfield 15, 3) := by decide +kernel
theorem dX5_comesTo_47 : decode cX5_comesTo 47 = .ok (.iload_n 1, 1) := by decide +kernel
theorem dX5_comesTo_48 : decode cX5_comesTo 48 = .ok (.iaload, 1) := by decide +kernel
theorem dX5_comesTo_49 : decode cX5_comesTo 49 = .ok (.istore_n 3, 1) := by decide +kernel
theorem dX5_comesTo_50 : decode cX5_comesTo 50 = .ok (.aload_n 0, 1) := by decide +kernel
theorem dX5_comesTo_51 : decode cX5_comesTo 51 = .ok (.getfield 9, 3) := by decide +kernel
theorem dX5_comesTo_54 : decode cX5_comesTo 54 = .ok (.iload_n 1, 1) := by decide +kernel
theorem dX5_comesTo_55 : decode cX5_comesTo 55 = .ok (.iaload, 1) := by decide +kernel
theorem dX5_comesTo_56 : decode cX5_comesTo 56 = .ok (.iconst 3, 1) := by decide +kernel
theorem dX5_comesTo_57 : decode cX5_comesTo 57 = .ok (.if_icmp .ne 6, 3) := by decide +kernel
theorem dX5_comesTo_60 : decode cX5_comesTo 60 = .ok (.iinc 3 2, 3) := by decide +kernel
theorem dX5_comesTo_63 : decode cX5_comesTo 63 = .ok (.aload_n 0, 1) := by decide +kernel
theorem dX5_comesTo_64 : decode cX5_comesTo 64 = .ok (.getfield 9, 3) := by decide +kernel
theorem dX5_comesTo_67 : decode cX5_comesTo 67 = .ok (.iload_n 1, 1) := by decide +kernel
theorem dX5_comesTo_68 : decode cX5_comesTo 68 = .ok (.iaload, 1) := by decide +kernel
theorem dX5_comesTo_69 : decode cX5_comesTo 69 = .ok (.iconst 4, 1) := by decide +kernel
theorem dX5_comesTo_70 : decode cX5_comesTo 70 = .ok (.if_icmp .ne 18, 3) := by decide +kernel
theorem dX5_comesTo_73 : decode cX5_comesTo 73 = .ok (.aload_n 0, 1) := by decide +kernel
theorem dX5_comesTo_74 : decode cX5_comesTo 74 = .ok (.getfield 49, 3) := by decide +kernel
theorem dX5_comesTo_77 : decode cX5_comesTo 77 = .ok (.bipush 12, 2) := by decide +kernel
theorem dX5_comesTo_79 : decode cX5_comesTo 79 = .ok (.irem, 1) := by decide +kernel
theorem dX5_comesTo_80 : decode cX5_comesTo 80 = .ok (.bipush 6, 2) := by decide +kernel
theorem dX5_comesTo_82 : decode cX5_comesTo 82 = .ok (.if_icmp .ne 6, 3) := by decide +kernel
theorem dX5_comesTo_85 : decode cX5_comesTo 85 = .ok (.iinc 3 60, 3) := by decide +kernel
theorem dX5_comesTo_88 : decode cX5_comesTo 88 = .ok (.iload_n 3, 1) := by decide +kernel
theorem dX5_comesTo_89 : decode cX5_comesTo 89 = .ok (.ireturn, 1) := by decide +kernel
theorem dX5_giveOrStop_0 : decode cX5_giveOrStop 0 = .ok (.aload_n 0, 1) := by decide +kernel
theorem dX5_giveOrStop_1 : decode cX5_giveOrStop 1 = .ok (.getfield 21, 3) := by decide +kernel
theorem dX5_giveOrStop_4 : decode cX5_giveOrStop 4 = .ok (.iload_n 1, 1) := by decide +kernel
theorem dX5_giveOrStop_5 : decode cX5_giveOrStop 5 = .ok (.iaload, 1) := by decide +kernel
theorem dX5_giveOrStop_6 : decode cX5_giveOrStop 6 = .ok (.istore_n 2, 1) := by decide +kernel
theorem dX5_giveOrStop_7 : decode cX5_giveOrStop 7 = .ok (.aload_n 0, 1) := by decide +kernel
theorem dX5_giveOrStop_8 : decode cX5_giveOrStop 8 = .ok (.getfield 9, 3) := by decide +kernel
theorem dX5_giveOrStop_11 : decode cX5_giveOrStop 11 = .ok (.iload_n 2, 1) := by decide +kernel
theorem dX5_giveOrStop_12 : decode cX5_giveOrStop 12 = .ok (.iaload, 1) := by decide +kernel
theorem dX5_giveOrStop_13 : decode cX5_giveOrStop 13 = .ok (.iconst 5, 1) := by decide +kernel
theorem dX5_giveOrStop_14 : decode cX5_giveOrStop 14 = .ok (.if_icmp .ne 14, 3) := by decide +kernel
theorem dX5_giveOrStop_17 : decode cX5_giveOrStop 17 = .ok (.iconst 2, 1) := by decide +kernel
theorem dX5_giveOrStop_18 : decode cX5_giveOrStop 18 = .ok (.aload_n 0, 1) := by decide +kernel
theorem dX5_giveOrStop_19 : decode cX5_giveOrStop 19 = .ok (.getfield 24, 3) := by decide +kernel
theorem dX5_giveOrStop_22 : decode cX5_giveOrStop 22 = .ok (.iload_n 1, 1) := by decide +kernel
theorem dX5_giveOrStop_23 : decode cX5_giveOrStop 23 = .ok (.iaload, 1) := by decide +kernel
theorem dX5_giveOrStop_24 : decode cX5_giveOrStop 24 = .ok (.imul, 1) := by decide +kernel
theorem dX5_giveOrStop_25 : decode cX5_giveOrStop 25 = .ok (.goto 9, 3) := by decide +kernel
theorem dX5_giveOrStop_28 : decode cX5_giveOrStop 28 = .ok (.aload_n 0, 1) := by decide +kernel
theorem dX5_giveOrStop_29 : decode cX5_giveOrStop 29 = .ok (.getfield 24, 3) := by decide +kernel
theorem dX5_giveOrStop_32 : decode cX5_giveOrStop 32 = .ok (.iload_n 1, 1) := by decide +kernel
theorem dX5_giveOrStop_33 : decode cX5_giveOrStop 33 = .ok (.iaload, 1) := by decide +kernel
theorem dX5_giveOrStop_34 : decode cX5_giveOrStop 34 = .ok (.istore_n 3, 1) := by decide +kernel
theorem dX5_giveOrStop_35 : decode cX5_giveOrStop 35 = .ok (.aload_n 0, 1) := by decide +kernel
theorem dX5_giveOrStop_36 : decode cX5_giveOrStop 36 = .ok (.getfield 18, 3) := by decide +kernel
theorem dX5_giveOrStop_39 : decode cX5_giveOrStop 39 = .ok (.iload_n 2, 1) := by decide +kernel
theorem dX5_giveOrStop_40 : decode cX5_giveOrStop 40 = .ok (.iaload, 1) := by decide +kernel
theorem dX5_giveOrStop_41 : decode cX5_giveOrStop 41 = .ok (.iload_n 3, 1) := by decide +kernel
theorem dX5_giveOrStop_42 : decode cX5_giveOrStop 42 = .ok (.if_icmp .ge 11, 3) := by decide +kernel
theorem dX5_giveOrStop_45 : decode cX5_giveOrStop 45 = .ok (.aload_n 0, 1) := by decide +kernel
theorem dX5_giveOrStop_46 : decode cX5_giveOrStop 46 = .ok (.getfield 30, 3) := by decide +kernel
theorem dX5_giveOrStop_49 : decode cX5_giveOrStop 49 = .ok (.iload_n 1, 1) := by decide +kernel
theorem dX5_giveOrStop_50 : decode cX5_giveOrStop 50 = .ok (.iconst 2, 1) := by decide +kernel
theorem dX5_giveOrStop_51 : decode cX5_giveOrStop 51 = .ok (.iastore, 1) := by decide +kernel
theorem dX5_giveOrStop_52 : decode cX5_giveOrStop 52 = .ok (.return_, 1) := by decide +kernel
theorem dX5_giveOrStop_53 : decode cX5_giveOrStop 53 = .ok (.aload_n 0, 1) := by decide +kernel
theorem dX5_giveOrStop_54 : decode cX5_giveOrStop 54 = .ok (.getfield 18, 3) := by decide +kernel
theorem dX5_giveOrStop_57 : decode cX5_giveOrStop 57 = .ok (.iload_n 2, 1) := by decide +kernel
theorem dX5_giveOrStop_58 : decode cX5_giveOrStop 58 = .ok (.dup2, 1) := by decide +kernel
theorem dX5_giveOrStop_59 : decode cX5_giveOrStop 59 = .ok (.iaload, 1) := by decide +kernel
theorem dX5_giveOrStop_60 : decode cX5_giveOrStop 60 = .ok (.aload_n 0, 1) := by decide +kernel
theorem dX5_giveOrStop_61 : decode cX5_giveOrStop 61 = .ok (.getfield 24, 3) := by decide +kernel
theorem dX5_giveOrStop_64 : decode cX5_giveOrStop 64 = .ok (.iload_n 1, 1) := by decide +kernel
theorem dX5_giveOrStop_65 : decode cX5_giveOrStop 65 = .ok (.iaload, 1) := by decide +kernel
theorem dX5_giveOrStop_66 : decode cX5_giveOrStop 66 = .ok (.isub, 1) := by decide +kernel
theorem dX5_giveOrStop_67 : decode cX5_giveOrStop 67 = .ok (.iastore, 1) := by decide +kernel
theorem dX5_giveOrStop_68 : decode cX5_giveOrStop 68 = .ok (.aload_n 0, 1) := by decide +kernel
theorem dX5_giveOrStop_69 : decode cX5_giveOrStop 69 = .ok (.ldc 100, 2) := by decide +kernel
theorem dX5_giveOrStop_71 : decode cX5_giveOrStop 71 = .ok (.aload_n 0, 1) := by decide +kernel
theorem dX5_giveOrStop_72 : decode cX5_giveOrStop 72 = .ok (.getfield 42, 3) := by decide +kernel
theorem dX5_giveOrStop_75 : decode cX5_giveOrStop 75 = .ok (.aload_n 0, 1) := by decide +kernel
theorem dX5_giveOrStop_76 : decode cX5_giveOrStop 76 = .ok (.getfield 24, 3) := by decide +kernel
theorem dX5_giveOrStop_79 : decode cX5_giveOrStop 79 = .ok (.iload_n 1, 1) := by decide +kernel
theorem dX5_giveOrStop_80 : decode cX5_giveOrStop 80 = .ok (.iaload, 1) := by decide +kernel
theorem dX5_giveOrStop_81 : decode cX5_giveOrStop 81 = .ok (.iadd, 1) := by decide +kernel
theorem dX5_giveOrStop_82 : decode cX5_giveOrStop 82 = .ok (.invokestatic 95, 3) := by decide +kernel
theorem dX5_giveOrStop_85 : decode cX5_giveOrStop 85 = .ok (.putfield 42, 3) := by decide +kernel
theorem dX5_giveOrStop_88 : decode cX5_giveOrStop 88 = .ok (.aload_n 0, 1) := by decide +kernel
theorem dX5_giveOrStop_89 : decode cX5_giveOrStop 89 = .ok (.getfield 33, 3) := by decide +kernel
theorem dX5_giveOrStop_92 : decode cX5_giveOrStop 92 = .ok (.iload_n 1, 1) := by decide +kernel
theorem dX5_giveOrStop_93 : decode cX5_giveOrStop 93 = .ok (.dup2, 1) := by decide +kernel
theorem dX5_giveOrStop_94 : decode cX5_giveOrStop 94 = .ok (.iaload, 1) := by decide +kernel
theorem dX5_giveOrStop_95 : decode cX5_giveOrStop 95 = .ok (.iconst 1, 1) := by decide +kernel
theorem dX5_giveOrStop_96 : decode cX5_giveOrStop 96 = .ok (.iadd, 1) := by decide +kernel
theorem dX5_giveOrStop_97 : decode cX5_giveOrStop 97 = .ok (.iastore, 1) := by decide +kernel
theorem dX5_giveOrStop_98 : decode cX5_giveOrStop 98 = .ok (.aload_n 0, 1) := by decide +kernel
theorem dX5_giveOrStop_99 : decode cX5_giveOrStop 99 = .ok (.getfield 33, 3) := by decide +kernel
theorem dX5_giveOrStop_102 : decode cX5_giveOrStop 102 = .ok (.iload_n 1, 1) := by decide +kernel
theorem dX5_giveOrStop_103 : decode cX5_giveOrStop 103 = .ok (.iaload, 1) := by decide +kernel
theorem dX5_giveOrStop_104 : decode cX5_giveOrStop 104 = .ok (.aload_n 0, 1) := by decide +kernel
theorem dX5_giveOrStop_105 : decode cX5_giveOrStop 105 = .ok (.getfield 27, 3) := by decide +kernel
theorem dX5_giveOrStop_108 : decode cX5_giveOrStop 108 = .ok (.iload_n 1, 1) := by decide +kernel
theorem dX5_giveOrStop_109 : decode cX5_giveOrStop 109 = .ok (.iaload, 1) := by decide +kernel
theorem dX5_giveOrStop_110 : decode cX5_giveOrStop 110 = .ok (.if_icmp .lt 10, 3) := by decide +kernel
theorem dX5_giveOrStop_113 : decode cX5_giveOrStop 113 = .ok (.aload_n 0, 1) := by decide +kernel
theorem dX5_giveOrStop_114 : decode cX5_giveOrStop 114 = .ok (.getfield 30, 3) := by decide +kernel
theorem dX5_giveOrStop_117 : decode cX5_giveOrStop 117 = .ok (.iload_n 1, 1) := by decide +kernel
theorem dX5_giveOrStop_118 : decode cX5_giveOrStop 118 = .ok (.iconst 3, 1) := by decide +kernel
theorem dX5_giveOrStop_119 : decode cX5_giveOrStop 119 = .ok (.iastore, 1) := by decide +kernel
theorem dX5_giveOrStop_120 : decode cX5_giveOrStop 120 = .ok (.return_, 1) := by decide +kernel
set_option maxRecDepth 20000 in
theorem ggX5_payOrLack_X5_wholeOf : GoodIn wsX5_payOrLack wsX5_wholeOf := goodIn_r _ [14, 15, 16, 17, 18, 19, 13, 20, 21, 22, 23, 24, 25, 26, 27, 28, 29, 30, 31, 32, 33, 34, 35, 36, 37, 38] (by decide +kernel) (by decide +kernel)
set_option maxRecDepth 20000 in
theorem gX5_payOrLack_X5_wholeOf : GoodIn wsX5_payOrLack (wsV RX5 101 RX5 yX5_wholeOf wsX5_wholeOf) := goodIn_app (goodIn_of _ (by decide +kernel)) ggX5_payOrLack_X5_wholeOf
theorem dX5_payOrLack_0 : decode cX5_payOrLack 0 = .ok (.aload_n 0, 1) := by decide +kernel
theorem dX5_payOrLack_1 : decode cX5_payOrLack 1 = .ok (.iload_n 1, 1) := by decide +kernel
theorem dX5_payOrLack_2 : decode cX5_payOrLack 2 = .ok (.invokevirtual 101, 3) := by decide +kernel
theorem dX5_payOrLack_5 : decode cX5_payOrLack 5 = .ok (.istore_n 2, 1) := by decide +kernel
theorem dX5_payOrLack_6 : decode cX5_payOrLack 6 = .ok (.aload_n 0, 1) := by decide +kernel
theorem dX5_payOrLack_7 : decode cX5_payOrLack 7 = .ok (.getfield 42, 3) := by decide +kernel
theorem dX5_payOrLack_10 : decode cX5_payOrLack 10 = .ok (.iload_n 2, 1) := by decide +kernel
theorem dX5_payOrLack_11 : decode cX5_payOrLack 11 = .ok (.if_icmp .ge 14, 3) := by decide +kernel
theorem dX5_payOrLack_14 : decode cX5_payOrLack 14 = .ok (.aload_n 0, 1) := by decide +kernel
theorem dX5_payOrLack_15 : decode cX5_payOrLack 15 = .ok (.dup, 1) := by decide +kernel
theorem dX5_payOrLack_16 : decode cX5_payOrLack 16 = .ok (.getfield 52, 3) := by decide +kernel
theorem dX5_payOrLack_19 : decode cX5_payOrLack 19 = .ok (.iconst 1, 1) := by decide +kernel
theorem dX5_payOrLack_20 : decode cX5_payOrLack 20 = .ok (.iadd, 1) := by decide +kernel
theorem dX5_payOrLack_21 : decode cX5_payOrLack 21 = .ok (.putfield 52, 3) := by decide +kernel
theorem dX5_payOrLack_24 : decode cX5_payOrLack 24 = .ok (.return_, 1) := by decide +kernel
theorem dX5_payOrLack_25 : decode cX5_payOrLack 25 = .ok (.aload_n 0, 1) := by decide +kernel
theorem dX5_payOrLack_26 : decode cX5_payOrLack 26 = .ok (.getfield 21, 3) := by decide +kernel
theorem dX5_payOrLack_29 : decode cX5_payOrLack 29 = .ok (.iload_n 1, 1) := by decide +kernel
theorem dX5_payOrLack_30 : decode cX5_payOrLack 30 = .ok (.iaload, 1) := by decide +kernel
theorem dX5_payOrLack_31 : decode cX5_payOrLack 31 = .ok (.istore_n 3, 1) := by decide +kernel
theorem dX5_payOrLack_32 : decode cX5_payOrLack 32 = .ok (.aload_n 0, 1) := by decide +kernel
theorem dX5_payOrLack_33 : decode cX5_payOrLack 33 = .ok (.dup, 1) := by decide +kernel
theorem dX5_payOrLack_34 : decode cX5_payOrLack 34 = .ok (.getfield 42, 3) := by decide +kernel
theorem dX5_payOrLack_37 : decode cX5_payOrLack 37 = .ok (.iload_n 2, 1) := by decide +kernel
theorem dX5_payOrLack_38 : decode cX5_payOrLack 38 = .ok (.isub, 1) := by decide +kernel
theorem dX5_payOrLack_39 : decode cX5_payOrLack 39 = .ok (.putfield 42, 3) := by decide +kernel
theorem dX5_payOrLack_42 : decode cX5_payOrLack 42 = .ok (.aload_n 0, 1) := by decide +kernel
theorem dX5_payOrLack_43 : decode cX5_payOrLack 43 = .ok (.getfield 18, 3) := by decide +kernel
theorem dX5_payOrLack_46 : decode cX5_payOrLack 46 = .ok (.iload_n 3, 1) := by decide +kernel
theorem dX5_payOrLack_47 : decode cX5_payOrLack 47 = .ok (.sipush 9999, 3) := by decide +kernel
theorem dX5_payOrLack_50 : decode cX5_payOrLack 50 = .ok (.aload_n 0, 1) := by decide +kernel
theorem dX5_payOrLack_51 : decode cX5_payOrLack 51 = .ok (.getfield 18, 3) := by decide +kernel
theorem dX5_payOrLack_54 : decode cX5_payOrLack 54 = .ok (.iload_n 3, 1) := by decide +kernel
theorem dX5_payOrLack_55 : decode cX5_payOrLack 55 = .ok (.iaload, 1) := by decide +kernel
theorem dX5_payOrLack_56 : decode cX5_payOrLack 56 = .ok (.iload_n 2, 1) := by decide +kernel
theorem dX5_payOrLack_57 : decode cX5_payOrLack 57 = .ok (.iadd, 1) := by decide +kernel
theorem dX5_payOrLack_58 : decode cX5_payOrLack 58 = .ok (.invokestatic 95, 3) := by decide +kernel
theorem dX5_payOrLack_61 : decode cX5_payOrLack 61 = .ok (.iastore, 1) := by decide +kernel
theorem dX5_payOrLack_62 : decode cX5_payOrLack 62 = .ok (.aload_n 0, 1) := by decide +kernel
theorem dX5_payOrLack_63 : decode cX5_payOrLack 63 = .ok (.getfield 30, 3) := by decide +kernel
theorem dX5_payOrLack_66 : decode cX5_payOrLack 66 = .ok (.iload_n 1, 1) := by decide +kernel
theorem dX5_payOrLack_67 : decode cX5_payOrLack 67 = .ok (.iconst 1, 1) := by decide +kernel
theorem dX5_payOrLack_68 : decode cX5_payOrLack 68 = .ok (.iastore, 1) := by decide +kernel
theorem dX5_payOrLack_69 : decode cX5_payOrLack 69 = .ok (.return_, 1) := by decide +kernel
theorem dX5_alike_0 : decode cX5_alike 0 = .ok (.aload_n 0, 1) := by decide +kernel
theorem dX5_alike_1 : decode cX5_alike 1 = .ok (.getfield 24, 3) := by decide +kernel
theorem dX5_alike_4 : decode cX5_alike 4 = .ok (.iload_n 1, 1) := by decide +kernel
theorem dX5_alike_5 : decode cX5_alike 5 = .ok (.iaload, 1) := by decide +kernel
theorem dX5_alike_6 : decode cX5_alike 6 = .ok (.aload_n 0, 1) := by decide +kernel
theorem dX5_alike_7 : decode cX5_alike 7 = .ok (.getfield 24, 3) := by decide +kernel
theorem dX5_alike_10 : decode cX5_alike 10 = .ok (.iload_n 2, 1) := by decide +kernel
theorem dX5_alike_11 : decode cX5_alike 11 = .ok (.iaload, 1) := by decide +kernel
theorem dX5_alike_12 : decode cX5_alike 12 = .ok (.if_icmp .ne 22, 3) := by decide +kernel
theorem dX5_alike_15 : decode cX5_alike 15 = .ok (.aload_n 0, 1) := by decide +kernel
theorem dX5_alike_16 : decode cX5_alike 16 = .ok (.getfield 27, 3) := by decide +kernel
theorem dX5_alike_19 : decode cX5_alike 19 = .ok (.iload_n 1, 1) := by decide +kernel
theorem dX5_alike_20 : decode cX5_alike 20 = .ok (.iaload, 1) := by decide +kernel
theorem dX5_alike_21 : decode cX5_alike 21 = .ok (.aload_n 0, 1) := by decide +kernel
theorem dX5_alike_22 : decode cX5_alike 22 = .ok (.getfield 27, 3) := by decide +kernel
theorem dX5_alike_25 : decode cX5_alike 25 = .ok (.iload_n 2, 1) := by decide +kernel
theorem dX5_alike_26 : decode cX5_alike 26 = .ok (.iaload, 1) := by decide +kernel
theorem dX5_alike_27 : decode cX5_alike 27 = .ok (.if_icmp .ne 7, 3) := by decide +kernel
theorem dX5_alike_30 : decode cX5_alike 30 = .ok (.iconst 1, 1) := by decide +kernel
theorem dX5_alike_31 : decode cX5_alike 31 = .ok (.goto 4, 3) := by decide +kernel
theorem dX5_alike_34 : decode cX5_alike 34 = .ok (.iconst 0, 1) := by decide +kernel
theorem dX5_alike_35 : decode cX5_alike 35 = .ok (.ireturn, 1) := by decide +kernel
set_option maxRecDepth 20000 in
theorem ggX5_canBeJoined_X5_alike : GoodIn wsX5_canBeJoined wsX5_alike := goodIn_r _ [6, 7, 8, 9, 10, 11, 12, 13, 14, 15, 16, 17, 18, 19, 20, 21, 22, 23, 24, 25] (by decide +kernel) (by decide +kernel)
set_option maxRecDepth 20000 in
theorem gX5_canBeJoined_X5_alike : GoodIn wsX5_canBeJoined (wsV RX5 104 RX5 yX5_alike wsX5_alike) := goodIn_app (goodIn_of _ (by decide +kernel)) ggX5_canBeJoined_X5_alike
theorem dX5_canBeJoined_0 : decode cX5_canBeJoined 0 = .ok (.aload_n 0, 1) := by decide +kernel
theorem dX5_canBeJoined_1 : decode cX5_canBeJoined 1 = .ok (.getfield 30, 3) := by decide +kernel
theorem dX5_canBeJoined_4 : decode cX5_canBeJoined 4 = .ok (.iload_n 1, 1) := by decide +kernel
theorem dX5_canBeJoined_5 : decode cX5_canBeJoined 5 = .ok (.iaload, 1) := by decide +kernel
theorem dX5_canBeJoined_6 : decode cX5_canBeJoined 6 = .ok (.iconst 2, 1) := by decide +kernel
theorem dX5_canBeJoined_7 : decode cX5_canBeJoined 7 = .ok (.if_icmp .ne 26, 3) := by decide +kernel
theorem dX5_canBeJoined_10 : decode cX5_canBeJoined 10 = .ok (.aload_n 0, 1) := by decide +kernel
theorem dX5_canBeJoined_11 : decode cX5_canBeJoined 11 = .ok (.getfield 30, 3) := by decide +kernel
theorem dX5_canBeJoined_14 : decode cX5_canBeJoined 14 = .ok (.iload_n 2, 1) := by decide +kernel
theorem dX5_canBeJoined_15 : decode cX5_canBeJoined 15 = .ok (.iaload, 1) := by decide +kernel
theorem dX5_canBeJoined_16 : decode cX5_canBeJoined 16 = .ok (.iconst 2, 1) := by decide +kernel
theorem dX5_canBeJoined_17 : decode cX5_canBeJoined 17 = .ok (.if_icmp .ne 16, 3) := by decide +kernel
theorem dX5_canBeJoined_20 : decode cX5_canBeJoined 20 = .ok (.aload_n 0, 1) := by decide +kernel
theorem dX5_canBeJoined_21 : decode cX5_canBeJoined 21 = .ok (.iload_n 1, 1) := by decide +kernel
theorem dX5_canBeJoined_22 : decode cX5_canBeJoined 22 = .ok (.iload_n 2, 1) := by decide +kernel
theorem dX5_canBeJoined_23 : decode cX5_canBeJoined 23 = .ok (.invokevirtual 104, 3) := by decide +kernel
theorem dX5_canBeJoined_26 : decode cX5_canBeJoined 26 = .ok (.ifCond .eq 7, 3) := by decide +kernel
theorem dX5_canBeJoined_29 : decode cX5_canBeJoined 29 = .ok (.iconst 1, 1) := by decide +kernel
theorem dX5_canBeJoined_30 : decode cX5_canBeJoined 30 = .ok (.goto 4, 3) := by decide +kernel
theorem dX5_canBeJoined_33 : decode cX5_canBeJoined 33 = .ok (.iconst 0, 1) := by decide +kernel
theorem dX5_canBeJoined_34 : decode cX5_canBeJoined 34 = .ok (.ireturn, 1) := by decide +kernel
theorem dX5_putTogether_0 : decode cX5_putTogether 0 = .ok (.aload_n 0, 1) := by decide +kernel
theorem dX5_putTogether_1 : decode cX5_putTogether 1 = .ok (.getfield 33, 3) := by decide +kernel
theorem dX5_putTogether_4 : decode cX5_putTogether 4 = .ok (.iload_n 1, 1) := by decide +kernel
theorem dX5_putTogether_5 : decode cX5_putTogether 5 = .ok (.aload_n 0, 1) := by decide +kernel
theorem dX5_putTogether_6 : decode cX5_putTogether 6 = .ok (.getfield 27, 3) := by decide +kernel
theorem dX5_putTogether_9 : decode cX5_putTogether 9 = .ok (.iload_n 1, 1) := by decide +kernel
theorem dX5_putTogether_10 : decode cX5_putTogether 10 = .ok (.iaload, 1) := by decide +kernel
theorem dX5_putTogether_11 : decode cX5_putTogether 11 = .ok (.aload_n 0, 1) := by decide +kernel
theorem dX5_putTogether_12 : decode cX5_putTogether 12 = .ok (.getfield 33, 3) := by decide +kernel
theorem dX5_putTogether_15 : decode cX5_putTogether 15 = .ok (.iload_n 1, 1) := by decide +kernel
theorem dX5_putTogether_16 : decode cX5_putTogether 16 = .ok (.iaload, 1) := by decide +kernel
theorem dX5_putTogether_17 : decode cX5_putTogether 17 = .ok (.aload_n 0, 1) := by decide +kernel
theorem dX5_putTogether_18 : decode cX5_putTogether 18 = .ok (.getfield 33, 3) := by decide +kernel
theorem dX5_putTogether_21 : decode cX5_putTogether 21 = .ok (.iload_n 2, 1) := by decide +kernel
theorem dX5_putTogether_22 : decode cX5_putTogether 22 = .ok (.iaload, 1) := by decide +kernel
theorem dX5_putTogether_23 : decode cX5_putTogether 23 = .ok (.iadd, 1) := by decide +kernel
theorem dX5_putTogether_24 : decode cX5_putTogether 24 = .ok (.invokestatic 95, 3) := by decide +kernel
theorem dX5_putTogether_27 : decode cX5_putTogether 27 = .ok (.iastore, 1) := by decide +kernel
theorem dX5_putTogether_28 : decode cX5_putTogether 28 = .ok (.aload_n 0, 1) := by decide +kernel
theorem dX5_putTogether_29 : decode cX5_putTogether 29 = .ok (.getfield 30, 3) := by decide +kernel
theorem dX5_putTogether_32 : decode cX5_putTogether 32 = .ok (.iload_n 1, 1) := by decide +kernel
theorem dX5_putTogether_33 : decode cX5_putTogether 33 = .ok (.aload_n 0, 1) := by decide +kernel
theorem dX5_putTogether_34 : decode cX5_putTogether 34 = .ok (.getfield 33, 3) := by decide +kernel
theorem dX5_putTogether_37 : decode cX5_putTogether 37 = .ok (.iload_n 1, 1) := by decide +kernel
theorem dX5_putTogether_38 : decode cX5_putTogether 38 = .ok (.iaload, 1) := by decide +kernel
theorem dX5_putTogether_39 : decode cX5_putTogether 39 = .ok (.aload_n 0, 1) := by decide +kernel
theorem dX5_putTogether_40 : decode cX5_putTogether 40 = .ok (.getfield 27, 3) := by decide +kernel
theorem dX5_putTogether_43 : decode cX5_putTogether 43 = .ok (.iload_n 1, 1) := by decide +kernel
theorem dX5_putTogether_44 : decode cX5_putTogether 44 = .ok (.iaload, 1) := by decide +kernel
theorem dX5_putTogether_45 : decode cX5_putTogether 45 = .ok (.if_icmp .ne 7, 3) := by decide +kernel
theorem dX5_putTogether_48 : decode cX5_putTogether 48 = .ok (.iconst 3, 1) := by decide +kernel
theorem dX5_putTogether_49 : decode cX5_putTogether 49 = .ok (.goto 4, 3) := by decide +kernel
theorem dX5_putTogether_52 : decode cX5_putTogether 52 = .ok (.iconst 2, 1) := by decide +kernel
theorem dX5_putTogether_53 : decode cX5_putTogether 53 = .ok (.iastore, 1) := by decide +kernel
theorem dX5_putTogether_54 : decode cX5_putTogether 54 = .ok (.aload_n 0, 1) := by decide +kernel
theorem dX5_putTogether_55 : decode cX5_putTogether 55 = .ok (.getfield 30, 3) := by decide +kernel
theorem dX5_putTogether_58 : decode cX5_putTogether 58 = .ok (.iload_n 2, 1) := by decide +kernel
theorem dX5_putTogether_59 : decode cX5_putTogether 59 = .ok (.iconst 4, 1) := by decide +kernel
theorem dX5_putTogether_60 : decode cX5_putTogether 60 = .ok (.iastore, 1) := by decide +kernel
theorem dX5_putTogether_61 : decode cX5_putTogether 61 = .ok (.return_, 1) := by decide +kernel
set_option maxRecDepth 20000 in
theorem ggX5_holesMakeWhole_X7_hasBit : GoodIn wsX5_holesMakeWhole wsX7_hasBit := goodIn_r _ [7] (by decide +kernel) (by decide +kernel)
set_option maxRecDepth 20000 in
theorem gX5_holesMakeWhole_X7_hasBit_n74 : GoodIn wsX5_holesMakeWhole (wsX7_hasBit) := ggX5_holesMakeWhole_X7_hasBit
set_option maxRecDepth 20000 in
theorem ggX5_holesMakeWhole_X5_alike : GoodIn wsX5_holesMakeWhole wsX5_alike := goodIn_r _ [12, 13, 4, 14, 15, 16, 17, 18, 19, 20, 21, 22, 23, 24, 25, 26, 27, 28, 29, 30] (by decide +kernel) (by decide +kernel)
set_option maxRecDepth 20000 in
theorem gX5_holesMakeWhole_X5_alike : GoodIn wsX5_holesMakeWhole (wsV RX5 104 RX5 yX5_alike wsX5_alike) := goodIn_app (goodIn_of _ (by decide +kernel)) ggX5_holesMakeWhole_X5_alike
theorem dX5_holesMakeWhole_0 : decode cX5_holesMakeWhole 0 = .ok (.iconst (-1), 1) := by decide +kernel
theorem dX5_holesMakeWhole_1 : decode cX5_holesMakeWhole 1 = .ok (.istore_n 2, 1) := by decide +kernel
theorem dX5_holesMakeWhole_2 : decode cX5_holesMakeWhole 2 = .ok (.iconst 0, 1) := by decide +kernel
theorem dX5_holesMakeWhole_3 : decode cX5_holesMakeWhole 3 = .ok (.istore_n 3, 1) := by decide +kernel
theorem dX5_holesMakeWhole_4 : decode cX5_holesMakeWhole 4 = .ok (.iconst 0, 1) := by decide +kernel
theorem dX5_holesMakeWhole_5 : decode cX5_holesMakeWhole 5 = .ok (.istore 4, 2) := by decide +kernel
theorem dX5_holesMakeWhole_7 : decode cX5_holesMakeWhole 7 = .ok (.iload 4, 2) := by decide +kernel
theorem dX5_holesMakeWhole_9 : decode cX5_holesMakeWhole 9 = .ok (.aload_n 0, 1) := by decide +kernel
theorem dX5_holesMakeWhole_10 : decode cX5_holesMakeWhole 10 = .ok (.getfield 58, 3) := by decide +kernel
theorem dX5_holesMakeWhole_13 : decode cX5_holesMakeWhole 13 = .ok (.if_icmp .ge 62, 3) := by decide +kernel
theorem dX5_holesMakeWhole_16 : decode cX5_holesMakeWhole 16 = .ok (.iload_n 1, 1) := by decide +kernel
theorem dX5_holesMakeWhole_17 : decode cX5_holesMakeWhole 17 = .ok (.iload 4, 2) := by decide +kernel
theorem dX5_holesMakeWhole_19 : decode cX5_holesMakeWhole 19 = .ok (.invokestatic 74, 3) := by decide +kernel
theorem dX5_holesMakeWhole_22 : decode cX5_holesMakeWhole 22 = .ok (.ifCond .ne 6, 3) := by decide +kernel
theorem dX5_holesMakeWhole_25 : decode cX5_holesMakeWhole 25 = .ok (.goto 44, 3) := by decide +kernel
theorem dX5_holesMakeWhole_28 : decode cX5_holesMakeWhole 28 = .ok (.iload_n 2, 1) := by decide +kernel
theorem dX5_holesMakeWhole_29 : decode cX5_holesMakeWhole 29 = .ok (.iconst (-1), 1) := by decide +kernel
theorem dX5_holesMakeWhole_30 : decode cX5_holesMakeWhole 30 = .ok (.if_icmp .ne 6, 3) := by decide +kernel
theorem dX5_holesMakeWhole_33 : decode cX5_holesMakeWhole 33 = .ok (.iload 4, 2) := by decide +kernel
theorem dX5_holesMakeWhole_35 : decode cX5_holesMakeWhole 35 = .ok (.istore_n 2, 1) := by decide +kernel
theorem dX5_holesMakeWhole_36 : decode cX5_holesMakeWhole 36 = .ok (.aload_n 0, 1) := by decide +kernel
theorem dX5_holesMakeWhole_37 : decode cX5_holesMakeWhole 37 = .ok (.getfield 30, 3) := by decide +kernel
theorem dX5_holesMakeWhole_40 : decode cX5_holesMakeWhole 40 = .ok (.iload 4, 2) := by decide +kernel
theorem dX5_holesMakeWhole_42 : decode cX5_holesMakeWhole 42 = .ok (.iaload, 1) := by decide +kernel
theorem dX5_holesMakeWhole_43 : decode cX5_holesMakeWhole 43 = .ok (.iconst 2, 1) := by decide +kernel
theorem dX5_holesMakeWhole_44 : decode cX5_holesMakeWhole 44 = .ok (.if_icmp .ne 13, 3) := by decide +kernel
theorem dX5_holesMakeWhole_47 : decode cX5_holesMakeWhole 47 = .ok (.aload_n 0, 1) := by decide +kernel
theorem dX5_holesMakeWhole_48 : decode cX5_holesMakeWhole 48 = .ok (.iload_n 2, 1) := by decide +kernel
theorem dX5_holesMakeWhole_49 : decode cX5_holesMakeWhole 49 = .ok (.iload 4, 2) := by decide +kernel
theorem dX5_holesMakeWhole_51 : decode cX5_holesMakeWhole 51 = .ok (.invokevirtual 104, 3) := by decide +kernel
theorem dX5_holesMakeWhole_54 : decode cX5_holesMakeWhole 54 = .ok (.ifCond .ne 5, 3) := by decide +kernel
theorem dX5_holesMakeWhole_57 : decode cX5_holesMakeWhole 57 = .ok (.iconst 0, 1) := by decide +kernel
theorem dX5_holesMakeWhole_58 : decode cX5_holesMakeWhole 58 = .ok (.ireturn, 1) := by decide +kernel
theorem dX5_holesMakeWhole_59 : decode cX5_holesMakeWhole 59 = .ok (.iload_n 3, 1) := by decide +kernel
theorem dX5_holesMakeWhole_60 : decode cX5_holesMakeWhole 60 = .ok (.aload_n 0, 1) := by decide +kernel
theorem dX5_holesMakeWhole_61 : decode cX5_holesMakeWhole 61 = .ok (.getfield 33, 3) := by decide +kernel
theorem dX5_holesMakeWhole_64 : decode cX5_holesMakeWhole 64 = .ok (.iload 4, 2) := by decide +kernel
theorem dX5_holesMakeWhole_66 : decode cX5_holesMakeWhole 66 = .ok (.iaload, 1) := by decide +kernel
theorem dX5_holesMakeWhole_67 : decode cX5_holesMakeWhole 67 = .ok (.iadd, 1) := by decide +kernel
theorem dX5_holesMakeWhole_68 : decode cX5_holesMakeWhole 68 = .ok (.istore_n 3, 1) := by decide +kernel
theorem dX5_holesMakeWhole_69 : decode cX5_holesMakeWhole 69 = .ok (.iinc 4 1, 3) := by decide +kernel
theorem dX5_holesMakeWhole_72 : decode cX5_holesMakeWhole 72 = .ok (.goto (-65), 3) := by decide +kernel
theorem dX5_holesMakeWhole_75 : decode cX5_holesMakeWhole 75 = .ok (.iload_n 2, 1) := by decide +kernel
theorem dX5_holesMakeWhole_76 : decode cX5_holesMakeWhole 76 = .ok (.iconst (-1), 1) := by decide +kernel
theorem dX5_holesMakeWhole_77 : decode cX5_holesMakeWhole 77 = .ok (.if_icmp .eq 17, 3) := by decide +kernel
theorem dX5_holesMakeWhole_80 : decode cX5_holesMakeWhole 80 = .ok (.iload_n 3, 1) := by decide +kernel
theorem dX5_holesMakeWhole_81 : decode cX5_holesMakeWhole 81 = .ok (.aload_n 0, 1) := by decide +kernel
theorem dX5_holesMakeWhole_82 : decode cX5_holesMakeWhole 82 = .ok (.getfield 27, 3) := by decide +kernel
theorem dX5_holesMakeWhole_85 : decode cX5_holesMakeWhole 85 = .ok (.iload_n 2, 1) := by decide +kernel
theorem dX5_holesMakeWhole_86 : decode cX5_holesMakeWhole 86 = .ok (.iaload, 1) := by decide +kernel
theorem dX5_holesMakeWhole_87 : decode cX5_holesMakeWhole 87 = .ok (.if_icmp .lt 7, 3) := by decide +kernel
theorem dX5_holesMakeWhole_90 : decode cX5_holesMakeWhole 90 = .ok (.iconst 1, 1) := by decide +kernel
theorem dX5_holesMakeWhole_91 : decode cX5_holesMakeWhole 91 = .ok (.goto 4, 3) := by decide +kernel
theorem dX5_holesMakeWhole_94 : decode cX5_holesMakeWhole 94 = .ok (.iconst 0, 1) := by decide +kernel
theorem dX5_holesMakeWhole_95 : decode cX5_holesMakeWhole 95 = .ok (.ireturn, 1) := by decide +kernel
set_option maxRecDepth 20000 in
theorem ggX5_gainOfOffers_X7_hasBit : GoodIn wsX5_gainOfOffers wsX7_hasBit := goodIn_r _ [6] (by decide +kernel) (by decide +kernel)
set_option maxRecDepth 20000 in
theorem gX5_gainOfOffers_X7_hasBit_n74 : GoodIn wsX5_gainOfOffers (wsX7_hasBit) := ggX5_gainOfOffers_X7_hasBit
set_option maxRecDepth 20000 in
theorem ggX5_gainOfOffers_X5_gainOf : GoodIn wsX5_gainOfOffers wsX5_gainOf := goodIn_r _ [11, 12, 13, 14, 15, 16, 17, 18, 19, 20, 21, 22, 23, 24, 25, 26, 27, 28, 29] (by decide +kernel) (by decide +kernel)
set_option maxRecDepth 20000 in
theorem gX5_gainOfOffers_X5_gainOf : GoodIn wsX5_gainOfOffers (wsV RX5 70 RX5 yX5_gainOf wsX5_gainOf) := goodIn_app (goodIn_of _ (by decide +kernel)) ggX5_gainOfOffers_X5_gainOf
theorem dX5_gainOfOffers_0 : decode cX5_gainOfOffers 0 = .ok (.iconst 0, 1) := by decide +kernel
theorem dX5_gainOfOffers_1 : decode cX5_gainOfOffers 1 = .ok (.istore_n 2, 1) := by decide +kernel
theorem dX5_gainOfOffers_2 : decode cX5_gainOfOffers 2 = .ok (.iconst 0, 1) := by decide +kernel
theorem dX5_gainOfOffers_3 : decode cX5_gainOfOffers 3 = .ok (.istore_n 3, 1) := by decide +kernel
theorem dX5_gainOfOffers_4 : decode cX5_gainOfOffers 4 = .ok (.iload_n 3, 1) := by decide +kernel
theorem dX5_gainOfOffers_5 : decode cX5_gainOfOffers 5 = .ok (.aload_n 0, 1) := by decide +kernel
theorem dX5_gainOfOffers_6 : decode cX5_gainOfOffers 6 = .ok (.getfield 61, 3) := by decide +kernel
theorem dX5_gainOfOffers_9 : decode cX5_gainOfOffers 9 = .ok (.if_icmp .ge 36, 3) := by decide +kernel
theorem dX5_gainOfOffers_12 : decode cX5_gainOfOffers 12 = .ok (.iload_n 1, 1) := by decide +kernel
theorem dX5_gainOfOffers_13 : decode cX5_gainOfOffers 13 = .ok (.iload_n 3, 1) := by decide +kernel
theorem dX5_gainOfOffers_14 : decode cX5_gainOfOffers 14 = .ok (.invokestatic 74, 3) := by decide +kernel
theorem dX5_gainOfOffers_17 : decode cX5_gainOfOffers 17 = .ok (.ifCond .eq 22, 3) := by decide +kernel
theorem dX5_gainOfOffers_20 : decode cX5_gainOfOffers 20 = .ok (.iload_n 2, 1) := by decide +kernel
theorem dX5_gainOfOffers_21 : decode cX5_gainOfOffers 21 = .ok (.aload_n 0, 1) := by decide +kernel
theorem dX5_gainOfOffers_22 : decode cX5_gainOfOffers 22 = .ok (.aload_n 0, 1) := by decide +kernel
theorem dX5_gainOfOffers_23 : decode cX5_gainOfOffers 23 = .ok (.getfield 36, 3) := by decide +kernel
theorem dX5_gainOfOffers_26 : decode cX5_gainOfOffers 26 = .ok (.iload_n 3, 1) := by decide +kernel
theorem dX5_gainOfOffers_27 : decode cX5_gainOfOffers 27 = .ok (.iaload, 1) := by decide +kernel
theorem dX5_gainOfOffers_28 : decode cX5_gainOfOffers 28 = .ok (.aload_n 0, 1) := by decide +kernel
theorem dX5_gainOfOffers_29 : decode cX5_gainOfOffers 29 = .ok (.getfield 39, 3) := by decide +kernel
theorem dX5_gainOfOffers_32 : decode cX5_gainOfOffers 32 = .ok (.iload_n 3, 1) := by decide +kernel
theorem dX5_gainOfOffers_33 : decode cX5_gainOfOffers 33 = .ok (.iaload, 1) := by decide +kernel
theorem dX5_gainOfOffers_34 : decode cX5_gainOfOffers 34 = .ok (.invokevirtual 70, 3) := by decide +kernel
theorem dX5_gainOfOffers_37 : decode cX5_gainOfOffers 37 = .ok (.iadd, 1) := by decide +kernel
theorem dX5_gainOfOffers_38 : decode cX5_gainOfOffers 38 = .ok (.istore_n 2, 1) := by decide +kernel
theorem dX5_gainOfOffers_39 : decode cX5_gainOfOffers 39 = .ok (.iinc 3 1, 3) := by decide +kernel
theorem dX5_gainOfOffers_42 : decode cX5_gainOfOffers 42 = .ok (.goto (-38), 3) := by decide +kernel
theorem dX5_gainOfOffers_45 : decode cX5_gainOfOffers 45 = .ok (.iload_n 2, 1) := by decide +kernel
theorem dX5_gainOfOffers_46 : decode cX5_gainOfOffers 46 = .ok (.ireturn, 1) := by decide +kernel
set_option maxRecDepth 20000 in
theorem ggX5_wantOf_X5_wholeOf : GoodIn wsX5_wantOf wsX5_wholeOf := goodIn_r _ [6, 7, 8, 9, 10, 11, 5, 12, 13, 19, 20, 21, 22, 23, 24, 25, 26, 27, 28, 29, 30, 31, 32, 33, 34, 35] (by decide +kernel) (by decide +kernel)
set_option maxRecDepth 20000 in
theorem gX5_wantOf_X5_wholeOf : GoodIn wsX5_wantOf (wsV RX5 101 RX5 yX5_wholeOf wsX5_wholeOf) := goodIn_app (goodIn_of _ (by decide +kernel)) ggX5_wantOf_X5_wholeOf
set_option maxRecDepth 20000 in
theorem ggX5_wantOf_X5_givenPence : GoodIn wsX5_wantOf wsX5_givenPence := goodIn_r _ [17, 7, 18, 19, 20, 21, 22, 23, 24, 25, 26, 27, 28, 29, 30, 31, 32, 33, 34, 35] (by decide +kernel) (by decide +kernel)
set_option maxRecDepth 20000 in
theorem gX5_wantOf_X5_givenPence : GoodIn wsX5_wantOf (wsV RX5 107 RX5 yX5_givenPence wsX5_givenPence) := goodIn_app (goodIn_of _ (by decide +kernel)) ggX5_wantOf_X5_givenPence
theorem dX5_wantOf_0 : decode cX5_wantOf 0 = .ok (.aload_n 0, 1) := by decide +kernel
theorem dX5_wantOf_1 : decode cX5_wantOf 1 = .ok (.getfield 30, 3) := by decide +kernel
theorem dX5_wantOf_4 : decode cX5_wantOf 4 = .ok (.iload_n 1, 1) := by decide +kernel
theorem dX5_wantOf_5 : decode cX5_wantOf 5 = .ok (.iaload, 1) := by decide +kernel
theorem dX5_wantOf_6 : decode cX5_wantOf 6 = .ok (.iconst 3, 1) := by decide +kernel
theorem dX5_wantOf_7 : decode cX5_wantOf 7 = .ok (.if_icmp .ne 9, 3) := by decide +kernel
theorem dX5_wantOf_10 : decode cX5_wantOf 10 = .ok (.aload_n 0, 1) := by decide +kernel
theorem dX5_wantOf_11 : decode cX5_wantOf 11 = .ok (.iload_n 1, 1) := by decide +kernel
theorem dX5_wantOf_12 : decode cX5_wantOf 12 = .ok (.invokevirtual 101, 3) := by decide +kernel
theorem dX5_wantOf_15 : decode cX5_wantOf 15 = .ok (.ireturn, 1) := by decide +kernel
theorem dX5_wantOf_16 : decode cX5_wantOf 16 = .ok (.aload_n 0, 1) := by decide +kernel
theorem dX5_wantOf_17 : decode cX5_wantOf 17 = .ok (.getfield 30, 3) := by decide +kernel
theorem dX5_wantOf_20 : decode cX5_wantOf 20 = .ok (.iload_n 1, 1) := by decide +kernel
theorem dX5_wantOf_21 : decode cX5_wantOf 21 = .ok (.iaload, 1) := by decide +kernel
theorem dX5_wantOf_22 : decode cX5_wantOf 22 = .ok (.ifCond .eq 13, 3) := by decide +kernel
theorem dX5_wantOf_25 : decode cX5_wantOf 25 = .ok (.aload_n 0, 1) := by decide +kernel
theorem dX5_wantOf_26 : decode cX5_wantOf 26 = .ok (.getfield 30, 3) := by decide +kernel
theorem dX5_wantOf_29 : decode cX5_wantOf 29 = .ok (.iload_n 1, 1) := by decide +kernel
theorem dX5_wantOf_30 : decode cX5_wantOf 30 = .ok (.iaload, 1) := by decide +kernel
theorem dX5_wantOf_31 : decode cX5_wantOf 31 = .ok (.iconst 2, 1) := by decide +kernel
theorem dX5_wantOf_32 : decode cX5_wantOf 32 = .ok (.if_icmp .ne 11, 3) := by decide +kernel
theorem dX5_wantOf_35 : decode cX5_wantOf 35 = .ok (.aload_n 0, 1) := by decide +kernel
theorem dX5_wantOf_36 : decode cX5_wantOf 36 = .ok (.iload_n 1, 1) := by decide +kernel
theorem dX5_wantOf_37 : decode cX5_wantOf 37 = .ok (.invokevirtual 107, 3) := by decide +kernel
theorem dX5_wantOf_40 : decode cX5_wantOf 40 = .ok (.goto 4, 3) := by decide +kernel
theorem dX5_wantOf_43 : decode cX5_wantOf 43 = .ok (.iconst 0, 1) := by decide +kernel
theorem dX5_wantOf_44 : decode cX5_wantOf 44 = .ok (.ireturn, 1) := by decide +kernel
set_option maxRecDepth 20000 in
theorem ggX5_wantedByAll_X5_wantOf : GoodIn wsX5_wantedByAll wsX5_wantOf := goodIn_r _ [6, 7, 8, 9, 10, 5, 11, 12, 13, 14, 15, 16, 17, 18, 19, 20, 21, 22, 23, 24, 25, 26, 27, 28, 29, 30, 31, 32, 33, 34, 35, 36, 37, 38, 39, 40] (by decide +kernel) (by decide +kernel)
set_option maxRecDepth 20000 in
theorem gX5_wantedByAll_X5_wantOf : GoodIn wsX5_wantedByAll (wsV RX5 110 RX5 yX5_wantOf wsX5_wantOf) := goodIn_app (goodIn_of _ (by decide +kernel)) ggX5_wantedByAll_X5_wantOf
theorem dX5_wantedByAll_0 : decode cX5_wantedByAll 0 = .ok (.iconst 0, 1) := by decide +kernel
theorem dX5_wantedByAll_1 : decode cX5_wantedByAll 1 = .ok (.istore_n 1, 1) := by decide +kernel
theorem dX5_wantedByAll_2 : decode cX5_wantedByAll 2 = .ok (.iconst 0, 1) := by decide +kernel
theorem dX5_wantedByAll_3 : decode cX5_wantedByAll 3 = .ok (.istore_n 2, 1) := by decide +kernel
theorem dX5_wantedByAll_4 : decode cX5_wantedByAll 4 = .ok (.iload_n 2, 1) := by decide +kernel
theorem dX5_wantedByAll_5 : decode cX5_wantedByAll 5 = .ok (.aload_n 0, 1) := by decide +kernel
theorem dX5_wantedByAll_6 : decode cX5_wantedByAll 6 = .ok (.getfield 58, 3) := by decide +kernel
theorem dX5_wantedByAll_9 : decode cX5_wantedByAll 9 = .ok (.if_icmp .ge 17, 3) := by decide +kernel
theorem dX5_wantedByAll_12 : decode cX5_wantedByAll 12 = .ok (.iload_n 1, 1) := by decide +kernel
theorem dX5_wantedByAll_13 : decode cX5_wantedByAll 13 = .ok (.aload_n 0, 1) := by decide +kernel
theorem dX5_wantedByAll_14 : decode cX5_wantedByAll 14 = .ok (.iload_n 2, 1) := by decide +kernel
theorem dX5_wantedByAll_15 : decode cX5_wantedByAll 15 = .ok (.invokevirtual 110, 3) := by decide +kernel
theorem dX5_wantedByAll_18 : decode cX5_wantedByAll 18 = .ok (.iadd, 1) := by decide +kernel
theorem dX5_wantedByAll_19 : decode cX5_wantedByAll 19 = .ok (.istore_n 1, 1) := by decide +kernel
theorem dX5_wantedByAll_20 : decode cX5_wantedByAll 20 = .ok (.iinc 2 1, 3) := by decide +kernel
theorem dX5_wantedByAll_23 : decode cX5_wantedByAll 23 = .ok (.goto (-19), 3) := by decide +kernel
theorem dX5_wantedByAll_26 : decode cX5_wantedByAll 26 = .ok (.iload_n 1, 1) := by decide +kernel
theorem dX5_wantedByAll_27 : decode cX5_wantedByAll 27 = .ok (.ireturn, 1) := by decide +kernel
set_option maxRecDepth 20000 in
theorem ggX5_leftInOrder_X5_wantOf : GoodIn wsX5_leftInOrder wsX5_wantOf := goodIn_r _ [7, 8, 9, 10, 11, 6, 12, 13, 14, 15, 16, 17, 18, 19, 20, 21, 22, 23, 24, 25, 26, 27, 28, 29, 30, 31, 32, 33, 34, 35, 36, 37, 38, 39, 40, 41] (by decide +kernel) (by decide +kernel)
set_option maxRecDepth 20000 in
theorem gX5_leftInOrder_X5_wantOf : GoodIn wsX5_leftInOrder (wsV RX5 110 RX5 yX5_wantOf wsX5_wantOf) := goodIn_app (goodIn_of _ (by decide +kernel)) ggX5_leftInOrder_X5_wantOf
theorem dX5_leftInOrder_0 : decode cX5_leftInOrder 0 = .ok (.aload_n 0, 1) := by decide +kernel
theorem dX5_leftInOrder_1 : decode cX5_leftInOrder 1 = .ok (.getfield 42, 3) := by decide +kernel
theorem dX5_leftInOrder_4 : decode cX5_leftInOrder 4 = .ok (.istore_n 1, 1) := by decide +kernel
theorem dX5_leftInOrder_5 : decode cX5_leftInOrder 5 = .ok (.iconst 0, 1) := by decide +kernel
theorem dX5_leftInOrder_6 : decode cX5_leftInOrder 6 = .ok (.istore_n 2, 1) := by decide +kernel
theorem dX5_leftInOrder_7 : decode cX5_leftInOrder 7 = .ok (.iload_n 2, 1) := by decide +kernel
theorem dX5_leftInOrder_8 : decode cX5_leftInOrder 8 = .ok (.aload_n 0, 1) := by decide +kernel
theorem dX5_leftInOrder_9 : decode cX5_leftInOrder 9 = .ok (.getfield 58, 3) := by decide +kernel
theorem dX5_leftInOrder_12 : decode cX5_leftInOrder 12 = .ok (.if_icmp .ge 26, 3) := by decide +kernel
theorem dX5_leftInOrder_15 : decode cX5_leftInOrder 15 = .ok (.aload_n 0, 1) := by decide +kernel
theorem dX5_leftInOrder_16 : decode cX5_leftInOrder 16 = .ok (.iload_n 2, 1) := by decide +kernel
theorem dX5_leftInOrder_17 : decode cX5_leftInOrder 17 = .ok (.invokevirtual 110, 3) := by decide +kernel
theorem dX5_leftInOrder_20 : decode cX5_leftInOrder 20 = .ok (.iload_n 1, 1) := by decide +kernel
theorem dX5_leftInOrder_21 : decode cX5_leftInOrder 21 = .ok (.if_icmp .gt 11, 3) := by decide +kernel
theorem dX5_leftInOrder_24 : decode cX5_leftInOrder 24 = .ok (.iload_n 1, 1) := by decide +kernel
theorem dX5_leftInOrder_25 : decode cX5_leftInOrder 25 = .ok (.aload_n 0, 1) := by decide +kernel
theorem dX5_leftInOrder_26 : decode cX5_leftInOrder 26 = .ok (.iload_n 2, 1) := by decide +kernel
theorem dX5_leftInOrder_27 : decode cX5_leftInOrder 27 = .ok (.invokevirtual 110, 3) := by decide +kernel
theorem dX5_leftInOrder_30 : decode cX5_leftInOrder 30 = .ok (.isub, 1) := by decide +kernel
theorem dX5_leftInOrder_31 : decode cX5_leftInOrder 31 = .ok (.istore_n 1, 1) := by decide +kernel
theorem dX5_leftInOrder_32 : decode cX5_leftInOrder 32 = .ok (.iinc 2 1, 3) := by decide +kernel
theorem dX5_leftInOrder_35 : decode cX5_leftInOrder 35 = .ok (.goto (-28), 3) := by decide +kernel
theorem dX5_leftInOrder_38 : decode cX5_leftInOrder 38 = .ok (.iload_n 1, 1) := by decide +kernel
theorem dX5_leftInOrder_39 : decode cX5_leftInOrder 39 = .ok (.ireturn, 1) := by decide +kernel
set_option maxRecDepth 20000 in
theorem ggX5_paidInOrder_X5_wantOf : GoodIn wsX5_paidInOrder wsX5_wantOf := goodIn_r _ [7, 8, 9, 10, 11, 6, 12, 13, 14, 15, 16, 17, 18, 19, 20, 21, 22, 23, 24, 25, 26, 27, 28, 29, 30, 31, 32, 33, 34, 35, 36, 37, 38, 39, 40, 41] (by decide +kernel) (by decide +kernel)
set_option maxRecDepth 20000 in
theorem gX5_paidInOrder_X5_wantOf : GoodIn wsX5_paidInOrder (wsV RX5 110 RX5 yX5_wantOf wsX5_wantOf) := goodIn_app (goodIn_of _ (by decide +kernel)) ggX5_paidInOrder_X5_wantOf
theorem dX5_paidInOrder_0 : decode cX5_paidInOrder 0 = .ok (.aload_n 0, 1) := by decide +kernel
theorem dX5_paidInOrder_1 : decode cX5_paidInOrder 1 = .ok (.getfield 42, 3) := by decide +kernel
theorem dX5_paidInOrder_4 : decode cX5_paidInOrder 4 = .ok (.istore_n 1, 1) := by decide +kernel
theorem dX5_paidInOrder_5 : decode cX5_paidInOrder 5 = .ok (.iconst 0, 1) := by decide +kernel
theorem dX5_paidInOrder_6 : decode cX5_paidInOrder 6 = .ok (.istore_n 2, 1) := by decide +kernel
theorem dX5_paidInOrder_7 : decode cX5_paidInOrder 7 = .ok (.iconst 0, 1) := by decide +kernel
theorem dX5_paidInOrder_8 : decode cX5_paidInOrder 8 = .ok (.istore_n 3, 1) := by decide +kernel
theorem dX5_paidInOrder_9 : decode cX5_paidInOrder 9 = .ok (.iload_n 3, 1) := by decide +kernel
theorem dX5_paidInOrder_10 : decode cX5_paidInOrder 10 = .ok (.aload_n 0, 1) := by decide +kernel
theorem dX5_paidInOrder_11 : decode cX5_paidInOrder 11 = .ok (.getfield 58, 3) := by decide +kernel
theorem dX5_paidInOrder_14 : decode cX5_paidInOrder 14 = .ok (.if_icmp .ge 35, 3) := by decide +kernel
theorem dX5_paidInOrder_17 : decode cX5_paidInOrder 17 = .ok (.aload_n 0, 1) := by decide +kernel
theorem dX5_paidInOrder_18 : decode cX5_paidInOrder 18 = .ok (.iload_n 3, 1) := by decide +kernel
theorem dX5_paidInOrder_19 : decode cX5_paidInOrder 19 = .ok (.invokevirtual 110, 3) := by decide +kernel
theorem dX5_paidInOrder_22 : decode cX5_paidInOrder 22 = .ok (.istore 4, 2) := by decide +kernel
theorem dX5_paidInOrder_24 : decode cX5_paidInOrder 24 = .ok (.iload 4, 2) := by decide +kernel
theorem dX5_paidInOrder_26 : decode cX5_paidInOrder 26 = .ok (.ifCond .le 17, 3) := by decide +kernel
theorem dX5_paidInOrder_29 : decode cX5_paidInOrder 29 = .ok (.iload 4, 2) := by decide +kernel
theorem dX5_paidInOrder_31 : decode cX5_paidInOrder 31 = .ok (.iload_n 1, 1) := by decide +kernel
theorem dX5_paidInOrder_32 : decode cX5_paidInOrder 32 = .ok (.if_icmp .gt 11, 3) := by decide +kernel
theorem dX5_paidInOrder_35 : decode cX5_paidInOrder 35 = .ok (.iload_n 1, 1) := by decide +kernel
theorem dX5_paidInOrder_36 : decode cX5_paidInOrder 36 = .ok (.iload 4, 2) := by decide +kernel
theorem dX5_paidInOrder_38 : decode cX5_paidInOrder 38 = .ok (.isub, 1) := by decide +kernel
theorem dX5_paidInOrder_39 : decode cX5_paidInOrder 39 = .ok (.istore_n 1, 1) := by decide +kernel
theorem dX5_paidInOrder_40 : decode cX5_paidInOrder 40 = .ok (.iinc 2 1, 3) := by decide +kernel
theorem dX5_paidInOrder_43 : decode cX5_paidInOrder 43 = .ok (.iinc 3 1, 3) := by decide +kernel
theorem dX5_paidInOrder_46 : decode cX5_paidInOrder 46 = .ok (.goto (-37), 3) := by decide +kernel
theorem dX5_paidInOrder_49 : decode cX5_paidInOrder 49 = .ok (.iload_n 2, 1) := by decide +kernel
theorem dX5_paidInOrder_50 : decode cX5_paidInOrder 50 = .ok (.ireturn, 1) := by decide +kernel
set_option maxRecDepth 20000 in
theorem ggX5_paidInBestOrder_X5_leastWant : GoodIn wsX5_paidInBestOrder wsX5_leastWant := goodIn_r _ [7, 2, 8, 9, 10, 11, 12, 13, 6, 14, 15, 16, 17, 18, 19, 20, 21, 22, 23, 24, 25, 26, 27, 28, 29, 30, 31, 32, 33, 34, 35, 36, 37, 38, 39, 40, 41, 42, 43, 44, 45, 46, 47, 48] (by decide +kernel) (by decide +kernel)
set_option maxRecDepth 20000 in
theorem gX5_paidInBestOrder_X5_leastWant : GoodIn wsX5_paidInBestOrder (wsV RX5 113 RX5 yX5_leastWant wsX5_leastWant) := goodIn_app (goodIn_of _ (by decide +kernel)) ggX5_paidInBestOrder_X5_leastWant
set_option maxRecDepth 20000 in
theorem ggX5_paidInBestOrder_X5_wantOf : GoodIn wsX5_paidInBestOrder wsX5_wantOf := goodIn_r _ [14, 15, 16, 17, 18, 6, 19, 20, 21, 22, 23, 24, 25, 26, 27, 28, 29, 30, 31, 32, 33, 34, 35, 36, 37, 38, 39, 40, 41, 42, 43, 44, 45, 46, 47, 48] (by decide +kernel) (by decide +kernel)
set_option maxRecDepth 20000 in
theorem gX5_paidInBestOrder_X5_wantOf : GoodIn wsX5_paidInBestOrder (wsV RX5 110 RX5 yX5_wantOf wsX5_wantOf) := goodIn_app (goodIn_of _ (by decide +kernel)) ggX5_paidInBestOrder_X5_wantOf
theorem dX5_paidInBestOrder_0 : decode cX5_paidInBestOrder 0 = .ok (.aload_n 0, 1) := by decide +kernel
theorem dX5_paidInBestOrder_1 : decode cX5_paidInBestOrder 1 = .ok (.getfield 42, 3) := by decide +kernel
theorem dX5_paidInBestOrder_4 : decode cX5_paidInBestOrder 4 = .ok (.istore_n 1, 1) := by decide +kernel
theorem dX5_paidInBestOrder_5 : decode cX5_paidInBestOrder 5 = .ok (.iconst 0, 1) := by decide +kernel
theorem dX5_paidInBestOrder_6 : decode cX5_paidInBestOrder 6 = .ok (.istore_n 2, 1) := by decide +kernel
theorem dX5_paidInBestOrder_7 : decode cX5_paidInBestOrder 7 = .ok (.iconst 0, 1) := by decide +kernel
theorem dX5_paidInBestOrder_8 : decode cX5_paidInBestOrder 8 = .ok (.istore_n 3, 1) := by decide +kernel
theorem dX5_paidInBestOrder_9 : decode cX5_paidInBestOrder 9 = .ok (.iconst 0, 1) := by decide +kernel
theorem dX5_paidInBestOrder_10 : decode cX5_paidInBestOrder 10 = .ok (.istore 4, 2) := by decide +kernel
theorem dX5_paidInBestOrder_12 : decode cX5_paidInBestOrder 12 = .ok (.iload 4, 2) := by decide +kernel
theorem dX5_paidInBestOrder_14 : decode cX5_paidInBestOrder 14 = .ok (.aload_n 0, 1) := by decide +kernel
theorem dX5_paidInBestOrder_15 : decode cX5_paidInBestOrder 15 = .ok (.getfield 58, 3) := by decide +kernel
theorem dX5_paidInBestOrder_18 : decode cX5_paidInBestOrder 18 = .ok (.if_icmp .ge 53, 3) := by decide +kernel
theorem dX5_paidInBestOrder_21 : decode cX5_paidInBestOrder 21 = .ok (.aload_n 0, 1) := by decide +kernel
theorem dX5_paidInBestOrder_22 : decode cX5_paidInBestOrder 22 = .ok (.iload_n 2, 1) := by decide +kernel
theorem dX5_paidInBestOrder_23 : decode cX5_paidInBestOrder 23 = .ok (.invokevirtual 113, 3) := by decide +kernel
theorem dX5_paidInBestOrder_26 : decode cX5_paidInBestOrder 26 = .ok (.istore 5, 2) := by decide +kernel
theorem dX5_paidInBestOrder_28 : decode cX5_paidInBestOrder 28 = .ok (.iload 5, 2) := by decide +kernel
theorem dX5_paidInBestOrder_30 : decode cX5_paidInBestOrder 30 = .ok (.iconst (-1), 1) := by decide +kernel
theorem dX5_paidInBestOrder_31 : decode cX5_paidInBestOrder 31 = .ok (.if_icmp .eq 13, 3) := by decide +kernel
theorem dX5_paidInBestOrder_34 : decode cX5_paidInBestOrder 34 = .ok (.aload_n 0, 1) := by decide +kernel
theorem dX5_paidInBestOrder_35 : decode cX5_paidInBestOrder 35 = .ok (.iload 5, 2) := by decide +kernel
theorem dX5_paidInBestOrder_37 : decode cX5_paidInBestOrder 37 = .ok (.invokevirtual 110, 3) := by decide +kernel
theorem dX5_paidInBestOrder_40 : decode cX5_paidInBestOrder 40 = .ok (.iload_n 1, 1) := by decide +kernel
theorem dX5_paidInBestOrder_41 : decode cX5_paidInBestOrder 41 = .ok (.if_icmp .le 5, 3) := by decide +kernel
theorem dX5_paidInBestOrder_44 : decode cX5_paidInBestOrder 44 = .ok (.iload_n 3, 1) := by decide +kernel
theorem dX5_paidInBestOrder_45 : decode cX5_paidInBestOrder 45 = .ok (.ireturn, 1) := by decide +kernel
theorem dX5_paidInBestOrder_46 : decode cX5_paidInBestOrder 46 = .ok (.iload_n 1, 1) := by decide +kernel
theorem dX5_paidInBestOrder_47 : decode cX5_paidInBestOrder 47 = .ok (.aload_n 0, 1) := by decide +kernel
theorem dX5_paidInBestOrder_48 : decode cX5_paidInBestOrder 48 = .ok (.iload 5, 2) := by decide +kernel
theorem dX5_paidInBestOrder_50 : decode cX5_paidInBestOrder 50 = .ok (.invokevirtual 110, 3) := by decide +kernel
theorem dX5_paidInBestOrder_53 : decode cX5_paidInBestOrder 53 = .ok (.isub, 1) := by decide +kernel
theorem dX5_paidInBestOrder_54 : decode cX5_paidInBestOrder 54 = .ok (.istore_n 1, 1) := by decide +kernel
theorem dX5_paidInBestOrder_55 : decode cX5_paidInBestOrder 55 = .ok (.iload_n 2, 1) := by decide +kernel
theorem dX5_paidInBestOrder_56 : decode cX5_paidInBestOrder 56 = .ok (.iconst 1, 1) := by decide +kernel
theorem dX5_paidInBestOrder_57 : decode cX5_paidInBestOrder 57 = .ok (.iload 5, 2) := by decide +kernel
theorem dX5_paidInBestOrder_59 : decode cX5_paidInBestOrder 59 = .ok (.ishl, 1) := by decide +kernel
theorem dX5_paidInBestOrder_60 : decode cX5_paidInBestOrder 60 = .ok (.ior, 1) := by decide +kernel
theorem dX5_paidInBestOrder_61 : decode cX5_paidInBestOrder 61 = .ok (.istore_n 2, 1) := by decide +kernel
theorem dX5_paidInBestOrder_62 : decode cX5_paidInBestOrder 62 = .ok (.iinc 3 1, 3) := by decide +kernel
theorem dX5_paidInBestOrder_65 : decode cX5_paidInBestOrder 65 = .ok (.iinc 4 1, 3) := by decide +kernel
theorem dX5_paidInBestOrder_68 : decode cX5_paidInBestOrder 68 = .ok (.goto (-56), 3) := by decide +kernel
theorem dX5_paidInBestOrder_71 : decode cX5_paidInBestOrder 71 = .ok (.iload_n 3, 1) := by decide +kernel
theorem dX5_paidInBestOrder_72 : decode cX5_paidInBestOrder 72 = .ok (.ireturn, 1) := by decide +kernel
set_option maxRecDepth 20000 in
theorem ggX5_leastWant_X7_hasBit : GoodIn wsX5_leastWant wsX7_hasBit := goodIn_r _ [4] (by decide +kernel) (by decide +kernel)
set_option maxRecDepth 20000 in
theorem gX5_leastWant_X7_hasBit_n74 : GoodIn wsX5_leastWant (wsX7_hasBit) := ggX5_leastWant_X7_hasBit
set_option maxRecDepth 20000 in
theorem ggX5_leastWant_X5_wantOf : GoodIn wsX5_leastWant wsX5_wantOf := goodIn_r _ [9, 10, 11, 12, 13, 8, 14, 15, 16, 17, 18, 19, 20, 21, 22, 23, 24, 25, 26, 27, 28, 29, 30, 31, 32, 33, 34, 35, 36, 37, 38, 39, 40, 41, 42, 43] (by decide +kernel) (by decide +kernel)
set_option maxRecDepth 20000 in
theorem gX5_leastWant_X5_wantOf : GoodIn wsX5_leastWant (wsV RX5 110 RX5 yX5_wantOf wsX5_wantOf) := goodIn_app (goodIn_of _ (by decide +kernel)) ggX5_leastWant_X5_wantOf
theorem dX5_leastWant_0 : decode cX5_leastWant 0 = .ok (.iconst (-1), 1) := by decide +kernel
theorem dX5_leastWant_1 : decode cX5_leastWant 1 = .ok (.istore_n 2, 1) := by decide +kernel
theorem dX5_leastWant_2 : decode cX5_leastWant 2 = .ok (.iconst 0, 1) := by decide +kernel
theorem dX5_leastWant_3 : decode cX5_leastWant 3 = .ok (.istore_n 3, 1) := by decide +kernel
theorem dX5_leastWant_4 : decode cX5_leastWant 4 = .ok (.iload_n 3, 1) := by decide +kernel
theorem dX5_leastWant_5 : decode cX5_leastWant 5 = .ok (.aload_n 0, 1) := by decide +kernel
theorem dX5_leastWant_6 : decode cX5_leastWant 6 = .ok (.getfield 58, 3) := by decide +kernel
theorem dX5_leastWant_9 : decode cX5_leastWant 9 = .ok (.if_icmp .ge 57, 3) := by decide +kernel
theorem dX5_leastWant_12 : decode cX5_leastWant 12 = .ok (.iload_n 1, 1) := by decide +kernel
theorem dX5_leastWant_13 : decode cX5_leastWant 13 = .ok (.iload_n 3, 1) := by decide +kernel
theorem dX5_leastWant_14 : decode cX5_leastWant 14 = .ok (.invokestatic 74, 3) := by decide +kernel
theorem dX5_leastWant_17 : decode cX5_leastWant 17 = .ok (.ifCond .ne 15, 3) := by decide +kernel
theorem dX5_leastWant_20 : decode cX5_leastWant 20 = .ok (.aload_n 0, 1) := by decide +kernel
theorem dX5_leastWant_21 : decode cX5_leastWant 21 = .ok (.iload_n 3, 1) := by decide +kernel
theorem dX5_leastWant_22 : decode cX5_leastWant 22 = .ok (.invokevirtual 110, 3) := by decide +kernel
theorem dX5_leastWant_25 : decode cX5_leastWant 25 = .ok (.ifCond .le 7, 3) := by decide +kernel
theorem dX5_leastWant_28 : decode cX5_leastWant 28 = .ok (.iconst 1, 1) := by decide +kernel
theorem dX5_leastWant_29 : decode cX5_leastWant 29 = .ok (.goto 4, 3) := by decide +kernel
theorem dX5_leastWant_32 : decode cX5_leastWant 32 = .ok (.iconst 0, 1) := by decide +kernel
theorem dX5_leastWant_33 : decode cX5_leastWant 33 = .ok (.istore 4, 2) := by decide +kernel
theorem dX5_leastWant_35 : decode cX5_leastWant 35 = .ok (.iload 4, 2) := by decide +kernel
theorem dX5_leastWant_37 : decode cX5_leastWant 37 = .ok (.ifCond .eq 23, 3) := by decide +kernel
theorem dX5_leastWant_40 : decode cX5_leastWant 40 = .ok (.iload_n 2, 1) := by decide +kernel
theorem dX5_leastWant_41 : decode cX5_leastWant 41 = .ok (.iconst (-1), 1) := by decide +kernel
theorem dX5_leastWant_42 : decode cX5_leastWant 42 = .ok (.if_icmp .eq 16, 3) := by decide +kernel
theorem dX5_leastWant_45 : decode cX5_leastWant 45 = .ok (.aload_n 0, 1) := by decide +kernel
theorem dX5_leastWant_46 : decode cX5_leastWant 46 = .ok (.iload_n 3, 1) := by decide +kernel
theorem dX5_leastWant_47 : decode cX5_leastWant 47 = .ok (.invokevirtual 110, 3) := by decide +kernel
theorem dX5_leastWant_50 : decode cX5_leastWant 50 = .ok (.aload_n 0, 1) := by decide +kernel
theorem dX5_leastWant_51 : decode cX5_leastWant 51 = .ok (.iload_n 2, 1) := by decide +kernel
theorem dX5_leastWant_52 : decode cX5_leastWant 52 = .ok (.invokevirtual 110, 3) := by decide +kernel
theorem dX5_leastWant_55 : decode cX5_leastWant 55 = .ok (.if_icmp .ge 5, 3) := by decide +kernel
theorem dX5_leastWant_58 : decode cX5_leastWant 58 = .ok (.iload_n 3, 1) := by decide +kernel
theorem dX5_leastWant_59 : decode cX5_leastWant 59 = .ok (.istore_n 2, 1) := by decide +kernel
theorem dX5_leastWant_60 : decode cX5_leastWant 60 = .ok (.iinc 3 1, 3) := by decide +kernel
theorem dX5_leastWant_63 : decode cX5_leastWant 63 = .ok (.goto (-59), 3) := by decide +kernel
theorem dX5_leastWant_66 : decode cX5_leastWant 66 = .ok (.iload_n 2, 1) := by decide +kernel
theorem dX5_leastWant_67 : decode cX5_leastWant 67 = .ok (.ireturn, 1) := by decide +kernel
theorem dX5_mixInto_0 : decode cX5_mixInto 0 = .ok (.lload_n 1, 1) := by decide +kernel
theorem dX5_mixInto_1 : decode cX5_mixInto 1 = .ok (.lstore_n 3, 1) := by decide +kernel
theorem dX5_mixInto_2 : decode cX5_mixInto 2 = .ok (.iconst 0, 1) := by decide +kernel
theorem dX5_mixInto_3 : decode cX5_mixInto 3 = .ok (.istore 5, 2) := by decide +kernel
theorem dX5_mixInto_5 : decode cX5_mixInto 5 = .ok (.iload 5, 2) := by decide +kernel
theorem dX5_mixInto_7 : decode cX5_mixInto 7 = .ok (.aload_n 0, 1) := by decide +kernel
theorem dX5_mixInto_8 : decode cX5_mixInto 8 = .ok (.getfield 55, 3) := by decide +kernel
theorem dX5_mixInto_11 : decode cX5_mixInto 11 = .ok (.if_icmp .ge 54, 3) := by decide +kernel
theorem dX5_mixInto_14 : decode cX5_mixInto 14 = .ok (.ldc2_w 116, 3) := by decide +kernel
theorem dX5_mixInto_17 : decode cX5_mixInto 17 = .ok (.lload_n 3, 1) := by decide +kernel
theorem dX5_mixInto_18 : decode cX5_mixInto 18 = .ok (.lmul, 1) := by decide +kernel
theorem dX5_mixInto_19 : decode cX5_mixInto 19 = .ok (.aload_n 0, 1) := by decide +kernel
theorem dX5_mixInto_20 : decode cX5_mixInto 20 = .ok (.getfield 9, 3) := by decide +kernel
theorem dX5_mixInto_23 : decode cX5_mixInto 23 = .ok (.iload 5, 2) := by decide +kernel
theorem dX5_mixInto_25 : decode cX5_mixInto 25 = .ok (.iaload, 1) := by decide +kernel
theorem dX5_mixInto_26 : decode cX5_mixInto 26 = .ok (.i2l, 1) := by decide +kernel
theorem dX5_mixInto_27 : decode cX5_mixInto 27 = .ok (.ladd, 1) := by decide +kernel
theorem dX5_mixInto_28 : decode cX5_mixInto 28 = .ok (.lstore_n 3, 1) := by decide +kernel
theorem dX5_mixInto_29 : decode cX5_mixInto 29 = .ok (.ldc2_w 116, 3) := by decide +kernel
theorem dX5_mixInto_32 : decode cX5_mixInto 32 = .ok (.lload_n 3, 1) := by decide +kernel
theorem dX5_mixInto_33 : decode cX5_mixInto 33 = .ok (.lmul, 1) := by decide +kernel
theorem dX5_mixInto_34 : decode cX5_mixInto 34 = .ok (.aload_n 0, 1) := by decide +kernel
theorem dX5_mixInto_35 : decode cX5_mixInto 35 = .ok (.getfield 15, 3) := by decide +kernel
theorem dX5_mixInto_38 : decode cX5_mixInto 38 = .ok (.iload 5, 2) := by decide +kernel
theorem dX5_mixInto_40 : decode cX5_mixInto 40 = .ok (.iaload, 1) := by decide +kernel
theorem dX5_mixInto_41 : decode cX5_mixInto 41 = .ok (.i2l, 1) := by decide +kernel
theorem dX5_mixInto_42 : decode cX5_mixInto 42 = .ok (.ladd, 1) := by decide +kernel
theorem dX5_mixInto_43 : decode cX5_mixInto 43 = .ok (.lstore_n 3, 1) := by decide +kernel
theorem dX5_mixInto_44 : decode cX5_mixInto 44 = .ok (.ldc2_w 116, 3) := by decide +kernel
theorem dX5_mixInto_47 : decode cX5_mixInto 47 = .ok (.lload_n 3, 1) := by decide +kernel
theorem dX5_mixInto_48 : decode cX5_mixInto 48 = .ok (.lmul, 1) := by decide +kernel
theorem dX5_mixInto_49 : decode cX5_mixInto 49 = .ok (.aload_n 0, 1) := by decide +kernel
theorem dX5_mixInto_50 : decode cX5_mixInto 50 = .ok (.getfield 18, 3) := by decide +kernel
theorem dX5_mixInto_53 : decode cX5_mixInto 53 = .ok (.iload 5, 2) := by decide +kernel
theorem dX5_mixInto_55 : decode cX5_mixInto 55 = .ok (.iaload, 1) := by decide +kernel
theorem dX5_mixInto_56 : decode cX5_mixInto 56 = .ok (.i2l, 1) := by decide +kernel
theorem dX5_mixInto_57 : decode cX5_mixInto 57 = .ok (.ladd, 1) := by decide +kernel
theorem dX5_mixInto_58 : decode cX5_mixInto 58 = .ok (.lstore_n 3, 1) := by decide +kernel
theorem dX5_mixInto_59 : decode cX5_mixInto 59 = .ok (.iinc 5 1, 3) := by decide +kernel
theorem dX5_mixInto_62 : decode cX5_mixInto 62 = .ok (.goto (-57), 3) := by decide +kernel
theorem dX5_mixInto_65 : decode cX5_mixInto 65 = .ok (.iconst 0, 1) := by decide +kernel
theorem dX5_mixInto_66 : decode cX5_mixInto 66 = .ok (.istore 5, 2) := by decide +kernel
theorem dX5_mixInto_68 : decode cX5_mixInto 68 = .ok (.iload 5, 2) := by decide +kernel
theorem dX5_mixInto_70 : decode cX5_mixInto 70 = .ok (.aload_n 0, 1) := by decide +kernel
theorem dX5_mixInto_71 : decode cX5_mixInto 71 = .ok (.getfield 58, 3) := by decide +kernel
theorem dX5_mixInto_74 : decode cX5_mixInto 74 = .ok (.if_icmp .ge 84, 3) := by decide +kernel
theorem dX5_mixInto_77 : decode cX5_mixInto 77 = .ok (.ldc2_w 116, 3) := by decide +kernel
theorem dX5_mixInto_80 : decode cX5_mixInto 80 = .ok (.lload_n 3, 1) := by decide +kernel
theorem dX5_mixInto_81 : decode cX5_mixInto 81 = .ok (.lmul, 1) := by decide +kernel
theorem dX5_mixInto_82 : decode cX5_mixInto 82 = .ok (.aload_n 0, 1) := by decide +kernel
theorem dX5_mixInto_83 : decode cX5_mixInto 83 = .ok (.getfield 21, 3) := by decide +kernel
theorem dX5_mixInto_86 : decode cX5_mixInto 86 = .ok (.iload 5, 2) := by decide +kernel
theorem dX5_mixInto_88 : decode cX5_mixInto 88 = .ok (.iaload, 1) := by decide +kernel
theorem dX5_mixInto_89 : decode cX5_mixInto 89 = .ok (.i2l, 1) := by decide +kernel
theorem dX5_mixInto_90 : decode cX5_mixInto 90 = .ok (.ladd, 1) := by decide +kernel
theorem dX5_mixInto_91 : decode cX5_mixInto 91 = .ok (.lstore_n 3, 1) := by decide +kernel
theorem dX5_mixInto_92 : decode cX5_mixInto 92 = .ok (.ldc2_w 116, 3) := by decide +kernel
theorem dX5_mixInto_95 : decode cX5_mixInto 95 = .ok (.lload_n 3, 1) := by decide +kernel
theorem dX5_mixInto_96 : decode cX5_mixInto 96 = .ok (.lmul, 1) := by decide +kernel
theorem dX5_mixInto_97 : decode cX5_mixInto 97 = .ok (.aload_n 0, 1) := by decide +kernel
theorem dX5_mixInto_98 : decode cX5_mixInto 98 = .ok (.getfield 24, 3) := by decide +kernel
theorem dX5_mixInto_101 : decode cX5_mixInto 101 = .ok (.iload 5, 2) := by decide +kernel
theorem dX5_mixInto_103 : decode cX5_mixInto 103 = .ok (.iaload, 1) := by decide +kernel
theorem dX5_mixInto_104 : decode cX5_mixInto 104 = .ok (.i2l, 1) := by decide +kernel
theorem dX5_mixInto_105 : decode cX5_mixInto 105 = .ok (.ladd, 1) := by decide +kernel
theorem dX5_mixInto_106 : decode cX5_mixInto 106 = .ok (.lstore_n 3, 1) := by decide +kernel
theorem dX5_mixInto_107 : decode cX5_mixInto 107 = .ok (.ldc2_w 116, 3) := by decide +kernel
theorem dX5_mixInto_110 : decode cX5_mixInto 110 = .ok (.lload_n 3, 1) := by decide +kernel
theorem dX5_mixInto_111 : decode cX5_mixInto 111 = .ok (.lmul, 1) := by decide +kernel
theorem dX5_mixInto_112 : decode cX5_mixInto 112 = .ok (.aload_n 0, 1) := by decide +kernel
theorem dX5_mixInto_113 : decode cX5_mixInto 113 = .ok (.getfield 27, 3) := by decide +kernel
theorem dX5_mixInto_116 : decode cX5_mixInto 116 = .ok (.iload 5, 2) := by decide +kernel
theorem dX5_mixInto_118 : decode cX5_mixInto 118 = .ok (.iaload, 1) := by decide +kernel
theorem dX5_mixInto_119 : decode cX5_mixInto 119 = .ok (.i2l, 1) := by decide +kernel
theorem dX5_mixInto_120 : decode cX5_mixInto 120 = .ok (.ladd, 1) := by decide +kernel
theorem dX5_mixInto_121 : decode cX5_mixInto 121 = .ok (.lstore_n 3, 1) := by decide +kernel
theorem dX5_mixInto_122 : decode cX5_mixInto 122 = .ok (.ldc2_w 116, 3) := by decide +kernel
theorem dX5_mixInto_125 : decode cX5_mixInto 125 = .ok (.lload_n 3, 1) := by decide +kernel
theorem dX5_mixInto_126 : decode cX5_mixInto 126 = .ok (.lmul, 1) := by decide +kernel
theorem dX5_mixInto_127 : decode cX5_mixInto 127 = .ok (.aload_n 0, 1) := by decide +kernel
theorem dX5_mixInto_128 : decode cX5_mixInto 128 = .ok (.getfield 30, 3) := by decide +kernel
theorem dX5_mixInto_131 : decode cX5_mixInto 131 = .ok (.iload 5, 2) := by decide +kernel
theorem dX5_mixInto_133 : decode cX5_mixInto 133 = .ok (.iaload, 1) := by decide +kernel
theorem dX5_mixInto_134 : decode cX5_mixInto 134 = .ok (.i2l, 1) := by decide +kernel
theorem dX5_mixInto_135 : decode cX5_mixInto 135 = .ok (.ladd, 1) := by decide +kernel
theorem dX5_mixInto_136 : decode cX5_mixInto 136 = .ok (.lstore_n 3, 1) := by decide +kernel
theorem dX5_mixInto_137 : decode cX5_mixInto 137 = .ok (.ldc2_w 116, 3) := by decide +kernel
theorem dX5_mixInto_140 : decode cX5_mixInto 140 = .ok (.lload_n 3, 1) := by decide +kernel
theorem dX5_mixInto_141 : decode cX5_mixInto 141 = .ok (.lmul, 1) := by decide +kernel
theorem dX5_mixInto_142 : decode cX5_mixInto 142 = .ok (.aload_n 0, 1) := by decide +kernel
theorem dX5_mixInto_143 : decode cX5_mixInto 143 = .ok (.getfield 33, 3) := by decide +kernel
theorem dX5_mixInto_146 : decode cX5_mixInto 146 = .ok (.iload 5, 2) := by decide +kernel
theorem dX5_mixInto_148 : decode cX5_mixInto 148 = .ok (.iaload, 1) := by decide +kernel
theorem dX5_mixInto_149 : decode cX5_mixInto 149 = .ok (.i2l, 1) := by decide +kernel
theorem dX5_mixInto_150 : decode cX5_mixInto 150 = .ok (.ladd, 1) := by decide +kernel
theorem dX5_mixInto_151 : decode cX5_mixInto 151 = .ok (.lstore_n 3, 1) := by decide +kernel
theorem dX5_mixInto_152 : decode cX5_mixInto 152 = .ok (.iinc 5 1, 3) := by decide +kernel
theorem dX5_mixInto_155 : decode cX5_mixInto 155 = .ok (.goto (-87), 3) := by decide +kernel
theorem dX5_mixInto_158 : decode cX5_mixInto 158 = .ok (.iconst 0, 1) := by decide +kernel
theorem dX5_mixInto_159 : decode cX5_mixInto 159 = .ok (.istore 5, 2) := by decide +kernel
theorem dX5_mixInto_161 : decode cX5_mixInto 161 = .ok (.iload 5, 2) := by decide +kernel
theorem dX5_mixInto_163 : decode cX5_mixInto 163 = .ok (.aload_n 0, 1) := by decide +kernel
theorem dX5_mixInto_164 : decode cX5_mixInto 164 = .ok (.getfield 61, 3) := by decide +kernel
theorem dX5_mixInto_167 : decode cX5_mixInto 167 = .ok (.if_icmp .ge 39, 3) := by decide +kernel
theorem dX5_mixInto_170 : decode cX5_mixInto 170 = .ok (.ldc2_w 116, 3) := by decide +kernel
theorem dX5_mixInto_173 : decode cX5_mixInto 173 = .ok (.lload_n 3, 1) := by decide +kernel
theorem dX5_mixInto_174 : decode cX5_mixInto 174 = .ok (.lmul, 1) := by decide +kernel
theorem dX5_mixInto_175 : decode cX5_mixInto 175 = .ok (.aload_n 0, 1) := by decide +kernel
theorem dX5_mixInto_176 : decode cX5_mixInto 176 = .ok (.getfield 36, 3) := by decide +kernel
theorem dX5_mixInto_179 : decode cX5_mixInto 179 = .ok (.iload 5, 2) := by decide +kernel
theorem dX5_mixInto_181 : decode cX5_mixInto 181 = .ok (.iaload, 1) := by decide +kernel
theorem dX5_mixInto_182 : decode cX5_mixInto 182 = .ok (.i2l, 1) := by decide +kernel
theorem dX5_mixInto_183 : decode cX5_mixInto 183 = .ok (.ladd, 1) := by decide +kernel
theorem dX5_mixInto_184 : decode cX5_mixInto 184 = .ok (.lstore_n 3, 1) := by decide +kernel
theorem dX5_mixInto_185 : decode cX5_mixInto 185 = .ok (.ldc2_w 116, 3) := by decide +kernel
theorem dX5_mixInto_188 : decode cX5_mixInto 188 = .ok (.lload_n 3, 1) := by decide +kernel
theorem dX5_mixInto_189 : decode cX5_mixInto 189 = .ok (.lmul, 1) := by decide +kernel
theorem dX5_mixInto_190 : decode cX5_mixInto 190 = .ok (.aload_n 0, 1) := by decide +kernel
theorem dX5_mixInto_191 : decode cX5_mixInto 191 = .ok (.getfield 39, 3) := by decide +kernel
theorem dX5_mixInto_194 : decode cX5_mixInto 194 = .ok (.iload 5, 2) := by decide +kernel
theorem dX5_mixInto_196 : decode cX5_mixInto 196 = .ok (.iaload, 1) := by decide +kernel
theorem dX5_mixInto_197 : decode cX5_mixInto 197 = .ok (.i2l, 1) := by decide +kernel
theorem dX5_mixInto_198 : decode cX5_mixInto 198 = .ok (.ladd, 1) := by decide +kernel
theorem dX5_mixInto_199 : decode cX5_mixInto 199 = .ok (.lstore_n 3, 1) := by decide +kernel
theorem dX5_mixInto_200 : decode cX5_mixInto 200 = .ok (.iinc 5 1, 3) := by decide +kernel
theorem dX5_mixInto_203 : decode cX5_mixInto 203 = .ok (.goto (-42), 3) := by decide +kernel
theorem dX5_mixInto_206 : decode cX5_mixInto 206 = .ok (.lload_n 3, 1) := by decide +kernel
