theorem dX7_hasBit_14 : decode cX7_hasBit 14 = .ok (.ireturn, 1) := by decide +kernel
theorem dX8_init_0 : decode cX8_init 0 = .ok (.aload_n 0, 1) := by decide +kernel
theorem dX8_init_1 : decode cX8_init 1 = .ok (.invokespecial 1, 3) := by decide +kernel
theorem dX8_init_4 : decode cX8_init 4 = .ok (.aload_n 0, 1) := by decide +kernel
theorem dX8_init_5 : decode cX8_init 5 = .ok (.sipush 362, 3) := by decide +kernel
theorem dX8_init_8 : decode cX8_init 8 = .ok (.newarray .int, 2) := by decide +kernel
theorem dX8_init_10 : decode cX8_init 10 = .ok (.putfield 7, 3) := by decide +kernel
theorem dX8_init_13 : decode cX8_init 13 = .ok (.aload_n 0, 1) := by decide +kernel
theorem dX8_init_14 : decode cX8_init 14 = .ok (.sipush 362, 3) := by decide +kernel
theorem dX8_init_17 : decode cX8_init 17 = .ok (.newarray .int, 2) := by decide +kernel
theorem dX8_init_19 : decode cX8_init 19 = .ok (.putfield 13, 3) := by decide +kernel
theorem dX8_init_22 : decode cX8_init 22 = .ok (.aload_n 0, 1) := by decide +kernel
theorem dX8_init_23 : decode cX8_init 23 = .ok (.sipush 362, 3) := by decide +kernel
theorem dX8_init_26 : decode cX8_init 26 = .ok (.newarray .int, 2) := by decide +kernel
theorem dX8_init_28 : decode cX8_init 28 = .ok (.putfield 16, 3) := by decide +kernel
theorem dX8_init_31 : decode cX8_init 31 = .ok (.aload_n 0, 1) := by decide +kernel
theorem dX8_init_32 : decode cX8_init 32 = .ok (.sipush 724, 3) := by decide +kernel
theorem dX8_init_35 : decode cX8_init 35 = .ok (.newarray .int, 2) := by decide +kernel
theorem dX8_init_37 : decode cX8_init 37 = .ok (.putfield 19, 3) := by decide +kernel
theorem dX8_init_40 : decode cX8_init 40 = .ok (.aload_n 0, 1) := by decide +kernel
theorem dX8_init_41 : decode cX8_init 41 = .ok (.iconst 2, 1) := by decide +kernel
theorem dX8_init_42 : decode cX8_init 42 = .ok (.newarray .boolean, 2) := by decide +kernel
theorem dX8_init_44 : decode cX8_init 44 = .ok (.putfield 22, 3) := by decide +kernel
theorem dX8_init_47 : decode cX8_init 47 = .ok (.aload_n 0, 1) := by decide +kernel
theorem dX8_init_48 : decode cX8_init 48 = .ok (.iconst 3, 1) := by decide +kernel
theorem dX8_init_49 : decode cX8_init 49 = .ok (.newarray .int, 2) := by decide +kernel
theorem dX8_init_51 : decode cX8_init 51 = .ok (.putfield 26, 3) := by decide +kernel
theorem dX8_init_54 : decode cX8_init 54 = .ok (.aload_n 0, 1) := by decide +kernel
theorem dX8_init_55 : decode cX8_init 55 = .ok (.sipush 150, 3) := by decide +kernel
theorem dX8_init_58 : decode cX8_init 58 = .ok (.newarray .int, 2) := by decide +kernel
theorem dX8_init_60 : decode cX8_init 60 = .ok (.putfield 29, 3) := by decide +kernel
theorem dX8_init_63 : decode cX8_init 63 = .ok (.aload_n 0, 1) := by decide +kernel
theorem dX8_init_64 : decode cX8_init 64 = .ok (.lconst 1, 1) := by decide +kernel
theorem dX8_init_65 : decode cX8_init 65 = .ok (.putfield 32, 3) := by decide +kernel
theorem dX8_init_68 : decode cX8_init 68 = .ok (.aload_n 0, 1) := by decide +kernel
theorem dX8_init_69 : decode cX8_init 69 = .ok (.bipush 6, 2) := by decide +kernel
theorem dX8_init_71 : decode cX8_init 71 = .ok (.newarray .int, 2) := by decide +kernel
theorem dX8_init_73 : decode cX8_init 73 = .ok (.putfield 36, 3) := by decide +kernel
theorem dX8_init_76 : decode cX8_init 76 = .ok (.aload_n 0, 1) := by decide +kernel
theorem dX8_init_77 : decode cX8_init 77 = .ok (.bipush 6, 2) := by decide +kernel
theorem dX8_init_79 : decode cX8_init 79 = .ok (.newarray .int, 2) := by decide +kernel
theorem dX8_init_81 : decode cX8_init 81 = .ok (.putfield 39, 3) := by decide +kernel
theorem dX8_init_84 : decode cX8_init 84 = .ok (.aload_n 0, 1) := by decide +kernel
theorem dX8_init_85 : decode cX8_init 85 = .ok (.bipush 8, 2) := by decide +kernel
theorem dX8_init_87 : decode cX8_init 87 = .ok (.newarray .int, 2) := by decide +kernel
theorem dX8_init_89 : decode cX8_init 89 = .ok (.putfield 42, 3) := by decide +kernel
theorem dX8_init_92 : decode cX8_init 92 = .ok (.aload_n 0, 1) := by decide +kernel
theorem dX8_init_93 : decode cX8_init 93 = .ok (.bipush 8, 2) := by decide +kernel
theorem dX8_init_95 : decode cX8_init 95 = .ok (.newarray .int, 2) := by decide +kernel
theorem dX8_init_97 : decode cX8_init 97 = .ok (.putfield 45, 3) := by decide +kernel
theorem dX8_init_100 : decode cX8_init 100 = .ok (.return_, 1) := by decide +kernel
theorem dX8_in_0 : decode cX8_in 0 = .ok (.iload_n 0, 1) := by decide +kernel
theorem dX8_in_1 : decode cX8_in 1 = .ok (.iload_n 1, 1) := by decide +kernel
theorem dX8_in_2 : decode cX8_in 2 = .ok (.if_icmp .lt 12, 3) := by decide +kernel
theorem dX8_in_5 : decode cX8_in 5 = .ok (.iload_n 0, 1) := by decide +kernel
theorem dX8_in_6 : decode cX8_in 6 = .ok (.iload_n 2, 1) := by decide +kernel
theorem dX8_in_7 : decode cX8_in 7 = .ok (.if_icmp .gt 7, 3) := by decide +kernel
theorem dX8_in_10 : decode cX8_in 10 = .ok (.iconst 1, 1) := by decide +kernel
theorem dX8_in_11 : decode cX8_in 11 = .ok (.goto 4, 3) := by decide +kernel
theorem dX8_in_14 : decode cX8_in 14 = .ok (.iconst 0, 1) := by decide +kernel
theorem dX8_in_15 : decode cX8_in 15 = .ok (.ireturn, 1) := by decide +kernel
theorem dX8_least_0 : decode cX8_least 0 = .ok (.iload_n 0, 1) := by decide +kernel
theorem dX8_least_1 : decode cX8_least 1 = .ok (.iload_n 1, 1) := by decide +kernel
theorem dX8_least_2 : decode cX8_least 2 = .ok (.if_icmp .ge 7, 3) := by decide +kernel
theorem dX8_least_5 : decode cX8_least 5 = .ok (.iload_n 0, 1) := by decide +kernel
theorem dX8_least_6 : decode cX8_least 6 = .ok (.goto 4, 3) := by decide +kernel
theorem dX8_least_9 : decode cX8_least 9 = .ok (.iload_n 1, 1) := by decide +kernel
theorem dX8_least_10 : decode cX8_least 10 = .ok (.ireturn, 1) := by decide +kernel
theorem dX8_bad_0 : decode cX8_bad 0 = .ok (.aload_n 0, 1) := by decide +kernel
theorem dX8_bad_1 : decode cX8_bad 1 = .ok (.getfield 26, 3) := by decide +kernel
theorem dX8_bad_4 : decode cX8_bad 4 = .ok (.iconst 0, 1) := by decide +kernel
theorem dX8_bad_5 : decode cX8_bad 5 = .ok (.dup2, 1) := by decide +kernel
theorem dX8_bad_6 : decode cX8_bad 6 = .ok (.iaload, 1) := by decide +kernel
theorem dX8_bad_7 : decode cX8_bad 7 = .ok (.iconst 1, 1) := by decide +kernel
theorem dX8_bad_8 : decode cX8_bad 8 = .ok (.iadd, 1) := by decide +kernel
theorem dX8_bad_9 : decode cX8_bad 9 = .ok (.iastore, 1) := by decide +kernel
theorem dX8_bad_10 : decode cX8_bad 10 = .ok (.bipush (-2), 2) := by decide +kernel
theorem dX8_bad_12 : decode cX8_bad 12 = .ok (.ireturn, 1) := by decide +kernel
theorem dX8_badAs_0 : decode cX8_badAs 0 = .ok (.aload_n 0, 1) := by decide +kernel
theorem dX8_badAs_1 : decode cX8_badAs 1 = .ok (.getfield 26, 3) := by decide +kernel
theorem dX8_badAs_4 : decode cX8_badAs 4 = .ok (.iconst 0, 1) := by decide +kernel
theorem dX8_badAs_5 : decode cX8_badAs 5 = .ok (.dup2, 1) := by decide +kernel
theorem dX8_badAs_6 : decode cX8_badAs 6 = .ok (.iaload, 1) := by decide +kernel
theorem dX8_badAs_7 : decode cX8_badAs 7 = .ok (.iconst 1, 1) := by decide +kernel
theorem dX8_badAs_8 : decode cX8_badAs 8 = .ok (.iadd, 1) := by decide +kernel
theorem dX8_badAs_9 : decode cX8_badAs 9 = .ok (.iastore, 1) := by decide +kernel
theorem dX8_badAs_10 : decode cX8_badAs 10 = .ok (.iload_n 1, 1) := by decide +kernel
theorem dX8_badAs_11 : decode cX8_badAs 11 = .ok (.ireturn, 1) := by decide +kernel
theorem dX8_no_0 : decode cX8_no 0 = .ok (.aload_n 0, 1) := by decide +kernel
theorem dX8_no_1 : decode cX8_no 1 = .ok (.getfield 26, 3) := by decide +kernel
theorem dX8_no_4 : decode cX8_no 4 = .ok (.iconst 1, 1) := by decide +kernel
theorem dX8_no_5 : decode cX8_no 5 = .ok (.dup2, 1) := by decide +kernel
theorem dX8_no_6 : decode cX8_no 6 = .ok (.iaload, 1) := by decide +kernel
theorem dX8_no_7 : decode cX8_no 7 = .ok (.iconst 1, 1) := by decide +kernel
theorem dX8_no_8 : decode cX8_no 8 = .ok (.iadd, 1) := by decide +kernel
theorem dX8_no_9 : decode cX8_no 9 = .ok (.iastore, 1) := by decide +kernel
theorem dX8_no_10 : decode cX8_no 10 = .ok (.bipush (-3), 2) := by decide +kernel
theorem dX8_no_12 : decode cX8_no 12 = .ok (.ireturn, 1) := by decide +kernel
theorem dX8_full_0 : decode cX8_full 0 = .ok (.aload_n 0, 1) := by decide +kernel
theorem dX8_full_1 : decode cX8_full 1 = .ok (.getfield 26, 3) := by decide +kernel
theorem dX8_full_4 : decode cX8_full 4 = .ok (.iconst 2, 1) := by decide +kernel
theorem dX8_full_5 : decode cX8_full 5 = .ok (.dup2, 1) := by decide +kernel
theorem dX8_full_6 : decode cX8_full 6 = .ok (.iaload, 1) := by decide +kernel
theorem dX8_full_7 : decode cX8_full 7 = .ok (.iconst 1, 1) := by decide +kernel
theorem dX8_full_8 : decode cX8_full 8 = .ok (.iadd, 1) := by decide +kernel
theorem dX8_full_9 : decode cX8_full 9 = .ok (.iastore, 1) := by decide +kernel
theorem dX8_full_10 : decode cX8_full 10 = .ok (.bipush (-4), 2) := by decide +kernel
theorem dX8_full_12 : decode cX8_full 12 = .ok (.ireturn, 1) := by decide +kernel
theorem dX8_copy_0 : decode cX8_copy 0 = .ok (.iconst 0, 1) := by decide +kernel
theorem dX8_copy_1 : decode cX8_copy 1 = .ok (.istore 4, 2) := by decide +kernel
theorem dX8_copy_3 : decode cX8_copy 3 = .ok (.iload 4, 2) := by decide +kernel
theorem dX8_copy_5 : decode cX8_copy 5 = .ok (.sipush 362, 3) := by decide +kernel
theorem dX8_copy_8 : decode cX8_copy 8 = .ok (.if_icmp .ge 21, 3) := by decide +kernel
theorem dX8_copy_11 : decode cX8_copy 11 = .ok (.aload_n 2, 1) := by decide +kernel
theorem dX8_copy_12 : decode cX8_copy 12 = .ok (.iload_n 3, 1) := by decide +kernel
theorem dX8_copy_13 : decode cX8_copy 13 = .ok (.iload 4, 2) := by decide +kernel
theorem dX8_copy_15 : decode cX8_copy 15 = .ok (.iadd, 1) := by decide +kernel
theorem dX8_copy_16 : decode cX8_copy 16 = .ok (.aload_n 0, 1) := by decide +kernel
theorem dX8_copy_17 : decode cX8_copy 17 = .ok (.iload_n 1, 1) := by decide +kernel
theorem dX8_copy_18 : decode cX8_copy 18 = .ok (.iload 4, 2) := by decide +kernel
theorem dX8_copy_20 : decode cX8_copy 20 = .ok (.iadd, 1) := by decide +kernel
theorem dX8_copy_21 : decode cX8_copy 21 = .ok (.iaload, 1) := by decide +kernel
theorem dX8_copy_22 : decode cX8_copy 22 = .ok (.iastore, 1) := by decide +kernel
theorem dX8_copy_23 : decode cX8_copy 23 = .ok (.iinc 4 1, 3) := by decide +kernel
theorem dX8_copy_26 : decode cX8_copy 26 = .ok (.goto (-23), 3) := by decide +kernel
theorem dX8_copy_29 : decode cX8_copy 29 = .ok (.return_, 1) := by decide +kernel
set_option maxRecDepth 20000 in
theorem ggX8_tries_X8_copy : GoodIn wsX8_tries wsX8_copy := goodIn_r _ [6] (by decide +kernel) (by decide +kernel)
set_option maxRecDepth 20000 in
theorem gX8_tries_X8_copy : GoodIn wsX8_tries (va_wsS RX8 48 yX8_copy wsX8_copy) := goodIn_app (goodIn_of _ (by decide +kernel)) ggX8_tries_X8_copy
theorem dX8_tries_0 : decode cX8_tries 0 = .ok (.aload_n 0, 1) := by decide +kernel
theorem dX8_tries_1 : decode cX8_tries 1 = .ok (.getfield 7, 3) := by decide +kernel
theorem dX8_tries_4 : decode cX8_tries 4 = .ok (.iconst 0, 1) := by decide +kernel
theorem dX8_tries_5 : decode cX8_tries 5 = .ok (.aload_n 0, 1) := by decide +kernel
theorem dX8_tries_6 : decode cX8_tries 6 = .ok (.getfield 13, 3) := by decide +kernel
theorem dX8_tries_9 : decode cX8_tries 9 = .ok (.iconst 0, 1) := by decide +kernel
theorem dX8_tries_10 : decode cX8_tries 10 = .ok (.invokestatic 48, 3) := by decide +kernel
theorem dX8_tries_13 : decode cX8_tries 13 = .ok (.return_, 1) := by decide +kernel
set_option maxRecDepth 20000 in
theorem ggX8_isPerson_X8_in : GoodIn wsX8_isPerson wsX8_in := goodIn_r _ [5] (by decide +kernel) (by decide +kernel)
set_option maxRecDepth 20000 in
theorem gX8_isPerson_X8_in : GoodIn wsX8_isPerson (va_wsS RX8 52 yX8_in wsX8_in) := goodIn_app (goodIn_of _ (by decide +kernel)) ggX8_isPerson_X8_in
theorem dX8_isPerson_0 : decode cX8_isPerson 0 = .ok (.iload_n 1, 1) := by decide +kernel
theorem dX8_isPerson_1 : decode cX8_isPerson 1 = .ok (.iconst 0, 1) := by decide +kernel
theorem dX8_isPerson_2 : decode cX8_isPerson 2 = .ok (.aload_n 0, 1) := by decide +kernel
theorem dX8_isPerson_3 : decode cX8_isPerson 3 = .ok (.getfield 7, 3) := by decide +kernel
theorem dX8_isPerson_6 : decode cX8_isPerson 6 = .ok (.iconst 3, 1) := by decide +kernel
theorem dX8_isPerson_7 : decode cX8_isPerson 7 = .ok (.iaload, 1) := by decide +kernel
theorem dX8_isPerson_8 : decode cX8_isPerson 8 = .ok (.iconst 1, 1) := by decide +kernel
theorem dX8_isPerson_9 : decode cX8_isPerson 9 = .ok (.isub, 1) := by decide +kernel
theorem dX8_isPerson_10 : decode cX8_isPerson 10 = .ok (.invokestatic 52, 3) := by decide +kernel
theorem dX8_isPerson_13 : decode cX8_isPerson 13 = .ok (.ireturn, 1) := by decide +kernel
set_option maxRecDepth 20000 in
theorem ggX8_isLoan_X8_in : GoodIn wsX8_isLoan wsX8_in := goodIn_r _ [5] (by decide +kernel) (by decide +kernel)
set_option maxRecDepth 20000 in
theorem gX8_isLoan_X8_in : GoodIn wsX8_isLoan (va_wsS RX8 52 yX8_in wsX8_in) := goodIn_app (goodIn_of _ (by decide +kernel)) ggX8_isLoan_X8_in
theorem dX8_isLoan_0 : decode cX8_isLoan 0 = .ok (.iload_n 1, 1) := by decide +kernel
theorem dX8_isLoan_1 : decode cX8_isLoan 1 = .ok (.iconst 0, 1) := by decide +kernel
theorem dX8_isLoan_2 : decode cX8_isLoan 2 = .ok (.aload_n 0, 1) := by decide +kernel
theorem dX8_isLoan_3 : decode cX8_isLoan 3 = .ok (.getfield 7, 3) := by decide +kernel
theorem dX8_isLoan_6 : decode cX8_isLoan 6 = .ok (.iconst 4, 1) := by decide +kernel
theorem dX8_isLoan_7 : decode cX8_isLoan 7 = .ok (.iaload, 1) := by decide +kernel
theorem dX8_isLoan_8 : decode cX8_isLoan 8 = .ok (.iconst 1, 1) := by decide +kernel
theorem dX8_isLoan_9 : decode cX8_isLoan 9 = .ok (.isub, 1) := by decide +kernel
theorem dX8_isLoan_10 : decode cX8_isLoan 10 = .ok (.invokestatic 52, 3) := by decide +kernel
theorem dX8_isLoan_13 : decode cX8_isLoan 13 = .ok (.ireturn, 1) := by decide +kernel
set_option maxRecDepth 20000 in
theorem ggX8_chest_X8_in : GoodIn wsX8_chest wsX8_in := goodIn_r _ [6] (by decide +kernel) (by decide +kernel)
set_option maxRecDepth 20000 in
theorem gX8_chest_X8_in : GoodIn wsX8_chest (va_wsS RX8 52 yX8_in wsX8_in) := goodIn_app (goodIn_of _ (by decide +kernel)) ggX8_chest_X8_in
set_option maxRecDepth 20000 in
theorem ggX8_chest_X8_bad : GoodIn wsX8_chest wsX8_bad := goodIn_r _ [10, 11, 12, 13, 14, 15, 16, 17, 18, 19, 20, 21, 22, 23, 24, 25, 26, 27, 28, 29, 30, 31] (by decide +kernel) (by decide +kernel)
set_option maxRecDepth 20000 in
theorem gX8_chest_X8_bad : GoodIn wsX8_chest (wsV RX8 57 RX8 yX8_bad wsX8_bad) := goodIn_app (goodIn_of _ (by decide +kernel)) ggX8_chest_X8_bad
theorem dX8_chest_0 : decode cX8_chest 0 = .ok (.iload_n 1, 1) := by decide +kernel
theorem dX8_chest_1 : decode cX8_chest 1 = .ok (.iconst 0, 1) := by decide +kernel
theorem dX8_chest_2 : decode cX8_chest 2 = .ok (.ldc 56, 2) := by decide +kernel
theorem dX8_chest_4 : decode cX8_chest 4 = .ok (.invokestatic 52, 3) := by decide +kernel
theorem dX8_chest_7 : decode cX8_chest 7 = .ok (.ifCond .ne 8, 3) := by decide +kernel
theorem dX8_chest_10 : decode cX8_chest 10 = .ok (.aload_n 0, 1) := by decide +kernel
theorem dX8_chest_11 : decode cX8_chest 11 = .ok (.invokevirtual 57, 3) := by decide +kernel
theorem dX8_chest_14 : decode cX8_chest 14 = .ok (.ireturn, 1) := by decide +kernel
theorem dX8_chest_15 : decode cX8_chest 15 = .ok (.aload_n 0, 1) := by decide +kernel
theorem dX8_chest_16 : decode cX8_chest 16 = .ok (.getfield 7, 3) := by decide +kernel
theorem dX8_chest_19 : decode cX8_chest 19 = .ok (.iconst 0, 1) := by decide +kernel
theorem dX8_chest_20 : decode cX8_chest 20 = .ok (.iaload, 1) := by decide +kernel
theorem dX8_chest_21 : decode cX8_chest 21 = .ok (.istore_n 2, 1) := by decide +kernel
theorem dX8_chest_22 : decode cX8_chest 22 = .ok (.aload_n 0, 1) := by decide +kernel
theorem dX8_chest_23 : decode cX8_chest 23 = .ok (.getfield 7, 3) := by decide +kernel
theorem dX8_chest_26 : decode cX8_chest 26 = .ok (.iconst 0, 1) := by decide +kernel
theorem dX8_chest_27 : decode cX8_chest 27 = .ok (.iload_n 1, 1) := by decide +kernel
theorem dX8_chest_28 : decode cX8_chest 28 = .ok (.iastore, 1) := by decide +kernel
theorem dX8_chest_29 : decode cX8_chest 29 = .ok (.iload_n 2, 1) := by decide +kernel
theorem dX8_chest_30 : decode cX8_chest 30 = .ok (.ireturn, 1) := by decide +kernel
set_option maxRecDepth 20000 in
theorem ggX8_rate_X8_in : GoodIn wsX8_rate wsX8_in := goodIn_r _ [5] (by decide +kernel) (by decide +kernel)
set_option maxRecDepth 20000 in
theorem gX8_rate_X8_in : GoodIn wsX8_rate (va_wsS RX8 52 yX8_in wsX8_in) := goodIn_app (goodIn_of _ (by decide +kernel)) ggX8_rate_X8_in
set_option maxRecDepth 20000 in
theorem ggX8_rate_X8_bad : GoodIn wsX8_rate wsX8_bad := goodIn_r _ [9, 10, 11, 12, 13, 14, 15, 16, 17, 18, 19, 20, 21, 22, 23, 24, 25, 26, 27, 28, 29, 30] (by decide +kernel) (by decide +kernel)
set_option maxRecDepth 20000 in
theorem gX8_rate_X8_bad : GoodIn wsX8_rate (wsV RX8 57 RX8 yX8_bad wsX8_bad) := goodIn_app (goodIn_of _ (by decide +kernel)) ggX8_rate_X8_bad
theorem dX8_rate_0 : decode cX8_rate 0 = .ok (.iload_n 1, 1) := by decide +kernel
theorem dX8_rate_1 : decode cX8_rate 1 = .ok (.iconst 0, 1) := by decide +kernel
theorem dX8_rate_2 : decode cX8_rate 2 = .ok (.bipush 50, 2) := by decide +kernel
theorem dX8_rate_4 : decode cX8_rate 4 = .ok (.invokestatic 52, 3) := by decide +kernel
theorem dX8_rate_7 : decode cX8_rate 7 = .ok (.ifCond .ne 8, 3) := by decide +kernel
theorem dX8_rate_10 : decode cX8_rate 10 = .ok (.aload_n 0, 1) := by decide +kernel
theorem dX8_rate_11 : decode cX8_rate 11 = .ok (.invokevirtual 57, 3) := by decide +kernel
theorem dX8_rate_14 : decode cX8_rate 14 = .ok (.ireturn, 1) := by decide +kernel
theorem dX8_rate_15 : decode cX8_rate 15 = .ok (.aload_n 0, 1) := by decide +kernel
theorem dX8_rate_16 : decode cX8_rate 16 = .ok (.getfield 7, 3) := by decide +kernel
theorem dX8_rate_19 : decode cX8_rate 19 = .ok (.iconst 1, 1) := by decide +kernel
theorem dX8_rate_20 : decode cX8_rate 20 = .ok (.iaload, 1) := by decide +kernel
theorem dX8_rate_21 : decode cX8_rate 21 = .ok (.istore_n 2, 1) := by decide +kernel
theorem dX8_rate_22 : decode cX8_rate 22 = .ok (.aload_n 0, 1) := by decide +kernel
theorem dX8_rate_23 : decode cX8_rate 23 = .ok (.getfield 7, 3) := by decide +kernel
theorem dX8_rate_26 : decode cX8_rate 26 = .ok (.iconst 1, 1) := by decide +kernel
theorem dX8_rate_27 : decode cX8_rate 27 = .ok (.iload_n 1, 1) := by decide +kernel
theorem dX8_rate_28 : decode cX8_rate 28 = .ok (.iastore, 1) := by decide +kernel
theorem dX8_rate_29 : decode cX8_rate 29 = .ok (.iload_n 2, 1) := by decide +kernel
theorem dX8_rate_30 : decode cX8_rate 30 = .ok (.ireturn, 1) := by decide +kernel
theorem dX8_addPerson_0 : decode cX8_addPerson 0 = .ok (.bipush 8, 2) := by decide +kernel
theorem dX8_addPerson_2 : decode cX8_addPerson 2 = .ok (.iconst 3, 1) := by decide +kernel
theorem dX8_addPerson_3 : decode cX8_addPerson 3 = .ok (.aload_n 0, 1) := by decide +kernel
theorem dX8_addPerson_4 : decode cX8_addPerson 4 = .ok (.iconst 3, 1) := by decide +kernel
theorem dX8_addPerson_5 : decode cX8_addPerson 5 = .ok (.iaload, 1) := by decide +kernel
theorem dX8_addPerson_6 : decode cX8_addPerson 6 = .ok (.imul, 1) := by decide +kernel
theorem dX8_addPerson_7 : decode cX8_addPerson 7 = .ok (.iadd, 1) := by decide +kernel
theorem dX8_addPerson_8 : decode cX8_addPerson 8 = .ok (.istore 4, 2) := by decide +kernel
theorem dX8_addPerson_10 : decode cX8_addPerson 10 = .ok (.aload_n 0, 1) := by decide +kernel
theorem dX8_addPerson_11 : decode cX8_addPerson 11 = .ok (.iload 4, 2) := by decide +kernel
theorem dX8_addPerson_13 : decode cX8_addPerson 13 = .ok (.iload_n 1, 1) := by decide +kernel
theorem dX8_addPerson_14 : decode cX8_addPerson 14 = .ok (.iastore, 1) := by decide +kernel
theorem dX8_addPerson_15 : decode cX8_addPerson 15 = .ok (.aload_n 0, 1) := by decide +kernel
theorem dX8_addPerson_16 : decode cX8_addPerson 16 = .ok (.iload 4, 2) := by decide +kernel
theorem dX8_addPerson_18 : decode cX8_addPerson 18 = .ok (.iconst 1, 1) := by decide +kernel
theorem dX8_addPerson_19 : decode cX8_addPerson 19 = .ok (.iadd, 1) := by decide +kernel
theorem dX8_addPerson_20 : decode cX8_addPerson 20 = .ok (.iload_n 2, 1) := by decide +kernel
theorem dX8_addPerson_21 : decode cX8_addPerson 21 = .ok (.iastore, 1) := by decide +kernel
theorem dX8_addPerson_22 : decode cX8_addPerson 22 = .ok (.aload_n 0, 1) := by decide +kernel
theorem dX8_addPerson_23 : decode cX8_addPerson 23 = .ok (.iload 4, 2) := by decide +kernel
theorem dX8_addPerson_25 : decode cX8_addPerson 25 = .ok (.iconst 2, 1) := by decide +kernel
theorem dX8_addPerson_26 : decode cX8_addPerson 26 = .ok (.iadd, 1) := by decide +kernel
theorem dX8_addPerson_27 : decode cX8_addPerson 27 = .ok (.iload_n 3, 1) := by decide +kernel
theorem dX8_addPerson_28 : decode cX8_addPerson 28 = .ok (.iastore, 1) := by decide +kernel
theorem dX8_addPerson_29 : decode cX8_addPerson 29 = .ok (.aload_n 0, 1) := by decide +kernel
theorem dX8_addPerson_30 : decode cX8_addPerson 30 = .ok (.iconst 3, 1) := by decide +kernel
theorem dX8_addPerson_31 : decode cX8_addPerson 31 = .ok (.dup2, 1) := by decide +kernel
theorem dX8_addPerson_32 : decode cX8_addPerson 32 = .ok (.iaload, 1) := by decide +kernel
theorem dX8_addPerson_33 : decode cX8_addPerson 33 = .ok (.iconst 1, 1) := by decide +kernel
theorem dX8_addPerson_34 : decode cX8_addPerson 34 = .ok (.iadd, 1) := by decide +kernel
theorem dX8_addPerson_35 : decode cX8_addPerson 35 = .ok (.iastore, 1) := by decide +kernel
theorem dX8_addPerson_36 : decode cX8_addPerson 36 = .ok (.return_, 1) := by decide +kernel
theorem dX8_addLoan_0 : decode cX8_addLoan 0 = .ok (.bipush 26, 2) := by decide +kernel
theorem dX8_addLoan_2 : decode cX8_addLoan 2 = .ok (.iconst 5, 1) := by decide +kernel
theorem dX8_addLoan_3 : decode cX8_addLoan 3 = .ok (.aload_n 0, 1) := by decide +kernel
theorem dX8_addLoan_4 : decode cX8_addLoan 4 = .ok (.iconst 4, 1) := by decide +kernel
theorem dX8_addLoan_5 : decode cX8_addLoan 5 = .ok (.iaload, 1) := by decide +kernel
theorem dX8_addLoan_6 : decode cX8_addLoan 6 = .ok (.imul, 1) := by decide +kernel
theorem dX8_addLoan_7 : decode cX8_addLoan 7 = .ok (.iadd, 1) := by decide +kernel
theorem dX8_addLoan_8 : decode cX8_addLoan 8 = .ok (.istore 4, 2) := by decide +kernel
theorem dX8_addLoan_10 : decode cX8_addLoan 10 = .ok (.aload_n 0, 1) := by decide +kernel
theorem dX8_addLoan_11 : decode cX8_addLoan 11 = .ok (.iload 4, 2) := by decide +kernel
theorem dX8_addLoan_13 : decode cX8_addLoan 13 = .ok (.iload_n 1, 1) := by decide +kernel
theorem dX8_addLoan_14 : decode cX8_addLoan 14 = .ok (.iastore, 1) := by decide +kernel
theorem dX8_addLoan_15 : decode cX8_addLoan 15 = .ok (.aload_n 0, 1) := by decide +kernel
theorem dX8_addLoan_16 : decode cX8_addLoan 16 = .ok (.iload 4, 2) := by decide +kernel
theorem dX8_addLoan_18 : decode cX8_addLoan 18 = .ok (.iconst 1, 1) := by decide +kernel
theorem dX8_addLoan_19 : decode cX8_addLoan 19 = .ok (.iadd, 1) := by decide +kernel
theorem dX8_addLoan_20 : decode cX8_addLoan 20 = .ok (.iload_n 2, 1) := by decide +kernel
theorem dX8_addLoan_21 : decode cX8_addLoan 21 = .ok (.iastore, 1) := by decide +kernel
theorem dX8_addLoan_22 : decode cX8_addLoan 22 = .ok (.aload_n 0, 1) := by decide +kernel
theorem dX8_addLoan_23 : decode cX8_addLoan 23 = .ok (.iload 4, 2) := by decide +kernel
theorem dX8_addLoan_25 : decode cX8_addLoan 25 = .ok (.iconst 2, 1) := by decide +kernel
theorem dX8_addLoan_26 : decode cX8_addLoan 26 = .ok (.iadd, 1) := by decide +kernel
theorem dX8_addLoan_27 : decode cX8_addLoan 27 = .ok (.iload_n 3, 1) := by decide +kernel
theorem dX8_addLoan_28 : decode cX8_addLoan 28 = .ok (.iastore, 1) := by decide +kernel
theorem dX8_addLoan_29 : decode cX8_addLoan 29 = .ok (.aload_n 0, 1) := by decide +kernel
theorem dX8_addLoan_30 : decode cX8_addLoan 30 = .ok (.iload 4, 2) := by decide +kernel
theorem dX8_addLoan_32 : decode cX8_addLoan 32 = .ok (.iconst 3, 1) := by decide +kernel
theorem dX8_addLoan_33 : decode cX8_addLoan 33 = .ok (.iadd, 1) := by decide +kernel
theorem dX8_addLoan_34 : decode cX8_addLoan 34 = .ok (.iconst 0, 1) := by decide +kernel
theorem dX8_addLoan_35 : decode cX8_addLoan 35 = .ok (.iastore, 1) := by decide +kernel
theorem dX8_addLoan_36 : decode cX8_addLoan 36 = .ok (.aload_n 0, 1) := by decide +kernel
theorem dX8_addLoan_37 : decode cX8_addLoan 37 = .ok (.iload 4, 2) := by decide +kernel
theorem dX8_addLoan_39 : decode cX8_addLoan 39 = .ok (.iconst 4, 1) := by decide +kernel
theorem dX8_addLoan_40 : decode cX8_addLoan 40 = .ok (.iadd, 1) := by decide +kernel
theorem dX8_addLoan_41 : decode cX8_addLoan 41 = .ok (.iconst 0, 1) := by decide +kernel
theorem dX8_addLoan_42 : decode cX8_addLoan 42 = .ok (.iastore, 1) := by decide +kernel
theorem dX8_addLoan_43 : decode cX8_addLoan 43 = .ok (.aload_n 0, 1) := by decide +kernel
theorem dX8_addLoan_44 : decode cX8_addLoan 44 = .ok (.iconst 4, 1) := by decide +kernel
theorem dX8_addLoan_45 : decode cX8_addLoan 45 = .ok (.dup2, 1) := by decide +kernel
theorem dX8_addLoan_46 : decode cX8_addLoan 46 = .ok (.iaload, 1) := by decide +kernel
theorem dX8_addLoan_47 : decode cX8_addLoan 47 = .ok (.iconst 1, 1) := by decide +kernel
theorem dX8_addLoan_48 : decode cX8_addLoan 48 = .ok (.iadd, 1) := by decide +kernel
theorem dX8_addLoan_49 : decode cX8_addLoan 49 = .ok (.iastore, 1) := by decide +kernel
theorem dX8_addLoan_50 : decode cX8_addLoan 50 = .ok (.return_, 1) := by decide +kernel
theorem dX8_addOffer_0 : decode cX8_addOffer 0 = .ok (.bipush 66, 2) := by decide +kernel
theorem dX8_addOffer_2 : decode cX8_addOffer 2 = .ok (.iconst 2, 1) := by decide +kernel
theorem dX8_addOffer_3 : decode cX8_addOffer 3 = .ok (.aload_n 0, 1) := by decide +kernel
theorem dX8_addOffer_4 : decode cX8_addOffer 4 = .ok (.iconst 5, 1) := by decide +kernel
theorem dX8_addOffer_5 : decode cX8_addOffer 5 = .ok (.iaload, 1) := by decide +kernel
theorem dX8_addOffer_6 : decode cX8_addOffer 6 = .ok (.imul, 1) := by decide +kernel
theorem dX8_addOffer_7 : decode cX8_addOffer 7 = .ok (.iadd, 1) := by decide +kernel
theorem dX8_addOffer_8 : decode cX8_addOffer 8 = .ok (.istore_n 3, 1) := by decide +kernel
theorem dX8_addOffer_9 : decode cX8_addOffer 9 = .ok (.aload_n 0, 1) := by decide +kernel
theorem dX8_addOffer_10 : decode cX8_addOffer 10 = .ok (.iload_n 3, 1) := by decide +kernel
theorem dX8_addOffer_11 : decode cX8_addOffer 11 = .ok (.iload_n 1, 1) := by decide +kernel
theorem dX8_addOffer_12 : decode cX8_addOffer 12 = .ok (.iastore, 1) := by decide +kernel
theorem dX8_addOffer_13 : decode cX8_addOffer 13 = .ok (.aload_n 0, 1) := by decide +kernel
theorem dX8_addOffer_14 : decode cX8_addOffer 14 = .ok (.iload_n 3, 1) := by decide +kernel
theorem dX8_addOffer_15 : decode cX8_addOffer 15 = .ok (.iconst 1, 1) := by decide +kernel
theorem dX8_addOffer_16 : decode cX8_addOffer 16 = .ok (.iadd, 1) := by decide +kernel
theorem dX8_addOffer_17 : decode cX8_addOffer 17 = .ok (.iload_n 2, 1) := by decide +kernel
theorem dX8_addOffer_18 : decode cX8_addOffer 18 = .ok (.iastore, 1) := by decide +kernel
theorem dX8_addOffer_19 : decode cX8_addOffer 19 = .ok (.aload_n 0, 1) := by decide +kernel
theorem dX8_addOffer_20 : decode cX8_addOffer 20 = .ok (.iconst 5, 1) := by decide +kernel
theorem dX8_addOffer_21 : decode cX8_addOffer 21 = .ok (.dup2, 1) := by decide +kernel
theorem dX8_addOffer_22 : decode cX8_addOffer 22 = .ok (.iaload, 1) := by decide +kernel
theorem dX8_addOffer_23 : decode cX8_addOffer 23 = .ok (.iconst 1, 1) := by decide +kernel
theorem dX8_addOffer_24 : decode cX8_addOffer 24 = .ok (.iadd, 1) := by decide +kernel
theorem dX8_addOffer_25 : decode cX8_addOffer 25 = .ok (.iastore, 1) := by decide +kernel
theorem dX8_addOffer_26 : decode cX8_addOffer 26 = .ok (.return_, 1) := by decide +kernel
set_option maxRecDepth 20000 in
theorem ggX8_person_X8_in : GoodIn wsX8_person wsX8_in := goodIn_r _ [5] (by decide +kernel) (by decide +kernel)
set_option maxRecDepth 20000 in
theorem gX8_person_X8_in : GoodIn wsX8_person (va_wsS RX8 52 yX8_in wsX8_in) := goodIn_app (goodIn_of _ (by decide +kernel)) ggX8_person_X8_in
set_option maxRecDepth 20000 in
theorem ggX8_person_X8_bad : GoodIn wsX8_person wsX8_bad := goodIn_r _ [9, 10, 18, 19, 20, 21, 22, 23, 24, 25, 26, 27, 28, 29, 30, 31, 32, 33, 34, 35, 36, 37] (by decide +kernel) (by decide +kernel)
set_option maxRecDepth 20000 in
theorem gX8_person_X8_bad : GoodIn wsX8_person (wsV RX8 57 RX8 yX8_bad wsX8_bad) := goodIn_app (goodIn_of _ (by decide +kernel)) ggX8_person_X8_bad
set_option maxRecDepth 20000 in
theorem ggX8_person_X8_full : GoodIn wsX8_person wsX8_full := goodIn_r _ [14, 10, 18, 19, 20, 21, 22, 23, 24, 25, 26, 27, 28, 29, 30, 31, 32, 33, 34, 35, 36, 37] (by decide +kernel) (by decide +kernel)
set_option maxRecDepth 20000 in
theorem gX8_person_X8_full : GoodIn wsX8_person (wsV RX8 61 RX8 yX8_full wsX8_full) := goodIn_app (goodIn_of _ (by decide +kernel)) ggX8_person_X8_full
set_option maxRecDepth 20000 in
theorem ggX8_person_X8_addPerson : GoodIn wsX8_person wsX8_addPerson := goodIn_r _ [17] (by decide +kernel) (by decide +kernel)
set_option maxRecDepth 20000 in
theorem gX8_person_X8_addPerson : GoodIn wsX8_person (va_wsS RX8 64 yX8_addPerson wsX8_addPerson) := goodIn_app (goodIn_of _ (by decide +kernel)) ggX8_person_X8_addPerson
theorem dX8_person_0 : decode cX8_person 0 = .ok (.iload_n 1, 1) := by decide +kernel
theorem dX8_person_1 : decode cX8_person 1 = .ok (.iconst 0, 1) := by decide +kernel
theorem dX8_person_2 : decode cX8_person 2 = .ok (.iconst 5, 1) := by decide +kernel
theorem dX8_person_3 : decode cX8_person 3 = .ok (.invokestatic 52, 3) := by decide +kernel
theorem dX8_person_6 : decode cX8_person 6 = .ok (.ifCond .eq 24, 3) := by decide +kernel
theorem dX8_person_9 : decode cX8_person 9 = .ok (.iload_n 2, 1) := by decide +kernel
theorem dX8_person_10 : decode cX8_person 10 = .ok (.iconst 0, 1) := by decide +kernel
theorem dX8_person_11 : decode cX8_person 11 = .ok (.bipush 99, 2) := by decide +kernel
theorem dX8_person_13 : decode cX8_person 13 = .ok (.invokestatic 52, 3) := by decide +kernel
theorem dX8_person_16 : decode cX8_person 16 = .ok (.ifCond .eq 14, 3) := by decide +kernel
theorem dX8_person_19 : decode cX8_person 19 = .ok (.iload_n 3, 1) := by decide +kernel
theorem dX8_person_20 : decode cX8_person 20 = .ok (.iconst 0, 1) := by decide +kernel
theorem dX8_person_21 : decode cX8_person 21 = .ok (.sipush 9999, 3) := by decide +kernel
theorem dX8_person_24 : decode cX8_person 24 = .ok (.invokestatic 52, 3) := by decide +kernel
theorem dX8_person_27 : decode cX8_person 27 = .ok (.ifCond .ne 8, 3) := by decide +kernel
theorem dX8_person_30 : decode cX8_person 30 = .ok (.aload_n 0, 1) := by decide +kernel
theorem dX8_person_31 : decode cX8_person 31 = .ok (.invokevirtual 57, 3) := by decide +kernel
theorem dX8_person_34 : decode cX8_person 34 = .ok (.ireturn, 1) := by decide +kernel
theorem dX8_person_35 : decode cX8_person 35 = .ok (.aload_n 0, 1) := by decide +kernel
theorem dX8_person_36 : decode cX8_person 36 = .ok (.getfield 7, 3) := by decide +kernel
theorem dX8_person_39 : decode cX8_person 39 = .ok (.iconst 3, 1) := by decide +kernel
theorem dX8_person_40 : decode cX8_person 40 = .ok (.iaload, 1) := by decide +kernel
theorem dX8_person_41 : decode cX8_person 41 = .ok (.bipush 6, 2) := by decide +kernel
theorem dX8_person_43 : decode cX8_person 43 = .ok (.if_icmp .ne 8, 3) := by decide +kernel
theorem dX8_person_46 : decode cX8_person 46 = .ok (.aload_n 0, 1) := by decide +kernel
theorem dX8_person_47 : decode cX8_person 47 = .ok (.invokevirtual 61, 3) := by decide +kernel
theorem dX8_person_50 : decode cX8_person 50 = .ok (.ireturn, 1) := by decide +kernel
theorem dX8_person_51 : decode cX8_person 51 = .ok (.aload_n 0, 1) := by decide +kernel
theorem dX8_person_52 : decode cX8_person 52 = .ok (.getfield 7, 3) := by decide +kernel
theorem dX8_person_55 : decode cX8_person 55 = .ok (.iload_n 1, 1) := by decide +kernel
theorem dX8_person_56 : decode cX8_person 56 = .ok (.iload_n 2, 1) := by decide +kernel
theorem dX8_person_57 : decode cX8_person 57 = .ok (.iload_n 3, 1) := by decide +kernel
theorem dX8_person_58 : decode cX8_person 58 = .ok (.invokestatic 64, 3) := by decide +kernel
theorem dX8_person_61 : decode cX8_person 61 = .ok (.aload_n 0, 1) := by decide +kernel
theorem dX8_person_62 : decode cX8_person 62 = .ok (.getfield 7, 3) := by decide +kernel
theorem dX8_person_65 : decode cX8_person 65 = .ok (.iconst 3, 1) := by decide +kernel
theorem dX8_person_66 : decode cX8_person 66 = .ok (.iaload, 1) := by decide +kernel
theorem dX8_person_67 : decode cX8_person 67 = .ok (.iconst 1, 1) := by decide +kernel
theorem dX8_person_68 : decode cX8_person 68 = .ok (.isub, 1) := by decide +kernel
theorem dX8_person_69 : decode cX8_person 69 = .ok (.ireturn, 1) := by decide +kernel
set_option maxRecDepth 20000 in
theorem ggX8_loan_X8_isPerson : GoodIn wsX8_loan wsX8_isPerson := goodIn_r _ [6, 1, 7, 8, 5, 9, 22, 23, 24, 25, 26, 27, 28, 29, 30, 31, 32, 33, 34, 35, 36, 37, 38, 39, 40, 41] (by decide +kernel) (by decide +kernel)
set_option maxRecDepth 20000 in
theorem gX8_loan_X8_isPerson : GoodIn wsX8_loan (wsV RX8 68 RX8 yX8_isPerson wsX8_isPerson) := goodIn_app (goodIn_of _ (by decide +kernel)) ggX8_loan_X8_isPerson
set_option maxRecDepth 20000 in
theorem ggX8_loan_X8_in : GoodIn wsX8_loan wsX8_in := goodIn_r _ [9] (by decide +kernel) (by decide +kernel)
set_option maxRecDepth 20000 in
theorem gX8_loan_X8_in : GoodIn wsX8_loan (va_wsS RX8 52 yX8_in wsX8_in) := goodIn_app (goodIn_of _ (by decide +kernel)) ggX8_loan_X8_in
set_option maxRecDepth 20000 in
theorem ggX8_loan_X8_bad : GoodIn wsX8_loan wsX8_bad := goodIn_r _ [13, 14, 22, 23, 24, 25, 26, 27, 28, 29, 30, 31, 32, 33, 34, 35, 36, 37, 38, 39, 40, 41] (by decide +kernel) (by decide +kernel)
set_option maxRecDepth 20000 in
theorem gX8_loan_X8_bad : GoodIn wsX8_loan (wsV RX8 57 RX8 yX8_bad wsX8_bad) := goodIn_app (goodIn_of _ (by decide +kernel)) ggX8_loan_X8_bad
set_option maxRecDepth 20000 in
theorem ggX8_loan_X8_full : GoodIn wsX8_loan wsX8_full := goodIn_r _ [18, 14, 22, 23, 24, 25, 26, 27, 28, 29, 30, 31, 32, 33, 34, 35, 36, 37, 38, 39, 40, 41] (by decide +kernel) (by decide +kernel)
set_option maxRecDepth 20000 in
theorem gX8_loan_X8_full : GoodIn wsX8_loan (wsV RX8 61 RX8 yX8_full wsX8_full) := goodIn_app (goodIn_of _ (by decide +kernel)) ggX8_loan_X8_full
set_option maxRecDepth 20000 in
theorem ggX8_loan_X8_addLoan : GoodIn wsX8_loan wsX8_addLoan := goodIn_r _ [21] (by decide +kernel) (by decide +kernel)
set_option maxRecDepth 20000 in
theorem gX8_loan_X8_addLoan : GoodIn wsX8_loan (va_wsS RX8 72 yX8_addLoan wsX8_addLoan) := goodIn_app (goodIn_of _ (by decide +kernel)) ggX8_loan_X8_addLoan
theorem dX8_loan_0 : decode cX8_loan 0 = .ok (.aload_n 0, 1) := by decide +kernel
theorem dX8_loan_1 : decode cX8_loan 1 = .ok (.iload_n 1, 1) := by decide +kernel
theorem dX8_loan_2 : decode cX8_loan 2 = .ok (.invokevirtual 68, 3) := by decide +kernel
theorem dX8_loan_5 : decode cX8_loan 5 = .ok (.ifCond .eq 23, 3) := by decide +kernel
theorem dX8_loan_8 : decode cX8_loan 8 = .ok (.iload_n 2, 1) := by decide +kernel
theorem dX8_loan_9 : decode cX8_loan 9 = .ok (.iconst 1, 1) := by decide +kernel
theorem dX8_loan_10 : decode cX8_loan 10 = .ok (.bipush 99, 2) := by decide +kernel
theorem dX8_loan_12 : decode cX8_loan 12 = .ok (.invokestatic 52, 3) := by decide +kernel
theorem dX8_loan_15 : decode cX8_loan 15 = .ok (.ifCond .eq 13, 3) := by decide +kernel
theorem dX8_loan_18 : decode cX8_loan 18 = .ok (.iload_n 3, 1) := by decide +kernel
theorem dX8_loan_19 : decode cX8_loan 19 = .ok (.iconst 1, 1) := by decide +kernel
theorem dX8_loan_20 : decode cX8_loan 20 = .ok (.bipush 12, 2) := by decide +kernel
theorem dX8_loan_22 : decode cX8_loan 22 = .ok (.invokestatic 52, 3) := by decide +kernel
theorem dX8_loan_25 : decode cX8_loan 25 = .ok (.ifCond .ne 8, 3) := by decide +kernel
theorem dX8_loan_28 : decode cX8_loan 28 = .ok (.aload_n 0, 1) := by decide +kernel
theorem dX8_loan_29 : decode cX8_loan 29 = .ok (.invokevirtual 57, 3) := by decide +kernel
theorem dX8_loan_32 : decode cX8_loan 32 = .ok (.ireturn, 1) := by decide +kernel
theorem dX8_loan_33 : decode cX8_loan 33 = .ok (.aload_n 0, 1) := by decide +kernel
theorem dX8_loan_34 : decode cX8_loan 34 = .ok (.getfield 7, 3) := by decide +kernel
theorem dX8_loan_37 : decode cX8_loan 37 = .ok (.iconst 4, 1) := by decide +kernel
theorem dX8_loan_38 : decode cX8_loan 38 = .ok (.iaload, 1) := by decide +kernel
theorem dX8_loan_39 : decode cX8_loan 39 = .ok (.bipush 8, 2) := by decide +kernel
theorem dX8_loan_41 : decode cX8_loan 41 = .ok (.if_icmp .ne 8, 3) := by decide +kernel
theorem dX8_loan_44 : decode cX8_loan 44 = .ok (.aload_n 0, 1) := by decide +kernel
theorem dX8_loan_45 : decode cX8_loan 45 = .ok (.invokevirtual 61, 3) := by decide +kernel
theorem dX8_loan_48 : decode cX8_loan 48 = .ok (.ireturn, 1) := by decide +kernel
theorem dX8_loan_49 : decode cX8_loan 49 = .ok (.aload_n 0, 1) := by decide +kernel
theorem dX8_loan_50 : decode cX8_loan 50 = .ok (.getfield 7, 3) := by decide +kernel
theorem dX8_loan_53 : decode cX8_loan 53 = .ok (.iload_n 1, 1) := by decide +kernel
theorem dX8_loan_54 : decode cX8_loan 54 = .ok (.iload_n 2, 1) := by decide +kernel
theorem dX8_loan_55 : decode cX8_loan 55 = .ok (.iload_n 3, 1) := by decide +kernel
theorem dX8_loan_56 : decode cX8_loan 56 = .ok (.invokestatic 72, 3) := by decide +kernel
theorem dX8_loan_59 : decode cX8_loan 59 = .ok (.aload_n 0, 1) := by decide +kernel
theorem dX8_loan_60 : decode cX8_loan 60 = .ok (.getfield 7, 3) := by decide +kernel
theorem dX8_loan_63 : decode cX8_loan 63 = .ok (.iconst 4, 1) := by decide +kernel
theorem dX8_loan_64 : decode cX8_loan 64 = .ok (.iaload, 1) := by decide +kernel
theorem dX8_loan_65 : decode cX8_loan 65 = .ok (.iconst 1, 1) := by decide +kernel
theorem dX8_loan_66 : decode cX8_loan 66 = .ok (.isub, 1) := by decide +kernel
theorem dX8_loan_67 : decode cX8_loan 67 = .ok (.ireturn, 1) := by decide +kernel
set_option maxRecDepth 20000 in
theorem ggX8_offer_X8_in : GoodIn wsX8_offer wsX8_in := goodIn_r _ [5] (by decide +kernel) (by decide +kernel)
set_option maxRecDepth 20000 in
theorem gX8_offer_X8_in : GoodIn wsX8_offer (va_wsS RX8 52 yX8_in wsX8_in) := goodIn_app (goodIn_of _ (by decide +kernel)) ggX8_offer_X8_in
set_option maxRecDepth 20000 in
theorem ggX8_offer_X8_bad : GoodIn wsX8_offer wsX8_bad := goodIn_r _ [9, 10, 18, 19, 20, 21, 22, 23, 24, 25, 26, 27, 28, 29, 30, 31, 32, 33, 34, 35, 36, 37] (by decide +kernel) (by decide +kernel)
set_option maxRecDepth 20000 in
theorem gX8_offer_X8_bad : GoodIn wsX8_offer (wsV RX8 57 RX8 yX8_bad wsX8_bad) := goodIn_app (goodIn_of _ (by decide +kernel)) ggX8_offer_X8_bad
set_option maxRecDepth 20000 in
theorem ggX8_offer_X8_full : GoodIn wsX8_offer wsX8_full := goodIn_r _ [14, 10, 18, 19, 20, 21, 22, 23, 24, 25, 26, 27, 28, 29, 30, 31, 32, 33, 34, 35, 36, 37] (by decide +kernel) (by decide +kernel)
set_option maxRecDepth 20000 in
theorem gX8_offer_X8_full : GoodIn wsX8_offer (wsV RX8 61 RX8 yX8_full wsX8_full) := goodIn_app (goodIn_of _ (by decide +kernel)) ggX8_offer_X8_full
set_option maxRecDepth 20000 in
theorem ggX8_offer_X8_addOffer : GoodIn wsX8_offer wsX8_addOffer := goodIn_r _ [17] (by decide +kernel) (by decide +kernel)
set_option maxRecDepth 20000 in
theorem gX8_offer_X8_addOffer : GoodIn wsX8_offer (va_wsS RX8 75 yX8_addOffer wsX8_addOffer) := goodIn_app (goodIn_of _ (by decide +kernel)) ggX8_offer_X8_addOffer
theorem dX8_offer_0 : decode cX8_offer 0 = .ok (.iload_n 1, 1) := by decide +kernel
theorem dX8_offer_1 : decode cX8_offer 1 = .ok (.iconst 1, 1) := by decide +kernel
theorem dX8_offer_2 : decode cX8_offer 2 = .ok (.bipush 99, 2) := by decide +kernel
theorem dX8_offer_4 : decode cX8_offer 4 = .ok (.invokestatic 52, 3) := by decide +kernel
theorem dX8_offer_7 : decode cX8_offer 7 = .ok (.ifCond .eq 13, 3) := by decide +kernel
theorem dX8_offer_10 : decode cX8_offer 10 = .ok (.iload_n 2, 1) := by decide +kernel
theorem dX8_offer_11 : decode cX8_offer 11 = .ok (.iconst 1, 1) := by decide +kernel
theorem dX8_offer_12 : decode cX8_offer 12 = .ok (.bipush 12, 2) := by decide +kernel
theorem dX8_offer_14 : decode cX8_offer 14 = .ok (.invokestatic 52, 3) := by decide +kernel
theorem dX8_offer_17 : decode cX8_offer 17 = .ok (.ifCond .ne 8, 3) := by decide +kernel
theorem dX8_offer_20 : decode cX8_offer 20 = .ok (.aload_n 0, 1) := by decide +kernel
theorem dX8_offer_21 : decode cX8_offer 21 = .ok (.invokevirtual 57, 3) := by decide +kernel
theorem dX8_offer_24 : decode cX8_offer 24 = .ok (.ireturn, 1) := by decide +kernel
theorem dX8_offer_25 : decode cX8_offer 25 = .ok (.aload_n 0, 1) := by decide +kernel
theorem dX8_offer_26 : decode cX8_offer 26 = .ok (.getfield 7, 3) := by decide +kernel
theorem dX8_offer_29 : decode cX8_offer 29 = .ok (.iconst 5, 1) := by decide +kernel
theorem dX8_offer_30 : decode cX8_offer 30 = .ok (.iaload, 1) := by decide +kernel
theorem dX8_offer_31 : decode cX8_offer 31 = .ok (.bipush 8, 2) := by decide +kernel
theorem dX8_offer_33 : decode cX8_offer 33 = .ok (.if_icmp .ne 8, 3) := by decide +kernel
theorem dX8_offer_36 : decode cX8_offer 36 = .ok (.aload_n 0, 1) := by decide +kernel
theorem dX8_offer_37 : decode cX8_offer 37 = .ok (.invokevirtual 61, 3) := by decide +kernel
theorem dX8_offer_40 : decode cX8_offer 40 = .ok (.ireturn, 1) := by decide +kernel
theorem dX8_offer_41 : decode cX8_offer 41 = .ok (.aload_n 0, 1) := by decide +kernel
theorem dX8_offer_42 : decode cX8_offer 42 = .ok (.getfield 7, 3) := by decide +kernel
theorem dX8_offer_45 : decode cX8_offer 45 = .ok (.iload_n 1, 1) := by decide +kernel
theorem dX8_offer_46 : decode cX8_offer 46 = .ok (.iload_n 2, 1) := by decide +kernel
theorem dX8_offer_47 : decode cX8_offer 47 = .ok (.invokestatic 75, 3) := by decide +kernel
theorem dX8_offer_50 : decode cX8_offer 50 = .ok (.aload_n 0, 1) := by decide +kernel
theorem dX8_offer_51 : decode cX8_offer 51 = .ok (.getfield 7, 3) := by decide +kernel
theorem dX8_offer_54 : decode cX8_offer 54 = .ok (.iconst 5, 1) := by decide +kernel
theorem dX8_offer_55 : decode cX8_offer 55 = .ok (.iaload, 1) := by decide +kernel
theorem dX8_offer_56 : decode cX8_offer 56 = .ok (.iconst 1, 1) := by decide +kernel
theorem dX8_offer_57 : decode cX8_offer 57 = .ok (.isub, 1) := by decide +kernel
theorem dX8_offer_58 : decode cX8_offer 58 = .ok (.ireturn, 1) := by decide +kernel
theorem dX8_none_0 : decode cX8_none 0 = .ok (.aload_n 0, 1) := by decide +kernel
theorem dX8_none_1 : decode cX8_none 1 = .ok (.getfield 7, 3) := by decide +kernel
theorem dX8_none_4 : decode cX8_none 4 = .ok (.iconst 5, 1) := by decide +kernel
theorem dX8_none_5 : decode cX8_none 5 = .ok (.iaload, 1) := by decide +kernel
theorem dX8_none_6 : decode cX8_none 6 = .ok (.istore_n 1, 1) := by decide +kernel
theorem dX8_none_7 : decode cX8_none 7 = .ok (.aload_n 0, 1) := by decide +kernel
theorem dX8_none_8 : decode cX8_none 8 = .ok (.getfield 7, 3) := by decide +kernel
theorem dX8_none_11 : decode cX8_none 11 = .ok (.iconst 5, 1) := by decide +kernel
theorem dX8_none_12 : decode cX8_none 12 = .ok (.iconst 0, 1) := by decide +kernel
theorem dX8_none_13 : decode cX8_none 13 = .ok (.iastore, 1) := by decide +kernel
theorem dX8_none_14 : decode cX8_none 14 = .ok (.iload_n 1, 1) := by decide +kernel
theorem dX8_none_15 : decode cX8_none 15 = .ok (.ireturn, 1) := by decide +kernel
set_option maxRecDepth 20000 in
theorem ggX8_type_X8_in : GoodIn wsX8_type wsX8_in := goodIn_r _ [6] (by decide +kernel) (by decide +kernel)
set_option maxRecDepth 20000 in
theorem gX8_type_X8_in : GoodIn wsX8_type (va_wsS RX8 52 yX8_in wsX8_in) := goodIn_app (goodIn_of _ (by decide +kernel)) ggX8_type_X8_in
set_option maxRecDepth 20000 in
theorem ggX8_type_X8_bad : GoodIn wsX8_type wsX8_bad := goodIn_r _ [10, 11, 16, 17, 18, 19, 20, 21, 22, 23, 24, 25, 26, 27, 28, 29, 30, 31, 32, 33, 34, 35] (by decide +kernel) (by decide +kernel)
set_option maxRecDepth 20000 in
theorem gX8_type_X8_bad : GoodIn wsX8_type (wsV RX8 57 RX8 yX8_bad wsX8_bad) := goodIn_app (goodIn_of _ (by decide +kernel)) ggX8_type_X8_bad
set_option maxRecDepth 20000 in
theorem ggX8_type_X8_full : GoodIn wsX8_type wsX8_full := goodIn_r _ [15, 11, 16, 17, 18, 19, 20, 21, 22, 23, 24, 25, 26, 27, 28, 29, 30, 31, 32, 33, 34, 35] (by decide +kernel) (by decide +kernel)
set_option maxRecDepth 20000 in
theorem gX8_type_X8_full : GoodIn wsX8_type (wsV RX8 61 RX8 yX8_full wsX8_full) := goodIn_app (goodIn_of _ (by decide +kernel)) ggX8_type_X8_full
theorem dX8_type_0 : decode cX8_type 0 = .ok (.iload_n 1, 1) := by decide +kernel
theorem dX8_type_1 : decode cX8_type 1 = .ok (.iconst 0, 1) := by decide +kernel
theorem dX8_type_2 : decode cX8_type 2 = .ok (.bipush 127, 2) := by decide +kernel
theorem dX8_type_4 : decode cX8_type 4 = .ok (.invokestatic 52, 3) := by decide +kernel
theorem dX8_type_7 : decode cX8_type 7 = .ok (.ifCond .ne 8, 3) := by decide +kernel
theorem dX8_type_10 : decode cX8_type 10 = .ok (.aload_n 0, 1) := by decide +kernel
theorem dX8_type_11 : decode cX8_type 11 = .ok (.invokevirtual 57, 3) := by decide +kernel
theorem dX8_type_14 : decode cX8_type 14 = .ok (.ireturn, 1) := by decide +kernel
theorem dX8_type_15 : decode cX8_type 15 = .ok (.aload_n 0, 1) := by decide +kernel
theorem dX8_type_16 : decode cX8_type 16 = .ok (.getfield 79, 3) := by decide +kernel
theorem dX8_type_19 : decode cX8_type 19 = .ok (.sipush 150, 3) := by decide +kernel
theorem dX8_type_22 : decode cX8_type 22 = .ok (.if_icmp .ne 8, 3) := by decide +kernel
theorem dX8_type_25 : decode cX8_type 25 = .ok (.aload_n 0, 1) := by decide +kernel
theorem dX8_type_26 : decode cX8_type 26 = .ok (.invokevirtual 61, 3) := by decide +kernel
theorem dX8_type_29 : decode cX8_type 29 = .ok (.ireturn, 1) := by decide +kernel
theorem dX8_type_30 : decode cX8_type 30 = .ok (.aload_n 0, 1) := by decide +kernel
theorem dX8_type_31 : decode cX8_type 31 = .ok (.getfield 29, 3) := by decide +kernel
theorem dX8_type_34 : decode cX8_type 34 = .ok (.aload_n 0, 1) := by decide +kernel
theorem dX8_type_35 : decode cX8_type 35 = .ok (.getfield 79, 3) := by decide +kernel
theorem dX8_type_38 : decode cX8_type 38 = .ok (.iload_n 1, 1) := by decide +kernel
theorem dX8_type_39 : decode cX8_type 39 = .ok (.iastore, 1) := by decide +kernel
theorem dX8_type_40 : decode cX8_type 40 = .ok (.aload_n 0, 1) := by decide +kernel
theorem dX8_type_41 : decode cX8_type 41 = .ok (.dup, 1) := by decide +kernel
theorem dX8_type_42 : decode cX8_type 42 = .ok (.getfield 79, 3) := by decide +kernel
theorem dX8_type_45 : decode cX8_type 45 = .ok (.iconst 1, 1) := by decide +kernel
theorem dX8_type_46 : decode cX8_type 46 = .ok (.iadd, 1) := by decide +kernel
theorem dX8_type_47 : decode cX8_type 47 = .ok (.putfield 79, 3) := by decide +kernel
theorem dX8_type_50 : decode cX8_type 50 = .ok (.aload_n 0, 1) := by decide +kernel
theorem dX8_type_51 : decode cX8_type 51 = .ok (.getfield 79, 3) := by decide +kernel
theorem dX8_type_54 : decode cX8_type 54 = .ok (.ireturn, 1) := by decide +kernel
theorem dX8_clear_0 : decode cX8_clear 0 = .ok (.aload_n 0, 1) := by decide +kernel
theorem dX8_clear_1 : decode cX8_clear 1 = .ok (.getfield 79, 3) := by decide +kernel
theorem dX8_clear_4 : decode cX8_clear 4 = .ok (.istore_n 1, 1) := by decide +kernel
theorem dX8_clear_5 : decode cX8_clear 5 = .ok (.aload_n 0, 1) := by decide +kernel
theorem dX8_clear_6 : decode cX8_clear 6 = .ok (.iconst 0, 1) := by decide +kernel
theorem dX8_clear_7 : decode cX8_clear 7 = .ok (.putfield 79, 3) := by decide +kernel
theorem dX8_clear_10 : decode cX8_clear 10 = .ok (.iload_n 1, 1) := by decide +kernel
theorem dX8_clear_11 : decode cX8_clear 11 = .ok (.ireturn, 1) := by decide +kernel
theorem dX8_byteAt_0 : decode cX8_byteAt 0 = .ok (.iload_n 1, 1) := by decide +kernel
theorem dX8_byteAt_1 : decode cX8_byteAt 1 = .ok (.aload_n 0, 1) := by decide +kernel
theorem dX8_byteAt_2 : decode cX8_byteAt 2 = .ok (.getfield 79, 3) := by decide +kernel
theorem dX8_byteAt_5 : decode cX8_byteAt 5 = .ok (.if_icmp .ge 12, 3) := by decide +kernel
theorem dX8_byteAt_8 : decode cX8_byteAt 8 = .ok (.aload_n 0, 1) := by decide +kernel
theorem dX8_byteAt_9 : decode cX8_byteAt 9 = .ok (.getfield 29, 3) := by decide +kernel
theorem dX8_byteAt_12 : decode cX8_byteAt 12 = .ok (.iload_n 1, 1) := by decide +kernel
theorem dX8_byteAt_13 : decode cX8_byteAt 13 = .ok (.iaload, 1) := by decide +kernel
theorem dX8_byteAt_14 : decode cX8_byteAt 14 = .ok (.goto 4, 3) := by decide +kernel
theorem dX8_byteAt_17 : decode cX8_byteAt 17 = .ok (.iconst (-1), 1) := by decide +kernel
theorem dX8_byteAt_18 : decode cX8_byteAt 18 = .ok (.ireturn, 1) := by decide +kernel
set_option maxRecDepth 20000 in
theorem ggX8_sortOf_X8_in : GoodIn wsX8_sortOf wsX8_in := goodIn_r _ [4] (by decide +kernel) (by decide +kernel)
set_option maxRecDepth 20000 in
theorem gX8_sortOf_X8_in : GoodIn wsX8_sortOf (va_wsS RX8 52 yX8_in wsX8_in) := goodIn_app (goodIn_of _ (by decide +kernel)) ggX8_sortOf_X8_in
theorem dX8_sortOf_0 : decode cX8_sortOf 0 = .ok (.iload_n 0, 1) := by decide +kernel
theorem dX8_sortOf_1 : decode cX8_sortOf 1 = .ok (.ifCond .ge 7, 3) := by decide +kernel
theorem dX8_sortOf_4 : decode cX8_sortOf 4 = .ok (.iconst 0, 1) := by decide +kernel
theorem dX8_sortOf_5 : decode cX8_sortOf 5 = .ok (.goto 44, 3) := by decide +kernel
theorem dX8_sortOf_8 : decode cX8_sortOf 8 = .ok (.iload_n 0, 1) := by decide +kernel
theorem dX8_sortOf_9 : decode cX8_sortOf 9 = .ok (.bipush 97, 2) := by decide +kernel
theorem dX8_sortOf_11 : decode cX8_sortOf 11 = .ok (.bipush 122, 2) := by decide +kernel
theorem dX8_sortOf_13 : decode cX8_sortOf 13 = .ok (.invokestatic 52, 3) := by decide +kernel
theorem dX8_sortOf_16 : decode cX8_sortOf 16 = .ok (.ifCond .eq 7, 3) := by decide +kernel
theorem dX8_sortOf_19 : decode cX8_sortOf 19 = .ok (.iconst 1, 1) := by decide +kernel
theorem dX8_sortOf_20 : decode cX8_sortOf 20 = .ok (.goto 29, 3) := by decide +kernel
theorem dX8_sortOf_23 : decode cX8_sortOf 23 = .ok (.iload_n 0, 1) := by decide +kernel
theorem dX8_sortOf_24 : decode cX8_sortOf 24 = .ok (.bipush 48, 2) := by decide +kernel
theorem dX8_sortOf_26 : decode cX8_sortOf 26 = .ok (.bipush 57, 2) := by decide +kernel
theorem dX8_sortOf_28 : decode cX8_sortOf 28 = .ok (.invokestatic 52, 3) := by decide +kernel
theorem dX8_sortOf_31 : decode cX8_sortOf 31 = .ok (.ifCond .eq 7, 3) := by decide +kernel
theorem dX8_sortOf_34 : decode cX8_sortOf 34 = .ok (.iconst 2, 1) := by decide +kernel
theorem dX8_sortOf_35 : decode cX8_sortOf 35 = .ok (.goto 14, 3) := by decide +kernel
theorem dX8_sortOf_38 : decode cX8_sortOf 38 = .ok (.iload_n 0, 1) := by decide +kernel
theorem dX8_sortOf_39 : decode cX8_sortOf 39 = .ok (.bipush 59, 2) := by decide +kernel
theorem dX8_sortOf_41 : decode cX8_sortOf 41 = .ok (.if_icmp .ne 7, 3) := by decide +kernel
theorem dX8_sortOf_44 : decode cX8_sortOf 44 = .ok (.iconst 3, 1) := by decide +kernel
theorem dX8_sortOf_45 : decode cX8_sortOf 45 = .ok (.goto 4, 3) := by decide +kernel
theorem dX8_sortOf_48 : decode cX8_sortOf 48 = .ok (.iconst 4, 1) := by decide +kernel
theorem dX8_sortOf_49 : decode cX8_sortOf 49 = .ok (.ireturn, 1) := by decide +kernel
set_option maxRecDepth 20000 in
theorem ggX8_token_X8_byteAt : GoodIn wsX8_token wsX8_byteAt := goodIn_r _ [9, 10, 11, 18, 19, 20, 21, 22, 23, 24, 25, 26, 27, 28, 29, 30, 31, 32, 33, 34, 35, 36, 37] (by decide +kernel) (by decide +kernel)
set_option maxRecDepth 20000 in
theorem gX8_token_X8_byteAt : GoodIn wsX8_token (wsV RX8 86 RX8 yX8_byteAt wsX8_byteAt) := goodIn_app (goodIn_of _ (by decide +kernel)) ggX8_token_X8_byteAt
set_option maxRecDepth 20000 in
theorem ggX8_token_X8_sortOf : GoodIn wsX8_token wsX8_sortOf := goodIn_r _ [14, 15, 16, 8, 17] (by decide +kernel) (by decide +kernel)
set_option maxRecDepth 20000 in
theorem gX8_token_X8_sortOf : GoodIn wsX8_token (va_wsS RX8 96 yX8_sortOf wsX8_sortOf) := goodIn_app (goodIn_of _ (by decide +kernel)) ggX8_token_X8_sortOf
theorem dX8_token_0 : decode cX8_token 0 = .ok (.aload_n 0, 1) := by decide +kernel
theorem dX8_token_1 : decode cX8_token 1 = .ok (.aload_n 0, 1) := by decide +kernel
theorem dX8_token_2 : decode cX8_token 2 = .ok (.getfield 83, 3) := by decide +kernel
theorem dX8_token_5 : decode cX8_token 5 = .ok (.invokevirtual 86, 3) := by decide +kernel
theorem dX8_token_8 : decode cX8_token 8 = .ok (.bipush 32, 2) := by decide +kernel
theorem dX8_token_10 : decode cX8_token 10 = .ok (.if_icmp .ne 16, 3) := by decide +kernel
theorem dX8_token_13 : decode cX8_token 13 = .ok (.aload_n 0, 1) := by decide +kernel
theorem dX8_token_14 : decode cX8_token 14 = .ok (.dup, 1) := by decide +kernel
theorem dX8_token_15 : decode cX8_token 15 = .ok (.getfield 83, 3) := by decide +kernel
theorem dX8_token_18 : decode cX8_token 18 = .ok (.iconst 1, 1) := by decide +kernel
theorem dX8_token_19 : decode cX8_token 19 = .ok (.iadd, 1) := by decide +kernel
theorem dX8_token_20 : decode cX8_token 20 = .ok (.putfield 83, 3) := by decide +kernel
theorem dX8_token_23 : decode cX8_token 23 = .ok (.goto (-23), 3) := by decide +kernel
theorem dX8_token_26 : decode cX8_token 26 = .ok (.aload_n 0, 1) := by decide +kernel
theorem dX8_token_27 : decode cX8_token 27 = .ok (.aload_n 0, 1) := by decide +kernel
theorem dX8_token_28 : decode cX8_token 28 = .ok (.getfield 83, 3) := by decide +kernel
theorem dX8_token_31 : decode cX8_token 31 = .ok (.putfield 90, 3) := by decide +kernel
theorem dX8_token_34 : decode cX8_token 34 = .ok (.aload_n 0, 1) := by decide +kernel
theorem dX8_token_35 : decode cX8_token 35 = .ok (.iconst 0, 1) := by decide +kernel
theorem dX8_token_36 : decode cX8_token 36 = .ok (.putfield 93, 3) := by decide +kernel
theorem dX8_token_39 : decode cX8_token 39 = .ok (.aload_n 0, 1) := by decide +kernel
theorem dX8_token_40 : decode cX8_token 40 = .ok (.aload_n 0, 1) := by decide +kernel
theorem dX8_token_41 : decode cX8_token 41 = .ok (.aload_n 0, 1) := by decide +kernel
theorem dX8_token_42 : decode cX8_token 42 = .ok (.getfield 83, 3) := by decide +kernel
theorem dX8_token_45 : decode cX8_token 45 = .ok (.invokevirtual 86, 3) := by decide +kernel
theorem dX8_token_48 : decode cX8_token 48 = .ok (.invokestatic 96, 3) := by decide +kernel
theorem dX8_token_51 : decode cX8_token 51 = .ok (.putfield 99, 3) := by decide +kernel
theorem dX8_token_54 : decode cX8_token 54 = .ok (.aload_n 0, 1) := by decide +kernel
theorem dX8_token_55 : decode cX8_token 55 = .ok (.getfield 99, 3) := by decide +kernel
theorem dX8_token_58 : decode cX8_token 58 = .ok (.ifCond .eq 67, 3) := by decide +kernel
theorem dX8_token_61 : decode cX8_token 61 = .ok (.aload_n 0, 1) := by decide +kernel
theorem dX8_token_62 : decode cX8_token 62 = .ok (.getfield 93, 3) := by decide +kernel
theorem dX8_token_65 : decode cX8_token 65 = .ok (.ifCond .eq 37, 3) := by decide +kernel
theorem dX8_token_68 : decode cX8_token 68 = .ok (.aload_n 0, 1) := by decide +kernel
theorem dX8_token_69 : decode cX8_token 69 = .ok (.getfield 99, 3) := by decide +kernel
theorem dX8_token_72 : decode cX8_token 72 = .ok (.iconst 1, 1) := by decide +kernel
theorem dX8_token_73 : decode cX8_token 73 = .ok (.if_icmp .eq 11, 3) := by decide +kernel
theorem dX8_token_76 : decode cX8_token 76 = .ok (.aload_n 0, 1) := by decide +kernel
theorem dX8_token_77 : decode cX8_token 77 = .ok (.getfield 99, 3) := by decide +kernel
theorem dX8_token_80 : decode cX8_token 80 = .ok (.iconst 2, 1) := by decide +kernel
theorem dX8_token_81 : decode cX8_token 81 = .ok (.if_icmp .ne 44, 3) := by decide +kernel
theorem dX8_token_84 : decode cX8_token 84 = .ok (.aload_n 0, 1) := by decide +kernel
theorem dX8_token_85 : decode cX8_token 85 = .ok (.aload_n 0, 1) := by decide +kernel
theorem dX8_token_86 : decode cX8_token 86 = .ok (.getfield 83, 3) := by decide +kernel
theorem dX8_token_89 : decode cX8_token 89 = .ok (.invokevirtual 86, 3) := by decide +kernel
theorem dX8_token_92 : decode cX8_token 92 = .ok (.invokestatic 96, 3) := by decide +kernel
theorem dX8_token_95 : decode cX8_token 95 = .ok (.aload_n 0, 1) := by decide +kernel
theorem dX8_token_96 : decode cX8_token 96 = .ok (.getfield 99, 3) := by decide +kernel
theorem dX8_token_99 : decode cX8_token 99 = .ok (.if_icmp .ne 26, 3) := by decide +kernel
theorem dX8_token_102 : decode cX8_token 102 = .ok (.aload_n 0, 1) := by decide +kernel
theorem dX8_token_103 : decode cX8_token 103 = .ok (.dup, 1) := by decide +kernel
theorem dX8_token_104 : decode cX8_token 104 = .ok (.getfield 83, 3) := by decide +kernel
theorem dX8_token_107 : decode cX8_token 107 = .ok (.iconst 1, 1) := by decide +kernel
theorem dX8_token_108 : decode cX8_token 108 = .ok (.iadd, 1) := by decide +kernel
theorem dX8_token_109 : decode cX8_token 109 = .ok (.putfield 83, 3) := by decide +kernel
theorem dX8_token_112 : decode cX8_token 112 = .ok (.aload_n 0, 1) := by decide +kernel
theorem dX8_token_113 : decode cX8_token 113 = .ok (.dup, 1) := by decide +kernel
theorem dX8_token_114 : decode cX8_token 114 = .ok (.getfield 93, 3) := by decide +kernel
theorem dX8_token_117 : decode cX8_token 117 = .ok (.iconst 1, 1) := by decide +kernel
theorem dX8_token_118 : decode cX8_token 118 = .ok (.iadd, 1) := by decide +kernel
theorem dX8_token_119 : decode cX8_token 119 = .ok (.putfield 93, 3) := by decide +kernel
theorem dX8_token_122 : decode cX8_token 122 = .ok (.goto (-68), 3) := by decide +kernel
theorem dX8_token_125 : decode cX8_token 125 = .ok (.return_, 1) := by decide +kernel
set_option maxRecDepth 20000 in
theorem ggX8_word_X8_byteAt : GoodIn wsX8_word wsX8_byteAt := goodIn_r _ [10, 11, 12, 13, 14, 15, 16, 17, 18, 19, 20, 21, 22, 23, 24, 25, 26, 27, 28, 29, 30, 31, 32] (by decide +kernel) (by decide +kernel)
set_option maxRecDepth 20000 in
theorem gX8_word_X8_byteAt : GoodIn wsX8_word (wsV RX8 86 RX8 yX8_byteAt wsX8_byteAt) := goodIn_app (goodIn_of _ (by decide +kernel)) ggX8_word_X8_byteAt
theorem dX8_word_0 : decode cX8_word 0 = .ok (.lconst 0, 1) := by decide +kernel
theorem dX8_word_1 : decode cX8_word 1 = .ok (.lstore_n 1, 1) := by decide +kernel
theorem dX8_word_2 : decode cX8_word 2 = .ok (.iconst 0, 1) := by decide +kernel
theorem dX8_word_3 : decode cX8_word 3 = .ok (.istore_n 3, 1) := by decide +kernel
theorem dX8_word_4 : decode cX8_word 4 = .ok (.iload_n 3, 1) := by decide +kernel
theorem dX8_word_5 : decode cX8_word 5 = .ok (.aload_n 0, 1) := by decide +kernel
theorem dX8_word_6 : decode cX8_word 6 = .ok (.getfield 93, 3) := by decide +kernel
theorem dX8_word_9 : decode cX8_word 9 = .ok (.if_icmp .ge 48, 3) := by decide +kernel
theorem dX8_word_12 : decode cX8_word 12 = .ok (.aload_n 0, 1) := by decide +kernel
theorem dX8_word_13 : decode cX8_word 13 = .ok (.getfield 93, 3) := by decide +kernel
theorem dX8_word_16 : decode cX8_word 16 = .ok (.bipush 7, 2) := by decide +kernel
theorem dX8_word_18 : decode cX8_word 18 = .ok (.if_icmp .ge 39, 3) := by decide +kernel
theorem dX8_word_21 : decode cX8_word 21 = .ok (.aload_n 0, 1) := by decide +kernel
theorem dX8_word_22 : decode cX8_word 22 = .ok (.getfield 99, 3) := by decide +kernel
theorem dX8_word_25 : decode cX8_word 25 = .ok (.iconst 1, 1) := by decide +kernel
theorem dX8_word_26 : decode cX8_word 26 = .ok (.if_icmp .ne 31, 3) := by decide +kernel
theorem dX8_word_29 : decode cX8_word 29 = .ok (.ldc2_w 102, 3) := by decide +kernel
theorem dX8_word_32 : decode cX8_word 32 = .ok (.lload_n 1, 1) := by decide +kernel
theorem dX8_word_33 : decode cX8_word 33 = .ok (.lmul, 1) := by decide +kernel
theorem dX8_word_34 : decode cX8_word 34 = .ok (.aload_n 0, 1) := by decide +kernel
theorem dX8_word_35 : decode cX8_word 35 = .ok (.aload_n 0, 1) := by decide +kernel
theorem dX8_word_36 : decode cX8_word 36 = .ok (.getfield 90, 3) := by decide +kernel
theorem dX8_word_39 : decode cX8_word 39 = .ok (.iload_n 3, 1) := by decide +kernel
theorem dX8_word_40 : decode cX8_word 40 = .ok (.iadd, 1) := by decide +kernel
theorem dX8_word_41 : decode cX8_word 41 = .ok (.invokevirtual 86, 3) := by decide +kernel
theorem dX8_word_44 : decode cX8_word 44 = .ok (.i2l, 1) := by decide +kernel
theorem dX8_word_45 : decode cX8_word 45 = .ok (.ladd, 1) := by decide +kernel
theorem dX8_word_46 : decode cX8_word 46 = .ok (.ldc2_w 104, 3) := by decide +kernel
theorem dX8_word_49 : decode cX8_word 49 = .ok (.lsub, 1) := by decide +kernel
theorem dX8_word_50 : decode cX8_word 50 = .ok (.lstore_n 1, 1) := by decide +kernel
theorem dX8_word_51 : decode cX8_word 51 = .ok (.iinc 3 1, 3) := by decide +kernel
theorem dX8_word_54 : decode cX8_word 54 = .ok (.goto (-50), 3) := by decide +kernel
theorem dX8_word_57 : decode cX8_word 57 = .ok (.lload_n 1, 1) := by decide +kernel
theorem dX8_word_58 : decode cX8_word 58 = .ok (.lreturn, 1) := by decide +kernel
theorem dX8_name_0 : decode cX8_name 0 = .ok (.ldc2_w 102, 3) := by decide +kernel
theorem dX8_name_3 : decode cX8_name 3 = .ok (.ldc2_w 102, 3) := by decide +kernel
theorem dX8_name_6 : decode cX8_name 6 = .ok (.ldc2_w 102, 3) := by decide +kernel
theorem dX8_name_9 : decode cX8_name 9 = .ok (.iload_n 0, 1) := by decide +kernel
theorem dX8_name_10 : decode cX8_name 10 = .ok (.i2l, 1) := by decide +kernel
theorem dX8_name_11 : decode cX8_name 11 = .ok (.lmul, 1) := by decide +kernel
theorem dX8_name_12 : decode cX8_name 12 = .ok (.iload_n 1, 1) := by decide +kernel
theorem dX8_name_13 : decode cX8_name 13 = .ok (.i2l, 1) := by decide +kernel
theorem dX8_name_14 : decode cX8_name 14 = .ok (.ladd, 1) := by decide +kernel
theorem dX8_name_15 : decode cX8_name 15 = .ok (.lmul, 1) := by decide +kernel
theorem dX8_name_16 : decode cX8_name 16 = .ok (.iload_n 2, 1) := by decide +kernel
theorem dX8_name_17 : decode cX8_name 17 = .ok (.i2l, 1) := by decide +kernel
theorem dX8_name_18 : decode cX8_name 18 = .ok (.ladd, 1) := by decide +kernel
theorem dX8_name_19 : decode cX8_name 19 = .ok (.lmul, 1) := by decide +kernel
theorem dX8_name_20 : decode cX8_name 20 = .ok (.iload_n 3, 1) := by decide +kernel
theorem dX8_name_21 : decode cX8_name 21 = .ok (.i2l, 1) := by decide +kernel
theorem dX8_name_22 : decode cX8_name 22 = .ok (.ladd, 1) := by decide +kernel
theorem dX8_name_23 : decode cX8_name 23 = .ok (.lstore 6, 2) := by decide +kernel
theorem dX8_name_25 : decode cX8_name 25 = .ok (.iload 4, 2) := by decide +kernel
theorem dX8_name_27 : decode cX8_name 27 = .ok (.ifCond .ne 8, 3) := by decide +kernel
theorem dX8_name_30 : decode cX8_name 30 = .ok (.lload 6, 2) := by decide +kernel
theorem dX8_name_32 : decode cX8_name 32 = .ok (.goto 13, 3) := by decide +kernel
theorem dX8_name_35 : decode cX8_name 35 = .ok (.ldc2_w 102, 3) := by decide +kernel
theorem dX8_name_38 : decode cX8_name 38 = .ok (.lload 6, 2) := by decide +kernel
theorem dX8_name_40 : decode cX8_name 40 = .ok (.lmul, 1) := by decide +kernel
theorem dX8_name_41 : decode cX8_name 41 = .ok (.iload 4, 2) := by decide +kernel
theorem dX8_name_43 : decode cX8_name 43 = .ok (.i2l, 1) := by decide +kernel
theorem dX8_name_44 : decode cX8_name 44 = .ok (.ladd, 1) := by decide +kernel
theorem dX8_name_45 : decode cX8_name 45 = .ok (.lstore 6, 2) := by decide +kernel
theorem dX8_name_47 : decode cX8_name 47 = .ok (.iload 5, 2) := by decide +kernel
theorem dX8_name_49 : decode cX8_name 49 = .ok (.ifCond .ne 8, 3) := by decide +kernel
theorem dX8_name_52 : decode cX8_name 52 = .ok (.lload 6, 2) := by decide +kernel
theorem dX8_name_54 : decode cX8_name 54 = .ok (.goto 13, 3) := by decide +kernel
theorem dX8_name_57 : decode cX8_name 57 = .ok (.ldc2_w 102, 3) := by decide +kernel
theorem dX8_name_60 : decode cX8_name 60 = .ok (.lload 6, 2) := by decide +kernel
theorem dX8_name_62 : decode cX8_name 62 = .ok (.lmul, 1) := by decide +kernel
theorem dX8_name_63 : decode cX8_name 63 = .ok (.iload 5, 2) := by decide +kernel
theorem dX8_name_65 : decode cX8_name 65 = .ok (.i2l, 1) := by decide +kernel
theorem dX8_name_66 : decode cX8_name 66 = .ok (.ladd, 1) := by decide +kernel
theorem dX8_name_67 : decode cX8_name 67 = .ok (.lreturn, 1) := by decide +kernel
set_option maxRecDepth 20000 in
theorem ggX8_item_X8_word : GoodIn wsX8_item wsX8_word := goodIn_r _ [5, 6, 7, 8, 9, 10, 11, 12, 13, 4, 14, 15, 16, 20, 21, 22, 23, 24, 25, 26, 27, 28, 29, 30, 31, 32, 33, 34, 35, 36, 37, 38, 39] (by decide +kernel) (by decide +kernel)
set_option maxRecDepth 20000 in
theorem gX8_item_X8_word : GoodIn wsX8_item (wsV RX8 106 RX8 yX8_word wsX8_word) := goodIn_app (goodIn_of _ (by decide +kernel)) ggX8_item_X8_word
set_option maxRecDepth 20000 in
theorem ggX8_item_X8_name : GoodIn wsX8_item wsX8_name := goodIn_r _ [19, 8] (by decide +kernel) (by decide +kernel)
set_option maxRecDepth 20000 in
theorem gX8_item_X8_name : GoodIn wsX8_item (va_wsS RX8 110 yX8_name wsX8_name) := goodIn_app (goodIn_of _ (by decide +kernel)) ggX8_item_X8_name
theorem dX8_item_0 : decode cX8_item 0 = .ok (.aload_n 0, 1) := by decide +kernel
theorem dX8_item_1 : decode cX8_item 1 = .ok (.invokevirtual 106, 3) := by decide +kernel
theorem dX8_item_4 : decode cX8_item 4 = .ok (.lstore_n 1, 1) := by decide +kernel
theorem dX8_item_5 : decode cX8_item 5 = .ok (.lload_n 1, 1) := by decide +kernel
theorem dX8_item_6 : decode cX8_item 6 = .ok (.iconst 3, 1) := by decide +kernel
theorem dX8_item_7 : decode cX8_item 7 = .ok (.bipush 8, 2) := by decide +kernel
theorem dX8_item_9 : decode cX8_item 9 = .ok (.iconst 5, 1) := by decide +kernel
theorem dX8_item_10 : decode cX8_item 10 = .ok (.bipush 19, 2) := by decide +kernel
theorem dX8_item_12 : decode cX8_item 12 = .ok (.bipush 20, 2) := by decide +kernel
theorem dX8_item_14 : decode cX8_item 14 = .ok (.iconst 0, 1) := by decide +kernel
theorem dX8_item_15 : decode cX8_item 15 = .ok (.invokestatic 110, 3) := by decide +kernel
theorem dX8_item_18 : decode cX8_item 18 = .ok (.lcmp, 1) := by decide +kernel
theorem dX8_item_19 : decode cX8_item 19 = .ok (.ifCond .ne 7, 3) := by decide +kernel
theorem dX8_item_22 : decode cX8_item 22 = .ok (.iconst 0, 1) := by decide +kernel
theorem dX8_item_23 : decode cX8_item 23 = .ok (.goto 47, 3) := by decide +kernel
theorem dX8_item_26 : decode cX8_item 26 = .ok (.lload_n 1, 1) := by decide +kernel
theorem dX8_item_27 : decode cX8_item 27 = .ok (.bipush 18, 2) := by decide +kernel
theorem dX8_item_29 : decode cX8_item 29 = .ok (.iconst 1, 1) := by decide +kernel
theorem dX8_item_30 : decode cX8_item 30 = .ok (.bipush 20, 2) := by decide +kernel
theorem dX8_item_32 : decode cX8_item 32 = .ok (.iconst 5, 1) := by decide +kernel
theorem dX8_item_33 : decode cX8_item 33 = .ok (.iconst 0, 1) := by decide +kernel
theorem dX8_item_34 : decode cX8_item 34 = .ok (.iconst 0, 1) := by decide +kernel
theorem dX8_item_35 : decode cX8_item 35 = .ok (.invokestatic 110, 3) := by decide +kernel
theorem dX8_item_38 : decode cX8_item 38 = .ok (.lcmp, 1) := by decide +kernel
theorem dX8_item_39 : decode cX8_item 39 = .ok (.ifCond .ne 7, 3) := by decide +kernel
theorem dX8_item_42 : decode cX8_item 42 = .ok (.iconst 1, 1) := by decide +kernel
theorem dX8_item_43 : decode cX8_item 43 = .ok (.goto 27, 3) := by decide +kernel
theorem dX8_item_46 : decode cX8_item 46 = .ok (.lload_n 1, 1) := by decide +kernel
theorem dX8_item_47 : decode cX8_item 47 = .ok (.bipush 16, 2) := by decide +kernel
theorem dX8_item_49 : decode cX8_item 49 = .ok (.iconst 5, 1) := by decide +kernel
theorem dX8_item_50 : decode cX8_item 50 = .ok (.bipush 18, 2) := by decide +kernel
theorem dX8_item_52 : decode cX8_item 52 = .ok (.bipush 19, 2) := by decide +kernel
theorem dX8_item_54 : decode cX8_item 54 = .ok (.bipush 15, 2) := by decide +kernel
theorem dX8_item_56 : decode cX8_item 56 = .ok (.bipush 14, 2) := by decide +kernel
theorem dX8_item_58 : decode cX8_item 58 = .ok (.invokestatic 110, 3) := by decide +kernel
theorem dX8_item_61 : decode cX8_item 61 = .ok (.lcmp, 1) := by decide +kernel
theorem dX8_item_62 : decode cX8_item 62 = .ok (.ifCond .ne 7, 3) := by decide +kernel
theorem dX8_item_65 : decode cX8_item 65 = .ok (.iconst 2, 1) := by decide +kernel
theorem dX8_item_66 : decode cX8_item 66 = .ok (.goto 4, 3) := by decide +kernel
theorem dX8_item_69 : decode cX8_item 69 = .ok (.iconst (-1), 1) := by decide +kernel
theorem dX8_item_70 : decode cX8_item 70 = .ok (.istore_n 3, 1) := by decide +kernel
theorem dX8_item_71 : decode cX8_item 71 = .ok (.lload_n 1, 1) := by decide +kernel
theorem dX8_item_72 : decode cX8_item 72 = .ok (.bipush 12, 2) := by decide +kernel
theorem dX8_item_74 : decode cX8_item 74 = .ok (.bipush 15, 2) := by decide +kernel
theorem dX8_item_76 : decode cX8_item 76 = .ok (.iconst 1, 1) := by decide +kernel
theorem dX8_item_77 : decode cX8_item 77 = .ok (.bipush 14, 2) := by decide +kernel
theorem dX8_item_79 : decode cX8_item 79 = .ok (.iconst 0, 1) := by decide +kernel
theorem dX8_item_80 : decode cX8_item 80 = .ok (.iconst 0, 1) := by decide +kernel
theorem dX8_item_81 : decode cX8_item 81 = .ok (.invokestatic 110, 3) := by decide +kernel
theorem dX8_item_84 : decode cX8_item 84 = .ok (.lcmp, 1) := by decide +kernel
theorem dX8_item_85 : decode cX8_item 85 = .ok (.ifCond .ne 7, 3) := by decide +kernel
theorem dX8_item_88 : decode cX8_item 88 = .ok (.iconst 3, 1) := by decide +kernel
theorem dX8_item_89 : decode cX8_item 89 = .ok (.goto 26, 3) := by decide +kernel
theorem dX8_item_92 : decode cX8_item 92 = .ok (.lload_n 1, 1) := by decide +kernel
theorem dX8_item_93 : decode cX8_item 93 = .ok (.bipush 15, 2) := by decide +kernel
theorem dX8_item_95 : decode cX8_item 95 = .ok (.bipush 6, 2) := by decide +kernel
theorem dX8_item_97 : decode cX8_item 97 = .ok (.bipush 6, 2) := by decide +kernel
theorem dX8_item_99 : decode cX8_item 99 = .ok (.iconst 5, 1) := by decide +kernel
theorem dX8_item_100 : decode cX8_item 100 = .ok (.bipush 18, 2) := by decide +kernel
theorem dX8_item_102 : decode cX8_item 102 = .ok (.iconst 0, 1) := by decide +kernel
theorem dX8_item_103 : decode cX8_item 103 = .ok (.invokestatic 110, 3) := by decide +kernel
theorem dX8_item_106 : decode cX8_item 106 = .ok (.lcmp, 1) := by decide +kernel
theorem dX8_item_107 : decode cX8_item 107 = .ok (.ifCond .ne 7, 3) := by decide +kernel
theorem dX8_item_110 : decode cX8_item 110 = .ok (.iconst 4, 1) := by decide +kernel
theorem dX8_item_111 : decode cX8_item 111 = .ok (.goto 4, 3) := by decide +kernel
theorem dX8_item_114 : decode cX8_item 114 = .ok (.iload_n 3, 1) := by decide +kernel
theorem dX8_item_115 : decode cX8_item 115 = .ok (.ireturn, 1) := by decide +kernel
set_option maxRecDepth 20000 in
theorem ggX8_figure_X8_token : GoodIn wsX8_figure wsX8_token := goodIn_r _ [8, 9, 3, 1, 2, 10, 11, 12, 7, 13, 14, 15, 16, 17, 18, 19, 20, 21, 22, 23, 24, 25, 26, 27, 28, 29, 30, 31, 32, 33, 34, 35, 36, 37, 38, 39, 40, 41] (by decide +kernel) (by decide +kernel)
set_option maxRecDepth 20000 in
theorem gX8_figure_X8_token : GoodIn wsX8_figure (wsV RX8 114 RX8 yX8_token wsX8_token) := goodIn_app (goodIn_of _ (by decide +kernel)) ggX8_figure_X8_token
set_option maxRecDepth 20000 in
theorem ggX8_figure_X8_byteAt : GoodIn wsX8_figure wsX8_byteAt := goodIn_r _ [13, 14, 15, 22, 23, 24, 25, 26, 27, 28, 29, 30, 31, 32, 33, 34, 35, 36, 37, 38, 39, 40, 41] (by decide +kernel) (by decide +kernel)
set_option maxRecDepth 20000 in
theorem gX8_figure_X8_byteAt : GoodIn wsX8_figure (wsV RX8 86 RX8 yX8_byteAt wsX8_byteAt) := goodIn_app (goodIn_of _ (by decide +kernel)) ggX8_figure_X8_byteAt
set_option maxRecDepth 20000 in
theorem ggX8_figure_X8_in : GoodIn wsX8_figure wsX8_in := goodIn_r _ [21] (by decide +kernel) (by decide +kernel)
set_option maxRecDepth 20000 in
theorem gX8_figure_X8_in : GoodIn wsX8_figure (va_wsS RX8 52 yX8_in wsX8_in) := goodIn_app (goodIn_of _ (by decide +kernel)) ggX8_figure_X8_in
theorem dX8_figure_0 : decode cX8_figure 0 = .ok (.aload_n 0, 1) := by decide +kernel
theorem dX8_figure_1 : decode cX8_figure 1 = .ok (.invokevirtual 114, 3) := by decide +kernel
theorem dX8_figure_4 : decode cX8_figure 4 = .ok (.iconst 0, 1) := by decide +kernel
theorem dX8_figure_5 : decode cX8_figure 5 = .ok (.istore_n 3, 1) := by decide +kernel
theorem dX8_figure_6 : decode cX8_figure 6 = .ok (.iconst 0, 1) := by decide +kernel
theorem dX8_figure_7 : decode cX8_figure 7 = .ok (.istore 4, 2) := by decide +kernel
theorem dX8_figure_9 : decode cX8_figure 9 = .ok (.iload 4, 2) := by decide +kernel
theorem dX8_figure_11 : decode cX8_figure 11 = .ok (.aload_n 0, 1) := by decide +kernel
theorem dX8_figure_12 : decode cX8_figure 12 = .ok (.getfield 93, 3) := by decide +kernel
theorem dX8_figure_15 : decode cX8_figure 15 = .ok (.if_icmp .ge 46, 3) := by decide +kernel
theorem dX8_figure_18 : decode cX8_figure 18 = .ok (.aload_n 0, 1) := by decide +kernel
theorem dX8_figure_19 : decode cX8_figure 19 = .ok (.getfield 93, 3) := by decide +kernel
theorem dX8_figure_22 : decode cX8_figure 22 = .ok (.bipush 6, 2) := by decide +kernel
theorem dX8_figure_24 : decode cX8_figure 24 = .ok (.if_icmp .ge 37, 3) := by decide +kernel
theorem dX8_figure_27 : decode cX8_figure 27 = .ok (.aload_n 0, 1) := by decide +kernel
theorem dX8_figure_28 : decode cX8_figure 28 = .ok (.getfield 99, 3) := by decide +kernel
theorem dX8_figure_31 : decode cX8_figure 31 = .ok (.iconst 2, 1) := by decide +kernel
theorem dX8_figure_32 : decode cX8_figure 32 = .ok (.if_icmp .ne 29, 3) := by decide +kernel
theorem dX8_figure_35 : decode cX8_figure 35 = .ok (.bipush 10, 2) := by decide +kernel
theorem dX8_figure_37 : decode cX8_figure 37 = .ok (.iload_n 3, 1) := by decide +kernel
theorem dX8_figure_38 : decode cX8_figure 38 = .ok (.imul, 1) := by decide +kernel
theorem dX8_figure_39 : decode cX8_figure 39 = .ok (.aload_n 0, 1) := by decide +kernel
theorem dX8_figure_40 : decode cX8_figure 40 = .ok (.aload_n 0, 1) := by decide +kernel
theorem dX8_figure_41 : decode cX8_figure 41 = .ok (.getfield 90, 3) := by decide +kernel
theorem dX8_figure_44 : decode cX8_figure 44 = .ok (.iload 4, 2) := by decide +kernel
theorem dX8_figure_46 : decode cX8_figure 46 = .ok (.iadd, 1) := by decide +kernel
theorem dX8_figure_47 : decode cX8_figure 47 = .ok (.invokevirtual 86, 3) := by decide +kernel
theorem dX8_figure_50 : decode cX8_figure 50 = .ok (.iadd, 1) := by decide +kernel
theorem dX8_figure_51 : decode cX8_figure 51 = .ok (.bipush 48, 2) := by decide +kernel
theorem dX8_figure_53 : decode cX8_figure 53 = .ok (.isub, 1) := by decide +kernel
theorem dX8_figure_54 : decode cX8_figure 54 = .ok (.istore_n 3, 1) := by decide +kernel
theorem dX8_figure_55 : decode cX8_figure 55 = .ok (.iinc 4 1, 3) := by decide +kernel
theorem dX8_figure_58 : decode cX8_figure 58 = .ok (.goto (-49), 3) := by decide +kernel
theorem dX8_figure_61 : decode cX8_figure 61 = .ok (.aload_n 0, 1) := by decide +kernel
theorem dX8_figure_62 : decode cX8_figure 62 = .ok (.getfield 99, 3) := by decide +kernel
theorem dX8_figure_65 : decode cX8_figure 65 = .ok (.iconst 2, 1) := by decide +kernel
theorem dX8_figure_66 : decode cX8_figure 66 = .ok (.if_icmp .ne 25, 3) := by decide +kernel
theorem dX8_figure_69 : decode cX8_figure 69 = .ok (.aload_n 0, 1) := by decide +kernel
theorem dX8_figure_70 : decode cX8_figure 70 = .ok (.getfield 93, 3) := by decide +kernel
theorem dX8_figure_73 : decode cX8_figure 73 = .ok (.bipush 6, 2) := by decide +kernel
theorem dX8_figure_75 : decode cX8_figure 75 = .ok (.if_icmp .ge 16, 3) := by decide +kernel
theorem dX8_figure_78 : decode cX8_figure 78 = .ok (.iload_n 3, 1) := by decide +kernel
theorem dX8_figure_79 : decode cX8_figure 79 = .ok (.iload_n 1, 1) := by decide +kernel
theorem dX8_figure_80 : decode cX8_figure 80 = .ok (.iload_n 2, 1) := by decide +kernel
theorem dX8_figure_81 : decode cX8_figure 81 = .ok (.invokestatic 52, 3) := by decide +kernel
theorem dX8_figure_84 : decode cX8_figure 84 = .ok (.ifCond .eq 7, 3) := by decide +kernel
theorem dX8_figure_87 : decode cX8_figure 87 = .ok (.iload_n 3, 1) := by decide +kernel
theorem dX8_figure_88 : decode cX8_figure 88 = .ok (.goto 4, 3) := by decide +kernel
theorem dX8_figure_91 : decode cX8_figure 91 = .ok (.iconst (-1), 1) := by decide +kernel
theorem dX8_figure_92 : decode cX8_figure 92 = .ok (.ireturn, 1) := by decide +kernel
theorem dX8_mayBegin_0 : decode cX8_mayBegin 0 = .ok (.iload_n 1, 1) := by decide +kernel
theorem dX8_mayBegin_1 : decode cX8_mayBegin 1 = .ok (.iconst (-1), 1) := by decide +kernel
theorem dX8_mayBegin_2 : decode cX8_mayBegin 2 = .ok (.if_icmp .eq 24, 3) := by decide +kernel
theorem dX8_mayBegin_5 : decode cX8_mayBegin 5 = .ok (.iload_n 1, 1) := by decide +kernel
theorem dX8_mayBegin_6 : decode cX8_mayBegin 6 = .ok (.ifCond .ne 7, 3) := by decide +kernel
theorem dX8_mayBegin_9 : decode cX8_mayBegin 9 = .ok (.iconst 1, 1) := by decide +kernel
theorem dX8_mayBegin_10 : decode cX8_mayBegin 10 = .ok (.goto 4, 3) := by decide +kernel
theorem dX8_mayBegin_13 : decode cX8_mayBegin 13 = .ok (.iconst 0, 1) := by decide +kernel
theorem dX8_mayBegin_14 : decode cX8_mayBegin 14 = .ok (.iload_n 2, 1) := by decide +kernel
theorem dX8_mayBegin_15 : decode cX8_mayBegin 15 = .ok (.ifCond .ne 7, 3) := by decide +kernel
theorem dX8_mayBegin_18 : decode cX8_mayBegin 18 = .ok (.iconst 1, 1) := by decide +kernel
theorem dX8_mayBegin_19 : decode cX8_mayBegin 19 = .ok (.goto 4, 3) := by decide +kernel
theorem dX8_mayBegin_22 : decode cX8_mayBegin 22 = .ok (.iconst 0, 1) := by decide +kernel
theorem dX8_mayBegin_23 : decode cX8_mayBegin 23 = .ok (.if_icmp .eq 5, 3) := by decide +kernel
theorem dX8_mayBegin_26 : decode cX8_mayBegin 26 = .ok (.iconst 0, 1) := by decide +kernel
theorem dX8_mayBegin_27 : decode cX8_mayBegin 27 = .ok (.ireturn, 1) := by decide +kernel
theorem dX8_mayBegin_28 : decode cX8_mayBegin 28 = .ok (.iload_n 1, 1) := by decide +kernel
theorem dX8_mayBegin_29 : decode cX8_mayBegin 29 = .ok (.iconst 2, 1) := by decide +kernel
theorem dX8_mayBegin_30 : decode cX8_mayBegin 30 = .ok (.if_icmp .lt 42, 3) := by decide +kernel
theorem dX8_mayBegin_33 : decode cX8_mayBegin 33 = .ok (.aload_n 0, 1) := by decide +kernel
theorem dX8_mayBegin_34 : decode cX8_mayBegin 34 = .ok (.getfield 16, 3) := by decide +kernel
theorem dX8_mayBegin_37 : decode cX8_mayBegin 37 = .ok (.iload_n 1, 1) := by decide +kernel
theorem dX8_mayBegin_38 : decode cX8_mayBegin 38 = .ok (.iconst 2, 1) := by decide +kernel
theorem dX8_mayBegin_39 : decode cX8_mayBegin 39 = .ok (.if_icmp .ne 7, 3) := by decide +kernel
theorem dX8_mayBegin_42 : decode cX8_mayBegin 42 = .ok (.iconst 3, 1) := by decide +kernel
theorem dX8_mayBegin_43 : decode cX8_mayBegin 43 = .ok (.goto 13, 3) := by decide +kernel
theorem dX8_mayBegin_46 : decode cX8_mayBegin 46 = .ok (.iload_n 1, 1) := by decide +kernel
theorem dX8_mayBegin_47 : decode cX8_mayBegin 47 = .ok (.iconst 3, 1) := by decide +kernel
theorem dX8_mayBegin_48 : decode cX8_mayBegin 48 = .ok (.if_icmp .ne 7, 3) := by decide +kernel
theorem dX8_mayBegin_51 : decode cX8_mayBegin 51 = .ok (.iconst 4, 1) := by decide +kernel
theorem dX8_mayBegin_52 : decode cX8_mayBegin 52 = .ok (.goto 4, 3) := by decide +kernel
theorem dX8_mayBegin_55 : decode cX8_mayBegin 55 = .ok (.iconst 5, 1) := by decide +kernel
theorem dX8_mayBegin_56 : decode cX8_mayBegin 56 = .ok (.iaload, 1) := by decide +kernel
theorem dX8_mayBegin_57 : decode cX8_mayBegin 57 = .ok (.iload_n 1, 1) := by decide +kernel
theorem dX8_mayBegin_58 : decode cX8_mayBegin 58 = .ok (.iconst 2, 1) := by decide +kernel
theorem dX8_mayBegin_59 : decode cX8_mayBegin 59 = .ok (.if_icmp .ne 8, 3) := by decide +kernel
theorem dX8_mayBegin_62 : decode cX8_mayBegin 62 = .ok (.bipush 6, 2) := by decide +kernel
theorem dX8_mayBegin_64 : decode cX8_mayBegin 64 = .ok (.goto 5, 3) := by decide +kernel
theorem dX8_mayBegin_67 : decode cX8_mayBegin 67 = .ok (.bipush 8, 2) := by decide +kernel
theorem dX8_mayBegin_69 : decode cX8_mayBegin 69 = .ok (.if_icmp .ge 7, 3) := by decide +kernel
theorem dX8_mayBegin_72 : decode cX8_mayBegin 72 = .ok (.iconst 1, 1) := by decide +kernel
theorem dX8_mayBegin_73 : decode cX8_mayBegin 73 = .ok (.goto 4, 3) := by decide +kernel
theorem dX8_mayBegin_76 : decode cX8_mayBegin 76 = .ok (.iconst 0, 1) := by decide +kernel
theorem dX8_mayBegin_77 : decode cX8_mayBegin 77 = .ok (.ireturn, 1) := by decide +kernel
set_option maxRecDepth 20000 in
theorem ggX8_readsOne_X8_figure : GoodIn wsX8_readsOne wsX8_figure := goodIn_r _ [7, 8, 9, 10, 11, 12, 13, 6, 14, 15, 16, 17, 18, 19, 20, 21, 22, 23, 24, 25, 26, 27, 28, 29, 30, 31, 32, 33, 34, 35, 36, 37, 38, 39, 40, 41, 42, 43, 44, 45, 46, 47] (by decide +kernel) (by decide +kernel)
set_option maxRecDepth 20000 in
theorem gX8_readsOne_X8_figure : GoodIn wsX8_readsOne (wsV RX8 117 RX8 yX8_figure wsX8_figure) := goodIn_app (goodIn_of _ (by decide +kernel)) ggX8_readsOne_X8_figure
theorem dX8_readsOne_0 : decode cX8_readsOne 0 = .ok (.aload_n 0, 1) := by decide +kernel
theorem dX8_readsOne_1 : decode cX8_readsOne 1 = .ok (.iconst 0, 1) := by decide +kernel
theorem dX8_readsOne_2 : decode cX8_readsOne 2 = .ok (.iload_n 1, 1) := by decide +kernel
theorem dX8_readsOne_3 : decode cX8_readsOne 3 = .ok (.ifCond .ne 8, 3) := by decide +kernel
theorem dX8_readsOne_6 : decode cX8_readsOne 6 = .ok (.ldc 56, 2) := by decide +kernel
theorem dX8_readsOne_8 : decode cX8_readsOne 8 = .ok (.goto 5, 3) := by decide +kernel
theorem dX8_readsOne_11 : decode cX8_readsOne 11 = .ok (.bipush 50, 2) := by decide +kernel
theorem dX8_readsOne_13 : decode cX8_readsOne 13 = .ok (.invokevirtual 117, 3) := by decide +kernel
theorem dX8_readsOne_16 : decode cX8_readsOne 16 = .ok (.istore_n 2, 1) := by decide +kernel
theorem dX8_readsOne_17 : decode cX8_readsOne 17 = .ok (.iload_n 2, 1) := by decide +kernel
theorem dX8_readsOne_18 : decode cX8_readsOne 18 = .ok (.iconst (-1), 1) := by decide +kernel
theorem dX8_readsOne_19 : decode cX8_readsOne 19 = .ok (.if_icmp .ne 5, 3) := by decide +kernel
theorem dX8_readsOne_22 : decode cX8_readsOne 22 = .ok (.iconst 0, 1) := by decide +kernel
theorem dX8_readsOne_23 : decode cX8_readsOne 23 = .ok (.ireturn, 1) := by decide +kernel
theorem dX8_readsOne_24 : decode cX8_readsOne 24 = .ok (.aload_n 0, 1) := by decide +kernel
theorem dX8_readsOne_25 : decode cX8_readsOne 25 = .ok (.getfield 16, 3) := by decide +kernel
theorem dX8_readsOne_28 : decode cX8_readsOne 28 = .ok (.iload_n 1, 1) := by decide +kernel
theorem dX8_readsOne_29 : decode cX8_readsOne 29 = .ok (.ifCond .ne 7, 3) := by decide +kernel
theorem dX8_readsOne_32 : decode cX8_readsOne 32 = .ok (.iconst 0, 1) := by decide +kernel
theorem dX8_readsOne_33 : decode cX8_readsOne 33 = .ok (.goto 4, 3) := by decide +kernel
theorem dX8_readsOne_36 : decode cX8_readsOne 36 = .ok (.iconst 1, 1) := by decide +kernel
theorem dX8_readsOne_37 : decode cX8_readsOne 37 = .ok (.iload_n 2, 1) := by decide +kernel
theorem dX8_readsOne_38 : decode cX8_readsOne 38 = .ok (.iastore, 1) := by decide +kernel
theorem dX8_readsOne_39 : decode cX8_readsOne 39 = .ok (.iconst 1, 1) := by decide +kernel
theorem dX8_readsOne_40 : decode cX8_readsOne 40 = .ok (.ireturn, 1) := by decide +kernel
set_option maxRecDepth 20000 in
theorem ggX8_readsItem_X8_readsOne : GoodIn wsX8_readsItem wsX8_readsOne := goodIn_r _ [6, 7, 1, 8, 9, 10, 5, 11, 12, 13, 14, 15, 16, 17, 18, 19, 20, 21, 22, 23, 24, 25, 26, 27, 28, 29, 30, 31, 41, 42, 43, 44, 45, 46, 47, 48, 49, 50, 51, 52, 53, 54, 55, 56, 57, 58, 59, 60] (by decide +kernel) (by decide +kernel)
set_option maxRecDepth 20000 in
theorem gX8_readsItem_X8_readsOne : GoodIn wsX8_readsItem (wsV RX8 121 RX8 yX8_readsOne wsX8_readsOne) := goodIn_app (goodIn_of _ (by decide +kernel)) ggX8_readsItem_X8_readsOne
set_option maxRecDepth 20000 in
theorem ggX8_readsItem_X8_figure : GoodIn wsX8_readsItem wsX8_figure := goodIn_r _ [11, 12, 13, 14, 15, 16, 17, 5, 18, 19, 20, 21, 22, 23, 24, 25, 26, 27, 28, 29, 30, 31, 41, 42, 43, 44, 45, 46, 47, 48, 49, 50, 51, 52, 53, 54, 55, 56, 57, 58, 59, 60] (by decide +kernel) (by decide +kernel)
set_option maxRecDepth 20000 in
theorem gX8_readsItem_X8_figure : GoodIn wsX8_readsItem (wsV RX8 117 RX8 yX8_figure wsX8_figure) := goodIn_app (goodIn_of _ (by decide +kernel)) ggX8_readsItem_X8_figure
set_option maxRecDepth 20000 in
theorem ggX8_readsItem_X8_addPerson : GoodIn wsX8_readsItem wsX8_addPerson := goodIn_r _ [34] (by decide +kernel) (by decide +kernel)
set_option maxRecDepth 20000 in
theorem gX8_readsItem_X8_addPerson : GoodIn wsX8_readsItem (va_wsS RX8 64 yX8_addPerson wsX8_addPerson) := goodIn_app (goodIn_of _ (by decide +kernel)) ggX8_readsItem_X8_addPerson
set_option maxRecDepth 20000 in
theorem ggX8_readsItem_X8_addLoan : GoodIn wsX8_readsItem wsX8_addLoan := goodIn_r _ [37] (by decide +kernel) (by decide +kernel)
set_option maxRecDepth 20000 in
theorem gX8_readsItem_X8_addLoan : GoodIn wsX8_readsItem (va_wsS RX8 72 yX8_addLoan wsX8_addLoan) := goodIn_app (goodIn_of _ (by decide +kernel)) ggX8_readsItem_X8_addLoan
set_option maxRecDepth 20000 in
theorem ggX8_readsItem_X8_addOffer : GoodIn wsX8_readsItem wsX8_addOffer := goodIn_r _ [40] (by decide +kernel) (by decide +kernel)
set_option maxRecDepth 20000 in
theorem gX8_readsItem_X8_addOffer : GoodIn wsX8_readsItem (va_wsS RX8 75 yX8_addOffer wsX8_addOffer) := goodIn_app (goodIn_of _ (by decide +kernel)) ggX8_readsItem_X8_addOffer
theorem dX8_readsItem_0 : decode cX8_readsItem 0 = .ok (.iload_n 1, 1) := by decide +kernel
theorem dX8_readsItem_1 : decode cX8_readsItem 1 = .ok (.iconst 2, 1) := by decide +kernel
theorem dX8_readsItem_2 : decode cX8_readsItem 2 = .ok (.if_icmp .ge 9, 3) := by decide +kernel
theorem dX8_readsItem_5 : decode cX8_readsItem 5 = .ok (.aload_n 0, 1) := by decide +kernel
theorem dX8_readsItem_6 : decode cX8_readsItem 6 = .ok (.iload_n 1, 1) := by decide +kernel
theorem dX8_readsItem_7 : decode cX8_readsItem 7 = .ok (.invokevirtual 121, 3) := by decide +kernel
theorem dX8_readsItem_10 : decode cX8_readsItem 10 = .ok (.ireturn, 1) := by decide +kernel
theorem dX8_readsItem_11 : decode cX8_readsItem 11 = .ok (.iload_n 1, 1) := by decide +kernel
theorem dX8_readsItem_12 : decode cX8_readsItem 12 = .ok (.iconst 2, 1) := by decide +kernel
theorem dX8_readsItem_13 : decode cX8_readsItem 13 = .ok (.if_icmp .ne 12, 3) := by decide +kernel
theorem dX8_readsItem_16 : decode cX8_readsItem 16 = .ok (.aload_n 0, 1) := by decide +kernel
theorem dX8_readsItem_17 : decode cX8_readsItem 17 = .ok (.iconst 0, 1) := by decide +kernel
theorem dX8_readsItem_18 : decode cX8_readsItem 18 = .ok (.iconst 5, 1) := by decide +kernel
theorem dX8_readsItem_19 : decode cX8_readsItem 19 = .ok (.invokevirtual 117, 3) := by decide +kernel
theorem dX8_readsItem_22 : decode cX8_readsItem 22 = .ok (.goto 25, 3) := by decide +kernel
theorem dX8_readsItem_25 : decode cX8_readsItem 25 = .ok (.iload_n 1, 1) := by decide +kernel
theorem dX8_readsItem_26 : decode cX8_readsItem 26 = .ok (.iconst 3, 1) := by decide +kernel
theorem dX8_readsItem_27 : decode cX8_readsItem 27 = .ok (.if_icmp .ne 19, 3) := by decide +kernel
theorem dX8_readsItem_30 : decode cX8_readsItem 30 = .ok (.aload_n 0, 1) := by decide +kernel
theorem dX8_readsItem_31 : decode cX8_readsItem 31 = .ok (.iconst 0, 1) := by decide +kernel
theorem dX8_readsItem_32 : decode cX8_readsItem 32 = .ok (.aload_n 0, 1) := by decide +kernel
theorem dX8_readsItem_33 : decode cX8_readsItem 33 = .ok (.getfield 16, 3) := by decide +kernel
theorem dX8_readsItem_36 : decode cX8_readsItem 36 = .ok (.iconst 3, 1) := by decide +kernel
theorem dX8_readsItem_37 : decode cX8_readsItem 37 = .ok (.iaload, 1) := by decide +kernel
theorem dX8_readsItem_38 : decode cX8_readsItem 38 = .ok (.iconst 1, 1) := by decide +kernel
theorem dX8_readsItem_39 : decode cX8_readsItem 39 = .ok (.isub, 1) := by decide +kernel
theorem dX8_readsItem_40 : decode cX8_readsItem 40 = .ok (.invokevirtual 117, 3) := by decide +kernel
theorem dX8_readsItem_43 : decode cX8_readsItem 43 = .ok (.goto 4, 3) := by decide +kernel
theorem dX8_readsItem_46 : decode cX8_readsItem 46 = .ok (.iconst 0, 1) := by decide +kernel
theorem dX8_readsItem_47 : decode cX8_readsItem 47 = .ok (.istore_n 2, 1) := by decide +kernel
theorem dX8_readsItem_48 : decode cX8_readsItem 48 = .ok (.iload_n 2, 1) := by decide +kernel
theorem dX8_readsItem_49 : decode cX8_readsItem 49 = .ok (.iconst (-1), 1) := by decide +kernel
theorem dX8_readsItem_50 : decode cX8_readsItem 50 = .ok (.if_icmp .ne 5, 3) := by decide +kernel
theorem dX8_readsItem_53 : decode cX8_readsItem 53 = .ok (.iconst 0, 1) := by decide +kernel
theorem dX8_readsItem_54 : decode cX8_readsItem 54 = .ok (.ireturn, 1) := by decide +kernel
theorem dX8_readsItem_55 : decode cX8_readsItem 55 = .ok (.iload_n 1, 1) := by decide +kernel
theorem dX8_readsItem_56 : decode cX8_readsItem 56 = .ok (.iconst 2, 1) := by decide +kernel
theorem dX8_readsItem_57 : decode cX8_readsItem 57 = .ok (.if_icmp .ne 13, 3) := by decide +kernel
theorem dX8_readsItem_60 : decode cX8_readsItem 60 = .ok (.aload_n 0, 1) := by decide +kernel
theorem dX8_readsItem_61 : decode cX8_readsItem 61 = .ok (.iconst 0, 1) := by decide +kernel
theorem dX8_readsItem_62 : decode cX8_readsItem 62 = .ok (.bipush 99, 2) := by decide +kernel
theorem dX8_readsItem_64 : decode cX8_readsItem 64 = .ok (.invokevirtual 117, 3) := by decide +kernel
theorem dX8_readsItem_67 : decode cX8_readsItem 67 = .ok (.goto 10, 3) := by decide +kernel
theorem dX8_readsItem_70 : decode cX8_readsItem 70 = .ok (.aload_n 0, 1) := by decide +kernel
theorem dX8_readsItem_71 : decode cX8_readsItem 71 = .ok (.iconst 1, 1) := by decide +kernel
theorem dX8_readsItem_72 : decode cX8_readsItem 72 = .ok (.bipush 99, 2) := by decide +kernel
theorem dX8_readsItem_74 : decode cX8_readsItem 74 = .ok (.invokevirtual 117, 3) := by decide +kernel
theorem dX8_readsItem_77 : decode cX8_readsItem 77 = .ok (.istore_n 3, 1) := by decide +kernel
theorem dX8_readsItem_78 : decode cX8_readsItem 78 = .ok (.iload_n 3, 1) := by decide +kernel
theorem dX8_readsItem_79 : decode cX8_readsItem 79 = .ok (.iconst (-1), 1) := by decide +kernel
theorem dX8_readsItem_80 : decode cX8_readsItem 80 = .ok (.if_icmp .ne 5, 3) := by decide +kernel
theorem dX8_readsItem_83 : decode cX8_readsItem 83 = .ok (.iconst 0, 1) := by decide +kernel
theorem dX8_readsItem_84 : decode cX8_readsItem 84 = .ok (.ireturn, 1) := by decide +kernel
theorem dX8_readsItem_85 : decode cX8_readsItem 85 = .ok (.iload_n 1, 1) := by decide +kernel
theorem dX8_readsItem_86 : decode cX8_readsItem 86 = .ok (.iconst 2, 1) := by decide +kernel
theorem dX8_readsItem_87 : decode cX8_readsItem 87 = .ok (.if_icmp .ne 14, 3) := by decide +kernel
theorem dX8_readsItem_90 : decode cX8_readsItem 90 = .ok (.aload_n 0, 1) := by decide +kernel
theorem dX8_readsItem_91 : decode cX8_readsItem 91 = .ok (.iconst 0, 1) := by decide +kernel
theorem dX8_readsItem_92 : decode cX8_readsItem 92 = .ok (.sipush 9999, 3) := by decide +kernel
theorem dX8_readsItem_95 : decode cX8_readsItem 95 = .ok (.invokevirtual 117, 3) := by decide +kernel
theorem dX8_readsItem_98 : decode cX8_readsItem 98 = .ok (.goto 10, 3) := by decide +kernel
theorem dX8_readsItem_101 : decode cX8_readsItem 101 = .ok (.aload_n 0, 1) := by decide +kernel
theorem dX8_readsItem_102 : decode cX8_readsItem 102 = .ok (.iconst 1, 1) := by decide +kernel
theorem dX8_readsItem_103 : decode cX8_readsItem 103 = .ok (.bipush 12, 2) := by decide +kernel
theorem dX8_readsItem_105 : decode cX8_readsItem 105 = .ok (.invokevirtual 117, 3) := by decide +kernel
theorem dX8_readsItem_108 : decode cX8_readsItem 108 = .ok (.istore 4, 2) := by decide +kernel
theorem dX8_readsItem_110 : decode cX8_readsItem 110 = .ok (.iload 4, 2) := by decide +kernel
theorem dX8_readsItem_112 : decode cX8_readsItem 112 = .ok (.iconst (-1), 1) := by decide +kernel
theorem dX8_readsItem_113 : decode cX8_readsItem 113 = .ok (.if_icmp .ne 5, 3) := by decide +kernel
theorem dX8_readsItem_116 : decode cX8_readsItem 116 = .ok (.iconst 0, 1) := by decide +kernel
theorem dX8_readsItem_117 : decode cX8_readsItem 117 = .ok (.ireturn, 1) := by decide +kernel
theorem dX8_readsItem_118 : decode cX8_readsItem 118 = .ok (.iload_n 1, 1) := by decide +kernel
theorem dX8_readsItem_119 : decode cX8_readsItem 119 = .ok (.iconst 2, 1) := by decide +kernel
theorem dX8_readsItem_120 : decode cX8_readsItem 120 = .ok (.if_icmp .ne 17, 3) := by decide +kernel
theorem dX8_readsItem_123 : decode cX8_readsItem 123 = .ok (.aload_n 0, 1) := by decide +kernel
theorem dX8_readsItem_124 : decode cX8_readsItem 124 = .ok (.getfield 16, 3) := by decide +kernel
theorem dX8_readsItem_127 : decode cX8_readsItem 127 = .ok (.iload_n 2, 1) := by decide +kernel
theorem dX8_readsItem_128 : decode cX8_readsItem 128 = .ok (.iload_n 3, 1) := by decide +kernel
theorem dX8_readsItem_129 : decode cX8_readsItem 129 = .ok (.iload 4, 2) := by decide +kernel
theorem dX8_readsItem_131 : decode cX8_readsItem 131 = .ok (.invokestatic 64, 3) := by decide +kernel
theorem dX8_readsItem_134 : decode cX8_readsItem 134 = .ok (.goto 32, 3) := by decide +kernel
theorem dX8_readsItem_137 : decode cX8_readsItem 137 = .ok (.iload_n 1, 1) := by decide +kernel
theorem dX8_readsItem_138 : decode cX8_readsItem 138 = .ok (.iconst 3, 1) := by decide +kernel
theorem dX8_readsItem_139 : decode cX8_readsItem 139 = .ok (.if_icmp .ne 17, 3) := by decide +kernel
theorem dX8_readsItem_142 : decode cX8_readsItem 142 = .ok (.aload_n 0, 1) := by decide +kernel
theorem dX8_readsItem_143 : decode cX8_readsItem 143 = .ok (.getfield 16, 3) := by decide +kernel
theorem dX8_readsItem_146 : decode cX8_readsItem 146 = .ok (.iload_n 2, 1) := by decide +kernel
theorem dX8_readsItem_147 : decode cX8_readsItem 147 = .ok (.iload_n 3, 1) := by decide +kernel
theorem dX8_readsItem_148 : decode cX8_readsItem 148 = .ok (.iload 4, 2) := by decide +kernel
theorem dX8_readsItem_150 : decode cX8_readsItem 150 = .ok (.invokestatic 72, 3) := by decide +kernel
theorem dX8_readsItem_153 : decode cX8_readsItem 153 = .ok (.goto 13, 3) := by decide +kernel
theorem dX8_readsItem_156 : decode cX8_readsItem 156 = .ok (.aload_n 0, 1) := by decide +kernel
theorem dX8_readsItem_157 : decode cX8_readsItem 157 = .ok (.getfield 16, 3) := by decide +kernel
theorem dX8_readsItem_160 : decode cX8_readsItem 160 = .ok (.iload_n 3, 1) := by decide +kernel
theorem dX8_readsItem_161 : decode cX8_readsItem 161 = .ok (.iload 4, 2) := by decide +kernel
theorem dX8_readsItem_163 : decode cX8_readsItem 163 = .ok (.invokestatic 75, 3) := by decide +kernel
theorem dX8_readsItem_166 : decode cX8_readsItem 166 = .ok (.iconst 1, 1) := by decide +kernel
theorem dX8_readsItem_167 : decode cX8_readsItem 167 = .ok (.ireturn, 1) := by decide +kernel
set_option maxRecDepth 20000 in
theorem ggX8_reads_X8_token : GoodIn wsX8_reads wsX8_token := goodIn_r _ [8, 2, 9, 10, 3, 11, 12, 13, 7, 14, 15, 16, 17, 18, 19, 20, 21, 22, 62, 63, 64, 65, 66, 67, 68, 69, 70, 71, 72, 73, 74, 75, 76, 77, 78, 79, 80, 81] (by decide +kernel) (by decide +kernel)
set_option maxRecDepth 20000 in
theorem gX8_reads_X8_token : GoodIn wsX8_reads (wsV RX8 114 RX8 yX8_token wsX8_token) := goodIn_app (goodIn_of _ (by decide +kernel)) ggX8_reads_X8_token
set_option maxRecDepth 20000 in
theorem ggX8_reads_X8_item : GoodIn wsX8_reads wsX8_item := goodIn_r _ [26, 27, 28, 29, 7, 30, 10, 3, 31, 9, 32, 11, 12, 13, 14, 15, 16, 33, 34, 35, 62, 63, 64, 65, 66, 67, 68, 69, 70, 71, 72, 73, 74, 75, 76, 77, 78, 79, 80, 81] (by decide +kernel) (by decide +kernel)
set_option maxRecDepth 20000 in
theorem gX8_reads_X8_item : GoodIn wsX8_reads (wsV RX8 124 RX8 yX8_item wsX8_item) := goodIn_app (goodIn_of _ (by decide +kernel)) ggX8_reads_X8_item
set_option maxRecDepth 20000 in
theorem ggX8_reads_X8_mayBegin : GoodIn wsX8_reads wsX8_mayBegin := goodIn_r _ [39, 1, 62, 63, 64, 65, 66, 67, 68, 69, 70, 71, 72, 73, 74, 75, 76, 77, 78, 79, 80, 81] (by decide +kernel) (by decide +kernel)
set_option maxRecDepth 20000 in
theorem gX8_reads_X8_mayBegin : GoodIn wsX8_reads (wsV RX8 127 RX8 yX8_mayBegin wsX8_mayBegin) := goodIn_app (goodIn_of _ (by decide +kernel)) ggX8_reads_X8_mayBegin
set_option maxRecDepth 20000 in
theorem ggX8_reads_X8_readsItem : GoodIn wsX8_reads wsX8_readsItem := goodIn_r _ [43, 1, 44, 45, 46, 7, 47, 48, 49, 50, 51, 52, 10, 3, 9, 4, 5, 6, 8, 2, 11, 12, 13, 14, 15, 16, 17, 18, 19, 20, 21, 22, 53, 54, 55, 56, 57, 58, 59, 60, 61, 62, 63, 64, 65, 66, 67, 68, 69, 70, 71, 72, 73, 74, 75, 76, 77, 78, 79, 80, 81] (by decide +kernel) (by decide +kernel)
set_option maxRecDepth 20000 in
theorem gX8_reads_X8_readsItem : GoodIn wsX8_reads (wsV RX8 131 RX8 yX8_readsItem wsX8_readsItem) := goodIn_app (goodIn_of _ (by decide +kernel)) ggX8_reads_X8_readsItem
theorem dX8_reads_0 : decode cX8_reads 0 = .ok (.iconst 0, 1) := by decide +kernel
theorem dX8_reads_1 : decode cX8_reads 1 = .ok (.istore_n 1, 1) := by decide +kernel
theorem dX8_reads_2 : decode cX8_reads 2 = .ok (.iload_n 1, 1) := by decide +kernel
theorem dX8_reads_3 : decode cX8_reads 3 = .ok (.sipush 362, 3) := by decide +kernel
theorem dX8_reads_6 : decode cX8_reads 6 = .ok (.if_icmp .ge 16, 3) := by decide +kernel
theorem dX8_reads_9 : decode cX8_reads 9 = .ok (.aload_n 0, 1) := by decide +kernel
theorem dX8_reads_10 : decode cX8_reads 10 = .ok (.getfield 16, 3) := by decide +kernel
theorem dX8_reads_13 : decode cX8_reads 13 = .ok (.iload_n 1, 1) := by decide +kernel
theorem dX8_reads_14 : decode cX8_reads 14 = .ok (.iconst 0, 1) := by decide +kernel
theorem dX8_reads_15 : decode cX8_reads 15 = .ok (.iastore, 1) := by decide +kernel
theorem dX8_reads_16 : decode cX8_reads 16 = .ok (.iinc 1 1, 3) := by decide +kernel
theorem dX8_reads_19 : decode cX8_reads 19 = .ok (.goto (-17), 3) := by decide +kernel
theorem dX8_reads_22 : decode cX8_reads 22 = .ok (.aload_n 0, 1) := by decide +kernel
theorem dX8_reads_23 : decode cX8_reads 23 = .ok (.iconst 0, 1) := by decide +kernel
theorem dX8_reads_24 : decode cX8_reads 24 = .ok (.putfield 83, 3) := by decide +kernel
theorem dX8_reads_27 : decode cX8_reads 27 = .ok (.aload_n 0, 1) := by decide +kernel
theorem dX8_reads_28 : decode cX8_reads 28 = .ok (.invokevirtual 114, 3) := by decide +kernel
theorem dX8_reads_31 : decode cX8_reads 31 = .ok (.iconst 0, 1) := by decide +kernel
theorem dX8_reads_32 : decode cX8_reads 32 = .ok (.istore_n 1, 1) := by decide +kernel
theorem dX8_reads_33 : decode cX8_reads 33 = .ok (.aload_n 0, 1) := by decide +kernel
theorem dX8_reads_34 : decode cX8_reads 34 = .ok (.getfield 99, 3) := by decide +kernel
theorem dX8_reads_37 : decode cX8_reads 37 = .ok (.ifCond .ne 7, 3) := by decide +kernel
theorem dX8_reads_40 : decode cX8_reads 40 = .ok (.iload_n 1, 1) := by decide +kernel
theorem dX8_reads_41 : decode cX8_reads 41 = .ok (.ifCond .ne 51, 3) := by decide +kernel
theorem dX8_reads_44 : decode cX8_reads 44 = .ok (.aload_n 0, 1) := by decide +kernel
theorem dX8_reads_45 : decode cX8_reads 45 = .ok (.invokevirtual 124, 3) := by decide +kernel
theorem dX8_reads_48 : decode cX8_reads 48 = .ok (.istore_n 2, 1) := by decide +kernel
theorem dX8_reads_49 : decode cX8_reads 49 = .ok (.aload_n 0, 1) := by decide +kernel
theorem dX8_reads_50 : decode cX8_reads 50 = .ok (.iload_n 2, 1) := by decide +kernel
theorem dX8_reads_51 : decode cX8_reads 51 = .ok (.iload_n 1, 1) := by decide +kernel
theorem dX8_reads_52 : decode cX8_reads 52 = .ok (.invokevirtual 127, 3) := by decide +kernel
theorem dX8_reads_55 : decode cX8_reads 55 = .ok (.ifCond .eq 11, 3) := by decide +kernel
theorem dX8_reads_58 : decode cX8_reads 58 = .ok (.aload_n 0, 1) := by decide +kernel
theorem dX8_reads_59 : decode cX8_reads 59 = .ok (.iload_n 2, 1) := by decide +kernel
theorem dX8_reads_60 : decode cX8_reads 60 = .ok (.invokevirtual 131, 3) := by decide +kernel
theorem dX8_reads_63 : decode cX8_reads 63 = .ok (.ifCond .ne 5, 3) := by decide +kernel
theorem dX8_reads_66 : decode cX8_reads 66 = .ok (.iconst (-1), 1) := by decide +kernel
theorem dX8_reads_67 : decode cX8_reads 67 = .ok (.ireturn, 1) := by decide +kernel
theorem dX8_reads_68 : decode cX8_reads 68 = .ok (.aload_n 0, 1) := by decide +kernel
theorem dX8_reads_69 : decode cX8_reads 69 = .ok (.invokevirtual 114, 3) := by decide +kernel
theorem dX8_reads_72 : decode cX8_reads 72 = .ok (.aload_n 0, 1) := by decide +kernel
theorem dX8_reads_73 : decode cX8_reads 73 = .ok (.getfield 99, 3) := by decide +kernel
theorem dX8_reads_76 : decode cX8_reads 76 = .ok (.iconst 3, 1) := by decide +kernel
theorem dX8_reads_77 : decode cX8_reads 77 = .ok (.if_icmp .eq 5, 3) := by decide +kernel
theorem dX8_reads_80 : decode cX8_reads 80 = .ok (.iconst (-1), 1) := by decide +kernel
theorem dX8_reads_81 : decode cX8_reads 81 = .ok (.ireturn, 1) := by decide +kernel
theorem dX8_reads_82 : decode cX8_reads 82 = .ok (.iinc 1 1, 3) := by decide +kernel
theorem dX8_reads_85 : decode cX8_reads 85 = .ok (.aload_n 0, 1) := by decide +kernel
theorem dX8_reads_86 : decode cX8_reads 86 = .ok (.invokevirtual 114, 3) := by decide +kernel
theorem dX8_reads_89 : decode cX8_reads 89 = .ok (.goto (-56), 3) := by decide +kernel
theorem dX8_reads_92 : decode cX8_reads 92 = .ok (.iload_n 1, 1) := by decide +kernel
theorem dX8_reads_93 : decode cX8_reads 93 = .ok (.ireturn, 1) := by decide +kernel
set_option maxRecDepth 20000 in
theorem ggX8_read_X8_reads : GoodIn wsX8_read wsX8_reads := goodIn_r _ [8, 2, 9, 10, 11, 12, 13, 7, 14, 1, 15, 16, 17, 18, 19, 20, 21, 22, 23, 24, 25, 26, 27, 28, 29, 30, 31, 32, 33, 34, 35, 36, 37, 38, 39, 40, 41, 42, 43, 44, 45, 46, 47, 48, 49, 50, 51, 52, 53, 54, 55, 56, 57, 58, 59, 60, 61, 62, 63, 64, 65, 66, 70, 71, 72, 73, 74, 75, 76, 77, 78, 79, 80, 81, 82, 83, 84, 85, 86, 87, 88, 89] (by decide +kernel) (by decide +kernel)
set_option maxRecDepth 20000 in
theorem gX8_read_X8_reads : GoodIn wsX8_read (wsV RX8 134 RX8 yX8_reads wsX8_reads) := goodIn_app (goodIn_of _ (by decide +kernel)) ggX8_read_X8_reads
set_option maxRecDepth 20000 in
theorem ggX8_read_X8_copy : GoodIn wsX8_read wsX8_copy := goodIn_r _ [69] (by decide +kernel) (by decide +kernel)
set_option maxRecDepth 20000 in
theorem gX8_read_X8_copy : GoodIn wsX8_read (va_wsS RX8 48 yX8_copy wsX8_copy) := goodIn_app (goodIn_of _ (by decide +kernel)) ggX8_read_X8_copy
theorem dX8_read_0 : decode cX8_read 0 = .ok (.aload_n 0, 1) := by decide +kernel
theorem dX8_read_1 : decode cX8_read 1 = .ok (.invokevirtual 134, 3) := by decide +kernel
theorem dX8_read_4 : decode cX8_read 4 = .ok (.istore_n 1, 1) := by decide +kernel
theorem dX8_read_5 : decode cX8_read 5 = .ok (.iload_n 1, 1) := by decide +kernel
theorem dX8_read_6 : decode cX8_read 6 = .ok (.iconst (-1), 1) := by decide +kernel
theorem dX8_read_7 : decode cX8_read 7 = .ok (.if_icmp .ne 11, 3) := by decide +kernel
theorem dX8_read_10 : decode cX8_read 10 = .ok (.bipush (-10), 2) := by decide +kernel
theorem dX8_read_12 : decode cX8_read 12 = .ok (.aload_n 0, 1) := by decide +kernel
theorem dX8_read_13 : decode cX8_read 13 = .ok (.getfield 90, 3) := by decide +kernel
theorem dX8_read_16 : decode cX8_read 16 = .ok (.isub, 1) := by decide +kernel
theorem dX8_read_17 : decode cX8_read 17 = .ok (.ireturn, 1) := by decide +kernel
theorem dX8_read_18 : decode cX8_read 18 = .ok (.aload_n 0, 1) := by decide +kernel
theorem dX8_read_19 : decode cX8_read 19 = .ok (.getfield 16, 3) := by decide +kernel
theorem dX8_read_22 : decode cX8_read 22 = .ok (.iconst 0, 1) := by decide +kernel
theorem dX8_read_23 : decode cX8_read 23 = .ok (.aload_n 0, 1) := by decide +kernel
theorem dX8_read_24 : decode cX8_read 24 = .ok (.getfield 7, 3) := by decide +kernel
theorem dX8_read_27 : decode cX8_read 27 = .ok (.iconst 0, 1) := by decide +kernel
theorem dX8_read_28 : decode cX8_read 28 = .ok (.invokestatic 48, 3) := by decide +kernel
theorem dX8_read_31 : decode cX8_read 31 = .ok (.iload_n 1, 1) := by decide +kernel
theorem dX8_read_32 : decode cX8_read 32 = .ok (.ireturn, 1) := by decide +kernel
theorem dX8_comes_0 : decode cX8_comes 0 = .ok (.iload_n 0, 1) := by decide +kernel
theorem dX8_comes_1 : decode cX8_comes 1 = .ok (.iconst 1, 1) := by decide +kernel
theorem dX8_comes_2 : decode cX8_comes 2 = .ok (.if_icmp .eq 8, 3) := by decide +kernel
theorem dX8_comes_5 : decode cX8_comes 5 = .ok (.iload_n 0, 1) := by decide +kernel
theorem dX8_comes_6 : decode cX8_comes 6 = .ok (.iconst 3, 1) := by decide +kernel
theorem dX8_comes_7 : decode cX8_comes 7 = .ok (.if_icmp .ne 13, 3) := by decide +kernel
theorem dX8_comes_10 : decode cX8_comes 10 = .ok (.iload_n 2, 1) := by decide +kernel
theorem dX8_comes_11 : decode cX8_comes 11 = .ok (.iconst 3, 1) := by decide +kernel
theorem dX8_comes_12 : decode cX8_comes 12 = .ok (.irem, 1) := by decide +kernel
theorem dX8_comes_13 : decode cX8_comes 13 = .ok (.ifCond .ne 7, 3) := by decide +kernel
theorem dX8_comes_16 : decode cX8_comes 16 = .ok (.iconst 0, 1) := by decide +kernel
theorem dX8_comes_17 : decode cX8_comes 17 = .ok (.goto 4, 3) := by decide +kernel
theorem dX8_comes_20 : decode cX8_comes 20 = .ok (.iload_n 1, 1) := by decide +kernel
theorem dX8_comes_21 : decode cX8_comes 21 = .ok (.istore_n 3, 1) := by decide +kernel
theorem dX8_comes_22 : decode cX8_comes 22 = .ok (.iload_n 3, 1) := by decide +kernel
theorem dX8_comes_23 : decode cX8_comes 23 = .ok (.iload_n 0, 1) := by decide +kernel
theorem dX8_comes_24 : decode cX8_comes 24 = .ok (.iconst 3, 1) := by decide +kernel
theorem dX8_comes_25 : decode cX8_comes 25 = .ok (.if_icmp .ne 7, 3) := by decide +kernel
theorem dX8_comes_28 : decode cX8_comes 28 = .ok (.iconst 2, 1) := by decide +kernel
theorem dX8_comes_29 : decode cX8_comes 29 = .ok (.goto 4, 3) := by decide +kernel
theorem dX8_comes_32 : decode cX8_comes 32 = .ok (.iconst 0, 1) := by decide +kernel
theorem dX8_comes_33 : decode cX8_comes 33 = .ok (.iadd, 1) := by decide +kernel
theorem dX8_comes_34 : decode cX8_comes 34 = .ok (.iload_n 0, 1) := by decide +kernel
theorem dX8_comes_35 : decode cX8_comes 35 = .ok (.iconst 4, 1) := by decide +kernel
theorem dX8_comes_36 : decode cX8_comes 36 = .ok (.if_icmp .ne 17, 3) := by decide +kernel
theorem dX8_comes_39 : decode cX8_comes 39 = .ok (.iload_n 2, 1) := by decide +kernel
theorem dX8_comes_40 : decode cX8_comes 40 = .ok (.bipush 12, 2) := by decide +kernel
theorem dX8_comes_42 : decode cX8_comes 42 = .ok (.irem, 1) := by decide +kernel
theorem dX8_comes_43 : decode cX8_comes 43 = .ok (.bipush 6, 2) := by decide +kernel
theorem dX8_comes_45 : decode cX8_comes 45 = .ok (.if_icmp .ne 8, 3) := by decide +kernel
theorem dX8_comes_48 : decode cX8_comes 48 = .ok (.bipush 60, 2) := by decide +kernel
theorem dX8_comes_50 : decode cX8_comes 50 = .ok (.goto 4, 3) := by decide +kernel
theorem dX8_comes_53 : decode cX8_comes 53 = .ok (.iconst 0, 1) := by decide +kernel
theorem dX8_comes_54 : decode cX8_comes 54 = .ok (.iadd, 1) := by decide +kernel
theorem dX8_comes_55 : decode cX8_comes 55 = .ok (.ireturn, 1) := by decide +kernel
theorem dX8_whole_0 : decode cX8_whole 0 = .ok (.aload_n 0, 1) := by decide +kernel
theorem dX8_whole_1 : decode cX8_whole 1 = .ok (.bipush 26, 2) := by decide +kernel
theorem dX8_whole_3 : decode cX8_whole 3 = .ok (.iconst 5, 1) := by decide +kernel
theorem dX8_whole_4 : decode cX8_whole 4 = .ok (.iload_n 1, 1) := by decide +kernel
theorem dX8_whole_5 : decode cX8_whole 5 = .ok (.imul, 1) := by decide +kernel
theorem dX8_whole_6 : decode cX8_whole 6 = .ok (.iadd, 1) := by decide +kernel
theorem dX8_whole_7 : decode cX8_whole 7 = .ok (.iconst 1, 1) := by decide +kernel
theorem dX8_whole_8 : decode cX8_whole 8 = .ok (.iadd, 1) := by decide +kernel
theorem dX8_whole_9 : decode cX8_whole 9 = .ok (.iaload, 1) := by decide +kernel
theorem dX8_whole_10 : decode cX8_whole 10 = .ok (.aload_n 0, 1) := by decide +kernel
theorem dX8_whole_11 : decode cX8_whole 11 = .ok (.bipush 26, 2) := by decide +kernel
theorem dX8_whole_13 : decode cX8_whole 13 = .ok (.iconst 5, 1) := by decide +kernel
theorem dX8_whole_14 : decode cX8_whole 14 = .ok (.iload_n 1, 1) := by decide +kernel
theorem dX8_whole_15 : decode cX8_whole 15 = .ok (.imul, 1) := by decide +kernel
theorem dX8_whole_16 : decode cX8_whole 16 = .ok (.iadd, 1) := by decide +kernel
theorem dX8_whole_17 : decode cX8_whole 17 = .ok (.iconst 2, 1) := by decide +kernel
theorem dX8_whole_18 : decode cX8_whole 18 = .ok (.iadd, 1) := by decide +kernel
theorem dX8_whole_19 : decode cX8_whole 19 = .ok (.iaload, 1) := by decide +kernel
theorem dX8_whole_20 : decode cX8_whole 20 = .ok (.imul, 1) := by decide +kernel
theorem dX8_whole_21 : decode cX8_whole 21 = .ok (.istore_n 2, 1) := by decide +kernel
theorem dX8_whole_22 : decode cX8_whole 22 = .ok (.iload_n 2, 1) := by decide +kernel
theorem dX8_whole_23 : decode cX8_whole 23 = .ok (.iload_n 2, 1) := by decide +kernel
theorem dX8_whole_24 : decode cX8_whole 24 = .ok (.aload_n 0, 1) := by decide +kernel
theorem dX8_whole_25 : decode cX8_whole 25 = .ok (.iconst 1, 1) := by decide +kernel
theorem dX8_whole_26 : decode cX8_whole 26 = .ok (.iaload, 1) := by decide +kernel
theorem dX8_whole_27 : decode cX8_whole 27 = .ok (.imul, 1) := by decide +kernel
theorem dX8_whole_28 : decode cX8_whole 28 = .ok (.bipush 100, 2) := by decide +kernel
theorem dX8_whole_30 : decode cX8_whole 30 = .ok (.idiv, 1) := by decide +kernel
theorem dX8_whole_31 : decode cX8_whole 31 = .ok (.iadd, 1) := by decide +kernel
theorem dX8_whole_32 : decode cX8_whole 32 = .ok (.ireturn, 1) := by decide +kernel
set_option maxRecDepth 20000 in
theorem ggX8_gives_X8_least : GoodIn wsX8_gives wsX8_least := goodIn_r _ [5] (by decide +kernel) (by decide +kernel)
set_option maxRecDepth 20000 in
theorem gX8_gives_X8_least : GoodIn wsX8_gives (va_wsS RX8 137 yX8_least wsX8_least) := goodIn_app (goodIn_of _ (by decide +kernel)) ggX8_gives_X8_least
theorem dX8_gives_0 : decode cX8_gives 0 = .ok (.bipush 26, 2) := by decide +kernel
theorem dX8_gives_2 : decode cX8_gives 2 = .ok (.iconst 5, 1) := by decide +kernel
theorem dX8_gives_3 : decode cX8_gives 3 = .ok (.iload_n 1, 1) := by decide +kernel
theorem dX8_gives_4 : decode cX8_gives 4 = .ok (.imul, 1) := by decide +kernel
theorem dX8_gives_5 : decode cX8_gives 5 = .ok (.iadd, 1) := by decide +kernel
theorem dX8_gives_6 : decode cX8_gives 6 = .ok (.istore_n 2, 1) := by decide +kernel
theorem dX8_gives_7 : decode cX8_gives 7 = .ok (.bipush 8, 2) := by decide +kernel
theorem dX8_gives_9 : decode cX8_gives 9 = .ok (.iconst 3, 1) := by decide +kernel
theorem dX8_gives_10 : decode cX8_gives 10 = .ok (.aload_n 0, 1) := by decide +kernel
theorem dX8_gives_11 : decode cX8_gives 11 = .ok (.iload_n 2, 1) := by decide +kernel
theorem dX8_gives_12 : decode cX8_gives 12 = .ok (.iaload, 1) := by decide +kernel
theorem dX8_gives_13 : decode cX8_gives 13 = .ok (.imul, 1) := by decide +kernel
theorem dX8_gives_14 : decode cX8_gives 14 = .ok (.iadd, 1) := by decide +kernel
theorem dX8_gives_15 : decode cX8_gives 15 = .ok (.istore_n 3, 1) := by decide +kernel
theorem dX8_gives_16 : decode cX8_gives 16 = .ok (.aload_n 0, 1) := by decide +kernel
theorem dX8_gives_17 : decode cX8_gives 17 = .ok (.iload_n 3, 1) := by decide +kernel
theorem dX8_gives_18 : decode cX8_gives 18 = .ok (.iconst 2, 1) := by decide +kernel
theorem dX8_gives_19 : decode cX8_gives 19 = .ok (.iadd, 1) := by decide +kernel
theorem dX8_gives_20 : decode cX8_gives 20 = .ok (.iaload, 1) := by decide +kernel
theorem dX8_gives_21 : decode cX8_gives 21 = .ok (.aload_n 0, 1) := by decide +kernel
theorem dX8_gives_22 : decode cX8_gives 22 = .ok (.iload_n 2, 1) := by decide +kernel
theorem dX8_gives_23 : decode cX8_gives 23 = .ok (.iconst 1, 1) := by decide +kernel
theorem dX8_gives_24 : decode cX8_gives 24 = .ok (.iadd, 1) := by decide +kernel
theorem dX8_gives_25 : decode cX8_gives 25 = .ok (.iaload, 1) := by decide +kernel
theorem dX8_gives_26 : decode cX8_gives 26 = .ok (.if_icmp .lt 29, 3) := by decide +kernel
theorem dX8_gives_29 : decode cX8_gives 29 = .ok (.aload_n 0, 1) := by decide +kernel
theorem dX8_gives_30 : decode cX8_gives 30 = .ok (.iload_n 3, 1) := by decide +kernel
theorem dX8_gives_31 : decode cX8_gives 31 = .ok (.iaload, 1) := by decide +kernel
theorem dX8_gives_32 : decode cX8_gives 32 = .ok (.iconst 5, 1) := by decide +kernel
theorem dX8_gives_33 : decode cX8_gives 33 = .ok (.if_icmp .ne 18, 3) := by decide +kernel
theorem dX8_gives_36 : decode cX8_gives 36 = .ok (.aload_n 0, 1) := by decide +kernel
theorem dX8_gives_37 : decode cX8_gives 37 = .ok (.iload_n 3, 1) := by decide +kernel
theorem dX8_gives_38 : decode cX8_gives 38 = .ok (.iconst 2, 1) := by decide +kernel
theorem dX8_gives_39 : decode cX8_gives 39 = .ok (.iadd, 1) := by decide +kernel
theorem dX8_gives_40 : decode cX8_gives 40 = .ok (.iaload, 1) := by decide +kernel
theorem dX8_gives_41 : decode cX8_gives 41 = .ok (.iconst 2, 1) := by decide +kernel
theorem dX8_gives_42 : decode cX8_gives 42 = .ok (.aload_n 0, 1) := by decide +kernel
theorem dX8_gives_43 : decode cX8_gives 43 = .ok (.iload_n 2, 1) := by decide +kernel
theorem dX8_gives_44 : decode cX8_gives 44 = .ok (.iconst 1, 1) := by decide +kernel
theorem dX8_gives_45 : decode cX8_gives 45 = .ok (.iadd, 1) := by decide +kernel
theorem dX8_gives_46 : decode cX8_gives 46 = .ok (.iaload, 1) := by decide +kernel
theorem dX8_gives_47 : decode cX8_gives 47 = .ok (.imul, 1) := by decide +kernel
theorem dX8_gives_48 : decode cX8_gives 48 = .ok (.if_icmp .lt 7, 3) := by decide +kernel
theorem dX8_gives_51 : decode cX8_gives 51 = .ok (.iconst 1, 1) := by decide +kernel
theorem dX8_gives_52 : decode cX8_gives 52 = .ok (.goto 4, 3) := by decide +kernel
theorem dX8_gives_55 : decode cX8_gives 55 = .ok (.iconst 0, 1) := by decide +kernel
theorem dX8_gives_56 : decode cX8_gives 56 = .ok (.istore 4, 2) := by decide +kernel
theorem dX8_gives_58 : decode cX8_gives 58 = .ok (.iload 4, 2) := by decide +kernel
theorem dX8_gives_60 : decode cX8_gives 60 = .ok (.ifCond .ne 10, 3) := by decide +kernel
theorem dX8_gives_63 : decode cX8_gives 63 = .ok (.aload_n 0, 1) := by decide +kernel
theorem dX8_gives_64 : decode cX8_gives 64 = .ok (.iload_n 2, 1) := by decide +kernel
theorem dX8_gives_65 : decode cX8_gives 65 = .ok (.iconst 3, 1) := by decide +kernel
theorem dX8_gives_66 : decode cX8_gives 66 = .ok (.iadd, 1) := by decide +kernel
theorem dX8_gives_67 : decode cX8_gives 67 = .ok (.iconst 2, 1) := by decide +kernel
theorem dX8_gives_68 : decode cX8_gives 68 = .ok (.iastore, 1) := by decide +kernel
theorem dX8_gives_69 : decode cX8_gives 69 = .ok (.return_, 1) := by decide +kernel
theorem dX8_gives_70 : decode cX8_gives 70 = .ok (.aload_n 0, 1) := by decide +kernel
theorem dX8_gives_71 : decode cX8_gives 71 = .ok (.iload_n 3, 1) := by decide +kernel
theorem dX8_gives_72 : decode cX8_gives 72 = .ok (.iconst 2, 1) := by decide +kernel
theorem dX8_gives_73 : decode cX8_gives 73 = .ok (.iadd, 1) := by decide +kernel
theorem dX8_gives_74 : decode cX8_gives 74 = .ok (.dup2, 1) := by decide +kernel
theorem dX8_gives_75 : decode cX8_gives 75 = .ok (.iaload, 1) := by decide +kernel
theorem dX8_gives_76 : decode cX8_gives 76 = .ok (.aload_n 0, 1) := by decide +kernel
theorem dX8_gives_77 : decode cX8_gives 77 = .ok (.iload_n 2, 1) := by decide +kernel
theorem dX8_gives_78 : decode cX8_gives 78 = .ok (.iconst 1, 1) := by decide +kernel
theorem dX8_gives_79 : decode cX8_gives 79 = .ok (.iadd, 1) := by decide +kernel
theorem dX8_gives_80 : decode cX8_gives 80 = .ok (.iaload, 1) := by decide +kernel
theorem dX8_gives_81 : decode cX8_gives 81 = .ok (.isub, 1) := by decide +kernel
theorem dX8_gives_82 : decode cX8_gives 82 = .ok (.iastore, 1) := by decide +kernel
theorem dX8_gives_83 : decode cX8_gives 83 = .ok (.aload_n 0, 1) := by decide +kernel
theorem dX8_gives_84 : decode cX8_gives 84 = .ok (.iconst 0, 1) := by decide +kernel
theorem dX8_gives_85 : decode cX8_gives 85 = .ok (.ldc 56, 2) := by decide +kernel
theorem dX8_gives_87 : decode cX8_gives 87 = .ok (.aload_n 0, 1) := by decide +kernel
theorem dX8_gives_88 : decode cX8_gives 88 = .ok (.iconst 0, 1) := by decide +kernel
theorem dX8_gives_89 : decode cX8_gives 89 = .ok (.iaload, 1) := by decide +kernel
theorem dX8_gives_90 : decode cX8_gives 90 = .ok (.aload_n 0, 1) := by decide +kernel
theorem dX8_gives_91 : decode cX8_gives 91 = .ok (.iload_n 2, 1) := by decide +kernel
theorem dX8_gives_92 : decode cX8_gives 92 = .ok (.iconst 1, 1) := by decide +kernel
theorem dX8_gives_93 : decode cX8_gives 93 = .ok (.iadd, 1) := by decide +kernel
theorem dX8_gives_94 : decode cX8_gives 94 = .ok (.iaload, 1) := by decide +kernel
theorem dX8_gives_95 : decode cX8_gives 95 = .ok (.iadd, 1) := by decide +kernel
theorem dX8_gives_96 : decode cX8_gives 96 = .ok (.invokestatic 137, 3) := by decide +kernel
theorem dX8_gives_99 : decode cX8_gives 99 = .ok (.iastore, 1) := by decide +kernel
theorem dX8_gives_100 : decode cX8_gives 100 = .ok (.aload_n 0, 1) := by decide +kernel
theorem dX8_gives_101 : decode cX8_gives 101 = .ok (.iload_n 2, 1) := by decide +kernel
theorem dX8_gives_102 : decode cX8_gives 102 = .ok (.iconst 4, 1) := by decide +kernel
theorem dX8_gives_103 : decode cX8_gives 103 = .ok (.iadd, 1) := by decide +kernel
theorem dX8_gives_104 : decode cX8_gives 104 = .ok (.dup2, 1) := by decide +kernel
theorem dX8_gives_105 : decode cX8_gives 105 = .ok (.iaload, 1) := by decide +kernel
theorem dX8_gives_106 : decode cX8_gives 106 = .ok (.iconst 1, 1) := by decide +kernel
theorem dX8_gives_107 : decode cX8_gives 107 = .ok (.iadd, 1) := by decide +kernel
theorem dX8_gives_108 : decode cX8_gives 108 = .ok (.iastore, 1) := by decide +kernel
theorem dX8_gives_109 : decode cX8_gives 109 = .ok (.aload_n 0, 1) := by decide +kernel
theorem dX8_gives_110 : decode cX8_gives 110 = .ok (.iload_n 2, 1) := by decide +kernel
theorem dX8_gives_111 : decode cX8_gives 111 = .ok (.iconst 3, 1) := by decide +kernel
theorem dX8_gives_112 : decode cX8_gives 112 = .ok (.iadd, 1) := by decide +kernel
theorem dX8_gives_113 : decode cX8_gives 113 = .ok (.aload_n 0, 1) := by decide +kernel
theorem dX8_gives_114 : decode cX8_gives 114 = .ok (.iload_n 2, 1) := by decide +kernel
theorem dX8_gives_115 : decode cX8_gives 115 = .ok (.iconst 4, 1) := by decide +kernel
theorem dX8_gives_116 : decode cX8_gives 116 = .ok (.iadd, 1) := by decide +kernel
theorem dX8_gives_117 : decode cX8_gives 117 = .ok (.iaload, 1) := by decide +kernel
theorem dX8_gives_118 : decode cX8_gives 118 = .ok (.aload_n 0, 1) := by decide +kernel
theorem dX8_gives_119 : decode cX8_gives 119 = .ok (.iload_n 2, 1) := by decide +kernel
theorem dX8_gives_120 : decode cX8_gives 120 = .ok (.iconst 2, 1) := by decide +kernel
theorem dX8_gives_121 : decode cX8_gives 121 = .ok (.iadd, 1) := by decide +kernel
theorem dX8_gives_122 : decode cX8_gives 122 = .ok (.iaload, 1) := by decide +kernel
theorem dX8_gives_123 : decode cX8_gives 123 = .ok (.if_icmp .ne 7, 3) := by decide +kernel
theorem dX8_gives_126 : decode cX8_gives 126 = .ok (.iconst 3, 1) := by decide +kernel
theorem dX8_gives_127 : decode cX8_gives 127 = .ok (.goto 4, 3) := by decide +kernel
theorem dX8_gives_130 : decode cX8_gives 130 = .ok (.iconst 0, 1) := by decide +kernel
theorem dX8_gives_131 : decode cX8_gives 131 = .ok (.iastore, 1) := by decide +kernel
theorem dX8_gives_132 : decode cX8_gives 132 = .ok (.return_, 1) := by decide +kernel
set_option maxRecDepth 20000 in
theorem ggX8_pays_X8_whole : GoodIn wsX8_pays wsX8_whole := goodIn_r _ [4] (by decide +kernel) (by decide +kernel)
set_option maxRecDepth 20000 in
theorem gX8_pays_X8_whole : GoodIn wsX8_pays (va_wsS RX8 140 yX8_whole wsX8_whole) := goodIn_app (goodIn_of _ (by decide +kernel)) ggX8_pays_X8_whole
set_option maxRecDepth 20000 in
theorem ggX8_pays_X8_least : GoodIn wsX8_pays wsX8_least := goodIn_r _ [7] (by decide +kernel) (by decide +kernel)
set_option maxRecDepth 20000 in
theorem gX8_pays_X8_least : GoodIn wsX8_pays (va_wsS RX8 137 yX8_least wsX8_least) := goodIn_app (goodIn_of _ (by decide +kernel)) ggX8_pays_X8_least
theorem dX8_pays_0 : decode cX8_pays 0 = .ok (.aload_n 0, 1) := by decide +kernel
theorem dX8_pays_1 : decode cX8_pays 1 = .ok (.iload_n 1, 1) := by decide +kernel
theorem dX8_pays_2 : decode cX8_pays 2 = .ok (.invokestatic 140, 3) := by decide +kernel
theorem dX8_pays_5 : decode cX8_pays 5 = .ok (.istore_n 2, 1) := by decide +kernel
theorem dX8_pays_6 : decode cX8_pays 6 = .ok (.aload_n 0, 1) := by decide +kernel
theorem dX8_pays_7 : decode cX8_pays 7 = .ok (.iconst 0, 1) := by decide +kernel
theorem dX8_pays_8 : decode cX8_pays 8 = .ok (.iaload, 1) := by decide +kernel
theorem dX8_pays_9 : decode cX8_pays 9 = .ok (.iload_n 2, 1) := by decide +kernel
theorem dX8_pays_10 : decode cX8_pays 10 = .ok (.if_icmp .ge 13, 3) := by decide +kernel
theorem dX8_pays_13 : decode cX8_pays 13 = .ok (.aload_n 0, 1) := by decide +kernel
theorem dX8_pays_14 : decode cX8_pays 14 = .ok (.bipush 6, 2) := by decide +kernel
theorem dX8_pays_16 : decode cX8_pays 16 = .ok (.dup2, 1) := by decide +kernel
theorem dX8_pays_17 : decode cX8_pays 17 = .ok (.iaload, 1) := by decide +kernel
theorem dX8_pays_18 : decode cX8_pays 18 = .ok (.iconst 1, 1) := by decide +kernel
theorem dX8_pays_19 : decode cX8_pays 19 = .ok (.iadd, 1) := by decide +kernel
theorem dX8_pays_20 : decode cX8_pays 20 = .ok (.iastore, 1) := by decide +kernel
theorem dX8_pays_21 : decode cX8_pays 21 = .ok (.iconst 0, 1) := by decide +kernel
theorem dX8_pays_22 : decode cX8_pays 22 = .ok (.ireturn, 1) := by decide +kernel
theorem dX8_pays_23 : decode cX8_pays 23 = .ok (.bipush 8, 2) := by decide +kernel
theorem dX8_pays_25 : decode cX8_pays 25 = .ok (.iconst 3, 1) := by decide +kernel
theorem dX8_pays_26 : decode cX8_pays 26 = .ok (.aload_n 0, 1) := by decide +kernel
theorem dX8_pays_27 : decode cX8_pays 27 = .ok (.bipush 26, 2) := by decide +kernel
theorem dX8_pays_29 : decode cX8_pays 29 = .ok (.iconst 5, 1) := by decide +kernel
theorem dX8_pays_30 : decode cX8_pays 30 = .ok (.iload_n 1, 1) := by decide +kernel
theorem dX8_pays_31 : decode cX8_pays 31 = .ok (.imul, 1) := by decide +kernel
theorem dX8_pays_32 : decode cX8_pays 32 = .ok (.iadd, 1) := by decide +kernel
theorem dX8_pays_33 : decode cX8_pays 33 = .ok (.iaload, 1) := by decide +kernel
theorem dX8_pays_34 : decode cX8_pays 34 = .ok (.imul, 1) := by decide +kernel
theorem dX8_pays_35 : decode cX8_pays 35 = .ok (.iadd, 1) := by decide +kernel
theorem dX8_pays_36 : decode cX8_pays 36 = .ok (.iconst 2, 1) := by decide +kernel
theorem dX8_pays_37 : decode cX8_pays 37 = .ok (.iadd, 1) := by decide +kernel
theorem dX8_pays_38 : decode cX8_pays 38 = .ok (.istore_n 3, 1) := by decide +kernel
theorem dX8_pays_39 : decode cX8_pays 39 = .ok (.aload_n 0, 1) := by decide +kernel
theorem dX8_pays_40 : decode cX8_pays 40 = .ok (.iconst 0, 1) := by decide +kernel
theorem dX8_pays_41 : decode cX8_pays 41 = .ok (.dup2, 1) := by decide +kernel
theorem dX8_pays_42 : decode cX8_pays 42 = .ok (.iaload, 1) := by decide +kernel
theorem dX8_pays_43 : decode cX8_pays 43 = .ok (.iload_n 2, 1) := by decide +kernel
theorem dX8_pays_44 : decode cX8_pays 44 = .ok (.isub, 1) := by decide +kernel
theorem dX8_pays_45 : decode cX8_pays 45 = .ok (.iastore, 1) := by decide +kernel
theorem dX8_pays_46 : decode cX8_pays 46 = .ok (.aload_n 0, 1) := by decide +kernel
theorem dX8_pays_47 : decode cX8_pays 47 = .ok (.iload_n 3, 1) := by decide +kernel
theorem dX8_pays_48 : decode cX8_pays 48 = .ok (.sipush 9999, 3) := by decide +kernel
theorem dX8_pays_51 : decode cX8_pays 51 = .ok (.aload_n 0, 1) := by decide +kernel
theorem dX8_pays_52 : decode cX8_pays 52 = .ok (.iload_n 3, 1) := by decide +kernel
theorem dX8_pays_53 : decode cX8_pays 53 = .ok (.iaload, 1) := by decide +kernel
theorem dX8_pays_54 : decode cX8_pays 54 = .ok (.iload_n 2, 1) := by decide +kernel
theorem dX8_pays_55 : decode cX8_pays 55 = .ok (.iadd, 1) := by decide +kernel
theorem dX8_pays_56 : decode cX8_pays 56 = .ok (.invokestatic 137, 3) := by decide +kernel
theorem dX8_pays_59 : decode cX8_pays 59 = .ok (.iastore, 1) := by decide +kernel
theorem dX8_pays_60 : decode cX8_pays 60 = .ok (.aload_n 0, 1) := by decide +kernel
theorem dX8_pays_61 : decode cX8_pays 61 = .ok (.bipush 26, 2) := by decide +kernel
theorem dX8_pays_63 : decode cX8_pays 63 = .ok (.iconst 5, 1) := by decide +kernel
theorem dX8_pays_64 : decode cX8_pays 64 = .ok (.iload_n 1, 1) := by decide +kernel
theorem dX8_pays_65 : decode cX8_pays 65 = .ok (.imul, 1) := by decide +kernel
theorem dX8_pays_66 : decode cX8_pays 66 = .ok (.iadd, 1) := by decide +kernel
theorem dX8_pays_67 : decode cX8_pays 67 = .ok (.iconst 3, 1) := by decide +kernel
theorem dX8_pays_68 : decode cX8_pays 68 = .ok (.iadd, 1) := by decide +kernel
theorem dX8_pays_69 : decode cX8_pays 69 = .ok (.iconst 1, 1) := by decide +kernel
theorem dX8_pays_70 : decode cX8_pays 70 = .ok (.iastore, 1) := by decide +kernel
theorem dX8_pays_71 : decode cX8_pays 71 = .ok (.iconst 1, 1) := by decide +kernel
theorem dX8_pays_72 : decode cX8_pays 72 = .ok (.ireturn, 1) := by decide +kernel
set_option maxRecDepth 20000 in
theorem ggX8_month_X8_comes : GoodIn wsX8_month wsX8_comes := goodIn_r _ [4] (by decide +kernel) (by decide +kernel)
set_option maxRecDepth 20000 in
theorem gX8_month_X8_comes : GoodIn wsX8_month (va_wsS RX8 144 yX8_comes wsX8_comes) := goodIn_app (goodIn_of _ (by decide +kernel)) ggX8_month_X8_comes
set_option maxRecDepth 20000 in
theorem ggX8_month_X8_least : GoodIn wsX8_month wsX8_least := goodIn_r _ [7] (by decide +kernel) (by decide +kernel)
set_option maxRecDepth 20000 in
theorem gX8_month_X8_least : GoodIn wsX8_month (va_wsS RX8 137 yX8_least wsX8_least) := goodIn_app (goodIn_of _ (by decide +kernel)) ggX8_month_X8_least
set_option maxRecDepth 20000 in
theorem ggX8_month_X8_gives : GoodIn wsX8_month wsX8_gives := goodIn_r _ [10, 11, 5, 6, 3, 7] (by decide +kernel) (by decide +kernel)
set_option maxRecDepth 20000 in
theorem gX8_month_X8_gives : GoodIn wsX8_month (va_wsS RX8 148 yX8_gives wsX8_gives) := goodIn_app (goodIn_of _ (by decide +kernel)) ggX8_month_X8_gives
set_option maxRecDepth 20000 in
theorem ggX8_month_X8_pays : GoodIn wsX8_month wsX8_pays := goodIn_r _ [14, 15, 16, 3, 17, 5, 6, 7] (by decide +kernel) (by decide +kernel)
set_option maxRecDepth 20000 in
theorem gX8_month_X8_pays : GoodIn wsX8_month (va_wsS RX8 152 yX8_pays wsX8_pays) := goodIn_app (goodIn_of _ (by decide +kernel)) ggX8_month_X8_pays
theorem dX8_month_0 : decode cX8_month 0 = .ok (.iconst 0, 1) := by decide +kernel
theorem dX8_month_1 : decode cX8_month 1 = .ok (.istore_n 2, 1) := by decide +kernel
theorem dX8_month_2 : decode cX8_month 2 = .ok (.iload_n 2, 1) := by decide +kernel
theorem dX8_month_3 : decode cX8_month 3 = .ok (.aload_n 0, 1) := by decide +kernel
theorem dX8_month_4 : decode cX8_month 4 = .ok (.iconst 3, 1) := by decide +kernel
theorem dX8_month_5 : decode cX8_month 5 = .ok (.iaload, 1) := by decide +kernel
theorem dX8_month_6 : decode cX8_month 6 = .ok (.if_icmp .ge 120, 3) := by decide +kernel
theorem dX8_month_9 : decode cX8_month 9 = .ok (.bipush 8, 2) := by decide +kernel
theorem dX8_month_11 : decode cX8_month 11 = .ok (.iconst 3, 1) := by decide +kernel
theorem dX8_month_12 : decode cX8_month 12 = .ok (.iload_n 2, 1) := by decide +kernel
theorem dX8_month_13 : decode cX8_month 13 = .ok (.imul, 1) := by decide +kernel
theorem dX8_month_14 : decode cX8_month 14 = .ok (.iadd, 1) := by decide +kernel
theorem dX8_month_15 : decode cX8_month 15 = .ok (.istore_n 3, 1) := by decide +kernel
theorem dX8_month_16 : decode cX8_month 16 = .ok (.iload_n 1, 1) := by decide +kernel
theorem dX8_month_17 : decode cX8_month 17 = .ok (.iload_n 2, 1) := by decide +kernel
theorem dX8_month_18 : decode cX8_month 18 = .ok (.ishr, 1) := by decide +kernel
theorem dX8_month_19 : decode cX8_month 19 = .ok (.iconst 1, 1) := by decide +kernel
theorem dX8_month_20 : decode cX8_month 20 = .ok (.iand, 1) := by decide +kernel
theorem dX8_month_21 : decode cX8_month 21 = .ok (.iconst 1, 1) := by decide +kernel
theorem dX8_month_22 : decode cX8_month 22 = .ok (.if_icmp .ne 7, 3) := by decide +kernel
theorem dX8_month_25 : decode cX8_month 25 = .ok (.iconst 0, 1) := by decide +kernel
theorem dX8_month_26 : decode cX8_month 26 = .ok (.goto 17, 3) := by decide +kernel
theorem dX8_month_29 : decode cX8_month 29 = .ok (.aload_n 0, 1) := by decide +kernel
theorem dX8_month_30 : decode cX8_month 30 = .ok (.iload_n 3, 1) := by decide +kernel
theorem dX8_month_31 : decode cX8_month 31 = .ok (.iaload, 1) := by decide +kernel
theorem dX8_month_32 : decode cX8_month 32 = .ok (.aload_n 0, 1) := by decide +kernel
theorem dX8_month_33 : decode cX8_month 33 = .ok (.iload_n 3, 1) := by decide +kernel
theorem dX8_month_34 : decode cX8_month 34 = .ok (.iconst 1, 1) := by decide +kernel
theorem dX8_month_35 : decode cX8_month 35 = .ok (.iadd, 1) := by decide +kernel
theorem dX8_month_36 : decode cX8_month 36 = .ok (.iaload, 1) := by decide +kernel
theorem dX8_month_37 : decode cX8_month 37 = .ok (.aload_n 0, 1) := by decide +kernel
theorem dX8_month_38 : decode cX8_month 38 = .ok (.iconst 2, 1) := by decide +kernel
theorem dX8_month_39 : decode cX8_month 39 = .ok (.iaload, 1) := by decide +kernel
theorem dX8_month_40 : decode cX8_month 40 = .ok (.invokestatic 144, 3) := by decide +kernel
theorem dX8_month_43 : decode cX8_month 43 = .ok (.istore 4, 2) := by decide +kernel
theorem dX8_month_45 : decode cX8_month 45 = .ok (.aload_n 0, 1) := by decide +kernel
theorem dX8_month_46 : decode cX8_month 46 = .ok (.iload_n 3, 1) := by decide +kernel
theorem dX8_month_47 : decode cX8_month 47 = .ok (.iconst 2, 1) := by decide +kernel
theorem dX8_month_48 : decode cX8_month 48 = .ok (.iadd, 1) := by decide +kernel
theorem dX8_month_49 : decode cX8_month 49 = .ok (.sipush 9999, 3) := by decide +kernel
theorem dX8_month_52 : decode cX8_month 52 = .ok (.aload_n 0, 1) := by decide +kernel
theorem dX8_month_53 : decode cX8_month 53 = .ok (.iload_n 3, 1) := by decide +kernel
theorem dX8_month_54 : decode cX8_month 54 = .ok (.iconst 2, 1) := by decide +kernel
theorem dX8_month_55 : decode cX8_month 55 = .ok (.iadd, 1) := by decide +kernel
theorem dX8_month_56 : decode cX8_month 56 = .ok (.iaload, 1) := by decide +kernel
theorem dX8_month_57 : decode cX8_month 57 = .ok (.iload 4, 2) := by decide +kernel
theorem dX8_month_59 : decode cX8_month 59 = .ok (.iadd, 1) := by decide +kernel
theorem dX8_month_60 : decode cX8_month 60 = .ok (.invokestatic 137, 3) := by decide +kernel
theorem dX8_month_63 : decode cX8_month 63 = .ok (.iastore, 1) := by decide +kernel
theorem dX8_month_64 : decode cX8_month 64 = .ok (.aload_n 0, 1) := by decide +kernel
theorem dX8_month_65 : decode cX8_month 65 = .ok (.iload_n 3, 1) := by decide +kernel
theorem dX8_month_66 : decode cX8_month 66 = .ok (.iaload, 1) := by decide +kernel
theorem dX8_month_67 : decode cX8_month 67 = .ok (.iconst 2, 1) := by decide +kernel
theorem dX8_month_68 : decode cX8_month 68 = .ok (.if_icmp .eq 10, 3) := by decide +kernel
theorem dX8_month_71 : decode cX8_month 71 = .ok (.aload_n 0, 1) := by decide +kernel
theorem dX8_month_72 : decode cX8_month 72 = .ok (.iload_n 3, 1) := by decide +kernel
theorem dX8_month_73 : decode cX8_month 73 = .ok (.iaload, 1) := by decide +kernel
theorem dX8_month_74 : decode cX8_month 74 = .ok (.iconst 4, 1) := by decide +kernel
theorem dX8_month_75 : decode cX8_month 75 = .ok (.if_icmp .ne 17, 3) := by decide +kernel
theorem dX8_month_78 : decode cX8_month 78 = .ok (.aload_n 0, 1) := by decide +kernel
theorem dX8_month_79 : decode cX8_month 79 = .ok (.iload_n 3, 1) := by decide +kernel
theorem dX8_month_80 : decode cX8_month 80 = .ok (.iconst 2, 1) := by decide +kernel
theorem dX8_month_81 : decode cX8_month 81 = .ok (.iadd, 1) := by decide +kernel
theorem dX8_month_82 : decode cX8_month 82 = .ok (.iaload, 1) := by decide +kernel
theorem dX8_month_83 : decode cX8_month 83 = .ok (.bipush 50, 2) := by decide +kernel
theorem dX8_month_85 : decode cX8_month 85 = .ok (.if_icmp .le 7, 3) := by decide +kernel
theorem dX8_month_88 : decode cX8_month 88 = .ok (.iconst 1, 1) := by decide +kernel
theorem dX8_month_89 : decode cX8_month 89 = .ok (.goto 4, 3) := by decide +kernel
theorem dX8_month_92 : decode cX8_month 92 = .ok (.iconst 0, 1) := by decide +kernel
theorem dX8_month_93 : decode cX8_month 93 = .ok (.istore 5, 2) := by decide +kernel
theorem dX8_month_95 : decode cX8_month 95 = .ok (.aload_n 0, 1) := by decide +kernel
theorem dX8_month_96 : decode cX8_month 96 = .ok (.iload_n 3, 1) := by decide +kernel
theorem dX8_month_97 : decode cX8_month 97 = .ok (.iconst 2, 1) := by decide +kernel
theorem dX8_month_98 : decode cX8_month 98 = .ok (.iadd, 1) := by decide +kernel
theorem dX8_month_99 : decode cX8_month 99 = .ok (.iload 5, 2) := by decide +kernel
theorem dX8_month_101 : decode cX8_month 101 = .ok (.ifCond .eq 13, 3) := by decide +kernel
theorem dX8_month_104 : decode cX8_month 104 = .ok (.aload_n 0, 1) := by decide +kernel
theorem dX8_month_105 : decode cX8_month 105 = .ok (.iload_n 3, 1) := by decide +kernel
theorem dX8_month_106 : decode cX8_month 106 = .ok (.iconst 2, 1) := by decide +kernel
theorem dX8_month_107 : decode cX8_month 107 = .ok (.iadd, 1) := by decide +kernel
theorem dX8_month_108 : decode cX8_month 108 = .ok (.iaload, 1) := by decide +kernel
theorem dX8_month_109 : decode cX8_month 109 = .ok (.iconst 2, 1) := by decide +kernel
theorem dX8_month_110 : decode cX8_month 110 = .ok (.idiv, 1) := by decide +kernel
theorem dX8_month_111 : decode cX8_month 111 = .ok (.goto 8, 3) := by decide +kernel
theorem dX8_month_114 : decode cX8_month 114 = .ok (.aload_n 0, 1) := by decide +kernel
theorem dX8_month_115 : decode cX8_month 115 = .ok (.iload_n 3, 1) := by decide +kernel
theorem dX8_month_116 : decode cX8_month 116 = .ok (.iconst 2, 1) := by decide +kernel
theorem dX8_month_117 : decode cX8_month 117 = .ok (.iadd, 1) := by decide +kernel
theorem dX8_month_118 : decode cX8_month 118 = .ok (.iaload, 1) := by decide +kernel
theorem dX8_month_119 : decode cX8_month 119 = .ok (.iastore, 1) := by decide +kernel
theorem dX8_month_120 : decode cX8_month 120 = .ok (.iinc 2 1, 3) := by decide +kernel
theorem dX8_month_123 : decode cX8_month 123 = .ok (.goto (-121), 3) := by decide +kernel
theorem dX8_month_126 : decode cX8_month 126 = .ok (.iconst 0, 1) := by decide +kernel
theorem dX8_month_127 : decode cX8_month 127 = .ok (.istore_n 2, 1) := by decide +kernel
theorem dX8_month_128 : decode cX8_month 128 = .ok (.iload_n 2, 1) := by decide +kernel
theorem dX8_month_129 : decode cX8_month 129 = .ok (.aload_n 0, 1) := by decide +kernel
theorem dX8_month_130 : decode cX8_month 130 = .ok (.iconst 4, 1) := by decide +kernel
theorem dX8_month_131 : decode cX8_month 131 = .ok (.iaload, 1) := by decide +kernel
theorem dX8_month_132 : decode cX8_month 132 = .ok (.if_icmp .ge 27, 3) := by decide +kernel
theorem dX8_month_135 : decode cX8_month 135 = .ok (.aload_n 0, 1) := by decide +kernel
theorem dX8_month_136 : decode cX8_month 136 = .ok (.bipush 26, 2) := by decide +kernel
theorem dX8_month_138 : decode cX8_month 138 = .ok (.iconst 5, 1) := by decide +kernel
theorem dX8_month_139 : decode cX8_month 139 = .ok (.iload_n 2, 1) := by decide +kernel
theorem dX8_month_140 : decode cX8_month 140 = .ok (.imul, 1) := by decide +kernel
theorem dX8_month_141 : decode cX8_month 141 = .ok (.iadd, 1) := by decide +kernel
theorem dX8_month_142 : decode cX8_month 142 = .ok (.iconst 3, 1) := by decide +kernel
theorem dX8_month_143 : decode cX8_month 143 = .ok (.iadd, 1) := by decide +kernel
theorem dX8_month_144 : decode cX8_month 144 = .ok (.iaload, 1) := by decide +kernel
theorem dX8_month_145 : decode cX8_month 145 = .ok (.ifCond .ne 8, 3) := by decide +kernel
theorem dX8_month_148 : decode cX8_month 148 = .ok (.aload_n 0, 1) := by decide +kernel
theorem dX8_month_149 : decode cX8_month 149 = .ok (.iload_n 2, 1) := by decide +kernel
theorem dX8_month_150 : decode cX8_month 150 = .ok (.invokestatic 148, 3) := by decide +kernel
theorem dX8_month_153 : decode cX8_month 153 = .ok (.iinc 2 1, 3) := by decide +kernel
theorem dX8_month_156 : decode cX8_month 156 = .ok (.goto (-28), 3) := by decide +kernel
theorem dX8_month_159 : decode cX8_month 159 = .ok (.iconst 0, 1) := by decide +kernel
theorem dX8_month_160 : decode cX8_month 160 = .ok (.istore_n 2, 1) := by decide +kernel
theorem dX8_month_161 : decode cX8_month 161 = .ok (.iconst 0, 1) := by decide +kernel
theorem dX8_month_162 : decode cX8_month 162 = .ok (.istore_n 3, 1) := by decide +kernel
theorem dX8_month_163 : decode cX8_month 163 = .ok (.iload_n 3, 1) := by decide +kernel
theorem dX8_month_164 : decode cX8_month 164 = .ok (.aload_n 0, 1) := by decide +kernel
theorem dX8_month_165 : decode cX8_month 165 = .ok (.iconst 4, 1) := by decide +kernel
theorem dX8_month_166 : decode cX8_month 166 = .ok (.iaload, 1) := by decide +kernel
theorem dX8_month_167 : decode cX8_month 167 = .ok (.if_icmp .ge 39, 3) := by decide +kernel
theorem dX8_month_170 : decode cX8_month 170 = .ok (.iload_n 2, 1) := by decide +kernel
theorem dX8_month_171 : decode cX8_month 171 = .ok (.aload_n 0, 1) := by decide +kernel
theorem dX8_month_172 : decode cX8_month 172 = .ok (.bipush 26, 2) := by decide +kernel
theorem dX8_month_174 : decode cX8_month 174 = .ok (.iconst 5, 1) := by decide +kernel
theorem dX8_month_175 : decode cX8_month 175 = .ok (.iload_n 3, 1) := by decide +kernel
theorem dX8_month_176 : decode cX8_month 176 = .ok (.imul, 1) := by decide +kernel
theorem dX8_month_177 : decode cX8_month 177 = .ok (.iadd, 1) := by decide +kernel
theorem dX8_month_178 : decode cX8_month 178 = .ok (.iconst 3, 1) := by decide +kernel
theorem dX8_month_179 : decode cX8_month 179 = .ok (.iadd, 1) := by decide +kernel
theorem dX8_month_180 : decode cX8_month 180 = .ok (.iaload, 1) := by decide +kernel
theorem dX8_month_181 : decode cX8_month 181 = .ok (.iconst 3, 1) := by decide +kernel
theorem dX8_month_182 : decode cX8_month 182 = .ok (.if_icmp .ne 15, 3) := by decide +kernel
theorem dX8_month_185 : decode cX8_month 185 = .ok (.aload_n 0, 1) := by decide +kernel
theorem dX8_month_186 : decode cX8_month 186 = .ok (.iload_n 3, 1) := by decide +kernel
theorem dX8_month_187 : decode cX8_month 187 = .ok (.invokestatic 152, 3) := by decide +kernel
theorem dX8_month_190 : decode cX8_month 190 = .ok (.ifCond .eq 7, 3) := by decide +kernel
theorem dX8_month_193 : decode cX8_month 193 = .ok (.iconst 1, 1) := by decide +kernel
theorem dX8_month_194 : decode cX8_month 194 = .ok (.goto 4, 3) := by decide +kernel
theorem dX8_month_197 : decode cX8_month 197 = .ok (.iconst 0, 1) := by decide +kernel
theorem dX8_month_198 : decode cX8_month 198 = .ok (.iadd, 1) := by decide +kernel
theorem dX8_month_199 : decode cX8_month 199 = .ok (.istore_n 2, 1) := by decide +kernel
theorem dX8_month_200 : decode cX8_month 200 = .ok (.iinc 3 1, 3) := by decide +kernel
theorem dX8_month_203 : decode cX8_month 203 = .ok (.goto (-40), 3) := by decide +kernel
theorem dX8_month_206 : decode cX8_month 206 = .ok (.aload_n 0, 1) := by decide +kernel
theorem dX8_month_207 : decode cX8_month 207 = .ok (.iconst 2, 1) := by decide +kernel
theorem dX8_month_208 : decode cX8_month 208 = .ok (.dup2, 1) := by decide +kernel
theorem dX8_month_209 : decode cX8_month 209 = .ok (.iaload, 1) := by decide +kernel
theorem dX8_month_210 : decode cX8_month 210 = .ok (.iconst 1, 1) := by decide +kernel
theorem dX8_month_211 : decode cX8_month 211 = .ok (.iadd, 1) := by decide +kernel
theorem dX8_month_212 : decode cX8_month 212 = .ok (.iastore, 1) := by decide +kernel
theorem dX8_month_213 : decode cX8_month 213 = .ok (.iload_n 2, 1) := by decide +kernel
theorem dX8_month_214 : decode cX8_month 214 = .ok (.ireturn, 1) := by decide +kernel
theorem dX8_knows_0 : decode cX8_knows 0 = .ok (.aload_n 0, 1) := by decide +kernel
theorem dX8_knows_1 : decode cX8_knows 1 = .ok (.getfield 7, 3) := by decide +kernel
theorem dX8_knows_4 : decode cX8_knows 4 = .ok (.bipush 7, 2) := by decide +kernel
theorem dX8_knows_6 : decode cX8_knows 6 = .ok (.iaload, 1) := by decide +kernel
theorem dX8_knows_7 : decode cX8_knows 7 = .ok (.bipush 8, 2) := by decide +kernel
theorem dX8_knows_9 : decode cX8_knows 9 = .ok (.if_icmp .ne 45, 3) := by decide +kernel
theorem dX8_knows_12 : decode cX8_knows 12 = .ok (.bipush 82, 2) := by decide +kernel
theorem dX8_knows_14 : decode cX8_knows 14 = .ok (.istore_n 1, 1) := by decide +kernel
theorem dX8_knows_15 : decode cX8_knows 15 = .ok (.iload_n 1, 1) := by decide +kernel
theorem dX8_knows_16 : decode cX8_knows 16 = .ok (.sipush 327, 3) := by decide +kernel
theorem dX8_knows_19 : decode cX8_knows 19 = .ok (.if_icmp .ge 24, 3) := by decide +kernel
theorem dX8_knows_22 : decode cX8_knows 22 = .ok (.aload_n 0, 1) := by decide +kernel
theorem dX8_knows_23 : decode cX8_knows 23 = .ok (.getfield 7, 3) := by decide +kernel
theorem dX8_knows_26 : decode cX8_knows 26 = .ok (.iload_n 1, 1) := by decide +kernel
theorem dX8_knows_27 : decode cX8_knows 27 = .ok (.aload_n 0, 1) := by decide +kernel
theorem dX8_knows_28 : decode cX8_knows 28 = .ok (.getfield 7, 3) := by decide +kernel
theorem dX8_knows_31 : decode cX8_knows 31 = .ok (.iload_n 1, 1) := by decide +kernel
theorem dX8_knows_32 : decode cX8_knows 32 = .ok (.bipush 35, 2) := by decide +kernel
theorem dX8_knows_34 : decode cX8_knows 34 = .ok (.iadd, 1) := by decide +kernel
theorem dX8_knows_35 : decode cX8_knows 35 = .ok (.iaload, 1) := by decide +kernel
theorem dX8_knows_36 : decode cX8_knows 36 = .ok (.iastore, 1) := by decide +kernel
theorem dX8_knows_37 : decode cX8_knows 37 = .ok (.iinc 1 1, 3) := by decide +kernel
theorem dX8_knows_40 : decode cX8_knows 40 = .ok (.goto (-25), 3) := by decide +kernel
theorem dX8_knows_43 : decode cX8_knows 43 = .ok (.aload_n 0, 1) := by decide +kernel
theorem dX8_knows_44 : decode cX8_knows 44 = .ok (.getfield 7, 3) := by decide +kernel
theorem dX8_knows_47 : decode cX8_knows 47 = .ok (.bipush 7, 2) := by decide +kernel
theorem dX8_knows_49 : decode cX8_knows 49 = .ok (.dup2, 1) := by decide +kernel
theorem dX8_knows_50 : decode cX8_knows 50 = .ok (.iaload, 1) := by decide +kernel
theorem dX8_knows_51 : decode cX8_knows 51 = .ok (.iconst 1, 1) := by decide +kernel
theorem dX8_knows_52 : decode cX8_knows 52 = .ok (.isub, 1) := by decide +kernel
theorem dX8_knows_53 : decode cX8_knows 53 = .ok (.iastore, 1) := by decide +kernel
theorem dX8_knows_54 : decode cX8_knows 54 = .ok (.bipush 82, 2) := by decide +kernel
theorem dX8_knows_56 : decode cX8_knows 56 = .ok (.bipush 35, 2) := by decide +kernel
theorem dX8_knows_58 : decode cX8_knows 58 = .ok (.aload_n 0, 1) := by decide +kernel
theorem dX8_knows_59 : decode cX8_knows 59 = .ok (.getfield 7, 3) := by decide +kernel
theorem dX8_knows_62 : decode cX8_knows 62 = .ok (.bipush 7, 2) := by decide +kernel
theorem dX8_knows_64 : decode cX8_knows 64 = .ok (.iaload, 1) := by decide +kernel
theorem dX8_knows_65 : decode cX8_knows 65 = .ok (.imul, 1) := by decide +kernel
theorem dX8_knows_66 : decode cX8_knows 66 = .ok (.iadd, 1) := by decide +kernel
theorem dX8_knows_67 : decode cX8_knows 67 = .ok (.istore_n 1, 1) := by decide +kernel
theorem dX8_knows_68 : decode cX8_knows 68 = .ok (.aload_n 0, 1) := by decide +kernel
theorem dX8_knows_69 : decode cX8_knows 69 = .ok (.getfield 7, 3) := by decide +kernel
theorem dX8_knows_72 : decode cX8_knows 72 = .ok (.iload_n 1, 1) := by decide +kernel
theorem dX8_knows_73 : decode cX8_knows 73 = .ok (.aload_n 0, 1) := by decide +kernel
theorem dX8_knows_74 : decode cX8_knows 74 = .ok (.getfield 7, 3) := by decide +kernel
theorem dX8_knows_77 : decode cX8_knows 77 = .ok (.iconst 0, 1) := by decide +kernel
theorem dX8_knows_78 : decode cX8_knows 78 = .ok (.iaload, 1) := by decide +kernel
theorem dX8_knows_79 : decode cX8_knows 79 = .ok (.iastore, 1) := by decide +kernel
theorem dX8_knows_80 : decode cX8_knows 80 = .ok (.aload_n 0, 1) := by decide +kernel
theorem dX8_knows_81 : decode cX8_knows 81 = .ok (.getfield 7, 3) := by decide +kernel
theorem dX8_knows_84 : decode cX8_knows 84 = .ok (.iload_n 1, 1) := by decide +kernel
theorem dX8_knows_85 : decode cX8_knows 85 = .ok (.iconst 1, 1) := by decide +kernel
theorem dX8_knows_86 : decode cX8_knows 86 = .ok (.iadd, 1) := by decide +kernel
theorem dX8_knows_87 : decode cX8_knows 87 = .ok (.aload_n 0, 1) := by decide +kernel
theorem dX8_knows_88 : decode cX8_knows 88 = .ok (.getfield 7, 3) := by decide +kernel
theorem dX8_knows_91 : decode cX8_knows 91 = .ok (.bipush 6, 2) := by decide +kernel
theorem dX8_knows_93 : decode cX8_knows 93 = .ok (.iaload, 1) := by decide +kernel
theorem dX8_knows_94 : decode cX8_knows 94 = .ok (.iastore, 1) := by decide +kernel
theorem dX8_knows_95 : decode cX8_knows 95 = .ok (.aload_n 0, 1) := by decide +kernel
theorem dX8_knows_96 : decode cX8_knows 96 = .ok (.getfield 7, 3) := by decide +kernel
theorem dX8_knows_99 : decode cX8_knows 99 = .ok (.iload_n 1, 1) := by decide +kernel
theorem dX8_knows_100 : decode cX8_knows 100 = .ok (.iconst 2, 1) := by decide +kernel
theorem dX8_knows_101 : decode cX8_knows 101 = .ok (.iadd, 1) := by decide +kernel
theorem dX8_knows_102 : decode cX8_knows 102 = .ok (.aload_n 0, 1) := by decide +kernel
theorem dX8_knows_103 : decode cX8_knows 103 = .ok (.getfield 7, 3) := by decide +kernel
theorem dX8_knows_106 : decode cX8_knows 106 = .ok (.iconst 2, 1) := by decide +kernel
theorem dX8_knows_107 : decode cX8_knows 107 = .ok (.iaload, 1) := by decide +kernel
theorem dX8_knows_108 : decode cX8_knows 108 = .ok (.iastore, 1) := by decide +kernel
theorem dX8_knows_109 : decode cX8_knows 109 = .ok (.aload_n 0, 1) := by decide +kernel
theorem dX8_knows_110 : decode cX8_knows 110 = .ok (.getfield 7, 3) := by decide +kernel
theorem dX8_knows_113 : decode cX8_knows 113 = .ok (.iload_n 1, 1) := by decide +kernel
theorem dX8_knows_114 : decode cX8_knows 114 = .ok (.iconst 3, 1) := by decide +kernel
theorem dX8_knows_115 : decode cX8_knows 115 = .ok (.iadd, 1) := by decide +kernel
theorem dX8_knows_116 : decode cX8_knows 116 = .ok (.aload_n 0, 1) := by decide +kernel
theorem dX8_knows_117 : decode cX8_knows 117 = .ok (.getfield 7, 3) := by decide +kernel
theorem dX8_knows_120 : decode cX8_knows 120 = .ok (.iconst 3, 1) := by decide +kernel
theorem dX8_knows_121 : decode cX8_knows 121 = .ok (.iaload, 1) := by decide +kernel
theorem dX8_knows_122 : decode cX8_knows 122 = .ok (.iastore, 1) := by decide +kernel
theorem dX8_knows_123 : decode cX8_knows 123 = .ok (.aload_n 0, 1) := by decide +kernel
theorem dX8_knows_124 : decode cX8_knows 124 = .ok (.getfield 7, 3) := by decide +kernel
theorem dX8_knows_127 : decode cX8_knows 127 = .ok (.iload_n 1, 1) := by decide +kernel
theorem dX8_knows_128 : decode cX8_knows 128 = .ok (.iconst 4, 1) := by decide +kernel
theorem dX8_knows_129 : decode cX8_knows 129 = .ok (.iadd, 1) := by decide +kernel
theorem dX8_knows_130 : decode cX8_knows 130 = .ok (.aload_n 0, 1) := by decide +kernel
theorem dX8_knows_131 : decode cX8_knows 131 = .ok (.getfield 7, 3) := by decide +kernel
theorem dX8_knows_134 : decode cX8_knows 134 = .ok (.iconst 4, 1) := by decide +kernel
theorem dX8_knows_135 : decode cX8_knows 135 = .ok (.iaload, 1) := by decide +kernel
theorem dX8_knows_136 : decode cX8_knows 136 = .ok (.iastore, 1) := by decide +kernel
theorem dX8_knows_137 : decode cX8_knows 137 = .ok (.iconst 0, 1) := by decide +kernel
theorem dX8_knows_138 : decode cX8_knows 138 = .ok (.istore_n 2, 1) := by decide +kernel
theorem dX8_knows_139 : decode cX8_knows 139 = .ok (.iload_n 2, 1) := by decide +kernel
theorem dX8_knows_140 : decode cX8_knows 140 = .ok (.bipush 6, 2) := by decide +kernel
theorem dX8_knows_142 : decode cX8_knows 142 = .ok (.if_icmp .ge 32, 3) := by decide +kernel
theorem dX8_knows_145 : decode cX8_knows 145 = .ok (.aload_n 0, 1) := by decide +kernel
theorem dX8_knows_146 : decode cX8_knows 146 = .ok (.getfield 7, 3) := by decide +kernel
theorem dX8_knows_149 : decode cX8_knows 149 = .ok (.iload_n 1, 1) := by decide +kernel
theorem dX8_knows_150 : decode cX8_knows 150 = .ok (.iconst 5, 1) := by decide +kernel
theorem dX8_knows_151 : decode cX8_knows 151 = .ok (.iadd, 1) := by decide +kernel
theorem dX8_knows_152 : decode cX8_knows 152 = .ok (.iload_n 2, 1) := by decide +kernel
theorem dX8_knows_153 : decode cX8_knows 153 = .ok (.iadd, 1) := by decide +kernel
theorem dX8_knows_154 : decode cX8_knows 154 = .ok (.aload_n 0, 1) := by decide +kernel
theorem dX8_knows_155 : decode cX8_knows 155 = .ok (.getfield 7, 3) := by decide +kernel
theorem dX8_knows_158 : decode cX8_knows 158 = .ok (.bipush 8, 2) := by decide +kernel
theorem dX8_knows_160 : decode cX8_knows 160 = .ok (.iconst 3, 1) := by decide +kernel
theorem dX8_knows_161 : decode cX8_knows 161 = .ok (.iload_n 2, 1) := by decide +kernel
theorem dX8_knows_162 : decode cX8_knows 162 = .ok (.imul, 1) := by decide +kernel
theorem dX8_knows_163 : decode cX8_knows 163 = .ok (.iadd, 1) := by decide +kernel
theorem dX8_knows_164 : decode cX8_knows 164 = .ok (.iconst 2, 1) := by decide +kernel
theorem dX8_knows_165 : decode cX8_knows 165 = .ok (.iadd, 1) := by decide +kernel
theorem dX8_knows_166 : decode cX8_knows 166 = .ok (.iaload, 1) := by decide +kernel
theorem dX8_knows_167 : decode cX8_knows 167 = .ok (.iastore, 1) := by decide +kernel
theorem dX8_knows_168 : decode cX8_knows 168 = .ok (.iinc 2 1, 3) := by decide +kernel
theorem dX8_knows_171 : decode cX8_knows 171 = .ok (.goto (-32), 3) := by decide +kernel
theorem dX8_knows_174 : decode cX8_knows 174 = .ok (.iconst 0, 1) := by decide +kernel
theorem dX8_knows_175 : decode cX8_knows 175 = .ok (.istore_n 2, 1) := by decide +kernel
theorem dX8_knows_176 : decode cX8_knows 176 = .ok (.iload_n 2, 1) := by decide +kernel
theorem dX8_knows_177 : decode cX8_knows 177 = .ok (.bipush 8, 2) := by decide +kernel
theorem dX8_knows_179 : decode cX8_knows 179 = .ok (.if_icmp .ge 85, 3) := by decide +kernel
theorem dX8_knows_182 : decode cX8_knows 182 = .ok (.aload_n 0, 1) := by decide +kernel
theorem dX8_knows_183 : decode cX8_knows 183 = .ok (.getfield 7, 3) := by decide +kernel
theorem dX8_knows_186 : decode cX8_knows 186 = .ok (.iload_n 1, 1) := by decide +kernel
theorem dX8_knows_187 : decode cX8_knows 187 = .ok (.bipush 11, 2) := by decide +kernel
theorem dX8_knows_189 : decode cX8_knows 189 = .ok (.iadd, 1) := by decide +kernel
theorem dX8_knows_190 : decode cX8_knows 190 = .ok (.iconst 3, 1) := by decide +kernel
theorem dX8_knows_191 : decode cX8_knows 191 = .ok (.iload_n 2, 1) := by decide +kernel
theorem dX8_knows_192 : decode cX8_knows 192 = .ok (.imul, 1) := by decide +kernel
theorem dX8_knows_193 : decode cX8_knows 193 = .ok (.iadd, 1) := by decide +kernel
theorem dX8_knows_194 : decode cX8_knows 194 = .ok (.aload_n 0, 1) := by decide +kernel
theorem dX8_knows_195 : decode cX8_knows 195 = .ok (.getfield 7, 3) := by decide +kernel
theorem dX8_knows_198 : decode cX8_knows 198 = .ok (.bipush 26, 2) := by decide +kernel
theorem dX8_knows_200 : decode cX8_knows 200 = .ok (.iconst 5, 1) := by decide +kernel
theorem dX8_knows_201 : decode cX8_knows 201 = .ok (.iload_n 2, 1) := by decide +kernel
theorem dX8_knows_202 : decode cX8_knows 202 = .ok (.imul, 1) := by decide +kernel
theorem dX8_knows_203 : decode cX8_knows 203 = .ok (.iadd, 1) := by decide +kernel
theorem dX8_knows_204 : decode cX8_knows 204 = .ok (.iaload, 1) := by decide +kernel
theorem dX8_knows_205 : decode cX8_knows 205 = .ok (.iastore, 1) := by decide +kernel
theorem dX8_knows_206 : decode cX8_knows 206 = .ok (.aload_n 0, 1) := by decide +kernel
theorem dX8_knows_207 : decode cX8_knows 207 = .ok (.getfield 7, 3) := by decide +kernel
theorem dX8_knows_210 : decode cX8_knows 210 = .ok (.iload_n 1, 1) := by decide +kernel
theorem dX8_knows_211 : decode cX8_knows 211 = .ok (.bipush 12, 2) := by decide +kernel
theorem dX8_knows_213 : decode cX8_knows 213 = .ok (.iadd, 1) := by decide +kernel
theorem dX8_knows_214 : decode cX8_knows 214 = .ok (.iconst 3, 1) := by decide +kernel
theorem dX8_knows_215 : decode cX8_knows 215 = .ok (.iload_n 2, 1) := by decide +kernel
theorem dX8_knows_216 : decode cX8_knows 216 = .ok (.imul, 1) := by decide +kernel
theorem dX8_knows_217 : decode cX8_knows 217 = .ok (.iadd, 1) := by decide +kernel
theorem dX8_knows_218 : decode cX8_knows 218 = .ok (.aload_n 0, 1) := by decide +kernel
theorem dX8_knows_219 : decode cX8_knows 219 = .ok (.getfield 7, 3) := by decide +kernel
theorem dX8_knows_222 : decode cX8_knows 222 = .ok (.bipush 26, 2) := by decide +kernel
theorem dX8_knows_224 : decode cX8_knows 224 = .ok (.iconst 5, 1) := by decide +kernel
theorem dX8_knows_225 : decode cX8_knows 225 = .ok (.iload_n 2, 1) := by decide +kernel
theorem dX8_knows_226 : decode cX8_knows 226 = .ok (.imul, 1) := by decide +kernel
theorem dX8_knows_227 : decode cX8_knows 227 = .ok (.iadd, 1) := by decide +kernel
theorem dX8_knows_228 : decode cX8_knows 228 = .ok (.iconst 3, 1) := by decide +kernel
theorem dX8_knows_229 : decode cX8_knows 229 = .ok (.iadd, 1) := by decide +kernel
theorem dX8_knows_230 : decode cX8_knows 230 = .ok (.iaload, 1) := by decide +kernel
theorem dX8_knows_231 : decode cX8_knows 231 = .ok (.iastore, 1) := by decide +kernel
theorem dX8_knows_232 : decode cX8_knows 232 = .ok (.aload_n 0, 1) := by decide +kernel
theorem dX8_knows_233 : decode cX8_knows 233 = .ok (.getfield 7, 3) := by decide +kernel
theorem dX8_knows_236 : decode cX8_knows 236 = .ok (.iload_n 1, 1) := by decide +kernel
theorem dX8_knows_237 : decode cX8_knows 237 = .ok (.bipush 13, 2) := by decide +kernel
theorem dX8_knows_239 : decode cX8_knows 239 = .ok (.iadd, 1) := by decide +kernel
theorem dX8_knows_240 : decode cX8_knows 240 = .ok (.iconst 3, 1) := by decide +kernel
theorem dX8_knows_241 : decode cX8_knows 241 = .ok (.iload_n 2, 1) := by decide +kernel
theorem dX8_knows_242 : decode cX8_knows 242 = .ok (.imul, 1) := by decide +kernel
theorem dX8_knows_243 : decode cX8_knows 243 = .ok (.iadd, 1) := by decide +kernel
theorem dX8_knows_244 : decode cX8_knows 244 = .ok (.aload_n 0, 1) := by decide +kernel
theorem dX8_knows_245 : decode cX8_knows 245 = .ok (.getfield 7, 3) := by decide +kernel
theorem dX8_knows_248 : decode cX8_knows 248 = .ok (.bipush 26, 2) := by decide +kernel
theorem dX8_knows_250 : decode cX8_knows 250 = .ok (.iconst 5, 1) := by decide +kernel
theorem dX8_knows_251 : decode cX8_knows 251 = .ok (.iload_n 2, 1) := by decide +kernel
theorem dX8_knows_252 : decode cX8_knows 252 = .ok (.imul, 1) := by decide +kernel
theorem dX8_knows_253 : decode cX8_knows 253 = .ok (.iadd, 1) := by decide +kernel
theorem dX8_knows_254 : decode cX8_knows 254 = .ok (.iconst 4, 1) := by decide +kernel
theorem dX8_knows_255 : decode cX8_knows 255 = .ok (.iadd, 1) := by decide +kernel
theorem dX8_knows_256 : decode cX8_knows 256 = .ok (.iaload, 1) := by decide +kernel
theorem dX8_knows_257 : decode cX8_knows 257 = .ok (.iastore, 1) := by decide +kernel
theorem dX8_knows_258 : decode cX8_knows 258 = .ok (.iinc 2 1, 3) := by decide +kernel
theorem dX8_knows_261 : decode cX8_knows 261 = .ok (.goto (-85), 3) := by decide +kernel
theorem dX8_knows_264 : decode cX8_knows 264 = .ok (.aload_n 0, 1) := by decide +kernel
theorem dX8_knows_265 : decode cX8_knows 265 = .ok (.getfield 7, 3) := by decide +kernel
theorem dX8_knows_268 : decode cX8_knows 268 = .ok (.bipush 7, 2) := by decide +kernel
theorem dX8_knows_270 : decode cX8_knows 270 = .ok (.dup2, 1) := by decide +kernel
theorem dX8_knows_271 : decode cX8_knows 271 = .ok (.iaload, 1) := by decide +kernel
theorem dX8_knows_272 : decode cX8_knows 272 = .ok (.iconst 1, 1) := by decide +kernel
theorem dX8_knows_273 : decode cX8_knows 273 = .ok (.iadd, 1) := by decide +kernel
theorem dX8_knows_274 : decode cX8_knows 274 = .ok (.iastore, 1) := by decide +kernel
theorem dX8_knows_275 : decode cX8_knows 275 = .ok (.return_, 1) := by decide +kernel
set_option maxRecDepth 20000 in
theorem ggX8_undo_X8_no : GoodIn wsX8_undo wsX8_no := goodIn_r _ [6, 7, 8, 9, 10, 11, 12, 13, 14, 15, 16, 17, 18, 19, 20, 21, 22, 23, 24, 25, 26, 27] (by decide +kernel) (by decide +kernel)
set_option maxRecDepth 20000 in
theorem gX8_undo_X8_no : GoodIn wsX8_undo (wsV RX8 156 RX8 yX8_no wsX8_no) := goodIn_app (goodIn_of _ (by decide +kernel)) ggX8_undo_X8_no
theorem dX8_undo_0 : decode cX8_undo 0 = .ok (.aload_n 0, 1) := by decide +kernel
theorem dX8_undo_1 : decode cX8_undo 1 = .ok (.getfield 7, 3) := by decide +kernel
theorem dX8_undo_4 : decode cX8_undo 4 = .ok (.bipush 7, 2) := by decide +kernel
theorem dX8_undo_6 : decode cX8_undo 6 = .ok (.iaload, 1) := by decide +kernel
theorem dX8_undo_7 : decode cX8_undo 7 = .ok (.ifCond .ne 8, 3) := by decide +kernel
theorem dX8_undo_10 : decode cX8_undo 10 = .ok (.aload_n 0, 1) := by decide +kernel
theorem dX8_undo_11 : decode cX8_undo 11 = .ok (.invokevirtual 156, 3) := by decide +kernel
theorem dX8_undo_14 : decode cX8_undo 14 = .ok (.ireturn, 1) := by decide +kernel
theorem dX8_undo_15 : decode cX8_undo 15 = .ok (.aload_n 0, 1) := by decide +kernel
theorem dX8_undo_16 : decode cX8_undo 16 = .ok (.getfield 7, 3) := by decide +kernel
theorem dX8_undo_19 : decode cX8_undo 19 = .ok (.bipush 7, 2) := by decide +kernel
theorem dX8_undo_21 : decode cX8_undo 21 = .ok (.dup2, 1) := by decide +kernel
theorem dX8_undo_22 : decode cX8_undo 22 = .ok (.iaload, 1) := by decide +kernel
theorem dX8_undo_23 : decode cX8_undo 23 = .ok (.iconst 1, 1) := by decide +kernel
theorem dX8_undo_24 : decode cX8_undo 24 = .ok (.isub, 1) := by decide +kernel
theorem dX8_undo_25 : decode cX8_undo 25 = .ok (.iastore, 1) := by decide +kernel
theorem dX8_undo_26 : decode cX8_undo 26 = .ok (.bipush 82, 2) := by decide +kernel
theorem dX8_undo_28 : decode cX8_undo 28 = .ok (.bipush 35, 2) := by decide +kernel
theorem dX8_undo_30 : decode cX8_undo 30 = .ok (.aload_n 0, 1) := by decide +kernel
theorem dX8_undo_31 : decode cX8_undo 31 = .ok (.getfield 7, 3) := by decide +kernel
theorem dX8_undo_34 : decode cX8_undo 34 = .ok (.bipush 7, 2) := by decide +kernel
theorem dX8_undo_36 : decode cX8_undo 36 = .ok (.iaload, 1) := by decide +kernel
theorem dX8_undo_37 : decode cX8_undo 37 = .ok (.imul, 1) := by decide +kernel
theorem dX8_undo_38 : decode cX8_undo 38 = .ok (.iadd, 1) := by decide +kernel
theorem dX8_undo_39 : decode cX8_undo 39 = .ok (.istore_n 1, 1) := by decide +kernel
theorem dX8_undo_40 : decode cX8_undo 40 = .ok (.aload_n 0, 1) := by decide +kernel
theorem dX8_undo_41 : decode cX8_undo 41 = .ok (.getfield 7, 3) := by decide +kernel
theorem dX8_undo_44 : decode cX8_undo 44 = .ok (.iconst 0, 1) := by decide +kernel
theorem dX8_undo_45 : decode cX8_undo 45 = .ok (.aload_n 0, 1) := by decide +kernel
theorem dX8_undo_46 : decode cX8_undo 46 = .ok (.getfield 7, 3) := by decide +kernel
theorem dX8_undo_49 : decode cX8_undo 49 = .ok (.iload_n 1, 1) := by decide +kernel
theorem dX8_undo_50 : decode cX8_undo 50 = .ok (.iaload, 1) := by decide +kernel
theorem dX8_undo_51 : decode cX8_undo 51 = .ok (.iastore, 1) := by decide +kernel
theorem dX8_undo_52 : decode cX8_undo 52 = .ok (.aload_n 0, 1) := by decide +kernel
theorem dX8_undo_53 : decode cX8_undo 53 = .ok (.getfield 7, 3) := by decide +kernel
theorem dX8_undo_56 : decode cX8_undo 56 = .ok (.bipush 6, 2) := by decide +kernel
theorem dX8_undo_58 : decode cX8_undo 58 = .ok (.aload_n 0, 1) := by decide +kernel
theorem dX8_undo_59 : decode cX8_undo 59 = .ok (.getfield 7, 3) := by decide +kernel
theorem dX8_undo_62 : decode cX8_undo 62 = .ok (.iload_n 1, 1) := by decide +kernel
theorem dX8_undo_63 : decode cX8_undo 63 = .ok (.iconst 1, 1) := by decide +kernel
theorem dX8_undo_64 : decode cX8_undo 64 = .ok (.iadd, 1) := by decide +kernel
theorem dX8_undo_65 : decode cX8_undo 65 = .ok (.iaload, 1) := by decide +kernel
theorem dX8_undo_66 : decode cX8_undo 66 = .ok (.iastore, 1) := by decide +kernel
theorem dX8_undo_67 : decode cX8_undo 67 = .ok (.aload_n 0, 1) := by decide +kernel
theorem dX8_undo_68 : decode cX8_undo 68 = .ok (.getfield 7, 3) := by decide +kernel
theorem dX8_undo_71 : decode cX8_undo 71 = .ok (.iconst 2, 1) := by decide +kernel
theorem dX8_undo_72 : decode cX8_undo 72 = .ok (.aload_n 0, 1) := by decide +kernel
theorem dX8_undo_73 : decode cX8_undo 73 = .ok (.getfield 7, 3) := by decide +kernel
theorem dX8_undo_76 : decode cX8_undo 76 = .ok (.iload_n 1, 1) := by decide +kernel
theorem dX8_undo_77 : decode cX8_undo 77 = .ok (.iconst 2, 1) := by decide +kernel
theorem dX8_undo_78 : decode cX8_undo 78 = .ok (.iadd, 1) := by decide +kernel
theorem dX8_undo_79 : decode cX8_undo 79 = .ok (.iaload, 1) := by decide +kernel
theorem dX8_undo_80 : decode cX8_undo 80 = .ok (.iastore, 1) := by decide +kernel
theorem dX8_undo_81 : decode cX8_undo 81 = .ok (.iconst 0, 1) := by decide +kernel
theorem dX8_undo_82 : decode cX8_undo 82 = .ok (.istore_n 2, 1) := by decide +kernel
theorem dX8_undo_83 : decode cX8_undo 83 = .ok (.iload_n 2, 1) := by decide +kernel
theorem dX8_undo_84 : decode cX8_undo 84 = .ok (.aload_n 0, 1) := by decide +kernel
theorem dX8_undo_85 : decode cX8_undo 85 = .ok (.getfield 7, 3) := by decide +kernel
theorem dX8_undo_88 : decode cX8_undo 88 = .ok (.iload_n 1, 1) := by decide +kernel
theorem dX8_undo_89 : decode cX8_undo 89 = .ok (.iconst 3, 1) := by decide +kernel
theorem dX8_undo_90 : decode cX8_undo 90 = .ok (.iadd, 1) := by decide +kernel
theorem dX8_undo_91 : decode cX8_undo 91 = .ok (.iaload, 1) := by decide +kernel
theorem dX8_undo_92 : decode cX8_undo 92 = .ok (.if_icmp .ge 32, 3) := by decide +kernel
theorem dX8_undo_95 : decode cX8_undo 95 = .ok (.aload_n 0, 1) := by decide +kernel
theorem dX8_undo_96 : decode cX8_undo 96 = .ok (.getfield 7, 3) := by decide +kernel
theorem dX8_undo_99 : decode cX8_undo 99 = .ok (.bipush 8, 2) := by decide +kernel
theorem dX8_undo_101 : decode cX8_undo 101 = .ok (.iconst 3, 1) := by decide +kernel
theorem dX8_undo_102 : decode cX8_undo 102 = .ok (.iload_n 2, 1) := by decide +kernel
theorem dX8_undo_103 : decode cX8_undo 103 = .ok (.imul, 1) := by decide +kernel
theorem dX8_undo_104 : decode cX8_undo 104 = .ok (.iadd, 1) := by decide +kernel
theorem dX8_undo_105 : decode cX8_undo 105 = .ok (.iconst 2, 1) := by decide +kernel
theorem dX8_undo_106 : decode cX8_undo 106 = .ok (.iadd, 1) := by decide +kernel
theorem dX8_undo_107 : decode cX8_undo 107 = .ok (.aload_n 0, 1) := by decide +kernel
theorem dX8_undo_108 : decode cX8_undo 108 = .ok (.getfield 7, 3) := by decide +kernel
theorem dX8_undo_111 : decode cX8_undo 111 = .ok (.iload_n 1, 1) := by decide +kernel
theorem dX8_undo_112 : decode cX8_undo 112 = .ok (.iconst 5, 1) := by decide +kernel
theorem dX8_undo_113 : decode cX8_undo 113 = .ok (.iadd, 1) := by decide +kernel
theorem dX8_undo_114 : decode cX8_undo 114 = .ok (.iload_n 2, 1) := by decide +kernel
theorem dX8_undo_115 : decode cX8_undo 115 = .ok (.iadd, 1) := by decide +kernel
theorem dX8_undo_116 : decode cX8_undo 116 = .ok (.iaload, 1) := by decide +kernel
theorem dX8_undo_117 : decode cX8_undo 117 = .ok (.iastore, 1) := by decide +kernel
theorem dX8_undo_118 : decode cX8_undo 118 = .ok (.iinc 2 1, 3) := by decide +kernel
theorem dX8_undo_121 : decode cX8_undo 121 = .ok (.goto (-38), 3) := by decide +kernel
theorem dX8_undo_124 : decode cX8_undo 124 = .ok (.iconst 0, 1) := by decide +kernel
theorem dX8_undo_125 : decode cX8_undo 125 = .ok (.istore_n 2, 1) := by decide +kernel
theorem dX8_undo_126 : decode cX8_undo 126 = .ok (.iload_n 2, 1) := by decide +kernel
theorem dX8_undo_127 : decode cX8_undo 127 = .ok (.aload_n 0, 1) := by decide +kernel
theorem dX8_undo_128 : decode cX8_undo 128 = .ok (.getfield 7, 3) := by decide +kernel
theorem dX8_undo_131 : decode cX8_undo 131 = .ok (.iload_n 1, 1) := by decide +kernel
theorem dX8_undo_132 : decode cX8_undo 132 = .ok (.iconst 4, 1) := by decide +kernel
theorem dX8_undo_133 : decode cX8_undo 133 = .ok (.iadd, 1) := by decide +kernel
theorem dX8_undo_134 : decode cX8_undo 134 = .ok (.iaload, 1) := by decide +kernel
theorem dX8_undo_135 : decode cX8_undo 135 = .ok (.if_icmp .ge 85, 3) := by decide +kernel
theorem dX8_undo_138 : decode cX8_undo 138 = .ok (.aload_n 0, 1) := by decide +kernel
theorem dX8_undo_139 : decode cX8_undo 139 = .ok (.getfield 7, 3) := by decide +kernel
theorem dX8_undo_142 : decode cX8_undo 142 = .ok (.bipush 26, 2) := by decide +kernel
theorem dX8_undo_144 : decode cX8_undo 144 = .ok (.iconst 5, 1) := by decide +kernel
theorem dX8_undo_145 : decode cX8_undo 145 = .ok (.iload_n 2, 1) := by decide +kernel
theorem dX8_undo_146 : decode cX8_undo 146 = .ok (.imul, 1) := by decide +kernel
theorem dX8_undo_147 : decode cX8_undo 147 = .ok (.iadd, 1) := by decide +kernel
theorem dX8_undo_148 : decode cX8_undo 148 = .ok (.aload_n 0, 1) := by decide +kernel
theorem dX8_undo_149 : decode cX8_undo 149 = .ok (.getfield 7, 3) := by decide +kernel
theorem dX8_undo_152 : decode cX8_undo 152 = .ok (.iload_n 1, 1) := by decide +kernel
theorem dX8_undo_153 : decode cX8_undo 153 = .ok (.bipush 11, 2) := by decide +kernel
theorem dX8_undo_155 : decode cX8_undo 155 = .ok (.iadd, 1) := by decide +kernel
theorem dX8_undo_156 : decode cX8_undo 156 = .ok (.iconst 3, 1) := by decide +kernel
theorem dX8_undo_157 : decode cX8_undo 157 = .ok (.iload_n 2, 1) := by decide +kernel
theorem dX8_undo_158 : decode cX8_undo 158 = .ok (.imul, 1) := by decide +kernel
theorem dX8_undo_159 : decode cX8_undo 159 = .ok (.iadd, 1) := by decide +kernel
theorem dX8_undo_160 : decode cX8_undo 160 = .ok (.iaload, 1) := by decide +kernel
theorem dX8_undo_161 : decode cX8_undo 161 = .ok (.iastore, 1) := by decide +kernel
theorem dX8_undo_162 : decode cX8_undo 162 = .ok (.aload_n 0, 1) := by decide +kernel
theorem dX8_undo_163 : decode cX8_undo 163 = .ok (.getfield 7, 3) := by decide +kernel
theorem dX8_undo_166 : decode cX8_undo 166 = .ok (.bipush 26, 2) := by decide +kernel
theorem dX8_undo_168 : decode cX8_undo 168 = .ok (.iconst 5, 1) := by decide +kernel
theorem dX8_undo_169 : decode cX8_undo 169 = .ok (.iload_n 2, 1) := by decide +kernel
theorem dX8_undo_170 : decode cX8_undo 170 = .ok (.imul, 1) := by decide +kernel
theorem dX8_undo_171 : decode cX8_undo 171 = .ok (.iadd, 1) := by decide +kernel
theorem dX8_undo_172 : decode cX8_undo 172 = .ok (.iconst 3, 1) := by decide +kernel
theorem dX8_undo_173 : decode cX8_undo 173 = .ok (.iadd, 1) := by decide +kernel
theorem dX8_undo_174 : decode cX8_undo 174 = .ok (.aload_n 0, 1) := by decide +kernel
theorem dX8_undo_175 : decode cX8_undo 175 = .ok (.getfield 7, 3) := by decide +kernel
theorem dX8_undo_178 : decode cX8_undo 178 = .ok (.iload_n 1, 1) := by decide +kernel
theorem dX8_undo_179 : decode cX8_undo 179 = .ok (.bipush 12, 2) := by decide +kernel
theorem dX8_undo_181 : decode cX8_undo 181 = .ok (.iadd, 1) := by decide +kernel
theorem dX8_undo_182 : decode cX8_undo 182 = .ok (.iconst 3, 1) := by decide +kernel
theorem dX8_undo_183 : decode cX8_undo 183 = .ok (.iload_n 2, 1) := by decide +kernel
theorem dX8_undo_184 : decode cX8_undo 184 = .ok (.imul, 1) := by decide +kernel
theorem dX8_undo_185 : decode cX8_undo 185 = .ok (.iadd, 1) := by decide +kernel
theorem dX8_undo_186 : decode cX8_undo 186 = .ok (.iaload, 1) := by decide +kernel
theorem dX8_undo_187 : decode cX8_undo 187 = .ok (.iastore, 1) := by decide +kernel
theorem dX8_undo_188 : decode cX8_undo 188 = .ok (.aload_n 0, 1) := by decide +kernel
theorem dX8_undo_189 : decode cX8_undo 189 = .ok (.getfield 7, 3) := by decide +kernel
theorem dX8_undo_192 : decode cX8_undo 192 = .ok (.bipush 26, 2) := by decide +kernel
theorem dX8_undo_194 : decode cX8_undo 194 = .ok (.iconst 5, 1) := by decide +kernel
theorem dX8_undo_195 : decode cX8_undo 195 = .ok (.iload_n 2, 1) := by decide +kernel
theorem dX8_undo_196 : decode cX8_undo 196 = .ok (.imul, 1) := by decide +kernel
theorem dX8_undo_197 : decode cX8_undo 197 = .ok (.iadd, 1) := by decide +kernel
theorem dX8_undo_198 : decode cX8_undo 198 = .ok (.iconst 4, 1) := by decide +kernel
theorem dX8_undo_199 : decode cX8_undo 199 = .ok (.iadd, 1) := by decide +kernel
theorem dX8_undo_200 : decode cX8_undo 200 = .ok (.aload_n 0, 1) := by decide +kernel
theorem dX8_undo_201 : decode cX8_undo 201 = .ok (.getfield 7, 3) := by decide +kernel
theorem dX8_undo_204 : decode cX8_undo 204 = .ok (.iload_n 1, 1) := by decide +kernel
theorem dX8_undo_205 : decode cX8_undo 205 = .ok (.bipush 13, 2) := by decide +kernel
theorem dX8_undo_207 : decode cX8_undo 207 = .ok (.iadd, 1) := by decide +kernel
theorem dX8_undo_208 : decode cX8_undo 208 = .ok (.iconst 3, 1) := by decide +kernel
theorem dX8_undo_209 : decode cX8_undo 209 = .ok (.iload_n 2, 1) := by decide +kernel
theorem dX8_undo_210 : decode cX8_undo 210 = .ok (.imul, 1) := by decide +kernel
theorem dX8_undo_211 : decode cX8_undo 211 = .ok (.iadd, 1) := by decide +kernel
theorem dX8_undo_212 : decode cX8_undo 212 = .ok (.iaload, 1) := by decide +kernel
theorem dX8_undo_213 : decode cX8_undo 213 = .ok (.iastore, 1) := by decide +kernel
theorem dX8_undo_214 : decode cX8_undo 214 = .ok (.iinc 2 1, 3) := by decide +kernel
theorem dX8_undo_217 : decode cX8_undo 217 = .ok (.goto (-91), 3) := by decide +kernel
theorem dX8_undo_220 : decode cX8_undo 220 = .ok (.iconst 1, 1) := by decide +kernel
theorem dX8_undo_221 : decode cX8_undo 221 = .ok (.ireturn, 1) := by decide +kernel
set_option maxRecDepth 20000 in
theorem ggX8_pass_X8_in : GoodIn wsX8_pass wsX8_in := goodIn_r _ [5] (by decide +kernel) (by decide +kernel)
set_option maxRecDepth 20000 in
theorem gX8_pass_X8_in : GoodIn wsX8_pass (va_wsS RX8 52 yX8_in wsX8_in) := goodIn_app (goodIn_of _ (by decide +kernel)) ggX8_pass_X8_in
set_option maxRecDepth 20000 in
theorem ggX8_pass_X8_bad : GoodIn wsX8_pass wsX8_bad := goodIn_r _ [9, 10, 34, 35, 36, 37, 38, 39, 40, 41, 42, 43, 44, 45, 46, 47, 48, 49, 50, 51, 52, 53] (by decide +kernel) (by decide +kernel)
set_option maxRecDepth 20000 in
theorem gX8_pass_X8_bad : GoodIn wsX8_pass (wsV RX8 57 RX8 yX8_bad wsX8_bad) := goodIn_app (goodIn_of _ (by decide +kernel)) ggX8_pass_X8_bad
set_option maxRecDepth 20000 in
theorem ggX8_pass_X8_knows : GoodIn wsX8_pass wsX8_knows := goodIn_r _ [14, 1, 34, 35, 36, 37, 38, 39, 40, 41, 42, 43, 44, 45, 46, 47, 48, 49, 50, 51, 52, 53] (by decide +kernel) (by decide +kernel)
set_option maxRecDepth 20000 in
theorem gX8_pass_X8_knows : GoodIn wsX8_pass (wsV RX8 159 RX8 yX8_knows wsX8_knows) := goodIn_app (goodIn_of _ (by decide +kernel)) ggX8_pass_X8_knows
set_option maxRecDepth 20000 in
theorem ggX8_pass_X8_month : GoodIn wsX8_pass wsX8_month := goodIn_r _ [17, 18, 19, 4, 20, 21, 22, 23, 24, 25, 26, 27, 28, 29, 30, 31, 32, 33] (by decide +kernel) (by decide +kernel)
set_option maxRecDepth 20000 in
theorem gX8_pass_X8_month : GoodIn wsX8_pass (va_wsS RX8 162 yX8_month wsX8_month) := goodIn_app (goodIn_of _ (by decide +kernel)) ggX8_pass_X8_month
theorem dX8_pass_0 : decode cX8_pass 0 = .ok (.iload_n 1, 1) := by decide +kernel
theorem dX8_pass_1 : decode cX8_pass 1 = .ok (.iconst 1, 1) := by decide +kernel
theorem dX8_pass_2 : decode cX8_pass 2 = .ok (.bipush 12, 2) := by decide +kernel
theorem dX8_pass_4 : decode cX8_pass 4 = .ok (.invokestatic 52, 3) := by decide +kernel
theorem dX8_pass_7 : decode cX8_pass 7 = .ok (.ifCond .ne 8, 3) := by decide +kernel
theorem dX8_pass_10 : decode cX8_pass 10 = .ok (.aload_n 0, 1) := by decide +kernel
theorem dX8_pass_11 : decode cX8_pass 11 = .ok (.invokevirtual 57, 3) := by decide +kernel
theorem dX8_pass_14 : decode cX8_pass 14 = .ok (.ireturn, 1) := by decide +kernel
theorem dX8_pass_15 : decode cX8_pass 15 = .ok (.iconst 0, 1) := by decide +kernel
theorem dX8_pass_16 : decode cX8_pass 16 = .ok (.istore_n 2, 1) := by decide +kernel
theorem dX8_pass_17 : decode cX8_pass 17 = .ok (.iconst 0, 1) := by decide +kernel
theorem dX8_pass_18 : decode cX8_pass 18 = .ok (.istore_n 3, 1) := by decide +kernel
theorem dX8_pass_19 : decode cX8_pass 19 = .ok (.iload_n 3, 1) := by decide +kernel
theorem dX8_pass_20 : decode cX8_pass 20 = .ok (.iload_n 1, 1) := by decide +kernel
theorem dX8_pass_21 : decode cX8_pass 21 = .ok (.if_icmp .ge 24, 3) := by decide +kernel
theorem dX8_pass_24 : decode cX8_pass 24 = .ok (.aload_n 0, 1) := by decide +kernel
theorem dX8_pass_25 : decode cX8_pass 25 = .ok (.invokevirtual 159, 3) := by decide +kernel
theorem dX8_pass_28 : decode cX8_pass 28 = .ok (.iload_n 2, 1) := by decide +kernel
theorem dX8_pass_29 : decode cX8_pass 29 = .ok (.aload_n 0, 1) := by decide +kernel
theorem dX8_pass_30 : decode cX8_pass 30 = .ok (.getfield 7, 3) := by decide +kernel
theorem dX8_pass_33 : decode cX8_pass 33 = .ok (.iconst 0, 1) := by decide +kernel
theorem dX8_pass_34 : decode cX8_pass 34 = .ok (.invokestatic 162, 3) := by decide +kernel
theorem dX8_pass_37 : decode cX8_pass 37 = .ok (.iadd, 1) := by decide +kernel
theorem dX8_pass_38 : decode cX8_pass 38 = .ok (.istore_n 2, 1) := by decide +kernel
theorem dX8_pass_39 : decode cX8_pass 39 = .ok (.iinc 3 1, 3) := by decide +kernel
theorem dX8_pass_42 : decode cX8_pass 42 = .ok (.goto (-23), 3) := by decide +kernel
theorem dX8_pass_45 : decode cX8_pass 45 = .ok (.iload_n 2, 1) := by decide +kernel
theorem dX8_pass_46 : decode cX8_pass 46 = .ok (.ireturn, 1) := by decide +kernel
set_option maxRecDepth 20000 in
theorem ggX8_join_X8_isLoan : GoodIn wsX8_join wsX8_isLoan := goodIn_r _ [6, 1, 7, 8, 5, 9, 26, 27, 28, 29, 30, 31, 32, 33, 34, 35, 36, 37, 38, 39, 40, 41, 42, 43, 44, 45] (by decide +kernel) (by decide +kernel)
set_option maxRecDepth 20000 in
theorem gX8_join_X8_isLoan : GoodIn wsX8_join (wsV RX8 165 RX8 yX8_isLoan wsX8_isLoan) := goodIn_app (goodIn_of _ (by decide +kernel)) ggX8_join_X8_isLoan
set_option maxRecDepth 20000 in
theorem ggX8_join_X8_bad : GoodIn wsX8_join wsX8_bad := goodIn_r _ [13, 14, 26, 27, 28, 29, 30, 31, 32, 33, 34, 35, 36, 37, 38, 39, 40, 41, 42, 43, 44, 45] (by decide +kernel) (by decide +kernel)
set_option maxRecDepth 20000 in
theorem gX8_join_X8_bad : GoodIn wsX8_join (wsV RX8 57 RX8 yX8_bad wsX8_bad) := goodIn_app (goodIn_of _ (by decide +kernel)) ggX8_join_X8_bad
set_option maxRecDepth 20000 in
theorem ggX8_join_X8_no : GoodIn wsX8_join wsX8_no := goodIn_r _ [18, 14, 26, 27, 28, 29, 30, 31, 32, 33, 34, 35, 36, 37, 38, 39, 40, 41, 42, 43, 44, 45] (by decide +kernel) (by decide +kernel)
set_option maxRecDepth 20000 in
theorem gX8_join_X8_no : GoodIn wsX8_join (wsV RX8 156 RX8 yX8_no wsX8_no) := goodIn_app (goodIn_of _ (by decide +kernel)) ggX8_join_X8_no
set_option maxRecDepth 20000 in
theorem ggX8_join_X8_knows : GoodIn wsX8_join wsX8_knows := goodIn_r _ [22, 1, 26, 27, 28, 29, 30, 31, 32, 33, 34, 35, 36, 37, 38, 39, 40, 41, 42, 43, 44, 45] (by decide +kernel) (by decide +kernel)
set_option maxRecDepth 20000 in
theorem gX8_join_X8_knows : GoodIn wsX8_join (wsV RX8 159 RX8 yX8_knows wsX8_knows) := goodIn_app (goodIn_of _ (by decide +kernel)) ggX8_join_X8_knows
set_option maxRecDepth 20000 in
theorem ggX8_join_X8_least : GoodIn wsX8_join wsX8_least := goodIn_r _ [25] (by decide +kernel) (by decide +kernel)
set_option maxRecDepth 20000 in
theorem gX8_join_X8_least : GoodIn wsX8_join (va_wsS RX8 137 yX8_least wsX8_least) := goodIn_app (goodIn_of _ (by decide +kernel)) ggX8_join_X8_least
theorem dX8_join_0 : decode cX8_join 0 = .ok (.aload_n 0, 1) := by decide +kernel
theorem dX8_join_1 : decode cX8_join 1 = .ok (.iload_n 1, 1) := by decide +kernel
theorem dX8_join_2 : decode cX8_join 2 = .ok (.invokevirtual 165, 3) := by decide +kernel
theorem dX8_join_5 : decode cX8_join 5 = .ok (.ifCond .eq 16, 3) := by decide +kernel
theorem dX8_join_8 : decode cX8_join 8 = .ok (.aload_n 0, 1) := by decide +kernel
theorem dX8_join_9 : decode cX8_join 9 = .ok (.iload_n 2, 1) := by decide +kernel
theorem dX8_join_10 : decode cX8_join 10 = .ok (.invokevirtual 165, 3) := by decide +kernel
theorem dX8_join_13 : decode cX8_join 13 = .ok (.ifCond .eq 8, 3) := by decide +kernel
theorem dX8_join_16 : decode cX8_join 16 = .ok (.iload_n 1, 1) := by decide +kernel
theorem dX8_join_17 : decode cX8_join 17 = .ok (.iload_n 2, 1) := by decide +kernel
theorem dX8_join_18 : decode cX8_join 18 = .ok (.if_icmp .ne 8, 3) := by decide +kernel
theorem dX8_join_21 : decode cX8_join 21 = .ok (.aload_n 0, 1) := by decide +kernel
theorem dX8_join_22 : decode cX8_join 22 = .ok (.invokevirtual 57, 3) := by decide +kernel
theorem dX8_join_25 : decode cX8_join 25 = .ok (.ireturn, 1) := by decide +kernel
theorem dX8_join_26 : decode cX8_join 26 = .ok (.bipush 26, 2) := by decide +kernel
theorem dX8_join_28 : decode cX8_join 28 = .ok (.iconst 5, 1) := by decide +kernel
theorem dX8_join_29 : decode cX8_join 29 = .ok (.iload_n 1, 1) := by decide +kernel
theorem dX8_join_30 : decode cX8_join 30 = .ok (.imul, 1) := by decide +kernel
theorem dX8_join_31 : decode cX8_join 31 = .ok (.iadd, 1) := by decide +kernel
theorem dX8_join_32 : decode cX8_join 32 = .ok (.istore_n 3, 1) := by decide +kernel
theorem dX8_join_33 : decode cX8_join 33 = .ok (.bipush 26, 2) := by decide +kernel
theorem dX8_join_35 : decode cX8_join 35 = .ok (.iconst 5, 1) := by decide +kernel
theorem dX8_join_36 : decode cX8_join 36 = .ok (.iload_n 2, 1) := by decide +kernel
theorem dX8_join_37 : decode cX8_join 37 = .ok (.imul, 1) := by decide +kernel
theorem dX8_join_38 : decode cX8_join 38 = .ok (.iadd, 1) := by decide +kernel
theorem dX8_join_39 : decode cX8_join 39 = .ok (.istore 4, 2) := by decide +kernel
theorem dX8_join_41 : decode cX8_join 41 = .ok (.aload_n 0, 1) := by decide +kernel
theorem dX8_join_42 : decode cX8_join 42 = .ok (.getfield 7, 3) := by decide +kernel
theorem dX8_join_45 : decode cX8_join 45 = .ok (.iload_n 3, 1) := by decide +kernel
theorem dX8_join_46 : decode cX8_join 46 = .ok (.iconst 3, 1) := by decide +kernel
theorem dX8_join_47 : decode cX8_join 47 = .ok (.iadd, 1) := by decide +kernel
theorem dX8_join_48 : decode cX8_join 48 = .ok (.iaload, 1) := by decide +kernel
theorem dX8_join_49 : decode cX8_join 49 = .ok (.iconst 2, 1) := by decide +kernel
theorem dX8_join_50 : decode cX8_join 50 = .ok (.if_icmp .ne 56, 3) := by decide +kernel
theorem dX8_join_53 : decode cX8_join 53 = .ok (.aload_n 0, 1) := by decide +kernel
theorem dX8_join_54 : decode cX8_join 54 = .ok (.getfield 7, 3) := by decide +kernel
theorem dX8_join_57 : decode cX8_join 57 = .ok (.iload 4, 2) := by decide +kernel
theorem dX8_join_59 : decode cX8_join 59 = .ok (.iconst 3, 1) := by decide +kernel
theorem dX8_join_60 : decode cX8_join 60 = .ok (.iadd, 1) := by decide +kernel
theorem dX8_join_61 : decode cX8_join 61 = .ok (.iaload, 1) := by decide +kernel
theorem dX8_join_62 : decode cX8_join 62 = .ok (.iconst 2, 1) := by decide +kernel
theorem dX8_join_63 : decode cX8_join 63 = .ok (.if_icmp .ne 43, 3) := by decide +kernel
theorem dX8_join_66 : decode cX8_join 66 = .ok (.aload_n 0, 1) := by decide +kernel
theorem dX8_join_67 : decode cX8_join 67 = .ok (.getfield 7, 3) := by decide +kernel
theorem dX8_join_70 : decode cX8_join 70 = .ok (.iload_n 3, 1) := by decide +kernel
theorem dX8_join_71 : decode cX8_join 71 = .ok (.iconst 1, 1) := by decide +kernel
theorem dX8_join_72 : decode cX8_join 72 = .ok (.iadd, 1) := by decide +kernel
theorem dX8_join_73 : decode cX8_join 73 = .ok (.iaload, 1) := by decide +kernel
theorem dX8_join_74 : decode cX8_join 74 = .ok (.aload_n 0, 1) := by decide +kernel
theorem dX8_join_75 : decode cX8_join 75 = .ok (.getfield 7, 3) := by decide +kernel
theorem dX8_join_78 : decode cX8_join 78 = .ok (.iload 4, 2) := by decide +kernel
theorem dX8_join_80 : decode cX8_join 80 = .ok (.iconst 1, 1) := by decide +kernel
theorem dX8_join_81 : decode cX8_join 81 = .ok (.iadd, 1) := by decide +kernel
theorem dX8_join_82 : decode cX8_join 82 = .ok (.iaload, 1) := by decide +kernel
theorem dX8_join_83 : decode cX8_join 83 = .ok (.if_icmp .ne 23, 3) := by decide +kernel
theorem dX8_join_86 : decode cX8_join 86 = .ok (.aload_n 0, 1) := by decide +kernel
theorem dX8_join_87 : decode cX8_join 87 = .ok (.getfield 7, 3) := by decide +kernel
theorem dX8_join_90 : decode cX8_join 90 = .ok (.iload_n 3, 1) := by decide +kernel
theorem dX8_join_91 : decode cX8_join 91 = .ok (.iconst 2, 1) := by decide +kernel
theorem dX8_join_92 : decode cX8_join 92 = .ok (.iadd, 1) := by decide +kernel
theorem dX8_join_93 : decode cX8_join 93 = .ok (.iaload, 1) := by decide +kernel
theorem dX8_join_94 : decode cX8_join 94 = .ok (.aload_n 0, 1) := by decide +kernel
theorem dX8_join_95 : decode cX8_join 95 = .ok (.getfield 7, 3) := by decide +kernel
theorem dX8_join_98 : decode cX8_join 98 = .ok (.iload 4, 2) := by decide +kernel
theorem dX8_join_100 : decode cX8_join 100 = .ok (.iconst 2, 1) := by decide +kernel
theorem dX8_join_101 : decode cX8_join 101 = .ok (.iadd, 1) := by decide +kernel
theorem dX8_join_102 : decode cX8_join 102 = .ok (.iaload, 1) := by decide +kernel
theorem dX8_join_103 : decode cX8_join 103 = .ok (.if_icmp .eq 8, 3) := by decide +kernel
theorem dX8_join_106 : decode cX8_join 106 = .ok (.aload_n 0, 1) := by decide +kernel
theorem dX8_join_107 : decode cX8_join 107 = .ok (.invokevirtual 156, 3) := by decide +kernel
theorem dX8_join_110 : decode cX8_join 110 = .ok (.ireturn, 1) := by decide +kernel
theorem dX8_join_111 : decode cX8_join 111 = .ok (.aload_n 0, 1) := by decide +kernel
theorem dX8_join_112 : decode cX8_join 112 = .ok (.invokevirtual 159, 3) := by decide +kernel
theorem dX8_join_115 : decode cX8_join 115 = .ok (.aload_n 0, 1) := by decide +kernel
theorem dX8_join_116 : decode cX8_join 116 = .ok (.getfield 7, 3) := by decide +kernel
theorem dX8_join_119 : decode cX8_join 119 = .ok (.iload_n 3, 1) := by decide +kernel
theorem dX8_join_120 : decode cX8_join 120 = .ok (.iconst 4, 1) := by decide +kernel
theorem dX8_join_121 : decode cX8_join 121 = .ok (.iadd, 1) := by decide +kernel
theorem dX8_join_122 : decode cX8_join 122 = .ok (.aload_n 0, 1) := by decide +kernel
theorem dX8_join_123 : decode cX8_join 123 = .ok (.getfield 7, 3) := by decide +kernel
theorem dX8_join_126 : decode cX8_join 126 = .ok (.iload_n 3, 1) := by decide +kernel
theorem dX8_join_127 : decode cX8_join 127 = .ok (.iconst 2, 1) := by decide +kernel
theorem dX8_join_128 : decode cX8_join 128 = .ok (.iadd, 1) := by decide +kernel
theorem dX8_join_129 : decode cX8_join 129 = .ok (.iaload, 1) := by decide +kernel
theorem dX8_join_130 : decode cX8_join 130 = .ok (.aload_n 0, 1) := by decide +kernel
theorem dX8_join_131 : decode cX8_join 131 = .ok (.getfield 7, 3) := by decide +kernel
theorem dX8_join_134 : decode cX8_join 134 = .ok (.iload_n 3, 1) := by decide +kernel
theorem dX8_join_135 : decode cX8_join 135 = .ok (.iconst 4, 1) := by decide +kernel
theorem dX8_join_136 : decode cX8_join 136 = .ok (.iadd, 1) := by decide +kernel
theorem dX8_join_137 : decode cX8_join 137 = .ok (.iaload, 1) := by decide +kernel
theorem dX8_join_138 : decode cX8_join 138 = .ok (.aload_n 0, 1) := by decide +kernel
theorem dX8_join_139 : decode cX8_join 139 = .ok (.getfield 7, 3) := by decide +kernel
theorem dX8_join_142 : decode cX8_join 142 = .ok (.iload 4, 2) := by decide +kernel
theorem dX8_join_144 : decode cX8_join 144 = .ok (.iconst 4, 1) := by decide +kernel
theorem dX8_join_145 : decode cX8_join 145 = .ok (.iadd, 1) := by decide +kernel
theorem dX8_join_146 : decode cX8_join 146 = .ok (.iaload, 1) := by decide +kernel
theorem dX8_join_147 : decode cX8_join 147 = .ok (.iadd, 1) := by decide +kernel
theorem dX8_join_148 : decode cX8_join 148 = .ok (.invokestatic 137, 3) := by decide +kernel
theorem dX8_join_151 : decode cX8_join 151 = .ok (.iastore, 1) := by decide +kernel
theorem dX8_join_152 : decode cX8_join 152 = .ok (.aload_n 0, 1) := by decide +kernel
theorem dX8_join_153 : decode cX8_join 153 = .ok (.getfield 7, 3) := by decide +kernel
theorem dX8_join_156 : decode cX8_join 156 = .ok (.iload_n 3, 1) := by decide +kernel
theorem dX8_join_157 : decode cX8_join 157 = .ok (.iconst 3, 1) := by decide +kernel
theorem dX8_join_158 : decode cX8_join 158 = .ok (.iadd, 1) := by decide +kernel
theorem dX8_join_159 : decode cX8_join 159 = .ok (.aload_n 0, 1) := by decide +kernel
theorem dX8_join_160 : decode cX8_join 160 = .ok (.getfield 7, 3) := by decide +kernel
theorem dX8_join_163 : decode cX8_join 163 = .ok (.iload_n 3, 1) := by decide +kernel
theorem dX8_join_164 : decode cX8_join 164 = .ok (.iconst 4, 1) := by decide +kernel
theorem dX8_join_165 : decode cX8_join 165 = .ok (.iadd, 1) := by decide +kernel
theorem dX8_join_166 : decode cX8_join 166 = .ok (.iaload, 1) := by decide +kernel
theorem dX8_join_167 : decode cX8_join 167 = .ok (.aload_n 0, 1) := by decide +kernel
theorem dX8_join_168 : decode cX8_join 168 = .ok (.getfield 7, 3) := by decide +kernel
theorem dX8_join_171 : decode cX8_join 171 = .ok (.iload_n 3, 1) := by decide +kernel
theorem dX8_join_172 : decode cX8_join 172 = .ok (.iconst 2, 1) := by decide +kernel
theorem dX8_join_173 : decode cX8_join 173 = .ok (.iadd, 1) := by decide +kernel
theorem dX8_join_174 : decode cX8_join 174 = .ok (.iaload, 1) := by decide +kernel
theorem dX8_join_175 : decode cX8_join 175 = .ok (.if_icmp .ne 7, 3) := by decide +kernel
theorem dX8_join_178 : decode cX8_join 178 = .ok (.iconst 3, 1) := by decide +kernel
theorem dX8_join_179 : decode cX8_join 179 = .ok (.goto 4, 3) := by decide +kernel
theorem dX8_join_182 : decode cX8_join 182 = .ok (.iconst 2, 1) := by decide +kernel
theorem dX8_join_183 : decode cX8_join 183 = .ok (.iastore, 1) := by decide +kernel
theorem dX8_join_184 : decode cX8_join 184 = .ok (.aload_n 0, 1) := by decide +kernel
theorem dX8_join_185 : decode cX8_join 185 = .ok (.getfield 7, 3) := by decide +kernel
theorem dX8_join_188 : decode cX8_join 188 = .ok (.iload 4, 2) := by decide +kernel
theorem dX8_join_190 : decode cX8_join 190 = .ok (.iconst 3, 1) := by decide +kernel
theorem dX8_join_191 : decode cX8_join 191 = .ok (.iadd, 1) := by decide +kernel
theorem dX8_join_192 : decode cX8_join 192 = .ok (.iconst 4, 1) := by decide +kernel
theorem dX8_join_193 : decode cX8_join 193 = .ok (.iastore, 1) := by decide +kernel
theorem dX8_join_194 : decode cX8_join 194 = .ok (.aload_n 0, 1) := by decide +kernel
theorem dX8_join_195 : decode cX8_join 195 = .ok (.getfield 7, 3) := by decide +kernel
theorem dX8_join_198 : decode cX8_join 198 = .ok (.iload_n 3, 1) := by decide +kernel
theorem dX8_join_199 : decode cX8_join 199 = .ok (.iconst 3, 1) := by decide +kernel
theorem dX8_join_200 : decode cX8_join 200 = .ok (.iadd, 1) := by decide +kernel
theorem dX8_join_201 : decode cX8_join 201 = .ok (.iaload, 1) := by decide +kernel
theorem dX8_join_202 : decode cX8_join 202 = .ok (.ireturn, 1) := by decide +kernel
set_option maxRecDepth 20000 in
theorem ggX8_sell_X8_isLoan : GoodIn wsX8_sell wsX8_isLoan := goodIn_r _ [6, 1, 7, 8, 5, 9, 30, 31, 32, 33, 34, 35, 36, 37, 38, 39, 40, 41, 42, 43, 44, 45, 46, 47, 48, 49] (by decide +kernel) (by decide +kernel)
set_option maxRecDepth 20000 in
theorem gX8_sell_X8_isLoan : GoodIn wsX8_sell (wsV RX8 165 RX8 yX8_isLoan wsX8_isLoan) := goodIn_app (goodIn_of _ (by decide +kernel)) ggX8_sell_X8_isLoan
set_option maxRecDepth 20000 in
theorem ggX8_sell_X8_isPerson : GoodIn wsX8_sell wsX8_isPerson := goodIn_r _ [13, 1, 7, 8, 5, 9, 30, 31, 32, 33, 34, 35, 36, 37, 38, 39, 40, 41, 42, 43, 44, 45, 46, 47, 48, 49] (by decide +kernel) (by decide +kernel)
set_option maxRecDepth 20000 in
theorem gX8_sell_X8_isPerson : GoodIn wsX8_sell (wsV RX8 68 RX8 yX8_isPerson wsX8_isPerson) := goodIn_app (goodIn_of _ (by decide +kernel)) ggX8_sell_X8_isPerson
set_option maxRecDepth 20000 in
theorem ggX8_sell_X8_in : GoodIn wsX8_sell wsX8_in := goodIn_r _ [9] (by decide +kernel) (by decide +kernel)
set_option maxRecDepth 20000 in
theorem gX8_sell_X8_in : GoodIn wsX8_sell (va_wsS RX8 52 yX8_in wsX8_in) := goodIn_app (goodIn_of _ (by decide +kernel)) ggX8_sell_X8_in
set_option maxRecDepth 20000 in
theorem ggX8_sell_X8_bad : GoodIn wsX8_sell wsX8_bad := goodIn_r _ [17, 18, 30, 31, 32, 33, 34, 35, 36, 37, 38, 39, 40, 41, 42, 43, 44, 45, 46, 47, 48, 49] (by decide +kernel) (by decide +kernel)
set_option maxRecDepth 20000 in
theorem gX8_sell_X8_bad : GoodIn wsX8_sell (wsV RX8 57 RX8 yX8_bad wsX8_bad) := goodIn_app (goodIn_of _ (by decide +kernel)) ggX8_sell_X8_bad
set_option maxRecDepth 20000 in
theorem ggX8_sell_X8_no : GoodIn wsX8_sell wsX8_no := goodIn_r _ [22, 18, 30, 31, 32, 33, 34, 35, 36, 37, 38, 39, 40, 41, 42, 43, 44, 45, 46, 47, 48, 49] (by decide +kernel) (by decide +kernel)
set_option maxRecDepth 20000 in
theorem gX8_sell_X8_no : GoodIn wsX8_sell (wsV RX8 156 RX8 yX8_no wsX8_no) := goodIn_app (goodIn_of _ (by decide +kernel)) ggX8_sell_X8_no
set_option maxRecDepth 20000 in
theorem ggX8_sell_X8_knows : GoodIn wsX8_sell wsX8_knows := goodIn_r _ [26, 1, 30, 31, 32, 33, 34, 35, 36, 37, 38, 39, 40, 41, 42, 43, 44, 45, 46, 47, 48, 49] (by decide +kernel) (by decide +kernel)
set_option maxRecDepth 20000 in
theorem gX8_sell_X8_knows : GoodIn wsX8_sell (wsV RX8 159 RX8 yX8_knows wsX8_knows) := goodIn_app (goodIn_of _ (by decide +kernel)) ggX8_sell_X8_knows
set_option maxRecDepth 20000 in
theorem ggX8_sell_X8_least : GoodIn wsX8_sell wsX8_least := goodIn_r _ [29] (by decide +kernel) (by decide +kernel)
set_option maxRecDepth 20000 in
theorem gX8_sell_X8_least : GoodIn wsX8_sell (va_wsS RX8 137 yX8_least wsX8_least) := goodIn_app (goodIn_of _ (by decide +kernel)) ggX8_sell_X8_least
theorem dX8_sell_0 : decode cX8_sell 0 = .ok (.aload_n 0, 1) := by decide +kernel
theorem dX8_sell_1 : decode cX8_sell 1 = .ok (.iload_n 1, 1) := by decide +kernel
theorem dX8_sell_2 : decode cX8_sell 2 = .ok (.invokevirtual 165, 3) := by decide +kernel
theorem dX8_sell_5 : decode cX8_sell 5 = .ok (.ifCond .eq 37, 3) := by decide +kernel
theorem dX8_sell_8 : decode cX8_sell 8 = .ok (.aload_n 0, 1) := by decide +kernel
theorem dX8_sell_9 : decode cX8_sell 9 = .ok (.iload_n 2, 1) := by decide +kernel
theorem dX8_sell_10 : decode cX8_sell 10 = .ok (.invokevirtual 68, 3) := by decide +kernel
theorem dX8_sell_13 : decode cX8_sell 13 = .ok (.ifCond .eq 29, 3) := by decide +kernel
theorem dX8_sell_16 : decode cX8_sell 16 = .ok (.iload_n 3, 1) := by decide +kernel
theorem dX8_sell_17 : decode cX8_sell 17 = .ok (.iconst 0, 1) := by decide +kernel
theorem dX8_sell_18 : decode cX8_sell 18 = .ok (.sipush 9999, 3) := by decide +kernel
theorem dX8_sell_21 : decode cX8_sell 21 = .ok (.invokestatic 52, 3) := by decide +kernel
theorem dX8_sell_24 : decode cX8_sell 24 = .ok (.ifCond .eq 18, 3) := by decide +kernel
theorem dX8_sell_27 : decode cX8_sell 27 = .ok (.aload_n 0, 1) := by decide +kernel
theorem dX8_sell_28 : decode cX8_sell 28 = .ok (.getfield 7, 3) := by decide +kernel
theorem dX8_sell_31 : decode cX8_sell 31 = .ok (.bipush 26, 2) := by decide +kernel
theorem dX8_sell_33 : decode cX8_sell 33 = .ok (.iconst 5, 1) := by decide +kernel
theorem dX8_sell_34 : decode cX8_sell 34 = .ok (.iload_n 1, 1) := by decide +kernel
theorem dX8_sell_35 : decode cX8_sell 35 = .ok (.imul, 1) := by decide +kernel
theorem dX8_sell_36 : decode cX8_sell 36 = .ok (.iadd, 1) := by decide +kernel
theorem dX8_sell_37 : decode cX8_sell 37 = .ok (.iaload, 1) := by decide +kernel
theorem dX8_sell_38 : decode cX8_sell 38 = .ok (.iload_n 2, 1) := by decide +kernel
theorem dX8_sell_39 : decode cX8_sell 39 = .ok (.if_icmp .ne 8, 3) := by decide +kernel
theorem dX8_sell_42 : decode cX8_sell 42 = .ok (.aload_n 0, 1) := by decide +kernel
theorem dX8_sell_43 : decode cX8_sell 43 = .ok (.invokevirtual 57, 3) := by decide +kernel
theorem dX8_sell_46 : decode cX8_sell 46 = .ok (.ireturn, 1) := by decide +kernel
theorem dX8_sell_47 : decode cX8_sell 47 = .ok (.bipush 26, 2) := by decide +kernel
theorem dX8_sell_49 : decode cX8_sell 49 = .ok (.iconst 5, 1) := by decide +kernel
theorem dX8_sell_50 : decode cX8_sell 50 = .ok (.iload_n 1, 1) := by decide +kernel
theorem dX8_sell_51 : decode cX8_sell 51 = .ok (.imul, 1) := by decide +kernel
theorem dX8_sell_52 : decode cX8_sell 52 = .ok (.iadd, 1) := by decide +kernel
theorem dX8_sell_53 : decode cX8_sell 53 = .ok (.istore 4, 2) := by decide +kernel
theorem dX8_sell_55 : decode cX8_sell 55 = .ok (.aload_n 0, 1) := by decide +kernel
theorem dX8_sell_56 : decode cX8_sell 56 = .ok (.getfield 7, 3) := by decide +kernel
theorem dX8_sell_59 : decode cX8_sell 59 = .ok (.iload 4, 2) := by decide +kernel
theorem dX8_sell_61 : decode cX8_sell 61 = .ok (.iconst 3, 1) := by decide +kernel
theorem dX8_sell_62 : decode cX8_sell 62 = .ok (.iadd, 1) := by decide +kernel
theorem dX8_sell_63 : decode cX8_sell 63 = .ok (.iaload, 1) := by decide +kernel
theorem dX8_sell_64 : decode cX8_sell 64 = .ok (.ifCond .eq 16, 3) := by decide +kernel
