theorem dX5_mixInto_207 : decode cX5_mixInto 207 = .ok (.lreturn, 1) := by decide +kernel
theorem dX6_init_0 : decode cX6_init 0 = .ok (.aload_n 0, 1) := by decide +kernel
theorem dX6_init_1 : decode cX6_init 1 = .ok (.invokespecial 3, 3) := by decide +kernel
theorem dX6_init_4 : decode cX6_init 4 = .ok (.aload_n 0, 1) := by decide +kernel
theorem dX6_init_5 : decode cX6_init 5 = .ok (.bipush 8, 2) := by decide +kernel
theorem dX6_init_7 : decode cX6_init 7 = .ok (.newarray .int, 2) := by decide +kernel
theorem dX6_init_9 : decode cX6_init 9 = .ok (.putfield 9, 3) := by decide +kernel
theorem dX6_init_12 : decode cX6_init 12 = .ok (.aload_n 0, 1) := by decide +kernel
theorem dX6_init_13 : decode cX6_init 13 = .ok (.iconst 3, 1) := by decide +kernel
theorem dX6_init_14 : decode cX6_init 14 = .ok (.newarray .int, 2) := by decide +kernel
theorem dX6_init_16 : decode cX6_init 16 = .ok (.putfield 15, 3) := by decide +kernel
theorem dX6_init_19 : decode cX6_init 19 = .ok (.aload_n 0, 1) := by decide +kernel
theorem dX6_init_20 : decode cX6_init 20 = .ok (.iconst 3, 1) := by decide +kernel
theorem dX6_init_21 : decode cX6_init 21 = .ok (.newarray .int, 2) := by decide +kernel
theorem dX6_init_23 : decode cX6_init 23 = .ok (.putfield 18, 3) := by decide +kernel
theorem dX6_init_26 : decode cX6_init 26 = .ok (.return_, 1) := by decide +kernel
set_option maxRecDepth 20000 in
theorem ggX6_share_X6_listParts : GoodIn wsX6_share wsX6_listParts := goodIn_r _ [7, 8, 9, 10, 11, 12, 13, 14, 15, 16, 17, 18, 19, 43, 44, 45, 46, 47, 48, 49, 50, 51, 52, 53, 54, 55, 56, 57, 58, 59, 60, 61, 62, 63, 64, 65, 66] (by decide +kernel) (by decide +kernel)
set_option maxRecDepth 20000 in
theorem gX6_share_X6_listParts : GoodIn wsX6_share (wsV RX6 21 RX6 yX6_listParts wsX6_listParts) := goodIn_app (goodIn_of _ (by decide +kernel)) ggX6_share_X6_listParts
set_option maxRecDepth 20000 in
theorem ggX6_share_X6_listHeirs : GoodIn wsX6_share wsX6_listHeirs := goodIn_r _ [23, 24, 25, 26, 27, 28, 29, 43, 44, 45, 46, 47, 48, 49, 50, 51, 52, 53, 54, 55, 56, 57, 58, 59, 60, 61, 62, 63, 64, 65, 66] (by decide +kernel) (by decide +kernel)
set_option maxRecDepth 20000 in
theorem gX6_share_X6_listHeirs : GoodIn wsX6_share (wsV RX6 25 RX6 yX6_listHeirs wsX6_listHeirs) := goodIn_app (goodIn_of _ (by decide +kernel)) ggX6_share_X6_listHeirs
set_option maxRecDepth 20000 in
theorem ggX6_share_X6_countWays : GoodIn wsX6_share wsX6_countWays := goodIn_r _ [33, 8, 24, 43, 44, 45, 46, 47, 48, 49] (by decide +kernel) (by decide +kernel)
set_option maxRecDepth 20000 in
theorem gX6_share_X6_countWays : GoodIn wsX6_share (wsV RX6 35 RX6 yX6_countWays wsX6_countWays) := goodIn_app (goodIn_of _ (by decide +kernel)) ggX6_share_X6_countWays
set_option maxRecDepth 20000 in
theorem ggX6_share_X6_leastShare : GoodIn wsX6_share wsX6_leastShare := goodIn_r _ [37, 24, 38, 8, 12, 39, 40, 41, 42, 43, 44, 45, 46, 47, 48, 49] (by decide +kernel) (by decide +kernel)
set_option maxRecDepth 20000 in
theorem gX6_share_X6_leastShare : GoodIn wsX6_share (wsV RX6 39 RX6 yX6_leastShare wsX6_leastShare) := goodIn_app (goodIn_of _ (by decide +kernel)) ggX6_share_X6_leastShare
theorem dX6_share_0 : decode cX6_share 0 = .ok (.aload_n 0, 1) := by decide +kernel
theorem dX6_share_1 : decode cX6_share 1 = .ok (.aload_n 1, 1) := by decide +kernel
theorem dX6_share_2 : decode cX6_share 2 = .ok (.iload_n 2, 1) := by decide +kernel
theorem dX6_share_3 : decode cX6_share 3 = .ok (.invokevirtual 21, 3) := by decide +kernel
theorem dX6_share_6 : decode cX6_share 6 = .ok (.aload_n 0, 1) := by decide +kernel
theorem dX6_share_7 : decode cX6_share 7 = .ok (.aload_n 1, 1) := by decide +kernel
theorem dX6_share_8 : decode cX6_share 8 = .ok (.iload_n 3, 1) := by decide +kernel
theorem dX6_share_9 : decode cX6_share 9 = .ok (.invokevirtual 25, 3) := by decide +kernel
theorem dX6_share_12 : decode cX6_share 12 = .ok (.aload_n 0, 1) := by decide +kernel
theorem dX6_share_13 : decode cX6_share 13 = .ok (.iconst (-1), 1) := by decide +kernel
theorem dX6_share_14 : decode cX6_share 14 = .ok (.putfield 28, 3) := by decide +kernel
theorem dX6_share_17 : decode cX6_share 17 = .ok (.aload_n 0, 1) := by decide +kernel
theorem dX6_share_18 : decode cX6_share 18 = .ok (.iconst 0, 1) := by decide +kernel
theorem dX6_share_19 : decode cX6_share 19 = .ok (.putfield 32, 3) := by decide +kernel
theorem dX6_share_22 : decode cX6_share 22 = .ok (.aload_n 0, 1) := by decide +kernel
theorem dX6_share_23 : decode cX6_share 23 = .ok (.invokevirtual 35, 3) := by decide +kernel
theorem dX6_share_26 : decode cX6_share 26 = .ok (.istore 4, 2) := by decide +kernel
theorem dX6_share_28 : decode cX6_share 28 = .ok (.iconst 0, 1) := by decide +kernel
theorem dX6_share_29 : decode cX6_share 29 = .ok (.istore 5, 2) := by decide +kernel
theorem dX6_share_31 : decode cX6_share 31 = .ok (.iload 5, 2) := by decide +kernel
theorem dX6_share_33 : decode cX6_share 33 = .ok (.iload 4, 2) := by decide +kernel
theorem dX6_share_35 : decode cX6_share 35 = .ok (.if_icmp .ge 38, 3) := by decide +kernel
theorem dX6_share_38 : decode cX6_share 38 = .ok (.aload_n 0, 1) := by decide +kernel
theorem dX6_share_39 : decode cX6_share 39 = .ok (.iload 5, 2) := by decide +kernel
theorem dX6_share_41 : decode cX6_share 41 = .ok (.invokevirtual 39, 3) := by decide +kernel
theorem dX6_share_44 : decode cX6_share 44 = .ok (.istore 6, 2) := by decide +kernel
theorem dX6_share_46 : decode cX6_share 46 = .ok (.iload 6, 2) := by decide +kernel
theorem dX6_share_48 : decode cX6_share 48 = .ok (.aload_n 0, 1) := by decide +kernel
theorem dX6_share_49 : decode cX6_share 49 = .ok (.getfield 28, 3) := by decide +kernel
theorem dX6_share_52 : decode cX6_share 52 = .ok (.if_icmp .le 15, 3) := by decide +kernel
theorem dX6_share_55 : decode cX6_share 55 = .ok (.aload_n 0, 1) := by decide +kernel
theorem dX6_share_56 : decode cX6_share 56 = .ok (.iload 6, 2) := by decide +kernel
theorem dX6_share_58 : decode cX6_share 58 = .ok (.putfield 28, 3) := by decide +kernel
theorem dX6_share_61 : decode cX6_share 61 = .ok (.aload_n 0, 1) := by decide +kernel
theorem dX6_share_62 : decode cX6_share 62 = .ok (.iload 5, 2) := by decide +kernel
theorem dX6_share_64 : decode cX6_share 64 = .ok (.putfield 32, 3) := by decide +kernel
theorem dX6_share_67 : decode cX6_share 67 = .ok (.iinc 5 1, 3) := by decide +kernel
theorem dX6_share_70 : decode cX6_share 70 = .ok (.goto (-39), 3) := by decide +kernel
theorem dX6_share_73 : decode cX6_share 73 = .ok (.return_, 1) := by decide +kernel
theorem dX6_heirOf_0 : decode cX6_heirOf 0 = .ok (.iload_n 1, 1) := by decide +kernel
theorem dX6_heirOf_1 : decode cX6_heirOf 1 = .ok (.ifCond .lt 19, 3) := by decide +kernel
theorem dX6_heirOf_4 : decode cX6_heirOf 4 = .ok (.iload_n 1, 1) := by decide +kernel
theorem dX6_heirOf_5 : decode cX6_heirOf 5 = .ok (.aload_n 0, 1) := by decide +kernel
theorem dX6_heirOf_6 : decode cX6_heirOf 6 = .ok (.getfield 43, 3) := by decide +kernel
theorem dX6_heirOf_9 : decode cX6_heirOf 9 = .ok (.if_icmp .ge 11, 3) := by decide +kernel
theorem dX6_heirOf_12 : decode cX6_heirOf 12 = .ok (.aload_n 0, 1) := by decide +kernel
theorem dX6_heirOf_13 : decode cX6_heirOf 13 = .ok (.getfield 46, 3) := by decide +kernel
theorem dX6_heirOf_16 : decode cX6_heirOf 16 = .ok (.iconst 1, 1) := by decide +kernel
theorem dX6_heirOf_17 : decode cX6_heirOf 17 = .ok (.if_icmp .ge 5, 3) := by decide +kernel
theorem dX6_heirOf_20 : decode cX6_heirOf 20 = .ok (.iconst (-1), 1) := by decide +kernel
theorem dX6_heirOf_21 : decode cX6_heirOf 21 = .ok (.ireturn, 1) := by decide +kernel
theorem dX6_heirOf_22 : decode cX6_heirOf 22 = .ok (.aload_n 0, 1) := by decide +kernel
theorem dX6_heirOf_23 : decode cX6_heirOf 23 = .ok (.getfield 32, 3) := by decide +kernel
theorem dX6_heirOf_26 : decode cX6_heirOf 26 = .ok (.istore_n 2, 1) := by decide +kernel
theorem dX6_heirOf_27 : decode cX6_heirOf 27 = .ok (.aload_n 0, 1) := by decide +kernel
theorem dX6_heirOf_28 : decode cX6_heirOf 28 = .ok (.getfield 43, 3) := by decide +kernel
theorem dX6_heirOf_31 : decode cX6_heirOf 31 = .ok (.iconst 1, 1) := by decide +kernel
theorem dX6_heirOf_32 : decode cX6_heirOf 32 = .ok (.isub, 1) := by decide +kernel
theorem dX6_heirOf_33 : decode cX6_heirOf 33 = .ok (.istore_n 3, 1) := by decide +kernel
theorem dX6_heirOf_34 : decode cX6_heirOf 34 = .ok (.iload_n 3, 1) := by decide +kernel
theorem dX6_heirOf_35 : decode cX6_heirOf 35 = .ok (.iload_n 1, 1) := by decide +kernel
theorem dX6_heirOf_36 : decode cX6_heirOf 36 = .ok (.if_icmp .le 16, 3) := by decide +kernel
theorem dX6_heirOf_39 : decode cX6_heirOf 39 = .ok (.iload_n 2, 1) := by decide +kernel
theorem dX6_heirOf_40 : decode cX6_heirOf 40 = .ok (.aload_n 0, 1) := by decide +kernel
theorem dX6_heirOf_41 : decode cX6_heirOf 41 = .ok (.getfield 46, 3) := by decide +kernel
theorem dX6_heirOf_44 : decode cX6_heirOf 44 = .ok (.idiv, 1) := by decide +kernel
theorem dX6_heirOf_45 : decode cX6_heirOf 45 = .ok (.istore_n 2, 1) := by decide +kernel
theorem dX6_heirOf_46 : decode cX6_heirOf 46 = .ok (.iinc 3 (-1), 3) := by decide +kernel
theorem dX6_heirOf_49 : decode cX6_heirOf 49 = .ok (.goto (-15), 3) := by decide +kernel
theorem dX6_heirOf_52 : decode cX6_heirOf 52 = .ok (.aload_n 0, 1) := by decide +kernel
theorem dX6_heirOf_53 : decode cX6_heirOf 53 = .ok (.getfield 15, 3) := by decide +kernel
theorem dX6_heirOf_56 : decode cX6_heirOf 56 = .ok (.iload_n 2, 1) := by decide +kernel
theorem dX6_heirOf_57 : decode cX6_heirOf 57 = .ok (.aload_n 0, 1) := by decide +kernel
theorem dX6_heirOf_58 : decode cX6_heirOf 58 = .ok (.getfield 46, 3) := by decide +kernel
theorem dX6_heirOf_61 : decode cX6_heirOf 61 = .ok (.irem, 1) := by decide +kernel
theorem dX6_heirOf_62 : decode cX6_heirOf 62 = .ok (.iaload, 1) := by decide +kernel
theorem dX6_heirOf_63 : decode cX6_heirOf 63 = .ok (.ireturn, 1) := by decide +kernel
set_option maxRecDepth 20000 in
theorem ggX6_listParts_X5_givenPence : GoodIn wsX6_listParts wsX5_givenPence := goodIn_r _ [10, 11, 12, 20, 21, 22, 23, 24, 25, 26, 27, 28, 29, 30, 31, 32, 33, 34, 35, 36] (by decide +kernel) (by decide +kernel)
set_option maxRecDepth 20000 in
theorem gX6_listParts_X5_givenPence : GoodIn wsX6_listParts (wsV RX6 60 RX5 yX5_givenPence wsX5_givenPence) := goodIn_app (goodIn_of _ (by decide +kernel)) ggX6_listParts_X5_givenPence
theorem dX6_listParts_0 : decode cX6_listParts 0 = .ok (.aload_n 0, 1) := by decide +kernel
theorem dX6_listParts_1 : decode cX6_listParts 1 = .ok (.iconst 0, 1) := by decide +kernel
theorem dX6_listParts_2 : decode cX6_listParts 2 = .ok (.putfield 43, 3) := by decide +kernel
theorem dX6_listParts_5 : decode cX6_listParts 5 = .ok (.iconst 0, 1) := by decide +kernel
theorem dX6_listParts_6 : decode cX6_listParts 6 = .ok (.istore_n 3, 1) := by decide +kernel
theorem dX6_listParts_7 : decode cX6_listParts 7 = .ok (.iload_n 3, 1) := by decide +kernel
theorem dX6_listParts_8 : decode cX6_listParts 8 = .ok (.aload_n 1, 1) := by decide +kernel
theorem dX6_listParts_9 : decode cX6_listParts 9 = .ok (.getfield 49, 3) := by decide +kernel
theorem dX6_listParts_12 : decode cX6_listParts 12 = .ok (.if_icmp .ge 84, 3) := by decide +kernel
theorem dX6_listParts_15 : decode cX6_listParts 15 = .ok (.aload_n 1, 1) := by decide +kernel
theorem dX6_listParts_16 : decode cX6_listParts 16 = .ok (.getfield 54, 3) := by decide +kernel
theorem dX6_listParts_19 : decode cX6_listParts 19 = .ok (.iload_n 3, 1) := by decide +kernel
theorem dX6_listParts_20 : decode cX6_listParts 20 = .ok (.iaload, 1) := by decide +kernel
theorem dX6_listParts_21 : decode cX6_listParts 21 = .ok (.ifCond .eq 23, 3) := by decide +kernel
theorem dX6_listParts_24 : decode cX6_listParts 24 = .ok (.aload_n 1, 1) := by decide +kernel
theorem dX6_listParts_25 : decode cX6_listParts 25 = .ok (.getfield 54, 3) := by decide +kernel
theorem dX6_listParts_28 : decode cX6_listParts 28 = .ok (.iload_n 3, 1) := by decide +kernel
theorem dX6_listParts_29 : decode cX6_listParts 29 = .ok (.iaload, 1) := by decide +kernel
theorem dX6_listParts_30 : decode cX6_listParts 30 = .ok (.iconst 2, 1) := by decide +kernel
theorem dX6_listParts_31 : decode cX6_listParts 31 = .ok (.if_icmp .eq 13, 3) := by decide +kernel
theorem dX6_listParts_34 : decode cX6_listParts 34 = .ok (.aload_n 1, 1) := by decide +kernel
theorem dX6_listParts_35 : decode cX6_listParts 35 = .ok (.getfield 54, 3) := by decide +kernel
theorem dX6_listParts_38 : decode cX6_listParts 38 = .ok (.iload_n 3, 1) := by decide +kernel
theorem dX6_listParts_39 : decode cX6_listParts 39 = .ok (.iaload, 1) := by decide +kernel
theorem dX6_listParts_40 : decode cX6_listParts 40 = .ok (.iconst 3, 1) := by decide +kernel
theorem dX6_listParts_41 : decode cX6_listParts 41 = .ok (.if_icmp .ne 7, 3) := by decide +kernel
theorem dX6_listParts_44 : decode cX6_listParts 44 = .ok (.iconst 1, 1) := by decide +kernel
theorem dX6_listParts_45 : decode cX6_listParts 45 = .ok (.goto 4, 3) := by decide +kernel
theorem dX6_listParts_48 : decode cX6_listParts 48 = .ok (.iconst 0, 1) := by decide +kernel
theorem dX6_listParts_49 : decode cX6_listParts 49 = .ok (.istore 4, 2) := by decide +kernel
theorem dX6_listParts_51 : decode cX6_listParts 51 = .ok (.iload 4, 2) := by decide +kernel
theorem dX6_listParts_53 : decode cX6_listParts 53 = .ok (.ifCond .eq 37, 3) := by decide +kernel
theorem dX6_listParts_56 : decode cX6_listParts 56 = .ok (.aload_n 1, 1) := by decide +kernel
theorem dX6_listParts_57 : decode cX6_listParts 57 = .ok (.getfield 57, 3) := by decide +kernel
theorem dX6_listParts_60 : decode cX6_listParts 60 = .ok (.iload_n 3, 1) := by decide +kernel
theorem dX6_listParts_61 : decode cX6_listParts 61 = .ok (.iaload, 1) := by decide +kernel
theorem dX6_listParts_62 : decode cX6_listParts 62 = .ok (.iload_n 2, 1) := by decide +kernel
theorem dX6_listParts_63 : decode cX6_listParts 63 = .ok (.if_icmp .ne 27, 3) := by decide +kernel
theorem dX6_listParts_66 : decode cX6_listParts 66 = .ok (.aload_n 0, 1) := by decide +kernel
theorem dX6_listParts_67 : decode cX6_listParts 67 = .ok (.getfield 9, 3) := by decide +kernel
theorem dX6_listParts_70 : decode cX6_listParts 70 = .ok (.aload_n 0, 1) := by decide +kernel
theorem dX6_listParts_71 : decode cX6_listParts 71 = .ok (.getfield 43, 3) := by decide +kernel
theorem dX6_listParts_74 : decode cX6_listParts 74 = .ok (.aload_n 1, 1) := by decide +kernel
theorem dX6_listParts_75 : decode cX6_listParts 75 = .ok (.iload_n 3, 1) := by decide +kernel
theorem dX6_listParts_76 : decode cX6_listParts 76 = .ok (.invokevirtual 60, 3) := by decide +kernel
theorem dX6_listParts_79 : decode cX6_listParts 79 = .ok (.iastore, 1) := by decide +kernel
theorem dX6_listParts_80 : decode cX6_listParts 80 = .ok (.aload_n 0, 1) := by decide +kernel
theorem dX6_listParts_81 : decode cX6_listParts 81 = .ok (.dup, 1) := by decide +kernel
theorem dX6_listParts_82 : decode cX6_listParts 82 = .ok (.getfield 43, 3) := by decide +kernel
theorem dX6_listParts_85 : decode cX6_listParts 85 = .ok (.iconst 1, 1) := by decide +kernel
theorem dX6_listParts_86 : decode cX6_listParts 86 = .ok (.iadd, 1) := by decide +kernel
theorem dX6_listParts_87 : decode cX6_listParts 87 = .ok (.putfield 43, 3) := by decide +kernel
theorem dX6_listParts_90 : decode cX6_listParts 90 = .ok (.iinc 3 1, 3) := by decide +kernel
theorem dX6_listParts_93 : decode cX6_listParts 93 = .ok (.goto (-86), 3) := by decide +kernel
theorem dX6_listParts_96 : decode cX6_listParts 96 = .ok (.return_, 1) := by decide +kernel
set_option maxRecDepth 20000 in
theorem ggX6_listHeirs_X7_hasBit : GoodIn wsX6_listHeirs wsX7_hasBit := goodIn_r _ [6] (by decide +kernel) (by decide +kernel)
set_option maxRecDepth 20000 in
theorem gX6_listHeirs_X7_hasBit_n66 : GoodIn wsX6_listHeirs (wsX7_hasBit) := ggX6_listHeirs_X7_hasBit
theorem dX6_listHeirs_0 : decode cX6_listHeirs 0 = .ok (.aload_n 0, 1) := by decide +kernel
theorem dX6_listHeirs_1 : decode cX6_listHeirs 1 = .ok (.iconst 0, 1) := by decide +kernel
theorem dX6_listHeirs_2 : decode cX6_listHeirs 2 = .ok (.putfield 46, 3) := by decide +kernel
theorem dX6_listHeirs_5 : decode cX6_listHeirs 5 = .ok (.iconst 0, 1) := by decide +kernel
theorem dX6_listHeirs_6 : decode cX6_listHeirs 6 = .ok (.istore_n 3, 1) := by decide +kernel
theorem dX6_listHeirs_7 : decode cX6_listHeirs 7 = .ok (.iload_n 3, 1) := by decide +kernel
theorem dX6_listHeirs_8 : decode cX6_listHeirs 8 = .ok (.aload_n 1, 1) := by decide +kernel
theorem dX6_listHeirs_9 : decode cX6_listHeirs 9 = .ok (.getfield 63, 3) := by decide +kernel
theorem dX6_listHeirs_12 : decode cX6_listHeirs 12 = .ok (.if_icmp .ge 45, 3) := by decide +kernel
theorem dX6_listHeirs_15 : decode cX6_listHeirs 15 = .ok (.aload_n 0, 1) := by decide +kernel
theorem dX6_listHeirs_16 : decode cX6_listHeirs 16 = .ok (.getfield 46, 3) := by decide +kernel
theorem dX6_listHeirs_19 : decode cX6_listHeirs 19 = .ok (.iconst 3, 1) := by decide +kernel
theorem dX6_listHeirs_20 : decode cX6_listHeirs 20 = .ok (.if_icmp .ge 37, 3) := by decide +kernel
theorem dX6_listHeirs_23 : decode cX6_listHeirs 23 = .ok (.iload_n 2, 1) := by decide +kernel
theorem dX6_listHeirs_24 : decode cX6_listHeirs 24 = .ok (.iload_n 3, 1) := by decide +kernel
theorem dX6_listHeirs_25 : decode cX6_listHeirs 25 = .ok (.invokestatic 66, 3) := by decide +kernel
theorem dX6_listHeirs_28 : decode cX6_listHeirs 28 = .ok (.ifCond .eq 23, 3) := by decide +kernel
theorem dX6_listHeirs_31 : decode cX6_listHeirs 31 = .ok (.aload_n 0, 1) := by decide +kernel
theorem dX6_listHeirs_32 : decode cX6_listHeirs 32 = .ok (.getfield 15, 3) := by decide +kernel
theorem dX6_listHeirs_35 : decode cX6_listHeirs 35 = .ok (.aload_n 0, 1) := by decide +kernel
theorem dX6_listHeirs_36 : decode cX6_listHeirs 36 = .ok (.getfield 46, 3) := by decide +kernel
theorem dX6_listHeirs_39 : decode cX6_listHeirs 39 = .ok (.iload_n 3, 1) := by decide +kernel
theorem dX6_listHeirs_40 : decode cX6_listHeirs 40 = .ok (.iastore, 1) := by decide +kernel
theorem dX6_listHeirs_41 : decode cX6_listHeirs 41 = .ok (.aload_n 0, 1) := by decide +kernel
theorem dX6_listHeirs_42 : decode cX6_listHeirs 42 = .ok (.dup, 1) := by decide +kernel
theorem dX6_listHeirs_43 : decode cX6_listHeirs 43 = .ok (.getfield 46, 3) := by decide +kernel
theorem dX6_listHeirs_46 : decode cX6_listHeirs 46 = .ok (.iconst 1, 1) := by decide +kernel
theorem dX6_listHeirs_47 : decode cX6_listHeirs 47 = .ok (.iadd, 1) := by decide +kernel
theorem dX6_listHeirs_48 : decode cX6_listHeirs 48 = .ok (.putfield 46, 3) := by decide +kernel
theorem dX6_listHeirs_51 : decode cX6_listHeirs 51 = .ok (.iinc 3 1, 3) := by decide +kernel
theorem dX6_listHeirs_54 : decode cX6_listHeirs 54 = .ok (.goto (-47), 3) := by decide +kernel
theorem dX6_listHeirs_57 : decode cX6_listHeirs 57 = .ok (.return_, 1) := by decide +kernel
theorem dX6_countWays_0 : decode cX6_countWays 0 = .ok (.iconst 1, 1) := by decide +kernel
theorem dX6_countWays_1 : decode cX6_countWays 1 = .ok (.istore_n 1, 1) := by decide +kernel
theorem dX6_countWays_2 : decode cX6_countWays 2 = .ok (.iconst 0, 1) := by decide +kernel
theorem dX6_countWays_3 : decode cX6_countWays 3 = .ok (.istore_n 2, 1) := by decide +kernel
theorem dX6_countWays_4 : decode cX6_countWays 4 = .ok (.iload_n 2, 1) := by decide +kernel
theorem dX6_countWays_5 : decode cX6_countWays 5 = .ok (.aload_n 0, 1) := by decide +kernel
theorem dX6_countWays_6 : decode cX6_countWays 6 = .ok (.getfield 43, 3) := by decide +kernel
theorem dX6_countWays_9 : decode cX6_countWays 9 = .ok (.if_icmp .ge 16, 3) := by decide +kernel
theorem dX6_countWays_12 : decode cX6_countWays 12 = .ok (.iload_n 1, 1) := by decide +kernel
theorem dX6_countWays_13 : decode cX6_countWays 13 = .ok (.aload_n 0, 1) := by decide +kernel
theorem dX6_countWays_14 : decode cX6_countWays 14 = .ok (.getfield 46, 3) := by decide +kernel
theorem dX6_countWays_17 : decode cX6_countWays 17 = .ok (.imul, 1) := by decide +kernel
theorem dX6_countWays_18 : decode cX6_countWays 18 = .ok (.istore_n 1, 1) := by decide +kernel
theorem dX6_countWays_19 : decode cX6_countWays 19 = .ok (.iinc 2 1, 3) := by decide +kernel
theorem dX6_countWays_22 : decode cX6_countWays 22 = .ok (.goto (-18), 3) := by decide +kernel
theorem dX6_countWays_25 : decode cX6_countWays 25 = .ok (.iload_n 1, 1) := by decide +kernel
theorem dX6_countWays_26 : decode cX6_countWays 26 = .ok (.ireturn, 1) := by decide +kernel
theorem dX6_leastShare_0 : decode cX6_leastShare 0 = .ok (.aload_n 0, 1) := by decide +kernel
theorem dX6_leastShare_1 : decode cX6_leastShare 1 = .ok (.getfield 46, 3) := by decide +kernel
theorem dX6_leastShare_4 : decode cX6_leastShare 4 = .ok (.iconst 1, 1) := by decide +kernel
theorem dX6_leastShare_5 : decode cX6_leastShare 5 = .ok (.if_icmp .ge 5, 3) := by decide +kernel
theorem dX6_leastShare_8 : decode cX6_leastShare 8 = .ok (.iconst 0, 1) := by decide +kernel
theorem dX6_leastShare_9 : decode cX6_leastShare 9 = .ok (.ireturn, 1) := by decide +kernel
theorem dX6_leastShare_10 : decode cX6_leastShare 10 = .ok (.iconst 0, 1) := by decide +kernel
theorem dX6_leastShare_11 : decode cX6_leastShare 11 = .ok (.istore_n 2, 1) := by decide +kernel
theorem dX6_leastShare_12 : decode cX6_leastShare 12 = .ok (.iload_n 2, 1) := by decide +kernel
theorem dX6_leastShare_13 : decode cX6_leastShare 13 = .ok (.aload_n 0, 1) := by decide +kernel
theorem dX6_leastShare_14 : decode cX6_leastShare 14 = .ok (.getfield 46, 3) := by decide +kernel
theorem dX6_leastShare_17 : decode cX6_leastShare 17 = .ok (.if_icmp .ge 16, 3) := by decide +kernel
theorem dX6_leastShare_20 : decode cX6_leastShare 20 = .ok (.aload_n 0, 1) := by decide +kernel
theorem dX6_leastShare_21 : decode cX6_leastShare 21 = .ok (.getfield 18, 3) := by decide +kernel
theorem dX6_leastShare_24 : decode cX6_leastShare 24 = .ok (.iload_n 2, 1) := by decide +kernel
theorem dX6_leastShare_25 : decode cX6_leastShare 25 = .ok (.iconst 0, 1) := by decide +kernel
theorem dX6_leastShare_26 : decode cX6_leastShare 26 = .ok (.iastore, 1) := by decide +kernel
theorem dX6_leastShare_27 : decode cX6_leastShare 27 = .ok (.iinc 2 1, 3) := by decide +kernel
theorem dX6_leastShare_30 : decode cX6_leastShare 30 = .ok (.goto (-18), 3) := by decide +kernel
theorem dX6_leastShare_33 : decode cX6_leastShare 33 = .ok (.iload_n 1, 1) := by decide +kernel
theorem dX6_leastShare_34 : decode cX6_leastShare 34 = .ok (.istore_n 2, 1) := by decide +kernel
theorem dX6_leastShare_35 : decode cX6_leastShare 35 = .ok (.aload_n 0, 1) := by decide +kernel
theorem dX6_leastShare_36 : decode cX6_leastShare 36 = .ok (.getfield 43, 3) := by decide +kernel
theorem dX6_leastShare_39 : decode cX6_leastShare 39 = .ok (.iconst 1, 1) := by decide +kernel
theorem dX6_leastShare_40 : decode cX6_leastShare 40 = .ok (.isub, 1) := by decide +kernel
theorem dX6_leastShare_41 : decode cX6_leastShare 41 = .ok (.istore_n 3, 1) := by decide +kernel
theorem dX6_leastShare_42 : decode cX6_leastShare 42 = .ok (.iload_n 3, 1) := by decide +kernel
theorem dX6_leastShare_43 : decode cX6_leastShare 43 = .ok (.ifCond .lt 36, 3) := by decide +kernel
theorem dX6_leastShare_46 : decode cX6_leastShare 46 = .ok (.aload_n 0, 1) := by decide +kernel
theorem dX6_leastShare_47 : decode cX6_leastShare 47 = .ok (.getfield 18, 3) := by decide +kernel
theorem dX6_leastShare_50 : decode cX6_leastShare 50 = .ok (.iload_n 2, 1) := by decide +kernel
theorem dX6_leastShare_51 : decode cX6_leastShare 51 = .ok (.aload_n 0, 1) := by decide +kernel
theorem dX6_leastShare_52 : decode cX6_leastShare 52 = .ok (.getfield 46, 3) := by decide +kernel
theorem dX6_leastShare_55 : decode cX6_leastShare 55 = .ok (.irem, 1) := by decide +kernel
theorem dX6_leastShare_56 : decode cX6_leastShare 56 = .ok (.dup2, 1) := by decide +kernel
theorem dX6_leastShare_57 : decode cX6_leastShare 57 = .ok (.iaload, 1) := by decide +kernel
theorem dX6_leastShare_58 : decode cX6_leastShare 58 = .ok (.aload_n 0, 1) := by decide +kernel
theorem dX6_leastShare_59 : decode cX6_leastShare 59 = .ok (.getfield 9, 3) := by decide +kernel
theorem dX6_leastShare_62 : decode cX6_leastShare 62 = .ok (.iload_n 3, 1) := by decide +kernel
theorem dX6_leastShare_63 : decode cX6_leastShare 63 = .ok (.iaload, 1) := by decide +kernel
theorem dX6_leastShare_64 : decode cX6_leastShare 64 = .ok (.iadd, 1) := by decide +kernel
theorem dX6_leastShare_65 : decode cX6_leastShare 65 = .ok (.iastore, 1) := by decide +kernel
theorem dX6_leastShare_66 : decode cX6_leastShare 66 = .ok (.iload_n 2, 1) := by decide +kernel
theorem dX6_leastShare_67 : decode cX6_leastShare 67 = .ok (.aload_n 0, 1) := by decide +kernel
theorem dX6_leastShare_68 : decode cX6_leastShare 68 = .ok (.getfield 46, 3) := by decide +kernel
theorem dX6_leastShare_71 : decode cX6_leastShare 71 = .ok (.idiv, 1) := by decide +kernel
theorem dX6_leastShare_72 : decode cX6_leastShare 72 = .ok (.istore_n 2, 1) := by decide +kernel
theorem dX6_leastShare_73 : decode cX6_leastShare 73 = .ok (.iinc 3 (-1), 3) := by decide +kernel
theorem dX6_leastShare_76 : decode cX6_leastShare 76 = .ok (.goto (-34), 3) := by decide +kernel
theorem dX6_leastShare_79 : decode cX6_leastShare 79 = .ok (.aload_n 0, 1) := by decide +kernel
theorem dX6_leastShare_80 : decode cX6_leastShare 80 = .ok (.getfield 18, 3) := by decide +kernel
theorem dX6_leastShare_83 : decode cX6_leastShare 83 = .ok (.iconst 0, 1) := by decide +kernel
theorem dX6_leastShare_84 : decode cX6_leastShare 84 = .ok (.iaload, 1) := by decide +kernel
theorem dX6_leastShare_85 : decode cX6_leastShare 85 = .ok (.istore_n 3, 1) := by decide +kernel
theorem dX6_leastShare_86 : decode cX6_leastShare 86 = .ok (.iconst 1, 1) := by decide +kernel
theorem dX6_leastShare_87 : decode cX6_leastShare 87 = .ok (.istore 4, 2) := by decide +kernel
theorem dX6_leastShare_89 : decode cX6_leastShare 89 = .ok (.iload 4, 2) := by decide +kernel
theorem dX6_leastShare_91 : decode cX6_leastShare 91 = .ok (.aload_n 0, 1) := by decide +kernel
theorem dX6_leastShare_92 : decode cX6_leastShare 92 = .ok (.getfield 46, 3) := by decide +kernel
theorem dX6_leastShare_95 : decode cX6_leastShare 95 = .ok (.if_icmp .ge 21, 3) := by decide +kernel
theorem dX6_leastShare_98 : decode cX6_leastShare 98 = .ok (.iload_n 3, 1) := by decide +kernel
theorem dX6_leastShare_99 : decode cX6_leastShare 99 = .ok (.aload_n 0, 1) := by decide +kernel
theorem dX6_leastShare_100 : decode cX6_leastShare 100 = .ok (.getfield 18, 3) := by decide +kernel
theorem dX6_leastShare_103 : decode cX6_leastShare 103 = .ok (.iload 4, 2) := by decide +kernel
theorem dX6_leastShare_105 : decode cX6_leastShare 105 = .ok (.iaload, 1) := by decide +kernel
theorem dX6_leastShare_106 : decode cX6_leastShare 106 = .ok (.invokestatic 70, 3) := by decide +kernel
theorem dX6_leastShare_109 : decode cX6_leastShare 109 = .ok (.istore_n 3, 1) := by decide +kernel
theorem dX6_leastShare_110 : decode cX6_leastShare 110 = .ok (.iinc 4 1, 3) := by decide +kernel
theorem dX6_leastShare_113 : decode cX6_leastShare 113 = .ok (.goto (-24), 3) := by decide +kernel
theorem dX6_leastShare_116 : decode cX6_leastShare 116 = .ok (.iload_n 3, 1) := by decide +kernel
theorem dX6_leastShare_117 : decode cX6_leastShare 117 = .ok (.ireturn, 1) := by decide +kernel
set_option maxRecDepth 20000 in
theorem ggX7_init_X5_init : GoodIn wsX7_init wsX5_init := goodIn_r _ [34, 35, 2, 3, 36, 37, 38, 39, 40, 41, 42, 43, 44, 45, 46, 81, 82, 83, 84, 85, 86, 87, 88, 89, 90, 91, 92, 93, 94, 95, 96, 97] (by decide +kernel) (by decide +kernel)
set_option maxRecDepth 20000 in
theorem gX7_init_X5_init_n9 : GoodIn wsX7_init (wsX5_init) := ggX7_init_X5_init
set_option maxRecDepth 20000 in
theorem ggX7_init_X3_init : GoodIn wsX7_init wsX3_init := goodIn_r _ [48, 49, 2, 3, 36, 50, 109, 110] (by decide +kernel) (by decide +kernel)
set_option maxRecDepth 20000 in
theorem gX7_init_X3_init_n18 : GoodIn wsX7_init (wsX3_init) := ggX7_init_X3_init
set_option maxRecDepth 20000 in
theorem ggX7_init_X2_init : GoodIn wsX7_init wsX2_init := goodIn_r _ [52, 53, 2, 3, 54, 5, 6, 55, 56, 9, 10, 57, 33, 34, 35, 36, 37, 38, 39, 40, 41, 42, 43, 44, 45, 46, 47, 48, 49, 50, 81, 82, 83, 84, 85, 86, 87, 88, 89, 90, 91, 92, 93, 94, 95, 96, 97, 111, 112, 113, 109, 110] (by decide +kernel) (by decide +kernel)
set_option maxRecDepth 20000 in
theorem gX7_init_X2_init_n25 : GoodIn wsX7_init (wsX2_init) := ggX7_init_X2_init
set_option maxRecDepth 20000 in
theorem ggX7_init_X4_init : GoodIn wsX7_init wsX4_init := goodIn_r _ [59, 60, 2, 3, 61, 62, 114, 115, 116, 117, 118, 119] (by decide +kernel) (by decide +kernel)
set_option maxRecDepth 20000 in
theorem gX7_init_X4_init_n35 : GoodIn wsX7_init (wsX4_init) := ggX7_init_X4_init
set_option maxRecDepth 20000 in
theorem ggX7_init_X1_init : GoodIn wsX7_init wsX1_init := goodIn_r _ [64, 65, 2, 3, 66, 5, 6, 67, 33, 34, 35, 36, 37, 38, 39, 40, 41, 42, 43, 44, 45, 46, 81, 82, 83, 84, 85, 86, 87, 88, 89, 90, 91, 92, 93, 94, 95, 96, 97, 120] (by decide +kernel) (by decide +kernel)
set_option maxRecDepth 20000 in
theorem gX7_init_X1_init_n42 : GoodIn wsX7_init (wsX1_init) := ggX7_init_X1_init
set_option maxRecDepth 20000 in
theorem ggX7_init_X6_init : GoodIn wsX7_init wsX6_init := goodIn_r _ [69, 70, 2, 3, 36, 71, 72, 73, 121, 122, 123, 124, 125, 126, 127] (by decide +kernel) (by decide +kernel)
set_option maxRecDepth 20000 in
theorem gX7_init_X6_init_n49 : GoodIn wsX7_init (wsX6_init) := ggX7_init_X6_init
set_option maxRecDepth 20000 in
theorem ggX7_init_X0_init : GoodIn wsX7_init wsX0_init := goodIn_r _ [75, 76, 2, 3, 77, 78, 79, 80, 128, 129, 130] (by decide +kernel) (by decide +kernel)
set_option maxRecDepth 20000 in
theorem gX7_init_X0_init_n56 : GoodIn wsX7_init (wsX0_init) := ggX7_init_X0_init
theorem dX7_init_0 : decode cX7_init 0 = .ok (.aload_n 0, 1) := by decide +kernel
theorem dX7_init_1 : decode cX7_init 1 = .ok (.invokespecial 1, 3) := by decide +kernel
theorem dX7_init_4 : decode cX7_init 4 = .ok (.aload_n 0, 1) := by decide +kernel
theorem dX7_init_5 : decode cX7_init 5 = .ok (.new 7, 3) := by decide +kernel
theorem dX7_init_8 : decode cX7_init 8 = .ok (.dup, 1) := by decide +kernel
theorem dX7_init_9 : decode cX7_init 9 = .ok (.invokespecial 9, 3) := by decide +kernel
theorem dX7_init_12 : decode cX7_init 12 = .ok (.putfield 10, 3) := by decide +kernel
theorem dX7_init_15 : decode cX7_init 15 = .ok (.aload_n 0, 1) := by decide +kernel
theorem dX7_init_16 : decode cX7_init 16 = .ok (.new 16, 3) := by decide +kernel
theorem dX7_init_19 : decode cX7_init 19 = .ok (.dup, 1) := by decide +kernel
theorem dX7_init_20 : decode cX7_init 20 = .ok (.invokespecial 18, 3) := by decide +kernel
theorem dX7_init_23 : decode cX7_init 23 = .ok (.putfield 19, 3) := by decide +kernel
theorem dX7_init_26 : decode cX7_init 26 = .ok (.aload_n 0, 1) := by decide +kernel
theorem dX7_init_27 : decode cX7_init 27 = .ok (.new 23, 3) := by decide +kernel
theorem dX7_init_30 : decode cX7_init 30 = .ok (.dup, 1) := by decide +kernel
theorem dX7_init_31 : decode cX7_init 31 = .ok (.invokespecial 25, 3) := by decide +kernel
theorem dX7_init_34 : decode cX7_init 34 = .ok (.putfield 26, 3) := by decide +kernel
theorem dX7_init_37 : decode cX7_init 37 = .ok (.aload_n 0, 1) := by decide +kernel
theorem dX7_init_38 : decode cX7_init 38 = .ok (.new 23, 3) := by decide +kernel
theorem dX7_init_41 : decode cX7_init 41 = .ok (.dup, 1) := by decide +kernel
theorem dX7_init_42 : decode cX7_init 42 = .ok (.invokespecial 25, 3) := by decide +kernel
theorem dX7_init_45 : decode cX7_init 45 = .ok (.putfield 30, 3) := by decide +kernel
theorem dX7_init_48 : decode cX7_init 48 = .ok (.aload_n 0, 1) := by decide +kernel
theorem dX7_init_49 : decode cX7_init 49 = .ok (.new 33, 3) := by decide +kernel
theorem dX7_init_52 : decode cX7_init 52 = .ok (.dup, 1) := by decide +kernel
theorem dX7_init_53 : decode cX7_init 53 = .ok (.invokespecial 35, 3) := by decide +kernel
theorem dX7_init_56 : decode cX7_init 56 = .ok (.putfield 36, 3) := by decide +kernel
theorem dX7_init_59 : decode cX7_init 59 = .ok (.aload_n 0, 1) := by decide +kernel
theorem dX7_init_60 : decode cX7_init 60 = .ok (.new 40, 3) := by decide +kernel
theorem dX7_init_63 : decode cX7_init 63 = .ok (.dup, 1) := by decide +kernel
theorem dX7_init_64 : decode cX7_init 64 = .ok (.invokespecial 42, 3) := by decide +kernel
theorem dX7_init_67 : decode cX7_init 67 = .ok (.putfield 43, 3) := by decide +kernel
theorem dX7_init_70 : decode cX7_init 70 = .ok (.aload_n 0, 1) := by decide +kernel
theorem dX7_init_71 : decode cX7_init 71 = .ok (.new 47, 3) := by decide +kernel
theorem dX7_init_74 : decode cX7_init 74 = .ok (.dup, 1) := by decide +kernel
theorem dX7_init_75 : decode cX7_init 75 = .ok (.invokespecial 49, 3) := by decide +kernel
theorem dX7_init_78 : decode cX7_init 78 = .ok (.putfield 50, 3) := by decide +kernel
theorem dX7_init_81 : decode cX7_init 81 = .ok (.aload_n 0, 1) := by decide +kernel
theorem dX7_init_82 : decode cX7_init 82 = .ok (.new 54, 3) := by decide +kernel
theorem dX7_init_85 : decode cX7_init 85 = .ok (.dup, 1) := by decide +kernel
theorem dX7_init_86 : decode cX7_init 86 = .ok (.invokespecial 56, 3) := by decide +kernel
theorem dX7_init_89 : decode cX7_init 89 = .ok (.putfield 57, 3) := by decide +kernel
theorem dX7_init_92 : decode cX7_init 92 = .ok (.return_, 1) := by decide +kernel
set_option maxRecDepth 20000 in
theorem ggX7_chest_X7_within : GoodIn wsX7_chest wsX7_within := goodIn_r _ [7] (by decide +kernel) (by decide +kernel)
set_option maxRecDepth 20000 in
theorem gX7_chest_X7_within : GoodIn wsX7_chest (va_wsS RX7 62 yX7_within wsX7_within) := goodIn_app (goodIn_of _ (by decide +kernel)) ggX7_chest_X7_within
set_option maxRecDepth 20000 in
theorem ggX7_chest_X7_bad : GoodIn wsX7_chest wsX7_bad := goodIn_r _ [11, 12, 13, 14, 15, 16, 17, 18, 19, 20, 21, 22, 23] (by decide +kernel) (by decide +kernel)
set_option maxRecDepth 20000 in
theorem gX7_chest_X7_bad : GoodIn wsX7_chest (wsV RX7 66 RX7 yX7_bad wsX7_bad) := goodIn_app (goodIn_of _ (by decide +kernel)) ggX7_chest_X7_bad
theorem dX7_chest_0 : decode cX7_chest 0 = .ok (.iload_n 1, 1) := by decide +kernel
theorem dX7_chest_1 : decode cX7_chest 1 = .ok (.iconst 0, 1) := by decide +kernel
theorem dX7_chest_2 : decode cX7_chest 2 = .ok (.ldc 61, 2) := by decide +kernel
theorem dX7_chest_4 : decode cX7_chest 4 = .ok (.invokestatic 62, 3) := by decide +kernel
theorem dX7_chest_7 : decode cX7_chest 7 = .ok (.ifCond .ne 8, 3) := by decide +kernel
theorem dX7_chest_10 : decode cX7_chest 10 = .ok (.aload_n 0, 1) := by decide +kernel
theorem dX7_chest_11 : decode cX7_chest 11 = .ok (.invokevirtual 66, 3) := by decide +kernel
theorem dX7_chest_14 : decode cX7_chest 14 = .ok (.ireturn, 1) := by decide +kernel
theorem dX7_chest_15 : decode cX7_chest 15 = .ok (.aload_n 0, 1) := by decide +kernel
theorem dX7_chest_16 : decode cX7_chest 16 = .ok (.getfield 10, 3) := by decide +kernel
theorem dX7_chest_19 : decode cX7_chest 19 = .ok (.getfield 70, 3) := by decide +kernel
theorem dX7_chest_22 : decode cX7_chest 22 = .ok (.istore_n 2, 1) := by decide +kernel
theorem dX7_chest_23 : decode cX7_chest 23 = .ok (.aload_n 0, 1) := by decide +kernel
theorem dX7_chest_24 : decode cX7_chest 24 = .ok (.getfield 10, 3) := by decide +kernel
theorem dX7_chest_27 : decode cX7_chest 27 = .ok (.iload_n 1, 1) := by decide +kernel
theorem dX7_chest_28 : decode cX7_chest 28 = .ok (.putfield 70, 3) := by decide +kernel
theorem dX7_chest_31 : decode cX7_chest 31 = .ok (.iload_n 2, 1) := by decide +kernel
theorem dX7_chest_32 : decode cX7_chest 32 = .ok (.ireturn, 1) := by decide +kernel
set_option maxRecDepth 20000 in
theorem ggX7_rate_X7_within : GoodIn wsX7_rate wsX7_within := goodIn_r _ [6] (by decide +kernel) (by decide +kernel)
set_option maxRecDepth 20000 in
theorem gX7_rate_X7_within : GoodIn wsX7_rate (va_wsS RX7 62 yX7_within wsX7_within) := goodIn_app (goodIn_of _ (by decide +kernel)) ggX7_rate_X7_within
set_option maxRecDepth 20000 in
theorem ggX7_rate_X7_bad : GoodIn wsX7_rate wsX7_bad := goodIn_r _ [10, 11, 12, 13, 14, 15, 16, 17, 18, 19, 20, 21, 22] (by decide +kernel) (by decide +kernel)
set_option maxRecDepth 20000 in
theorem gX7_rate_X7_bad : GoodIn wsX7_rate (wsV RX7 66 RX7 yX7_bad wsX7_bad) := goodIn_app (goodIn_of _ (by decide +kernel)) ggX7_rate_X7_bad
theorem dX7_rate_0 : decode cX7_rate 0 = .ok (.iload_n 1, 1) := by decide +kernel
theorem dX7_rate_1 : decode cX7_rate 1 = .ok (.iconst 0, 1) := by decide +kernel
theorem dX7_rate_2 : decode cX7_rate 2 = .ok (.bipush 50, 2) := by decide +kernel
theorem dX7_rate_4 : decode cX7_rate 4 = .ok (.invokestatic 62, 3) := by decide +kernel
theorem dX7_rate_7 : decode cX7_rate 7 = .ok (.ifCond .ne 8, 3) := by decide +kernel
theorem dX7_rate_10 : decode cX7_rate 10 = .ok (.aload_n 0, 1) := by decide +kernel
theorem dX7_rate_11 : decode cX7_rate 11 = .ok (.invokevirtual 66, 3) := by decide +kernel
theorem dX7_rate_14 : decode cX7_rate 14 = .ok (.ireturn, 1) := by decide +kernel
theorem dX7_rate_15 : decode cX7_rate 15 = .ok (.aload_n 0, 1) := by decide +kernel
theorem dX7_rate_16 : decode cX7_rate 16 = .ok (.getfield 10, 3) := by decide +kernel
theorem dX7_rate_19 : decode cX7_rate 19 = .ok (.getfield 74, 3) := by decide +kernel
theorem dX7_rate_22 : decode cX7_rate 22 = .ok (.istore_n 2, 1) := by decide +kernel
theorem dX7_rate_23 : decode cX7_rate 23 = .ok (.aload_n 0, 1) := by decide +kernel
theorem dX7_rate_24 : decode cX7_rate 24 = .ok (.getfield 10, 3) := by decide +kernel
theorem dX7_rate_27 : decode cX7_rate 27 = .ok (.iload_n 1, 1) := by decide +kernel
theorem dX7_rate_28 : decode cX7_rate 28 = .ok (.putfield 74, 3) := by decide +kernel
theorem dX7_rate_31 : decode cX7_rate 31 = .ok (.iload_n 2, 1) := by decide +kernel
theorem dX7_rate_32 : decode cX7_rate 32 = .ok (.ireturn, 1) := by decide +kernel
set_option maxRecDepth 20000 in
theorem ggX7_person_X7_within : GoodIn wsX7_person wsX7_within := goodIn_r _ [6] (by decide +kernel) (by decide +kernel)
set_option maxRecDepth 20000 in
theorem gX7_person_X7_within : GoodIn wsX7_person (va_wsS RX7 62 yX7_within wsX7_within) := goodIn_app (goodIn_of _ (by decide +kernel)) ggX7_person_X7_within
set_option maxRecDepth 20000 in
theorem ggX7_person_X7_bad : GoodIn wsX7_person wsX7_bad := goodIn_r _ [10, 11, 26, 27, 28, 29, 30, 31, 32, 33, 34, 35, 36] (by decide +kernel) (by decide +kernel)
set_option maxRecDepth 20000 in
theorem gX7_person_X7_bad : GoodIn wsX7_person (wsV RX7 66 RX7 yX7_bad wsX7_bad) := goodIn_app (goodIn_of _ (by decide +kernel)) ggX7_person_X7_bad
set_option maxRecDepth 20000 in
theorem ggX7_person_X7_full : GoodIn wsX7_person wsX7_full := goodIn_r _ [15, 16, 26, 27, 28, 29, 30, 31, 32, 33, 34, 35, 36] (by decide +kernel) (by decide +kernel)
set_option maxRecDepth 20000 in
theorem gX7_person_X7_full : GoodIn wsX7_person (wsV RX7 80 RX7 yX7_full wsX7_full) := goodIn_app (goodIn_of _ (by decide +kernel)) ggX7_person_X7_full
set_option maxRecDepth 20000 in
theorem ggX7_person_X5_addPerson : GoodIn wsX7_person wsX5_addPerson := goodIn_r _ [21, 22, 23, 24, 25, 37, 38, 39, 40, 41, 42, 43, 44, 45, 46, 47, 48, 49, 50, 51, 52, 53] (by decide +kernel) (by decide +kernel)
set_option maxRecDepth 20000 in
theorem gX7_person_X5_addPerson : GoodIn wsX7_person (wsV RX7 83 RX5 yX5_addPerson wsX5_addPerson) := goodIn_app (goodIn_of _ (by decide +kernel)) ggX7_person_X5_addPerson
theorem dX7_person_0 : decode cX7_person 0 = .ok (.iload_n 1, 1) := by decide +kernel
theorem dX7_person_1 : decode cX7_person 1 = .ok (.iconst 0, 1) := by decide +kernel
theorem dX7_person_2 : decode cX7_person 2 = .ok (.iconst 5, 1) := by decide +kernel
theorem dX7_person_3 : decode cX7_person 3 = .ok (.invokestatic 62, 3) := by decide +kernel
theorem dX7_person_6 : decode cX7_person 6 = .ok (.ifCond .eq 24, 3) := by decide +kernel
theorem dX7_person_9 : decode cX7_person 9 = .ok (.iload_n 2, 1) := by decide +kernel
theorem dX7_person_10 : decode cX7_person 10 = .ok (.iconst 0, 1) := by decide +kernel
theorem dX7_person_11 : decode cX7_person 11 = .ok (.bipush 99, 2) := by decide +kernel
theorem dX7_person_13 : decode cX7_person 13 = .ok (.invokestatic 62, 3) := by decide +kernel
theorem dX7_person_16 : decode cX7_person 16 = .ok (.ifCond .eq 14, 3) := by decide +kernel
theorem dX7_person_19 : decode cX7_person 19 = .ok (.iload_n 3, 1) := by decide +kernel
theorem dX7_person_20 : decode cX7_person 20 = .ok (.iconst 0, 1) := by decide +kernel
theorem dX7_person_21 : decode cX7_person 21 = .ok (.sipush 9999, 3) := by decide +kernel
theorem dX7_person_24 : decode cX7_person 24 = .ok (.invokestatic 62, 3) := by decide +kernel
theorem dX7_person_27 : decode cX7_person 27 = .ok (.ifCond .ne 8, 3) := by decide +kernel
theorem dX7_person_30 : decode cX7_person 30 = .ok (.aload_n 0, 1) := by decide +kernel
theorem dX7_person_31 : decode cX7_person 31 = .ok (.invokevirtual 66, 3) := by decide +kernel
theorem dX7_person_34 : decode cX7_person 34 = .ok (.ireturn, 1) := by decide +kernel
theorem dX7_person_35 : decode cX7_person 35 = .ok (.aload_n 0, 1) := by decide +kernel
theorem dX7_person_36 : decode cX7_person 36 = .ok (.getfield 10, 3) := by decide +kernel
theorem dX7_person_39 : decode cX7_person 39 = .ok (.getfield 77, 3) := by decide +kernel
theorem dX7_person_42 : decode cX7_person 42 = .ok (.bipush 6, 2) := by decide +kernel
theorem dX7_person_44 : decode cX7_person 44 = .ok (.if_icmp .lt 8, 3) := by decide +kernel
theorem dX7_person_47 : decode cX7_person 47 = .ok (.aload_n 0, 1) := by decide +kernel
theorem dX7_person_48 : decode cX7_person 48 = .ok (.invokevirtual 80, 3) := by decide +kernel
theorem dX7_person_51 : decode cX7_person 51 = .ok (.ireturn, 1) := by decide +kernel
theorem dX7_person_52 : decode cX7_person 52 = .ok (.aload_n 0, 1) := by decide +kernel
theorem dX7_person_53 : decode cX7_person 53 = .ok (.getfield 10, 3) := by decide +kernel
theorem dX7_person_56 : decode cX7_person 56 = .ok (.iload_n 1, 1) := by decide +kernel
theorem dX7_person_57 : decode cX7_person 57 = .ok (.iload_n 2, 1) := by decide +kernel
theorem dX7_person_58 : decode cX7_person 58 = .ok (.iload_n 3, 1) := by decide +kernel
theorem dX7_person_59 : decode cX7_person 59 = .ok (.invokevirtual 83, 3) := by decide +kernel
theorem dX7_person_62 : decode cX7_person 62 = .ok (.ireturn, 1) := by decide +kernel
set_option maxRecDepth 20000 in
theorem ggX7_loan_X5_hasPerson : GoodIn wsX7_loan wsX5_hasPerson := goodIn_r _ [7, 8, 44, 45, 46, 47, 48, 49, 50, 51, 52, 53, 54, 55, 56, 57, 58, 59, 60] (by decide +kernel) (by decide +kernel)
set_option maxRecDepth 20000 in
theorem gX7_loan_X5_hasPerson : GoodIn wsX7_loan (wsV RX7 87 RX5 yX5_hasPerson wsX5_hasPerson) := goodIn_app (goodIn_of _ (by decide +kernel)) ggX7_loan_X5_hasPerson
set_option maxRecDepth 20000 in
theorem ggX7_loan_X7_within : GoodIn wsX7_loan wsX7_within := goodIn_r _ [12] (by decide +kernel) (by decide +kernel)
set_option maxRecDepth 20000 in
theorem gX7_loan_X7_within : GoodIn wsX7_loan (va_wsS RX7 62 yX7_within wsX7_within) := goodIn_app (goodIn_of _ (by decide +kernel)) ggX7_loan_X7_within
set_option maxRecDepth 20000 in
theorem ggX7_loan_X7_bad : GoodIn wsX7_loan wsX7_bad := goodIn_r _ [16, 17, 33, 34, 35, 36, 37, 38, 39, 40, 41, 42, 43] (by decide +kernel) (by decide +kernel)
set_option maxRecDepth 20000 in
theorem gX7_loan_X7_bad : GoodIn wsX7_loan (wsV RX7 66 RX7 yX7_bad wsX7_bad) := goodIn_app (goodIn_of _ (by decide +kernel)) ggX7_loan_X7_bad
set_option maxRecDepth 20000 in
theorem ggX7_loan_X7_full : GoodIn wsX7_loan wsX7_full := goodIn_r _ [21, 22, 33, 34, 35, 36, 37, 38, 39, 40, 41, 42, 43] (by decide +kernel) (by decide +kernel)
set_option maxRecDepth 20000 in
theorem gX7_loan_X7_full : GoodIn wsX7_loan (wsV RX7 80 RX7 yX7_full wsX7_full) := goodIn_app (goodIn_of _ (by decide +kernel)) ggX7_loan_X7_full
set_option maxRecDepth 20000 in
theorem ggX7_loan_X5_addLoan : GoodIn wsX7_loan wsX5_addLoan := goodIn_r _ [26, 27, 28, 29, 30, 31, 32, 44, 45, 46, 47, 48, 49, 50, 51, 52, 53, 54, 55, 56, 57, 58, 59, 60] (by decide +kernel) (by decide +kernel)
set_option maxRecDepth 20000 in
theorem gX7_loan_X5_addLoan : GoodIn wsX7_loan (wsV RX7 94 RX5 yX5_addLoan wsX5_addLoan) := goodIn_app (goodIn_of _ (by decide +kernel)) ggX7_loan_X5_addLoan
theorem dX7_loan_0 : decode cX7_loan 0 = .ok (.aload_n 0, 1) := by decide +kernel
theorem dX7_loan_1 : decode cX7_loan 1 = .ok (.getfield 10, 3) := by decide +kernel
theorem dX7_loan_4 : decode cX7_loan 4 = .ok (.iload_n 1, 1) := by decide +kernel
theorem dX7_loan_5 : decode cX7_loan 5 = .ok (.invokevirtual 87, 3) := by decide +kernel
theorem dX7_loan_8 : decode cX7_loan 8 = .ok (.ifCond .eq 23, 3) := by decide +kernel
theorem dX7_loan_11 : decode cX7_loan 11 = .ok (.iload_n 2, 1) := by decide +kernel
theorem dX7_loan_12 : decode cX7_loan 12 = .ok (.iconst 1, 1) := by decide +kernel
theorem dX7_loan_13 : decode cX7_loan 13 = .ok (.bipush 99, 2) := by decide +kernel
theorem dX7_loan_15 : decode cX7_loan 15 = .ok (.invokestatic 62, 3) := by decide +kernel
theorem dX7_loan_18 : decode cX7_loan 18 = .ok (.ifCond .eq 13, 3) := by decide +kernel
theorem dX7_loan_21 : decode cX7_loan 21 = .ok (.iload_n 3, 1) := by decide +kernel
theorem dX7_loan_22 : decode cX7_loan 22 = .ok (.iconst 1, 1) := by decide +kernel
theorem dX7_loan_23 : decode cX7_loan 23 = .ok (.bipush 12, 2) := by decide +kernel
theorem dX7_loan_25 : decode cX7_loan 25 = .ok (.invokestatic 62, 3) := by decide +kernel
theorem dX7_loan_28 : decode cX7_loan 28 = .ok (.ifCond .ne 8, 3) := by decide +kernel
theorem dX7_loan_31 : decode cX7_loan 31 = .ok (.aload_n 0, 1) := by decide +kernel
theorem dX7_loan_32 : decode cX7_loan 32 = .ok (.invokevirtual 66, 3) := by decide +kernel
theorem dX7_loan_35 : decode cX7_loan 35 = .ok (.ireturn, 1) := by decide +kernel
theorem dX7_loan_36 : decode cX7_loan 36 = .ok (.aload_n 0, 1) := by decide +kernel
theorem dX7_loan_37 : decode cX7_loan 37 = .ok (.getfield 10, 3) := by decide +kernel
theorem dX7_loan_40 : decode cX7_loan 40 = .ok (.getfield 91, 3) := by decide +kernel
theorem dX7_loan_43 : decode cX7_loan 43 = .ok (.bipush 8, 2) := by decide +kernel
theorem dX7_loan_45 : decode cX7_loan 45 = .ok (.if_icmp .lt 8, 3) := by decide +kernel
theorem dX7_loan_48 : decode cX7_loan 48 = .ok (.aload_n 0, 1) := by decide +kernel
theorem dX7_loan_49 : decode cX7_loan 49 = .ok (.invokevirtual 80, 3) := by decide +kernel
theorem dX7_loan_52 : decode cX7_loan 52 = .ok (.ireturn, 1) := by decide +kernel
theorem dX7_loan_53 : decode cX7_loan 53 = .ok (.aload_n 0, 1) := by decide +kernel
theorem dX7_loan_54 : decode cX7_loan 54 = .ok (.getfield 10, 3) := by decide +kernel
theorem dX7_loan_57 : decode cX7_loan 57 = .ok (.iload_n 1, 1) := by decide +kernel
theorem dX7_loan_58 : decode cX7_loan 58 = .ok (.iload_n 2, 1) := by decide +kernel
theorem dX7_loan_59 : decode cX7_loan 59 = .ok (.iload_n 3, 1) := by decide +kernel
theorem dX7_loan_60 : decode cX7_loan 60 = .ok (.invokevirtual 94, 3) := by decide +kernel
theorem dX7_loan_63 : decode cX7_loan 63 = .ok (.ireturn, 1) := by decide +kernel
set_option maxRecDepth 20000 in
theorem ggX7_offer_X7_within : GoodIn wsX7_offer wsX7_within := goodIn_r _ [6] (by decide +kernel) (by decide +kernel)
set_option maxRecDepth 20000 in
theorem gX7_offer_X7_within : GoodIn wsX7_offer (va_wsS RX7 62 yX7_within wsX7_within) := goodIn_app (goodIn_of _ (by decide +kernel)) ggX7_offer_X7_within
set_option maxRecDepth 20000 in
theorem ggX7_offer_X7_bad : GoodIn wsX7_offer wsX7_bad := goodIn_r _ [10, 11, 25, 26, 27, 28, 29, 30, 31, 32, 33, 34, 35] (by decide +kernel) (by decide +kernel)
set_option maxRecDepth 20000 in
theorem gX7_offer_X7_bad : GoodIn wsX7_offer (wsV RX7 66 RX7 yX7_bad wsX7_bad) := goodIn_app (goodIn_of _ (by decide +kernel)) ggX7_offer_X7_bad
set_option maxRecDepth 20000 in
theorem ggX7_offer_X7_full : GoodIn wsX7_offer wsX7_full := goodIn_r _ [15, 16, 25, 26, 27, 28, 29, 30, 31, 32, 33, 34, 35] (by decide +kernel) (by decide +kernel)
set_option maxRecDepth 20000 in
theorem gX7_offer_X7_full : GoodIn wsX7_offer (wsV RX7 80 RX7 yX7_full wsX7_full) := goodIn_app (goodIn_of _ (by decide +kernel)) ggX7_offer_X7_full
set_option maxRecDepth 20000 in
theorem ggX7_offer_X5_addOffer : GoodIn wsX7_offer wsX5_addOffer := goodIn_r _ [21, 22, 23, 24, 36, 37, 38, 39, 40, 41, 42, 43, 44, 45, 46, 47, 48, 49, 50, 51, 52] (by decide +kernel) (by decide +kernel)
set_option maxRecDepth 20000 in
theorem gX7_offer_X5_addOffer : GoodIn wsX7_offer (wsV RX7 100 RX5 yX5_addOffer wsX5_addOffer) := goodIn_app (goodIn_of _ (by decide +kernel)) ggX7_offer_X5_addOffer
theorem dX7_offer_0 : decode cX7_offer 0 = .ok (.iload_n 1, 1) := by decide +kernel
theorem dX7_offer_1 : decode cX7_offer 1 = .ok (.iconst 1, 1) := by decide +kernel
theorem dX7_offer_2 : decode cX7_offer 2 = .ok (.bipush 99, 2) := by decide +kernel
theorem dX7_offer_4 : decode cX7_offer 4 = .ok (.invokestatic 62, 3) := by decide +kernel
theorem dX7_offer_7 : decode cX7_offer 7 = .ok (.ifCond .eq 13, 3) := by decide +kernel
theorem dX7_offer_10 : decode cX7_offer 10 = .ok (.iload_n 2, 1) := by decide +kernel
theorem dX7_offer_11 : decode cX7_offer 11 = .ok (.iconst 1, 1) := by decide +kernel
theorem dX7_offer_12 : decode cX7_offer 12 = .ok (.bipush 12, 2) := by decide +kernel
theorem dX7_offer_14 : decode cX7_offer 14 = .ok (.invokestatic 62, 3) := by decide +kernel
theorem dX7_offer_17 : decode cX7_offer 17 = .ok (.ifCond .ne 8, 3) := by decide +kernel
theorem dX7_offer_20 : decode cX7_offer 20 = .ok (.aload_n 0, 1) := by decide +kernel
theorem dX7_offer_21 : decode cX7_offer 21 = .ok (.invokevirtual 66, 3) := by decide +kernel
theorem dX7_offer_24 : decode cX7_offer 24 = .ok (.ireturn, 1) := by decide +kernel
theorem dX7_offer_25 : decode cX7_offer 25 = .ok (.aload_n 0, 1) := by decide +kernel
theorem dX7_offer_26 : decode cX7_offer 26 = .ok (.getfield 10, 3) := by decide +kernel
theorem dX7_offer_29 : decode cX7_offer 29 = .ok (.getfield 97, 3) := by decide +kernel
theorem dX7_offer_32 : decode cX7_offer 32 = .ok (.bipush 8, 2) := by decide +kernel
theorem dX7_offer_34 : decode cX7_offer 34 = .ok (.if_icmp .lt 8, 3) := by decide +kernel
theorem dX7_offer_37 : decode cX7_offer 37 = .ok (.aload_n 0, 1) := by decide +kernel
theorem dX7_offer_38 : decode cX7_offer 38 = .ok (.invokevirtual 80, 3) := by decide +kernel
theorem dX7_offer_41 : decode cX7_offer 41 = .ok (.ireturn, 1) := by decide +kernel
theorem dX7_offer_42 : decode cX7_offer 42 = .ok (.aload_n 0, 1) := by decide +kernel
theorem dX7_offer_43 : decode cX7_offer 43 = .ok (.getfield 10, 3) := by decide +kernel
theorem dX7_offer_46 : decode cX7_offer 46 = .ok (.iload_n 1, 1) := by decide +kernel
theorem dX7_offer_47 : decode cX7_offer 47 = .ok (.iload_n 2, 1) := by decide +kernel
theorem dX7_offer_48 : decode cX7_offer 48 = .ok (.invokevirtual 100, 3) := by decide +kernel
theorem dX7_offer_51 : decode cX7_offer 51 = .ok (.ireturn, 1) := by decide +kernel
theorem dX7_none_0 : decode cX7_none 0 = .ok (.aload_n 0, 1) := by decide +kernel
theorem dX7_none_1 : decode cX7_none 1 = .ok (.getfield 10, 3) := by decide +kernel
theorem dX7_none_4 : decode cX7_none 4 = .ok (.getfield 97, 3) := by decide +kernel
theorem dX7_none_7 : decode cX7_none 7 = .ok (.istore_n 1, 1) := by decide +kernel
theorem dX7_none_8 : decode cX7_none 8 = .ok (.aload_n 0, 1) := by decide +kernel
theorem dX7_none_9 : decode cX7_none 9 = .ok (.getfield 10, 3) := by decide +kernel
theorem dX7_none_12 : decode cX7_none 12 = .ok (.iconst 0, 1) := by decide +kernel
theorem dX7_none_13 : decode cX7_none 13 = .ok (.putfield 97, 3) := by decide +kernel
theorem dX7_none_16 : decode cX7_none 16 = .ok (.iload_n 1, 1) := by decide +kernel
theorem dX7_none_17 : decode cX7_none 17 = .ok (.ireturn, 1) := by decide +kernel
set_option maxRecDepth 20000 in
theorem ggX7_type_X7_within : GoodIn wsX7_type wsX7_within := goodIn_r _ [6] (by decide +kernel) (by decide +kernel)
set_option maxRecDepth 20000 in
theorem gX7_type_X7_within : GoodIn wsX7_type (va_wsS RX7 62 yX7_within wsX7_within) := goodIn_app (goodIn_of _ (by decide +kernel)) ggX7_type_X7_within
set_option maxRecDepth 20000 in
theorem ggX7_type_X7_bad : GoodIn wsX7_type wsX7_bad := goodIn_r _ [10, 11, 24, 25, 26, 27, 28, 29, 30, 31, 32, 33, 34] (by decide +kernel) (by decide +kernel)
set_option maxRecDepth 20000 in
theorem gX7_type_X7_bad : GoodIn wsX7_type (wsV RX7 66 RX7 yX7_bad wsX7_bad) := goodIn_app (goodIn_of _ (by decide +kernel)) ggX7_type_X7_bad
set_option maxRecDepth 20000 in
theorem ggX7_type_X7_full : GoodIn wsX7_type wsX7_full := goodIn_r _ [15, 16, 24, 25, 26, 27, 28, 29, 30, 31, 32, 33, 34] (by decide +kernel) (by decide +kernel)
set_option maxRecDepth 20000 in
theorem gX7_type_X7_full : GoodIn wsX7_type (wsV RX7 80 RX7 yX7_full wsX7_full) := goodIn_app (goodIn_of _ (by decide +kernel)) ggX7_type_X7_full
set_option maxRecDepth 20000 in
theorem ggX7_type_X4_add : GoodIn wsX7_type wsX4_add := goodIn_r _ [21, 22, 23, 35, 36, 37, 38, 39, 40] (by decide +kernel) (by decide +kernel)
set_option maxRecDepth 20000 in
theorem gX7_type_X4_add : GoodIn wsX7_type (wsV RX7 107 RX4 yX4_add wsX4_add) := goodIn_app (goodIn_of _ (by decide +kernel)) ggX7_type_X4_add
theorem dX7_type_0 : decode cX7_type 0 = .ok (.iload_n 1, 1) := by decide +kernel
theorem dX7_type_1 : decode cX7_type 1 = .ok (.iconst 0, 1) := by decide +kernel
theorem dX7_type_2 : decode cX7_type 2 = .ok (.bipush 127, 2) := by decide +kernel
theorem dX7_type_4 : decode cX7_type 4 = .ok (.invokestatic 62, 3) := by decide +kernel
theorem dX7_type_7 : decode cX7_type 7 = .ok (.ifCond .ne 8, 3) := by decide +kernel
theorem dX7_type_10 : decode cX7_type 10 = .ok (.aload_n 0, 1) := by decide +kernel
theorem dX7_type_11 : decode cX7_type 11 = .ok (.invokevirtual 66, 3) := by decide +kernel
theorem dX7_type_14 : decode cX7_type 14 = .ok (.ireturn, 1) := by decide +kernel
theorem dX7_type_15 : decode cX7_type 15 = .ok (.aload_n 0, 1) := by decide +kernel
theorem dX7_type_16 : decode cX7_type 16 = .ok (.getfield 36, 3) := by decide +kernel
theorem dX7_type_19 : decode cX7_type 19 = .ok (.getfield 104, 3) := by decide +kernel
theorem dX7_type_22 : decode cX7_type 22 = .ok (.sipush 150, 3) := by decide +kernel
theorem dX7_type_25 : decode cX7_type 25 = .ok (.if_icmp .lt 8, 3) := by decide +kernel
theorem dX7_type_28 : decode cX7_type 28 = .ok (.aload_n 0, 1) := by decide +kernel
theorem dX7_type_29 : decode cX7_type 29 = .ok (.invokevirtual 80, 3) := by decide +kernel
theorem dX7_type_32 : decode cX7_type 32 = .ok (.ireturn, 1) := by decide +kernel
theorem dX7_type_33 : decode cX7_type 33 = .ok (.aload_n 0, 1) := by decide +kernel
theorem dX7_type_34 : decode cX7_type 34 = .ok (.getfield 36, 3) := by decide +kernel
theorem dX7_type_37 : decode cX7_type 37 = .ok (.iload_n 1, 1) := by decide +kernel
theorem dX7_type_38 : decode cX7_type 38 = .ok (.i2b, 1) := by decide +kernel
theorem dX7_type_39 : decode cX7_type 39 = .ok (.invokevirtual 107, 3) := by decide +kernel
theorem dX7_type_42 : decode cX7_type 42 = .ok (.aload_n 0, 1) := by decide +kernel
theorem dX7_type_43 : decode cX7_type 43 = .ok (.getfield 36, 3) := by decide +kernel
theorem dX7_type_46 : decode cX7_type 46 = .ok (.getfield 104, 3) := by decide +kernel
theorem dX7_type_49 : decode cX7_type 49 = .ok (.ireturn, 1) := by decide +kernel
theorem dX7_clear_0 : decode cX7_clear 0 = .ok (.aload_n 0, 1) := by decide +kernel
theorem dX7_clear_1 : decode cX7_clear 1 = .ok (.getfield 36, 3) := by decide +kernel
theorem dX7_clear_4 : decode cX7_clear 4 = .ok (.getfield 104, 3) := by decide +kernel
theorem dX7_clear_7 : decode cX7_clear 7 = .ok (.istore_n 1, 1) := by decide +kernel
theorem dX7_clear_8 : decode cX7_clear 8 = .ok (.aload_n 0, 1) := by decide +kernel
theorem dX7_clear_9 : decode cX7_clear 9 = .ok (.getfield 36, 3) := by decide +kernel
theorem dX7_clear_12 : decode cX7_clear 12 = .ok (.iconst 0, 1) := by decide +kernel
theorem dX7_clear_13 : decode cX7_clear 13 = .ok (.putfield 104, 3) := by decide +kernel
theorem dX7_clear_16 : decode cX7_clear 16 = .ok (.iload_n 1, 1) := by decide +kernel
theorem dX7_clear_17 : decode cX7_clear 17 = .ok (.ireturn, 1) := by decide +kernel
set_option maxRecDepth 20000 in
theorem ggX7_read_X4_readTown : GoodIn wsX7_read wsX4_readTown := goodIn_r _ [10, 11, 12, 13, 14, 15, 16, 17, 18, 19, 20, 21, 22, 23, 24, 25, 26, 27, 28, 29, 9, 30, 31, 32, 33, 34, 35, 36, 37, 38, 39, 40, 41, 42, 43, 44, 45, 46, 47, 48, 49, 50, 51, 52, 53, 54, 55, 56, 57, 58, 59, 60, 61, 62, 63, 64, 65, 66, 67, 68, 69, 70, 71, 72, 73, 74, 75, 76, 77, 78, 79, 80, 81, 82, 83, 84, 85, 86, 87, 88, 89, 90, 91, 92, 93, 94, 95, 96, 97, 98, 99, 100, 101, 102, 103, 104, 105, 106, 107, 108, 109, 110, 111, 112, 113, 114, 115, 116, 117, 118, 119, 120, 121, 122, 123, 124, 125, 126, 127, 128, 129, 130, 131, 132, 133, 134, 135, 136, 137, 138, 139, 140, 141, 142, 143, 144, 145, 146, 147, 148, 149, 150, 151, 152, 153, 154, 155, 156, 183, 184, 185, 186, 187, 188, 189, 190, 191, 192, 193, 194, 195, 196, 197, 198, 199, 200, 201, 202, 203, 204, 205] (by decide +kernel) (by decide +kernel)
set_option maxRecDepth 20000 in
theorem gX7_read_X4_readTown : GoodIn wsX7_read (wsV RX7 114 RX4 yX4_readTown wsX4_readTown) := goodIn_app (goodIn_of _ (by decide +kernel)) ggX7_read_X4_readTown
set_option maxRecDepth 20000 in
theorem ggX7_read_X5_copyFrom : GoodIn wsX7_read wsX5_copyFrom := goodIn_r _ [160, 20, 21, 22, 23, 24, 25, 26, 131, 161, 162, 163, 164, 132, 133, 142, 143, 144, 145, 146, 155, 156, 189, 190, 191, 192, 193, 194, 195, 196, 197, 198, 199, 200, 201, 202, 203, 204, 205] (by decide +kernel) (by decide +kernel)
set_option maxRecDepth 20000 in
theorem gX7_read_X5_copyFrom : GoodIn wsX7_read (wsV RX7 118 RX5 yX5_copyFrom wsX5_copyFrom) := goodIn_app (goodIn_of _ (by decide +kernel)) ggX7_read_X5_copyFrom
set_option maxRecDepth 20000 in
theorem ggX7_read_X3_forget : GoodIn wsX7_read wsX3_forget := goodIn_r _ [169, 170, 206, 207] (by decide +kernel) (by decide +kernel)
set_option maxRecDepth 20000 in
theorem gX7_read_X3_forget : GoodIn wsX7_read (wsV RX7 122 RX3 yX3_forget wsX3_forget) := goodIn_app (goodIn_of _ (by decide +kernel)) ggX7_read_X3_forget
theorem dX7_read_0 : decode cX7_read 0 = .ok (.aload_n 0, 1) := by decide +kernel
theorem dX7_read_1 : decode cX7_read 1 = .ok (.getfield 36, 3) := by decide +kernel
theorem dX7_read_4 : decode cX7_read 4 = .ok (.aload_n 0, 1) := by decide +kernel
theorem dX7_read_5 : decode cX7_read 5 = .ok (.getfield 43, 3) := by decide +kernel
theorem dX7_read_8 : decode cX7_read 8 = .ok (.getfield 111, 3) := by decide +kernel
theorem dX7_read_11 : decode cX7_read 11 = .ok (.invokevirtual 114, 3) := by decide +kernel
theorem dX7_read_14 : decode cX7_read 14 = .ok (.istore_n 1, 1) := by decide +kernel
theorem dX7_read_15 : decode cX7_read 15 = .ok (.iload_n 1, 1) := by decide +kernel
theorem dX7_read_16 : decode cX7_read 16 = .ok (.ifCond .ge 5, 3) := by decide +kernel
theorem dX7_read_19 : decode cX7_read 19 = .ok (.iload_n 1, 1) := by decide +kernel
theorem dX7_read_20 : decode cX7_read 20 = .ok (.ireturn, 1) := by decide +kernel
theorem dX7_read_21 : decode cX7_read 21 = .ok (.aload_n 0, 1) := by decide +kernel
theorem dX7_read_22 : decode cX7_read 22 = .ok (.getfield 10, 3) := by decide +kernel
theorem dX7_read_25 : decode cX7_read 25 = .ok (.aload_n 0, 1) := by decide +kernel
theorem dX7_read_26 : decode cX7_read 26 = .ok (.getfield 43, 3) := by decide +kernel
theorem dX7_read_29 : decode cX7_read 29 = .ok (.getfield 111, 3) := by decide +kernel
theorem dX7_read_32 : decode cX7_read 32 = .ok (.invokevirtual 118, 3) := by decide +kernel
theorem dX7_read_35 : decode cX7_read 35 = .ok (.aload_n 0, 1) := by decide +kernel
theorem dX7_read_36 : decode cX7_read 36 = .ok (.getfield 19, 3) := by decide +kernel
theorem dX7_read_39 : decode cX7_read 39 = .ok (.invokevirtual 122, 3) := by decide +kernel
theorem dX7_read_42 : decode cX7_read 42 = .ok (.iload_n 1, 1) := by decide +kernel
theorem dX7_read_43 : decode cX7_read 43 = .ok (.ireturn, 1) := by decide +kernel
set_option maxRecDepth 20000 in
theorem ggX7_pass_X7_within : GoodIn wsX7_pass wsX7_within := goodIn_r _ [6] (by decide +kernel) (by decide +kernel)
set_option maxRecDepth 20000 in
theorem gX7_pass_X7_within : GoodIn wsX7_pass (va_wsS RX7 62 yX7_within wsX7_within) := goodIn_app (goodIn_of _ (by decide +kernel)) ggX7_pass_X7_within
set_option maxRecDepth 20000 in
theorem ggX7_pass_X7_bad : GoodIn wsX7_pass wsX7_bad := goodIn_r _ [10, 11, 90, 91, 92, 93, 94, 95, 96, 97, 98, 99, 100] (by decide +kernel) (by decide +kernel)
set_option maxRecDepth 20000 in
theorem gX7_pass_X7_bad : GoodIn wsX7_pass (wsV RX7 66 RX7 yX7_bad wsX7_bad) := goodIn_app (goodIn_of _ (by decide +kernel)) ggX7_pass_X7_bad
set_option maxRecDepth 20000 in
theorem ggX7_pass_X5_howManyAre : GoodIn wsX7_pass wsX5_howManyAre := goodIn_r _ [16, 17, 18, 101, 102, 103, 104, 105, 106, 107, 108, 109, 110, 111, 112, 113, 114, 115, 116, 117] (by decide +kernel) (by decide +kernel)
set_option maxRecDepth 20000 in
theorem gX7_pass_X5_howManyAre : GoodIn wsX7_pass (wsV RX7 125 RX5 yX5_howManyAre wsX5_howManyAre) := goodIn_app (goodIn_of _ (by decide +kernel)) ggX7_pass_X5_howManyAre
set_option maxRecDepth 20000 in
theorem ggX7_pass_X3_keep : GoodIn wsX7_pass wsX3_keep := goodIn_r _ [23, 24, 25, 26, 27, 28, 29, 30, 31, 32, 33, 34, 35, 36, 37, 38, 118, 119, 101, 102, 103, 104, 105, 106, 107, 108, 109, 110, 111, 112, 113, 114, 115, 116, 117] (by decide +kernel) (by decide +kernel)
set_option maxRecDepth 20000 in
theorem gX7_pass_X3_keep : GoodIn wsX7_pass (wsV RX7 129 RX3 yX3_keep wsX3_keep) := goodIn_app (goodIn_of _ (by decide +kernel)) ggX7_pass_X3_keep
set_option maxRecDepth 20000 in
theorem ggX7_pass_X5_liveMonth : GoodIn wsX7_pass wsX5_liveMonth := goodIn_r _ [42, 43, 17, 18, 44, 45, 5, 46, 47, 48, 49, 15, 50, 51, 52, 53, 54, 55, 56, 57, 58, 59, 60, 61, 62, 63, 64, 65, 66, 67, 68, 69, 70, 71, 72, 73, 74, 75, 76, 77, 78, 79, 80, 81, 82, 83, 84, 85, 86, 87, 88, 89, 101, 102, 103, 104, 105, 106, 107, 108, 109, 110, 111, 112, 113, 114, 115, 116, 117] (by decide +kernel) (by decide +kernel)
set_option maxRecDepth 20000 in
theorem gX7_pass_X5_liveMonth : GoodIn wsX7_pass (wsV RX7 132 RX5 yX5_liveMonth wsX5_liveMonth) := goodIn_app (goodIn_of _ (by decide +kernel)) ggX7_pass_X5_liveMonth
theorem dX7_pass_0 : decode cX7_pass 0 = .ok (.iload_n 1, 1) := by decide +kernel
theorem dX7_pass_1 : decode cX7_pass 1 = .ok (.iconst 1, 1) := by decide +kernel
theorem dX7_pass_2 : decode cX7_pass 2 = .ok (.bipush 12, 2) := by decide +kernel
theorem dX7_pass_4 : decode cX7_pass 4 = .ok (.invokestatic 62, 3) := by decide +kernel
theorem dX7_pass_7 : decode cX7_pass 7 = .ok (.ifCond .ne 8, 3) := by decide +kernel
theorem dX7_pass_10 : decode cX7_pass 10 = .ok (.aload_n 0, 1) := by decide +kernel
theorem dX7_pass_11 : decode cX7_pass 11 = .ok (.invokevirtual 66, 3) := by decide +kernel
theorem dX7_pass_14 : decode cX7_pass 14 = .ok (.ireturn, 1) := by decide +kernel
theorem dX7_pass_15 : decode cX7_pass 15 = .ok (.aload_n 0, 1) := by decide +kernel
theorem dX7_pass_16 : decode cX7_pass 16 = .ok (.getfield 10, 3) := by decide +kernel
theorem dX7_pass_19 : decode cX7_pass 19 = .ok (.iconst 1, 1) := by decide +kernel
theorem dX7_pass_20 : decode cX7_pass 20 = .ok (.invokevirtual 125, 3) := by decide +kernel
theorem dX7_pass_23 : decode cX7_pass 23 = .ok (.istore_n 2, 1) := by decide +kernel
theorem dX7_pass_24 : decode cX7_pass 24 = .ok (.iconst 0, 1) := by decide +kernel
theorem dX7_pass_25 : decode cX7_pass 25 = .ok (.istore_n 3, 1) := by decide +kernel
theorem dX7_pass_26 : decode cX7_pass 26 = .ok (.iload_n 3, 1) := by decide +kernel
theorem dX7_pass_27 : decode cX7_pass 27 = .ok (.iload_n 1, 1) := by decide +kernel
theorem dX7_pass_28 : decode cX7_pass 28 = .ok (.if_icmp .ge 28, 3) := by decide +kernel
theorem dX7_pass_31 : decode cX7_pass 31 = .ok (.aload_n 0, 1) := by decide +kernel
theorem dX7_pass_32 : decode cX7_pass 32 = .ok (.getfield 19, 3) := by decide +kernel
theorem dX7_pass_35 : decode cX7_pass 35 = .ok (.aload_n 0, 1) := by decide +kernel
theorem dX7_pass_36 : decode cX7_pass 36 = .ok (.getfield 10, 3) := by decide +kernel
theorem dX7_pass_39 : decode cX7_pass 39 = .ok (.invokevirtual 129, 3) := by decide +kernel
theorem dX7_pass_42 : decode cX7_pass 42 = .ok (.aload_n 0, 1) := by decide +kernel
theorem dX7_pass_43 : decode cX7_pass 43 = .ok (.getfield 10, 3) := by decide +kernel
theorem dX7_pass_46 : decode cX7_pass 46 = .ok (.iconst 0, 1) := by decide +kernel
theorem dX7_pass_47 : decode cX7_pass 47 = .ok (.invokevirtual 132, 3) := by decide +kernel
theorem dX7_pass_50 : decode cX7_pass 50 = .ok (.iinc 3 1, 3) := by decide +kernel
theorem dX7_pass_53 : decode cX7_pass 53 = .ok (.goto (-27), 3) := by decide +kernel
theorem dX7_pass_56 : decode cX7_pass 56 = .ok (.aload_n 0, 1) := by decide +kernel
theorem dX7_pass_57 : decode cX7_pass 57 = .ok (.getfield 10, 3) := by decide +kernel
theorem dX7_pass_60 : decode cX7_pass 60 = .ok (.iconst 1, 1) := by decide +kernel
theorem dX7_pass_61 : decode cX7_pass 61 = .ok (.invokevirtual 125, 3) := by decide +kernel
theorem dX7_pass_64 : decode cX7_pass 64 = .ok (.iload_n 2, 1) := by decide +kernel
theorem dX7_pass_65 : decode cX7_pass 65 = .ok (.isub, 1) := by decide +kernel
theorem dX7_pass_66 : decode cX7_pass 66 = .ok (.ireturn, 1) := by decide +kernel
set_option maxRecDepth 20000 in
theorem ggX7_join_X5_hasLoan : GoodIn wsX7_join wsX5_hasLoan := goodIn_r _ [8, 9, 72, 73, 74, 75, 76, 77, 78, 79, 80, 81, 82, 83, 84, 85, 86, 87, 88] (by decide +kernel) (by decide +kernel)
set_option maxRecDepth 20000 in
theorem gX7_join_X5_hasLoan : GoodIn wsX7_join (wsV RX7 136 RX5 yX5_hasLoan wsX5_hasLoan) := goodIn_app (goodIn_of _ (by decide +kernel)) ggX7_join_X5_hasLoan
set_option maxRecDepth 20000 in
theorem ggX7_join_X7_bad : GoodIn wsX7_join wsX7_bad := goodIn_r _ [14, 15, 61, 62, 63, 64, 65, 66, 67, 68, 69, 70, 71] (by decide +kernel) (by decide +kernel)
set_option maxRecDepth 20000 in
theorem gX7_join_X7_bad : GoodIn wsX7_join (wsV RX7 66 RX7 yX7_bad wsX7_bad) := goodIn_app (goodIn_of _ (by decide +kernel)) ggX7_join_X7_bad
set_option maxRecDepth 20000 in
theorem ggX7_join_X5_canBeJoined : GoodIn wsX7_join wsX5_canBeJoined := goodIn_r _ [19, 20, 21, 22, 23, 7, 24, 25, 26, 72, 73, 74, 75, 76, 77, 78, 79, 80, 81, 82, 83, 84, 85, 86, 87, 88] (by decide +kernel) (by decide +kernel)
set_option maxRecDepth 20000 in
theorem gX7_join_X5_canBeJoined : GoodIn wsX7_join (wsV RX7 139 RX5 yX5_canBeJoined wsX5_canBeJoined) := goodIn_app (goodIn_of _ (by decide +kernel)) ggX7_join_X5_canBeJoined
set_option maxRecDepth 20000 in
theorem ggX7_join_X7_no : GoodIn wsX7_join wsX7_no := goodIn_r _ [30, 31, 61, 62, 63, 64, 65, 66, 67, 68, 69, 70, 71] (by decide +kernel) (by decide +kernel)
set_option maxRecDepth 20000 in
theorem gX7_join_X7_no : GoodIn wsX7_join (wsV RX7 143 RX7 yX7_no wsX7_no) := goodIn_app (goodIn_of _ (by decide +kernel)) ggX7_join_X7_no
set_option maxRecDepth 20000 in
theorem ggX7_join_X3_keep : GoodIn wsX7_join wsX3_keep := goodIn_r _ [36, 37, 38, 39, 40, 41, 42, 43, 44, 45, 46, 47, 48, 49, 50, 51, 89, 90, 72, 73, 74, 75, 76, 77, 78, 79, 80, 81, 82, 83, 84, 85, 86, 87, 88] (by decide +kernel) (by decide +kernel)
set_option maxRecDepth 20000 in
theorem gX7_join_X3_keep : GoodIn wsX7_join (wsV RX7 129 RX3 yX3_keep wsX3_keep) := goodIn_app (goodIn_of _ (by decide +kernel)) ggX7_join_X3_keep
set_option maxRecDepth 20000 in
theorem ggX7_join_X5_putTogether : GoodIn wsX7_join wsX5_putTogether := goodIn_r _ [55, 56, 26, 57, 58, 59, 60, 20, 72, 73, 74, 75, 76, 77, 78, 79, 80, 81, 82, 83, 84, 85, 86, 87, 88] (by decide +kernel) (by decide +kernel)
set_option maxRecDepth 20000 in
theorem gX7_join_X5_putTogether : GoodIn wsX7_join (wsV RX7 146 RX5 yX5_putTogether wsX5_putTogether) := goodIn_app (goodIn_of _ (by decide +kernel)) ggX7_join_X5_putTogether
theorem dX7_join_0 : decode cX7_join 0 = .ok (.aload_n 0, 1) := by decide +kernel
theorem dX7_join_1 : decode cX7_join 1 = .ok (.getfield 10, 3) := by decide +kernel
theorem dX7_join_4 : decode cX7_join 4 = .ok (.iload_n 1, 1) := by decide +kernel
theorem dX7_join_5 : decode cX7_join 5 = .ok (.invokevirtual 136, 3) := by decide +kernel
theorem dX7_join_8 : decode cX7_join 8 = .ok (.ifCond .eq 19, 3) := by decide +kernel
theorem dX7_join_11 : decode cX7_join 11 = .ok (.aload_n 0, 1) := by decide +kernel
theorem dX7_join_12 : decode cX7_join 12 = .ok (.getfield 10, 3) := by decide +kernel
theorem dX7_join_15 : decode cX7_join 15 = .ok (.iload_n 2, 1) := by decide +kernel
theorem dX7_join_16 : decode cX7_join 16 = .ok (.invokevirtual 136, 3) := by decide +kernel
theorem dX7_join_19 : decode cX7_join 19 = .ok (.ifCond .eq 8, 3) := by decide +kernel
theorem dX7_join_22 : decode cX7_join 22 = .ok (.iload_n 1, 1) := by decide +kernel
theorem dX7_join_23 : decode cX7_join 23 = .ok (.iload_n 2, 1) := by decide +kernel
theorem dX7_join_24 : decode cX7_join 24 = .ok (.if_icmp .ne 8, 3) := by decide +kernel
theorem dX7_join_27 : decode cX7_join 27 = .ok (.aload_n 0, 1) := by decide +kernel
theorem dX7_join_28 : decode cX7_join 28 = .ok (.invokevirtual 66, 3) := by decide +kernel
theorem dX7_join_31 : decode cX7_join 31 = .ok (.ireturn, 1) := by decide +kernel
theorem dX7_join_32 : decode cX7_join 32 = .ok (.aload_n 0, 1) := by decide +kernel
theorem dX7_join_33 : decode cX7_join 33 = .ok (.getfield 10, 3) := by decide +kernel
theorem dX7_join_36 : decode cX7_join 36 = .ok (.iload_n 1, 1) := by decide +kernel
theorem dX7_join_37 : decode cX7_join 37 = .ok (.iload_n 2, 1) := by decide +kernel
theorem dX7_join_38 : decode cX7_join 38 = .ok (.invokevirtual 139, 3) := by decide +kernel
theorem dX7_join_41 : decode cX7_join 41 = .ok (.ifCond .ne 8, 3) := by decide +kernel
theorem dX7_join_44 : decode cX7_join 44 = .ok (.aload_n 0, 1) := by decide +kernel
theorem dX7_join_45 : decode cX7_join 45 = .ok (.invokevirtual 143, 3) := by decide +kernel
theorem dX7_join_48 : decode cX7_join 48 = .ok (.ireturn, 1) := by decide +kernel
theorem dX7_join_49 : decode cX7_join 49 = .ok (.aload_n 0, 1) := by decide +kernel
theorem dX7_join_50 : decode cX7_join 50 = .ok (.getfield 19, 3) := by decide +kernel
theorem dX7_join_53 : decode cX7_join 53 = .ok (.aload_n 0, 1) := by decide +kernel
theorem dX7_join_54 : decode cX7_join 54 = .ok (.getfield 10, 3) := by decide +kernel
theorem dX7_join_57 : decode cX7_join 57 = .ok (.invokevirtual 129, 3) := by decide +kernel
theorem dX7_join_60 : decode cX7_join 60 = .ok (.aload_n 0, 1) := by decide +kernel
theorem dX7_join_61 : decode cX7_join 61 = .ok (.getfield 10, 3) := by decide +kernel
theorem dX7_join_64 : decode cX7_join 64 = .ok (.iload_n 1, 1) := by decide +kernel
theorem dX7_join_65 : decode cX7_join 65 = .ok (.iload_n 2, 1) := by decide +kernel
theorem dX7_join_66 : decode cX7_join 66 = .ok (.invokevirtual 146, 3) := by decide +kernel
theorem dX7_join_69 : decode cX7_join 69 = .ok (.aload_n 0, 1) := by decide +kernel
theorem dX7_join_70 : decode cX7_join 70 = .ok (.getfield 10, 3) := by decide +kernel
theorem dX7_join_73 : decode cX7_join 73 = .ok (.getfield 150, 3) := by decide +kernel
theorem dX7_join_76 : decode cX7_join 76 = .ok (.iload_n 1, 1) := by decide +kernel
theorem dX7_join_77 : decode cX7_join 77 = .ok (.iaload, 1) := by decide +kernel
theorem dX7_join_78 : decode cX7_join 78 = .ok (.ireturn, 1) := by decide +kernel
set_option maxRecDepth 20000 in
theorem ggX7_sell_X5_hasLoan : GoodIn wsX7_sell wsX5_hasLoan := goodIn_r _ [14, 15, 66, 67, 68, 69, 70, 71, 72, 73, 74, 75, 76, 77, 78, 79, 80, 81, 82] (by decide +kernel) (by decide +kernel)
set_option maxRecDepth 20000 in
theorem gX7_sell_X5_hasLoan : GoodIn wsX7_sell (wsV RX7 136 RX5 yX5_hasLoan wsX5_hasLoan) := goodIn_app (goodIn_of _ (by decide +kernel)) ggX7_sell_X5_hasLoan
set_option maxRecDepth 20000 in
theorem ggX7_sell_X5_hasPerson : GoodIn wsX7_sell wsX5_hasPerson := goodIn_r _ [19, 20, 66, 67, 68, 69, 70, 71, 72, 73, 74, 75, 76, 77, 78, 79, 80, 81, 82] (by decide +kernel) (by decide +kernel)
set_option maxRecDepth 20000 in
theorem gX7_sell_X5_hasPerson : GoodIn wsX7_sell (wsV RX7 87 RX5 yX5_hasPerson wsX5_hasPerson) := goodIn_app (goodIn_of _ (by decide +kernel)) ggX7_sell_X5_hasPerson
set_option maxRecDepth 20000 in
theorem ggX7_sell_X7_within : GoodIn wsX7_sell wsX7_within := goodIn_r _ [24] (by decide +kernel) (by decide +kernel)
set_option maxRecDepth 20000 in
theorem gX7_sell_X7_within : GoodIn wsX7_sell (va_wsS RX7 62 yX7_within wsX7_within) := goodIn_app (goodIn_of _ (by decide +kernel)) ggX7_sell_X7_within
set_option maxRecDepth 20000 in
theorem ggX7_sell_X7_bad : GoodIn wsX7_sell wsX7_bad := goodIn_r _ [28, 29, 55, 56, 57, 58, 59, 60, 61, 62, 63, 64, 65] (by decide +kernel) (by decide +kernel)
set_option maxRecDepth 20000 in
theorem gX7_sell_X7_bad : GoodIn wsX7_sell (wsV RX7 66 RX7 yX7_bad wsX7_bad) := goodIn_app (goodIn_of _ (by decide +kernel)) ggX7_sell_X7_bad
set_option maxRecDepth 20000 in
theorem ggX7_sell_X7_no : GoodIn wsX7_sell wsX7_no := goodIn_r _ [33, 34, 55, 56, 57, 58, 59, 60, 61, 62, 63, 64, 65] (by decide +kernel) (by decide +kernel)
set_option maxRecDepth 20000 in
theorem gX7_sell_X7_no : GoodIn wsX7_sell (wsV RX7 143 RX7 yX7_no wsX7_no) := goodIn_app (goodIn_of _ (by decide +kernel)) ggX7_sell_X7_no
set_option maxRecDepth 20000 in
theorem ggX7_sell_X3_keep : GoodIn wsX7_sell wsX3_keep := goodIn_r _ [39, 40, 41, 42, 43, 44, 45, 46, 47, 48, 49, 50, 51, 52, 53, 54, 83, 84, 66, 67, 68, 69, 70, 71, 72, 73, 74, 75, 76, 77, 78, 79, 80, 81, 82] (by decide +kernel) (by decide +kernel)
set_option maxRecDepth 20000 in
theorem gX7_sell_X3_keep : GoodIn wsX7_sell (wsV RX7 129 RX3 yX3_keep wsX3_keep) := goodIn_app (goodIn_of _ (by decide +kernel)) ggX7_sell_X3_keep
theorem dX7_sell_0 : decode cX7_sell 0 = .ok (.aload_n 0, 1) := by decide +kernel
theorem dX7_sell_1 : decode cX7_sell 1 = .ok (.getfield 10, 3) := by decide +kernel
theorem dX7_sell_4 : decode cX7_sell 4 = .ok (.iload_n 1, 1) := by decide +kernel
theorem dX7_sell_5 : decode cX7_sell 5 = .ok (.invokevirtual 136, 3) := by decide +kernel
theorem dX7_sell_8 : decode cX7_sell 8 = .ok (.ifCond .eq 38, 3) := by decide +kernel
theorem dX7_sell_11 : decode cX7_sell 11 = .ok (.aload_n 0, 1) := by decide +kernel
theorem dX7_sell_12 : decode cX7_sell 12 = .ok (.getfield 10, 3) := by decide +kernel
theorem dX7_sell_15 : decode cX7_sell 15 = .ok (.iload_n 2, 1) := by decide +kernel
theorem dX7_sell_16 : decode cX7_sell 16 = .ok (.invokevirtual 87, 3) := by decide +kernel
theorem dX7_sell_19 : decode cX7_sell 19 = .ok (.ifCond .eq 27, 3) := by decide +kernel
theorem dX7_sell_22 : decode cX7_sell 22 = .ok (.iload_n 3, 1) := by decide +kernel
theorem dX7_sell_23 : decode cX7_sell 23 = .ok (.iconst 0, 1) := by decide +kernel
theorem dX7_sell_24 : decode cX7_sell 24 = .ok (.sipush 9999, 3) := by decide +kernel
theorem dX7_sell_27 : decode cX7_sell 27 = .ok (.invokestatic 62, 3) := by decide +kernel
theorem dX7_sell_30 : decode cX7_sell 30 = .ok (.ifCond .eq 16, 3) := by decide +kernel
theorem dX7_sell_33 : decode cX7_sell 33 = .ok (.aload_n 0, 1) := by decide +kernel
theorem dX7_sell_34 : decode cX7_sell 34 = .ok (.getfield 10, 3) := by decide +kernel
theorem dX7_sell_37 : decode cX7_sell 37 = .ok (.getfield 154, 3) := by decide +kernel
theorem dX7_sell_40 : decode cX7_sell 40 = .ok (.iload_n 1, 1) := by decide +kernel
theorem dX7_sell_41 : decode cX7_sell 41 = .ok (.iaload, 1) := by decide +kernel
theorem dX7_sell_42 : decode cX7_sell 42 = .ok (.iload_n 2, 1) := by decide +kernel
theorem dX7_sell_43 : decode cX7_sell 43 = .ok (.if_icmp .ne 8, 3) := by decide +kernel
theorem dX7_sell_46 : decode cX7_sell 46 = .ok (.aload_n 0, 1) := by decide +kernel
theorem dX7_sell_47 : decode cX7_sell 47 = .ok (.invokevirtual 66, 3) := by decide +kernel
theorem dX7_sell_50 : decode cX7_sell 50 = .ok (.ireturn, 1) := by decide +kernel
theorem dX7_sell_51 : decode cX7_sell 51 = .ok (.aload_n 0, 1) := by decide +kernel
theorem dX7_sell_52 : decode cX7_sell 52 = .ok (.getfield 10, 3) := by decide +kernel
theorem dX7_sell_55 : decode cX7_sell 55 = .ok (.getfield 150, 3) := by decide +kernel
theorem dX7_sell_58 : decode cX7_sell 58 = .ok (.iload_n 1, 1) := by decide +kernel
theorem dX7_sell_59 : decode cX7_sell 59 = .ok (.iaload, 1) := by decide +kernel
theorem dX7_sell_60 : decode cX7_sell 60 = .ok (.ifCond .eq 16, 3) := by decide +kernel
theorem dX7_sell_63 : decode cX7_sell 63 = .ok (.aload_n 0, 1) := by decide +kernel
theorem dX7_sell_64 : decode cX7_sell 64 = .ok (.getfield 10, 3) := by decide +kernel
theorem dX7_sell_67 : decode cX7_sell 67 = .ok (.getfield 150, 3) := by decide +kernel
theorem dX7_sell_70 : decode cX7_sell 70 = .ok (.iload_n 1, 1) := by decide +kernel
theorem dX7_sell_71 : decode cX7_sell 71 = .ok (.iaload, 1) := by decide +kernel
theorem dX7_sell_72 : decode cX7_sell 72 = .ok (.iconst 2, 1) := by decide +kernel
theorem dX7_sell_73 : decode cX7_sell 73 = .ok (.if_icmp .ne 7, 3) := by decide +kernel
theorem dX7_sell_76 : decode cX7_sell 76 = .ok (.iconst 1, 1) := by decide +kernel
theorem dX7_sell_77 : decode cX7_sell 77 = .ok (.goto 4, 3) := by decide +kernel
theorem dX7_sell_80 : decode cX7_sell 80 = .ok (.iconst 0, 1) := by decide +kernel
theorem dX7_sell_81 : decode cX7_sell 81 = .ok (.istore 4, 2) := by decide +kernel
theorem dX7_sell_83 : decode cX7_sell 83 = .ok (.iload 4, 2) := by decide +kernel
theorem dX7_sell_85 : decode cX7_sell 85 = .ok (.ifCond .eq 16, 3) := by decide +kernel
theorem dX7_sell_88 : decode cX7_sell 88 = .ok (.aload_n 0, 1) := by decide +kernel
theorem dX7_sell_89 : decode cX7_sell 89 = .ok (.getfield 10, 3) := by decide +kernel
theorem dX7_sell_92 : decode cX7_sell 92 = .ok (.getfield 157, 3) := by decide +kernel
theorem dX7_sell_95 : decode cX7_sell 95 = .ok (.iload_n 2, 1) := by decide +kernel
theorem dX7_sell_96 : decode cX7_sell 96 = .ok (.iaload, 1) := by decide +kernel
theorem dX7_sell_97 : decode cX7_sell 97 = .ok (.iload_n 3, 1) := by decide +kernel
theorem dX7_sell_98 : decode cX7_sell 98 = .ok (.if_icmp .ge 8, 3) := by decide +kernel
theorem dX7_sell_101 : decode cX7_sell 101 = .ok (.aload_n 0, 1) := by decide +kernel
theorem dX7_sell_102 : decode cX7_sell 102 = .ok (.invokevirtual 143, 3) := by decide +kernel
theorem dX7_sell_105 : decode cX7_sell 105 = .ok (.ireturn, 1) := by decide +kernel
theorem dX7_sell_106 : decode cX7_sell 106 = .ok (.aload_n 0, 1) := by decide +kernel
theorem dX7_sell_107 : decode cX7_sell 107 = .ok (.getfield 19, 3) := by decide +kernel
theorem dX7_sell_110 : decode cX7_sell 110 = .ok (.aload_n 0, 1) := by decide +kernel
theorem dX7_sell_111 : decode cX7_sell 111 = .ok (.getfield 10, 3) := by decide +kernel
theorem dX7_sell_114 : decode cX7_sell 114 = .ok (.invokevirtual 129, 3) := by decide +kernel
theorem dX7_sell_117 : decode cX7_sell 117 = .ok (.aload_n 0, 1) := by decide +kernel
theorem dX7_sell_118 : decode cX7_sell 118 = .ok (.getfield 10, 3) := by decide +kernel
theorem dX7_sell_121 : decode cX7_sell 121 = .ok (.getfield 154, 3) := by decide +kernel
theorem dX7_sell_124 : decode cX7_sell 124 = .ok (.iload_n 1, 1) := by decide +kernel
theorem dX7_sell_125 : decode cX7_sell 125 = .ok (.iaload, 1) := by decide +kernel
theorem dX7_sell_126 : decode cX7_sell 126 = .ok (.istore 5, 2) := by decide +kernel
theorem dX7_sell_128 : decode cX7_sell 128 = .ok (.aload_n 0, 1) := by decide +kernel
theorem dX7_sell_129 : decode cX7_sell 129 = .ok (.getfield 10, 3) := by decide +kernel
theorem dX7_sell_132 : decode cX7_sell 132 = .ok (.getfield 157, 3) := by decide +kernel
theorem dX7_sell_135 : decode cX7_sell 135 = .ok (.iload_n 2, 1) := by decide +kernel
theorem dX7_sell_136 : decode cX7_sell 136 = .ok (.dup2, 1) := by decide +kernel
theorem dX7_sell_137 : decode cX7_sell 137 = .ok (.iaload, 1) := by decide +kernel
theorem dX7_sell_138 : decode cX7_sell 138 = .ok (.iload_n 3, 1) := by decide +kernel
theorem dX7_sell_139 : decode cX7_sell 139 = .ok (.isub, 1) := by decide +kernel
theorem dX7_sell_140 : decode cX7_sell 140 = .ok (.iastore, 1) := by decide +kernel
theorem dX7_sell_141 : decode cX7_sell 141 = .ok (.aload_n 0, 1) := by decide +kernel
theorem dX7_sell_142 : decode cX7_sell 142 = .ok (.getfield 10, 3) := by decide +kernel
theorem dX7_sell_145 : decode cX7_sell 145 = .ok (.getfield 157, 3) := by decide +kernel
theorem dX7_sell_148 : decode cX7_sell 148 = .ok (.iload 5, 2) := by decide +kernel
theorem dX7_sell_150 : decode cX7_sell 150 = .ok (.sipush 9999, 3) := by decide +kernel
theorem dX7_sell_153 : decode cX7_sell 153 = .ok (.aload_n 0, 1) := by decide +kernel
theorem dX7_sell_154 : decode cX7_sell 154 = .ok (.getfield 10, 3) := by decide +kernel
theorem dX7_sell_157 : decode cX7_sell 157 = .ok (.getfield 157, 3) := by decide +kernel
theorem dX7_sell_160 : decode cX7_sell 160 = .ok (.iload 5, 2) := by decide +kernel
theorem dX7_sell_162 : decode cX7_sell 162 = .ok (.iaload, 1) := by decide +kernel
theorem dX7_sell_163 : decode cX7_sell 163 = .ok (.iload_n 3, 1) := by decide +kernel
theorem dX7_sell_164 : decode cX7_sell 164 = .ok (.iadd, 1) := by decide +kernel
theorem dX7_sell_165 : decode cX7_sell 165 = .ok (.invokestatic 160, 3) := by decide +kernel
theorem dX7_sell_168 : decode cX7_sell 168 = .ok (.iastore, 1) := by decide +kernel
theorem dX7_sell_169 : decode cX7_sell 169 = .ok (.aload_n 0, 1) := by decide +kernel
theorem dX7_sell_170 : decode cX7_sell 170 = .ok (.getfield 10, 3) := by decide +kernel
theorem dX7_sell_173 : decode cX7_sell 173 = .ok (.getfield 154, 3) := by decide +kernel
theorem dX7_sell_176 : decode cX7_sell 176 = .ok (.iload_n 1, 1) := by decide +kernel
theorem dX7_sell_177 : decode cX7_sell 177 = .ok (.iload_n 2, 1) := by decide +kernel
theorem dX7_sell_178 : decode cX7_sell 178 = .ok (.iastore, 1) := by decide +kernel
theorem dX7_sell_179 : decode cX7_sell 179 = .ok (.iload 5, 2) := by decide +kernel
theorem dX7_sell_181 : decode cX7_sell 181 = .ok (.ireturn, 1) := by decide +kernel
set_option maxRecDepth 20000 in
theorem ggX7_undo_X7_no : GoodIn wsX7_undo wsX7_no := goodIn_r _ [8, 9, 32, 33, 34, 35, 36, 37, 38, 39, 40, 41, 42] (by decide +kernel) (by decide +kernel)
set_option maxRecDepth 20000 in
theorem gX7_undo_X7_no : GoodIn wsX7_undo (wsV RX7 143 RX7 yX7_no wsX7_no) := goodIn_app (goodIn_of _ (by decide +kernel)) ggX7_undo_X7_no
set_option maxRecDepth 20000 in
theorem ggX7_undo_X3_goBack : GoodIn wsX7_undo wsX3_goBack := goodIn_r _ [14, 15, 16, 17, 18, 19, 20, 21, 22, 23, 24, 25, 26, 27, 28, 29, 30, 31, 43, 44, 45, 46, 47, 48, 49, 50, 51, 52, 53, 54, 55, 56, 57, 58, 59, 60, 61] (by decide +kernel) (by decide +kernel)
set_option maxRecDepth 20000 in
theorem gX7_undo_X3_goBack : GoodIn wsX7_undo (wsV RX7 168 RX3 yX3_goBack wsX3_goBack) := goodIn_app (goodIn_of _ (by decide +kernel)) ggX7_undo_X3_goBack
theorem dX7_undo_0 : decode cX7_undo 0 = .ok (.aload_n 0, 1) := by decide +kernel
theorem dX7_undo_1 : decode cX7_undo 1 = .ok (.getfield 19, 3) := by decide +kernel
theorem dX7_undo_4 : decode cX7_undo 4 = .ok (.getfield 165, 3) := by decide +kernel
theorem dX7_undo_7 : decode cX7_undo 7 = .ok (.ifCond .gt 8, 3) := by decide +kernel
theorem dX7_undo_10 : decode cX7_undo 10 = .ok (.aload_n 0, 1) := by decide +kernel
theorem dX7_undo_11 : decode cX7_undo 11 = .ok (.invokevirtual 143, 3) := by decide +kernel
theorem dX7_undo_14 : decode cX7_undo 14 = .ok (.ireturn, 1) := by decide +kernel
theorem dX7_undo_15 : decode cX7_undo 15 = .ok (.aload_n 0, 1) := by decide +kernel
theorem dX7_undo_16 : decode cX7_undo 16 = .ok (.getfield 19, 3) := by decide +kernel
theorem dX7_undo_19 : decode cX7_undo 19 = .ok (.aload_n 0, 1) := by decide +kernel
theorem dX7_undo_20 : decode cX7_undo 20 = .ok (.getfield 10, 3) := by decide +kernel
theorem dX7_undo_23 : decode cX7_undo 23 = .ok (.invokevirtual 168, 3) := by decide +kernel
theorem dX7_undo_26 : decode cX7_undo 26 = .ok (.iconst 1, 1) := by decide +kernel
theorem dX7_undo_27 : decode cX7_undo 27 = .ok (.ireturn, 1) := by decide +kernel
set_option maxRecDepth 20000 in
theorem ggX7_whose_X5_hasPerson : GoodIn wsX7_whose wsX5_hasPerson := goodIn_r _ [9, 10, 28, 29, 30, 31, 32, 33, 34, 35, 36, 37, 38, 39, 40, 41, 42, 43, 44] (by decide +kernel) (by decide +kernel)
set_option maxRecDepth 20000 in
theorem gX7_whose_X5_hasPerson : GoodIn wsX7_whose (wsV RX7 87 RX5 yX5_hasPerson wsX5_hasPerson) := goodIn_app (goodIn_of _ (by decide +kernel)) ggX7_whose_X5_hasPerson
set_option maxRecDepth 20000 in
theorem ggX7_whose_X7_bad : GoodIn wsX7_whose wsX7_bad := goodIn_r _ [15, 16, 17, 18, 19, 20, 21, 22, 23, 24, 25, 26, 27] (by decide +kernel) (by decide +kernel)
set_option maxRecDepth 20000 in
theorem gX7_whose_X7_bad : GoodIn wsX7_whose (wsV RX7 66 RX7 yX7_bad wsX7_bad) := goodIn_app (goodIn_of _ (by decide +kernel)) ggX7_whose_X7_bad
theorem dX7_whose_0 : decode cX7_whose 0 = .ok (.aload_n 0, 1) := by decide +kernel
theorem dX7_whose_1 : decode cX7_whose 1 = .ok (.getfield 10, 3) := by decide +kernel
theorem dX7_whose_4 : decode cX7_whose 4 = .ok (.iload_n 1, 1) := by decide +kernel
theorem dX7_whose_5 : decode cX7_whose 5 = .ok (.invokevirtual 87, 3) := by decide +kernel
theorem dX7_whose_8 : decode cX7_whose 8 = .ok (.ifCond .ne 8, 3) := by decide +kernel
theorem dX7_whose_11 : decode cX7_whose 11 = .ok (.aload_n 0, 1) := by decide +kernel
theorem dX7_whose_12 : decode cX7_whose 12 = .ok (.invokevirtual 66, 3) := by decide +kernel
theorem dX7_whose_15 : decode cX7_whose 15 = .ok (.ireturn, 1) := by decide +kernel
theorem dX7_whose_16 : decode cX7_whose 16 = .ok (.iload_n 2, 1) := by decide +kernel
theorem dX7_whose_17 : decode cX7_whose 17 = .ok (.tableswitch 57 0 2 #[27, 37, 47], 27) := by decide +kernel
theorem dX7_whose_44 : decode cX7_whose 44 = .ok (.aload_n 0, 1) := by decide +kernel
theorem dX7_whose_45 : decode cX7_whose 45 = .ok (.getfield 10, 3) := by decide +kernel
theorem dX7_whose_48 : decode cX7_whose 48 = .ok (.getfield 171, 3) := by decide +kernel
theorem dX7_whose_51 : decode cX7_whose 51 = .ok (.iload_n 1, 1) := by decide +kernel
theorem dX7_whose_52 : decode cX7_whose 52 = .ok (.iaload, 1) := by decide +kernel
theorem dX7_whose_53 : decode cX7_whose 53 = .ok (.ireturn, 1) := by decide +kernel
theorem dX7_whose_54 : decode cX7_whose 54 = .ok (.aload_n 0, 1) := by decide +kernel
theorem dX7_whose_55 : decode cX7_whose 55 = .ok (.getfield 10, 3) := by decide +kernel
theorem dX7_whose_58 : decode cX7_whose 58 = .ok (.getfield 174, 3) := by decide +kernel
theorem dX7_whose_61 : decode cX7_whose 61 = .ok (.iload_n 1, 1) := by decide +kernel
theorem dX7_whose_62 : decode cX7_whose 62 = .ok (.iaload, 1) := by decide +kernel
theorem dX7_whose_63 : decode cX7_whose 63 = .ok (.ireturn, 1) := by decide +kernel
theorem dX7_whose_64 : decode cX7_whose 64 = .ok (.aload_n 0, 1) := by decide +kernel
theorem dX7_whose_65 : decode cX7_whose 65 = .ok (.getfield 10, 3) := by decide +kernel
theorem dX7_whose_68 : decode cX7_whose 68 = .ok (.getfield 157, 3) := by decide +kernel
theorem dX7_whose_71 : decode cX7_whose 71 = .ok (.iload_n 1, 1) := by decide +kernel
theorem dX7_whose_72 : decode cX7_whose 72 = .ok (.iaload, 1) := by decide +kernel
theorem dX7_whose_73 : decode cX7_whose 73 = .ok (.ireturn, 1) := by decide +kernel
theorem dX7_whose_74 : decode cX7_whose 74 = .ok (.aload_n 0, 1) := by decide +kernel
theorem dX7_whose_75 : decode cX7_whose 75 = .ok (.invokevirtual 66, 3) := by decide +kernel
theorem dX7_whose_78 : decode cX7_whose 78 = .ok (.ireturn, 1) := by decide +kernel
set_option maxRecDepth 20000 in
theorem ggX7_about_X5_hasLoan : GoodIn wsX7_about wsX5_hasLoan := goodIn_r _ [11, 12, 41, 42, 43, 44, 45, 46, 47, 48, 49, 50, 51, 52, 53, 54, 55, 56, 57] (by decide +kernel) (by decide +kernel)
set_option maxRecDepth 20000 in
theorem gX7_about_X5_hasLoan : GoodIn wsX7_about (wsV RX7 136 RX5 yX5_hasLoan wsX5_hasLoan) := goodIn_app (goodIn_of _ (by decide +kernel)) ggX7_about_X5_hasLoan
set_option maxRecDepth 20000 in
theorem ggX7_about_X7_bad : GoodIn wsX7_about wsX7_bad := goodIn_r _ [17, 18, 30, 31, 32, 33, 34, 35, 36, 37, 38, 39, 40] (by decide +kernel) (by decide +kernel)
set_option maxRecDepth 20000 in
theorem gX7_about_X7_bad : GoodIn wsX7_about (wsV RX7 66 RX7 yX7_bad wsX7_bad) := goodIn_app (goodIn_of _ (by decide +kernel)) ggX7_about_X7_bad
set_option maxRecDepth 20000 in
theorem ggX7_about_X5_wholeOf : GoodIn wsX7_about wsX5_wholeOf := goodIn_r _ [22, 23, 24, 25, 26, 27, 10, 28, 29, 41, 42, 43, 44, 45, 46, 47, 48, 49, 50, 51, 52, 53, 54, 55, 56, 57] (by decide +kernel) (by decide +kernel)
set_option maxRecDepth 20000 in
theorem gX7_about_X5_wholeOf : GoodIn wsX7_about (wsV RX7 186 RX5 yX5_wholeOf wsX5_wholeOf) := goodIn_app (goodIn_of _ (by decide +kernel)) ggX7_about_X5_wholeOf
theorem dX7_about_0 : decode cX7_about 0 = .ok (.aload_n 0, 1) := by decide +kernel
theorem dX7_about_1 : decode cX7_about 1 = .ok (.getfield 10, 3) := by decide +kernel
theorem dX7_about_4 : decode cX7_about 4 = .ok (.iload_n 1, 1) := by decide +kernel
theorem dX7_about_5 : decode cX7_about 5 = .ok (.invokevirtual 136, 3) := by decide +kernel
theorem dX7_about_8 : decode cX7_about 8 = .ok (.ifCond .ne 8, 3) := by decide +kernel
theorem dX7_about_11 : decode cX7_about 11 = .ok (.aload_n 0, 1) := by decide +kernel
theorem dX7_about_12 : decode cX7_about 12 = .ok (.invokevirtual 66, 3) := by decide +kernel
theorem dX7_about_15 : decode cX7_about 15 = .ok (.ireturn, 1) := by decide +kernel
theorem dX7_about_16 : decode cX7_about 16 = .ok (.iload_n 2, 1) := by decide +kernel
theorem dX7_about_17 : decode cX7_about 17 = .ok (.tableswitch 98 0 5 #[39, 49, 59, 69, 79, 89], 39) := by decide +kernel
theorem dX7_about_56 : decode cX7_about 56 = .ok (.aload_n 0, 1) := by decide +kernel
theorem dX7_about_57 : decode cX7_about 57 = .ok (.getfield 10, 3) := by decide +kernel
theorem dX7_about_60 : decode cX7_about 60 = .ok (.getfield 154, 3) := by decide +kernel
theorem dX7_about_63 : decode cX7_about 63 = .ok (.iload_n 1, 1) := by decide +kernel
theorem dX7_about_64 : decode cX7_about 64 = .ok (.iaload, 1) := by decide +kernel
theorem dX7_about_65 : decode cX7_about 65 = .ok (.ireturn, 1) := by decide +kernel
theorem dX7_about_66 : decode cX7_about 66 = .ok (.aload_n 0, 1) := by decide +kernel
theorem dX7_about_67 : decode cX7_about 67 = .ok (.getfield 10, 3) := by decide +kernel
theorem dX7_about_70 : decode cX7_about 70 = .ok (.getfield 177, 3) := by decide +kernel
theorem dX7_about_73 : decode cX7_about 73 = .ok (.iload_n 1, 1) := by decide +kernel
theorem dX7_about_74 : decode cX7_about 74 = .ok (.iaload, 1) := by decide +kernel
theorem dX7_about_75 : decode cX7_about 75 = .ok (.ireturn, 1) := by decide +kernel
theorem dX7_about_76 : decode cX7_about 76 = .ok (.aload_n 0, 1) := by decide +kernel
theorem dX7_about_77 : decode cX7_about 77 = .ok (.getfield 10, 3) := by decide +kernel
theorem dX7_about_80 : decode cX7_about 80 = .ok (.getfield 180, 3) := by decide +kernel
theorem dX7_about_83 : decode cX7_about 83 = .ok (.iload_n 1, 1) := by decide +kernel
theorem dX7_about_84 : decode cX7_about 84 = .ok (.iaload, 1) := by decide +kernel
theorem dX7_about_85 : decode cX7_about 85 = .ok (.ireturn, 1) := by decide +kernel
theorem dX7_about_86 : decode cX7_about 86 = .ok (.aload_n 0, 1) := by decide +kernel
theorem dX7_about_87 : decode cX7_about 87 = .ok (.getfield 10, 3) := by decide +kernel
theorem dX7_about_90 : decode cX7_about 90 = .ok (.getfield 150, 3) := by decide +kernel
theorem dX7_about_93 : decode cX7_about 93 = .ok (.iload_n 1, 1) := by decide +kernel
theorem dX7_about_94 : decode cX7_about 94 = .ok (.iaload, 1) := by decide +kernel
theorem dX7_about_95 : decode cX7_about 95 = .ok (.ireturn, 1) := by decide +kernel
theorem dX7_about_96 : decode cX7_about 96 = .ok (.aload_n 0, 1) := by decide +kernel
theorem dX7_about_97 : decode cX7_about 97 = .ok (.getfield 10, 3) := by decide +kernel
theorem dX7_about_100 : decode cX7_about 100 = .ok (.getfield 183, 3) := by decide +kernel
theorem dX7_about_103 : decode cX7_about 103 = .ok (.iload_n 1, 1) := by decide +kernel
theorem dX7_about_104 : decode cX7_about 104 = .ok (.iaload, 1) := by decide +kernel
theorem dX7_about_105 : decode cX7_about 105 = .ok (.ireturn, 1) := by decide +kernel
theorem dX7_about_106 : decode cX7_about 106 = .ok (.aload_n 0, 1) := by decide +kernel
theorem dX7_about_107 : decode cX7_about 107 = .ok (.getfield 10, 3) := by decide +kernel
theorem dX7_about_110 : decode cX7_about 110 = .ok (.iload_n 1, 1) := by decide +kernel
theorem dX7_about_111 : decode cX7_about 111 = .ok (.invokevirtual 186, 3) := by decide +kernel
theorem dX7_about_114 : decode cX7_about 114 = .ok (.ireturn, 1) := by decide +kernel
theorem dX7_about_115 : decode cX7_about 115 = .ok (.aload_n 0, 1) := by decide +kernel
theorem dX7_about_116 : decode cX7_about 116 = .ok (.invokevirtual 66, 3) := by decide +kernel
theorem dX7_about_119 : decode cX7_about 119 = .ok (.ireturn, 1) := by decide +kernel
set_option maxRecDepth 20000 in
theorem ggX7_foretold_X7_within : GoodIn wsX7_foretold wsX7_within := goodIn_r _ [8] (by decide +kernel) (by decide +kernel)
set_option maxRecDepth 20000 in
theorem gX7_foretold_X7_within : GoodIn wsX7_foretold (va_wsS RX7 62 yX7_within wsX7_within) := goodIn_app (goodIn_of _ (by decide +kernel)) ggX7_foretold_X7_within
set_option maxRecDepth 20000 in
theorem ggX7_foretold_X7_bad : GoodIn wsX7_foretold wsX7_bad := goodIn_r _ [12, 13, 89, 90, 91, 92, 93, 94, 95, 96, 97, 98, 99] (by decide +kernel) (by decide +kernel)
set_option maxRecDepth 20000 in
theorem gX7_foretold_X7_bad : GoodIn wsX7_foretold (wsV RX7 66 RX7 yX7_bad wsX7_bad) := goodIn_app (goodIn_of _ (by decide +kernel)) ggX7_foretold_X7_bad
set_option maxRecDepth 20000 in
theorem ggX7_foretold_X1_lookAhead : GoodIn wsX7_foretold wsX1_lookAhead := goodIn_r _ [18, 19, 20, 21, 22, 23, 24, 25, 26, 27, 28, 29, 30, 31, 32, 33, 34, 35, 36, 37, 38, 39, 40, 41, 42, 43, 44, 45, 46, 47, 48, 49, 50, 7, 51, 52, 53, 54, 55, 56, 57, 58, 59, 60, 61, 62, 63, 64, 65, 66, 67, 68, 69, 70, 71, 72, 73, 74, 75, 76, 77, 78, 79, 80, 81, 82, 83, 84, 117, 100, 101, 102, 103, 104, 105, 106, 107, 108, 109, 110, 111, 112, 113, 114, 115, 116] (by decide +kernel) (by decide +kernel)
set_option maxRecDepth 20000 in
theorem gX7_foretold_X1_lookAhead : GoodIn wsX7_foretold (wsV RX7 189 RX1 yX1_lookAhead wsX1_lookAhead) := goodIn_app (goodIn_of _ (by decide +kernel)) ggX7_foretold_X1_lookAhead
set_option maxRecDepth 20000 in
theorem ggX7_foretold_X5_howManyAre : GoodIn wsX7_foretold wsX5_howManyAre := goodIn_r _ [88, 30, 42, 100, 101, 102, 103, 104, 105, 106, 107, 108, 109, 110, 111, 112, 113, 114, 115, 116] (by decide +kernel) (by decide +kernel)
set_option maxRecDepth 20000 in
theorem gX7_foretold_X5_howManyAre : GoodIn wsX7_foretold (wsV RX7 125 RX5 yX5_howManyAre wsX5_howManyAre) := goodIn_app (goodIn_of _ (by decide +kernel)) ggX7_foretold_X5_howManyAre
theorem dX7_foretold_0 : decode cX7_foretold 0 = .ok (.iload_n 1, 1) := by decide +kernel
theorem dX7_foretold_1 : decode cX7_foretold 1 = .ok (.iconst 0, 1) := by decide +kernel
theorem dX7_foretold_2 : decode cX7_foretold 2 = .ok (.bipush 60, 2) := by decide +kernel
theorem dX7_foretold_4 : decode cX7_foretold 4 = .ok (.invokestatic 62, 3) := by decide +kernel
theorem dX7_foretold_7 : decode cX7_foretold 7 = .ok (.ifCond .eq 12, 3) := by decide +kernel
theorem dX7_foretold_10 : decode cX7_foretold 10 = .ok (.iload_n 2, 1) := by decide +kernel
theorem dX7_foretold_11 : decode cX7_foretold 11 = .ok (.iconst 0, 1) := by decide +kernel
theorem dX7_foretold_12 : decode cX7_foretold 12 = .ok (.iconst 4, 1) := by decide +kernel
theorem dX7_foretold_13 : decode cX7_foretold 13 = .ok (.invokestatic 62, 3) := by decide +kernel
theorem dX7_foretold_16 : decode cX7_foretold 16 = .ok (.ifCond .ne 8, 3) := by decide +kernel
theorem dX7_foretold_19 : decode cX7_foretold 19 = .ok (.aload_n 0, 1) := by decide +kernel
theorem dX7_foretold_20 : decode cX7_foretold 20 = .ok (.invokevirtual 66, 3) := by decide +kernel
theorem dX7_foretold_23 : decode cX7_foretold 23 = .ok (.ireturn, 1) := by decide +kernel
theorem dX7_foretold_24 : decode cX7_foretold 24 = .ok (.aload_n 0, 1) := by decide +kernel
theorem dX7_foretold_25 : decode cX7_foretold 25 = .ok (.getfield 43, 3) := by decide +kernel
theorem dX7_foretold_28 : decode cX7_foretold 28 = .ok (.aload_n 0, 1) := by decide +kernel
theorem dX7_foretold_29 : decode cX7_foretold 29 = .ok (.getfield 10, 3) := by decide +kernel
theorem dX7_foretold_32 : decode cX7_foretold 32 = .ok (.iload_n 1, 1) := by decide +kernel
theorem dX7_foretold_33 : decode cX7_foretold 33 = .ok (.invokevirtual 189, 3) := by decide +kernel
theorem dX7_foretold_36 : decode cX7_foretold 36 = .ok (.astore_n 3, 1) := by decide +kernel
theorem dX7_foretold_37 : decode cX7_foretold 37 = .ok (.iload_n 2, 1) := by decide +kernel
theorem dX7_foretold_38 : decode cX7_foretold 38 = .ok (.tableswitch 52 0 3 #[30, 35, 40, 46], 30) := by decide +kernel
theorem dX7_foretold_68 : decode cX7_foretold 68 = .ok (.aload_n 3, 1) := by decide +kernel
theorem dX7_foretold_69 : decode cX7_foretold 69 = .ok (.getfield 70, 3) := by decide +kernel
theorem dX7_foretold_72 : decode cX7_foretold 72 = .ok (.ireturn, 1) := by decide +kernel
theorem dX7_foretold_73 : decode cX7_foretold 73 = .ok (.aload_n 3, 1) := by decide +kernel
theorem dX7_foretold_74 : decode cX7_foretold 74 = .ok (.getfield 193, 3) := by decide +kernel
theorem dX7_foretold_77 : decode cX7_foretold 77 = .ok (.ireturn, 1) := by decide +kernel
theorem dX7_foretold_78 : decode cX7_foretold 78 = .ok (.aload_n 3, 1) := by decide +kernel
theorem dX7_foretold_79 : decode cX7_foretold 79 = .ok (.iconst 1, 1) := by decide +kernel
theorem dX7_foretold_80 : decode cX7_foretold 80 = .ok (.invokevirtual 125, 3) := by decide +kernel
theorem dX7_foretold_83 : decode cX7_foretold 83 = .ok (.ireturn, 1) := by decide +kernel
theorem dX7_foretold_84 : decode cX7_foretold 84 = .ok (.aload_n 3, 1) := by decide +kernel
theorem dX7_foretold_85 : decode cX7_foretold 85 = .ok (.iconst 2, 1) := by decide +kernel
theorem dX7_foretold_86 : decode cX7_foretold 86 = .ok (.invokevirtual 125, 3) := by decide +kernel
theorem dX7_foretold_89 : decode cX7_foretold 89 = .ok (.ireturn, 1) := by decide +kernel
theorem dX7_foretold_90 : decode cX7_foretold 90 = .ok (.aload_n 3, 1) := by decide +kernel
theorem dX7_foretold_91 : decode cX7_foretold 91 = .ok (.iconst 3, 1) := by decide +kernel
theorem dX7_foretold_92 : decode cX7_foretold 92 = .ok (.invokevirtual 125, 3) := by decide +kernel
theorem dX7_foretold_95 : decode cX7_foretold 95 = .ok (.ireturn, 1) := by decide +kernel
set_option maxRecDepth 20000 in
theorem ggX7_purse_X7_within : GoodIn wsX7_purse wsX7_within := goodIn_r _ [7] (by decide +kernel) (by decide +kernel)
set_option maxRecDepth 20000 in
theorem gX7_purse_X7_within : GoodIn wsX7_purse (va_wsS RX7 62 yX7_within wsX7_within) := goodIn_app (goodIn_of _ (by decide +kernel)) ggX7_purse_X7_within
set_option maxRecDepth 20000 in
theorem ggX7_purse_X5_hasPerson : GoodIn wsX7_purse wsX5_hasPerson := goodIn_r _ [12, 13, 99, 100, 101, 102, 103, 104, 105, 106, 107, 108, 109, 110, 111, 112, 113, 114, 115] (by decide +kernel) (by decide +kernel)
set_option maxRecDepth 20000 in
theorem gX7_purse_X5_hasPerson : GoodIn wsX7_purse (wsV RX7 87 RX5 yX5_hasPerson wsX5_hasPerson) := goodIn_app (goodIn_of _ (by decide +kernel)) ggX7_purse_X5_hasPerson
set_option maxRecDepth 20000 in
theorem ggX7_purse_X7_bad : GoodIn wsX7_purse wsX7_bad := goodIn_r _ [17, 18, 88, 89, 90, 91, 92, 93, 94, 95, 96, 97, 98] (by decide +kernel) (by decide +kernel)
set_option maxRecDepth 20000 in
theorem gX7_purse_X7_bad : GoodIn wsX7_purse (wsV RX7 66 RX7 yX7_bad wsX7_bad) := goodIn_app (goodIn_of _ (by decide +kernel)) ggX7_purse_X7_bad
set_option maxRecDepth 20000 in
theorem ggX7_purse_X1_lookAhead : GoodIn wsX7_purse wsX1_lookAhead := goodIn_r _ [23, 24, 25, 26, 27, 11, 28, 29, 30, 31, 32, 13, 33, 34, 35, 36, 37, 38, 39, 40, 41, 42, 43, 44, 45, 46, 47, 48, 49, 50, 51, 52, 53, 6, 54, 55, 56, 57, 58, 59, 60, 61, 62, 63, 64, 65, 66, 67, 68, 69, 70, 71, 72, 73, 74, 75, 76, 77, 78, 79, 80, 81, 82, 83, 84, 85, 86, 87, 116, 99, 100, 101, 102, 103, 104, 105, 106, 107, 108, 109, 110, 111, 112, 113, 114, 115] (by decide +kernel) (by decide +kernel)
set_option maxRecDepth 20000 in
theorem gX7_purse_X1_lookAhead : GoodIn wsX7_purse (wsV RX7 189 RX1 yX1_lookAhead wsX1_lookAhead) := goodIn_app (goodIn_of _ (by decide +kernel)) ggX7_purse_X1_lookAhead
theorem dX7_purse_0 : decode cX7_purse 0 = .ok (.iload_n 1, 1) := by decide +kernel
theorem dX7_purse_1 : decode cX7_purse 1 = .ok (.iconst 0, 1) := by decide +kernel
theorem dX7_purse_2 : decode cX7_purse 2 = .ok (.bipush 60, 2) := by decide +kernel
theorem dX7_purse_4 : decode cX7_purse 4 = .ok (.invokestatic 62, 3) := by decide +kernel
theorem dX7_purse_7 : decode cX7_purse 7 = .ok (.ifCond .eq 14, 3) := by decide +kernel
theorem dX7_purse_10 : decode cX7_purse 10 = .ok (.aload_n 0, 1) := by decide +kernel
theorem dX7_purse_11 : decode cX7_purse 11 = .ok (.getfield 10, 3) := by decide +kernel
theorem dX7_purse_14 : decode cX7_purse 14 = .ok (.iload_n 2, 1) := by decide +kernel
theorem dX7_purse_15 : decode cX7_purse 15 = .ok (.invokevirtual 87, 3) := by decide +kernel
theorem dX7_purse_18 : decode cX7_purse 18 = .ok (.ifCond .ne 8, 3) := by decide +kernel
theorem dX7_purse_21 : decode cX7_purse 21 = .ok (.aload_n 0, 1) := by decide +kernel
theorem dX7_purse_22 : decode cX7_purse 22 = .ok (.invokevirtual 66, 3) := by decide +kernel
theorem dX7_purse_25 : decode cX7_purse 25 = .ok (.ireturn, 1) := by decide +kernel
theorem dX7_purse_26 : decode cX7_purse 26 = .ok (.aload_n 0, 1) := by decide +kernel
theorem dX7_purse_27 : decode cX7_purse 27 = .ok (.getfield 43, 3) := by decide +kernel
theorem dX7_purse_30 : decode cX7_purse 30 = .ok (.aload_n 0, 1) := by decide +kernel
theorem dX7_purse_31 : decode cX7_purse 31 = .ok (.getfield 10, 3) := by decide +kernel
theorem dX7_purse_34 : decode cX7_purse 34 = .ok (.iload_n 1, 1) := by decide +kernel
theorem dX7_purse_35 : decode cX7_purse 35 = .ok (.invokevirtual 189, 3) := by decide +kernel
theorem dX7_purse_38 : decode cX7_purse 38 = .ok (.getfield 157, 3) := by decide +kernel
theorem dX7_purse_41 : decode cX7_purse 41 = .ok (.iload_n 2, 1) := by decide +kernel
theorem dX7_purse_42 : decode cX7_purse 42 = .ok (.iaload, 1) := by decide +kernel
theorem dX7_purse_43 : decode cX7_purse 43 = .ok (.ireturn, 1) := by decide +kernel
set_option maxRecDepth 20000 in
theorem ggX7_loanThen_X7_within : GoodIn wsX7_loanThen wsX7_within := goodIn_r _ [8] (by decide +kernel) (by decide +kernel)
set_option maxRecDepth 20000 in
theorem gX7_loanThen_X7_within : GoodIn wsX7_loanThen (va_wsS RX7 62 yX7_within wsX7_within) := goodIn_app (goodIn_of _ (by decide +kernel)) ggX7_loanThen_X7_within
set_option maxRecDepth 20000 in
theorem ggX7_loanThen_X5_hasLoan : GoodIn wsX7_loanThen wsX5_hasLoan := goodIn_r _ [13, 14, 100, 101, 102, 103, 104, 105, 106, 107, 108, 109, 110, 111, 112, 113, 114, 115, 116] (by decide +kernel) (by decide +kernel)
set_option maxRecDepth 20000 in
theorem gX7_loanThen_X5_hasLoan : GoodIn wsX7_loanThen (wsV RX7 136 RX5 yX5_hasLoan wsX5_hasLoan) := goodIn_app (goodIn_of _ (by decide +kernel)) ggX7_loanThen_X5_hasLoan
set_option maxRecDepth 20000 in
theorem ggX7_loanThen_X7_bad : GoodIn wsX7_loanThen wsX7_bad := goodIn_r _ [18, 19, 89, 90, 91, 92, 93, 94, 95, 96, 97, 98, 99] (by decide +kernel) (by decide +kernel)
set_option maxRecDepth 20000 in
theorem gX7_loanThen_X7_bad : GoodIn wsX7_loanThen (wsV RX7 66 RX7 yX7_bad wsX7_bad) := goodIn_app (goodIn_of _ (by decide +kernel)) ggX7_loanThen_X7_bad
set_option maxRecDepth 20000 in
theorem ggX7_loanThen_X1_lookAhead : GoodIn wsX7_loanThen wsX1_lookAhead := goodIn_r _ [24, 25, 26, 27, 28, 12, 29, 30, 31, 32, 33, 34, 14, 35, 36, 37, 38, 39, 40, 41, 42, 43, 44, 45, 46, 47, 48, 49, 50, 51, 52, 53, 54, 7, 55, 56, 57, 58, 59, 60, 61, 62, 63, 64, 65, 66, 67, 68, 69, 70, 71, 72, 73, 74, 75, 76, 77, 78, 79, 80, 81, 82, 83, 84, 85, 86, 87, 88, 117, 100, 101, 102, 103, 104, 105, 106, 107, 108, 109, 110, 111, 112, 113, 114, 115, 116] (by decide +kernel) (by decide +kernel)
set_option maxRecDepth 20000 in
theorem gX7_loanThen_X1_lookAhead : GoodIn wsX7_loanThen (wsV RX7 189 RX1 yX1_lookAhead wsX1_lookAhead) := goodIn_app (goodIn_of _ (by decide +kernel)) ggX7_loanThen_X1_lookAhead
theorem dX7_loanThen_0 : decode cX7_loanThen 0 = .ok (.iload_n 1, 1) := by decide +kernel
theorem dX7_loanThen_1 : decode cX7_loanThen 1 = .ok (.iconst 0, 1) := by decide +kernel
theorem dX7_loanThen_2 : decode cX7_loanThen 2 = .ok (.bipush 60, 2) := by decide +kernel
theorem dX7_loanThen_4 : decode cX7_loanThen 4 = .ok (.invokestatic 62, 3) := by decide +kernel
theorem dX7_loanThen_7 : decode cX7_loanThen 7 = .ok (.ifCond .eq 23, 3) := by decide +kernel
theorem dX7_loanThen_10 : decode cX7_loanThen 10 = .ok (.aload_n 0, 1) := by decide +kernel
theorem dX7_loanThen_11 : decode cX7_loanThen 11 = .ok (.getfield 10, 3) := by decide +kernel
theorem dX7_loanThen_14 : decode cX7_loanThen 14 = .ok (.iload_n 2, 1) := by decide +kernel
theorem dX7_loanThen_15 : decode cX7_loanThen 15 = .ok (.invokevirtual 136, 3) := by decide +kernel
theorem dX7_loanThen_18 : decode cX7_loanThen 18 = .ok (.ifCond .eq 12, 3) := by decide +kernel
theorem dX7_loanThen_21 : decode cX7_loanThen 21 = .ok (.iload_n 3, 1) := by decide +kernel
theorem dX7_loanThen_22 : decode cX7_loanThen 22 = .ok (.iconst 0, 1) := by decide +kernel
theorem dX7_loanThen_23 : decode cX7_loanThen 23 = .ok (.iconst 1, 1) := by decide +kernel
theorem dX7_loanThen_24 : decode cX7_loanThen 24 = .ok (.invokestatic 62, 3) := by decide +kernel
theorem dX7_loanThen_27 : decode cX7_loanThen 27 = .ok (.ifCond .ne 8, 3) := by decide +kernel
theorem dX7_loanThen_30 : decode cX7_loanThen 30 = .ok (.aload_n 0, 1) := by decide +kernel
theorem dX7_loanThen_31 : decode cX7_loanThen 31 = .ok (.invokevirtual 66, 3) := by decide +kernel
theorem dX7_loanThen_34 : decode cX7_loanThen 34 = .ok (.ireturn, 1) := by decide +kernel
theorem dX7_loanThen_35 : decode cX7_loanThen 35 = .ok (.aload_n 0, 1) := by decide +kernel
theorem dX7_loanThen_36 : decode cX7_loanThen 36 = .ok (.getfield 43, 3) := by decide +kernel
theorem dX7_loanThen_39 : decode cX7_loanThen 39 = .ok (.aload_n 0, 1) := by decide +kernel
theorem dX7_loanThen_40 : decode cX7_loanThen 40 = .ok (.getfield 10, 3) := by decide +kernel
theorem dX7_loanThen_43 : decode cX7_loanThen 43 = .ok (.iload_n 1, 1) := by decide +kernel
theorem dX7_loanThen_44 : decode cX7_loanThen 44 = .ok (.invokevirtual 189, 3) := by decide +kernel
theorem dX7_loanThen_47 : decode cX7_loanThen 47 = .ok (.astore 4, 2) := by decide +kernel
theorem dX7_loanThen_49 : decode cX7_loanThen 49 = .ok (.iload_n 3, 1) := by decide +kernel
theorem dX7_loanThen_50 : decode cX7_loanThen 50 = .ok (.ifCond .ne 13, 3) := by decide +kernel
theorem dX7_loanThen_53 : decode cX7_loanThen 53 = .ok (.aload 4, 2) := by decide +kernel
theorem dX7_loanThen_55 : decode cX7_loanThen 55 = .ok (.getfield 150, 3) := by decide +kernel
theorem dX7_loanThen_58 : decode cX7_loanThen 58 = .ok (.iload_n 2, 1) := by decide +kernel
theorem dX7_loanThen_59 : decode cX7_loanThen 59 = .ok (.iaload, 1) := by decide +kernel
theorem dX7_loanThen_60 : decode cX7_loanThen 60 = .ok (.goto 10, 3) := by decide +kernel
theorem dX7_loanThen_63 : decode cX7_loanThen 63 = .ok (.aload 4, 2) := by decide +kernel
theorem dX7_loanThen_65 : decode cX7_loanThen 65 = .ok (.getfield 183, 3) := by decide +kernel
theorem dX7_loanThen_68 : decode cX7_loanThen 68 = .ok (.iload_n 2, 1) := by decide +kernel
theorem dX7_loanThen_69 : decode cX7_loanThen 69 = .ok (.iaload, 1) := by decide +kernel
theorem dX7_loanThen_70 : decode cX7_loanThen 70 = .ok (.ireturn, 1) := by decide +kernel
set_option maxRecDepth 20000 in
theorem ggX7_lack_X7_within : GoodIn wsX7_lack wsX7_within := goodIn_r _ [7] (by decide +kernel) (by decide +kernel)
set_option maxRecDepth 20000 in
theorem gX7_lack_X7_within : GoodIn wsX7_lack (va_wsS RX7 62 yX7_within wsX7_within) := goodIn_app (goodIn_of _ (by decide +kernel)) ggX7_lack_X7_within
set_option maxRecDepth 20000 in
theorem ggX7_lack_X7_bad : GoodIn wsX7_lack wsX7_bad := goodIn_r _ [11, 12, 86, 87, 88, 89, 90, 91, 92, 93, 94, 95, 96] (by decide +kernel) (by decide +kernel)
set_option maxRecDepth 20000 in
theorem gX7_lack_X7_bad : GoodIn wsX7_lack (wsV RX7 66 RX7 yX7_bad wsX7_bad) := goodIn_app (goodIn_of _ (by decide +kernel)) ggX7_lack_X7_bad
set_option maxRecDepth 20000 in
theorem ggX7_lack_X1_firstLack : GoodIn wsX7_lack wsX1_firstLack := goodIn_r _ [17, 18, 19, 20, 21, 22, 23, 24, 25, 26, 27, 28, 29, 30, 31, 32, 33, 34, 35, 36, 37, 38, 39, 40, 41, 42, 43, 44, 45, 46, 47, 48, 49, 50, 51, 6, 52, 53, 54, 55, 56, 57, 58, 59, 60, 61, 62, 63, 64, 65, 66, 67, 68, 69, 70, 71, 72, 73, 74, 75, 76, 77, 78, 79, 80, 81, 82, 83, 84, 85, 114, 97, 98, 99, 100, 101, 102, 103, 104, 105, 106, 107, 108, 109, 110, 111, 112, 113] (by decide +kernel) (by decide +kernel)
set_option maxRecDepth 20000 in
theorem gX7_lack_X1_firstLack : GoodIn wsX7_lack (wsV RX7 196 RX1 yX1_firstLack wsX1_firstLack) := goodIn_app (goodIn_of _ (by decide +kernel)) ggX7_lack_X1_firstLack
theorem dX7_lack_0 : decode cX7_lack 0 = .ok (.iload_n 1, 1) := by decide +kernel
theorem dX7_lack_1 : decode cX7_lack 1 = .ok (.iconst 0, 1) := by decide +kernel
theorem dX7_lack_2 : decode cX7_lack 2 = .ok (.bipush 60, 2) := by decide +kernel
theorem dX7_lack_4 : decode cX7_lack 4 = .ok (.invokestatic 62, 3) := by decide +kernel
theorem dX7_lack_7 : decode cX7_lack 7 = .ok (.ifCond .ne 8, 3) := by decide +kernel
theorem dX7_lack_10 : decode cX7_lack 10 = .ok (.aload_n 0, 1) := by decide +kernel
theorem dX7_lack_11 : decode cX7_lack 11 = .ok (.invokevirtual 66, 3) := by decide +kernel
theorem dX7_lack_14 : decode cX7_lack 14 = .ok (.ireturn, 1) := by decide +kernel
theorem dX7_lack_15 : decode cX7_lack 15 = .ok (.aload_n 0, 1) := by decide +kernel
theorem dX7_lack_16 : decode cX7_lack 16 = .ok (.getfield 43, 3) := by decide +kernel
theorem dX7_lack_19 : decode cX7_lack 19 = .ok (.aload_n 0, 1) := by decide +kernel
theorem dX7_lack_20 : decode cX7_lack 20 = .ok (.getfield 10, 3) := by decide +kernel
theorem dX7_lack_23 : decode cX7_lack 23 = .ok (.aload_n 0, 1) := by decide +kernel
theorem dX7_lack_24 : decode cX7_lack 24 = .ok (.getfield 10, 3) := by decide +kernel
theorem dX7_lack_27 : decode cX7_lack 27 = .ok (.getfield 70, 3) := by decide +kernel
theorem dX7_lack_30 : decode cX7_lack 30 = .ok (.iload_n 1, 1) := by decide +kernel
theorem dX7_lack_31 : decode cX7_lack 31 = .ok (.invokevirtual 196, 3) := by decide +kernel
theorem dX7_lack_34 : decode cX7_lack 34 = .ok (.ireturn, 1) := by decide +kernel
set_option maxRecDepth 20000 in
theorem ggX7_holds_X7_within : GoodIn wsX7_holds wsX7_within := goodIn_r _ [6] (by decide +kernel) (by decide +kernel)
set_option maxRecDepth 20000 in
theorem gX7_holds_X7_within : GoodIn wsX7_holds (va_wsS RX7 62 yX7_within wsX7_within) := goodIn_app (goodIn_of _ (by decide +kernel)) ggX7_holds_X7_within
set_option maxRecDepth 20000 in
theorem ggX7_holds_X7_bad : GoodIn wsX7_holds wsX7_bad := goodIn_r _ [10, 11, 89, 90, 91, 92, 93, 94, 95, 96, 97, 98, 99] (by decide +kernel) (by decide +kernel)
set_option maxRecDepth 20000 in
theorem gX7_holds_X7_bad : GoodIn wsX7_holds (wsV RX7 66 RX7 yX7_bad wsX7_bad) := goodIn_app (goodIn_of _ (by decide +kernel)) ggX7_holds_X7_bad
set_option maxRecDepth 20000 in
theorem ggX7_holds_X1_leastChest : GoodIn wsX7_holds wsX1_leastChest := goodIn_r _ [16, 17, 18, 19, 15, 20, 21, 22, 23, 24, 25, 26, 27, 28, 29, 30, 31, 32, 33, 34, 35, 36, 37, 38, 39, 40, 41, 42, 43, 44, 45, 46, 47, 48, 49, 50, 51, 52, 53, 54, 5, 55, 56, 57, 58, 59, 60, 61, 62, 63, 64, 65, 66, 67, 68, 69, 70, 71, 72, 73, 74, 75, 76, 77, 78, 79, 80, 81, 82, 83, 84, 85, 86, 87, 88, 100, 101, 102, 103, 104, 105, 106, 107, 108, 109, 110, 111, 112, 113, 114, 115, 116, 117] (by decide +kernel) (by decide +kernel)
set_option maxRecDepth 20000 in
theorem gX7_holds_X1_leastChest : GoodIn wsX7_holds (wsV RX7 200 RX1 yX1_leastChest wsX1_leastChest) := goodIn_app (goodIn_of _ (by decide +kernel)) ggX7_holds_X1_leastChest
theorem dX7_holds_0 : decode cX7_holds 0 = .ok (.iload_n 1, 1) := by decide +kernel
theorem dX7_holds_1 : decode cX7_holds 1 = .ok (.iconst 0, 1) := by decide +kernel
theorem dX7_holds_2 : decode cX7_holds 2 = .ok (.bipush 60, 2) := by decide +kernel
theorem dX7_holds_4 : decode cX7_holds 4 = .ok (.invokestatic 62, 3) := by decide +kernel
theorem dX7_holds_7 : decode cX7_holds 7 = .ok (.ifCond .ne 8, 3) := by decide +kernel
theorem dX7_holds_10 : decode cX7_holds 10 = .ok (.aload_n 0, 1) := by decide +kernel
theorem dX7_holds_11 : decode cX7_holds 11 = .ok (.invokevirtual 66, 3) := by decide +kernel
theorem dX7_holds_14 : decode cX7_holds 14 = .ok (.ireturn, 1) := by decide +kernel
theorem dX7_holds_15 : decode cX7_holds 15 = .ok (.aload_n 0, 1) := by decide +kernel
theorem dX7_holds_16 : decode cX7_holds 16 = .ok (.getfield 43, 3) := by decide +kernel
theorem dX7_holds_19 : decode cX7_holds 19 = .ok (.aload_n 0, 1) := by decide +kernel
theorem dX7_holds_20 : decode cX7_holds 20 = .ok (.getfield 10, 3) := by decide +kernel
theorem dX7_holds_23 : decode cX7_holds 23 = .ok (.iload_n 1, 1) := by decide +kernel
theorem dX7_holds_24 : decode cX7_holds 24 = .ok (.invokevirtual 200, 3) := by decide +kernel
theorem dX7_holds_27 : decode cX7_holds 27 = .ok (.ireturn, 1) := by decide +kernel
set_option maxRecDepth 20000 in
theorem ggX7_best_X5_hasPerson : GoodIn wsX7_best wsX5_hasPerson := goodIn_r _ [7, 8, 131, 132, 133, 134, 135, 136, 137, 138, 139, 140, 141, 142, 143, 144, 145, 146, 147] (by decide +kernel) (by decide +kernel)
set_option maxRecDepth 20000 in
theorem gX7_best_X5_hasPerson : GoodIn wsX7_best (wsV RX7 87 RX5 yX5_hasPerson wsX5_hasPerson) := goodIn_app (goodIn_of _ (by decide +kernel)) ggX7_best_X5_hasPerson
set_option maxRecDepth 20000 in
theorem ggX7_best_X7_within : GoodIn wsX7_best wsX7_within := goodIn_r _ [12] (by decide +kernel) (by decide +kernel)
set_option maxRecDepth 20000 in
theorem gX7_best_X7_within : GoodIn wsX7_best (va_wsS RX7 62 yX7_within wsX7_within) := goodIn_app (goodIn_of _ (by decide +kernel)) ggX7_best_X7_within
set_option maxRecDepth 20000 in
theorem ggX7_best_X7_bad : GoodIn wsX7_best wsX7_bad := goodIn_r _ [16, 17, 120, 121, 122, 123, 124, 125, 126, 127, 128, 129, 130] (by decide +kernel) (by decide +kernel)
set_option maxRecDepth 20000 in
theorem gX7_best_X7_bad : GoodIn wsX7_best (wsV RX7 66 RX7 yX7_bad wsX7_bad) := goodIn_app (goodIn_of _ (by decide +kernel)) ggX7_best_X7_bad
set_option maxRecDepth 20000 in
theorem ggX7_best_X1_bestOffers : GoodIn wsX7_best wsX1_bestOffers := goodIn_r _ [22, 23, 24, 25, 26, 27, 21, 28, 29, 30, 31, 32, 6, 33, 34, 35, 36, 37, 8, 38, 39, 40, 41, 42, 43, 44, 45, 46, 47, 48, 49, 50, 51, 52, 53, 54, 55, 56, 57, 58, 11, 59, 60, 61, 62, 63, 64, 65, 66, 67, 68, 69, 70, 71, 72, 73, 74, 75, 76, 77, 78, 79, 80, 81, 82, 83, 84, 85, 86, 87, 88, 89, 90, 91, 92, 93, 94, 95, 96, 97, 98, 99, 100, 101, 102, 103, 104, 105, 106, 107, 108, 109, 110, 111, 112, 113, 114, 115, 116, 117, 118, 131, 132, 133, 134, 135, 136, 137, 138, 139, 140, 141, 142, 143, 144, 145, 146, 147, 148] (by decide +kernel) (by decide +kernel)
set_option maxRecDepth 20000 in
theorem gX7_best_X1_bestOffers : GoodIn wsX7_best (wsV RX7 204 RX1 yX1_bestOffers wsX1_bestOffers) := goodIn_app (goodIn_of _ (by decide +kernel)) ggX7_best_X1_bestOffers
set_option maxRecDepth 20000 in
theorem ggX7_best_X5_gainOfOffers : GoodIn wsX7_best wsX5_gainOfOffers := goodIn_r _ [100, 39, 52, 53, 58, 11, 59, 89, 90, 91, 6, 92, 35, 131, 132, 133, 134, 135, 136, 137, 138, 139, 140, 141, 142, 143, 144, 145, 146, 147] (by decide +kernel) (by decide +kernel)
set_option maxRecDepth 20000 in
theorem gX7_best_X5_gainOfOffers : GoodIn wsX7_best (wsV RX7 207 RX5 yX5_gainOfOffers wsX5_gainOfOffers) := goodIn_app (goodIn_of _ (by decide +kernel)) ggX7_best_X5_gainOfOffers
theorem dX7_best_0 : decode cX7_best 0 = .ok (.aload_n 0, 1) := by decide +kernel
theorem dX7_best_1 : decode cX7_best 1 = .ok (.getfield 10, 3) := by decide +kernel
theorem dX7_best_4 : decode cX7_best 4 = .ok (.iload_n 1, 1) := by decide +kernel
theorem dX7_best_5 : decode cX7_best 5 = .ok (.invokevirtual 87, 3) := by decide +kernel
theorem dX7_best_8 : decode cX7_best 8 = .ok (.ifCond .eq 12, 3) := by decide +kernel
theorem dX7_best_11 : decode cX7_best 11 = .ok (.iload_n 2, 1) := by decide +kernel
theorem dX7_best_12 : decode cX7_best 12 = .ok (.iconst 0, 1) := by decide +kernel
theorem dX7_best_13 : decode cX7_best 13 = .ok (.iconst 1, 1) := by decide +kernel
theorem dX7_best_14 : decode cX7_best 14 = .ok (.invokestatic 62, 3) := by decide +kernel
theorem dX7_best_17 : decode cX7_best 17 = .ok (.ifCond .ne 8, 3) := by decide +kernel
theorem dX7_best_20 : decode cX7_best 20 = .ok (.aload_n 0, 1) := by decide +kernel
theorem dX7_best_21 : decode cX7_best 21 = .ok (.invokevirtual 66, 3) := by decide +kernel
theorem dX7_best_24 : decode cX7_best 24 = .ok (.ireturn, 1) := by decide +kernel
theorem dX7_best_25 : decode cX7_best 25 = .ok (.aload_n 0, 1) := by decide +kernel
theorem dX7_best_26 : decode cX7_best 26 = .ok (.getfield 43, 3) := by decide +kernel
theorem dX7_best_29 : decode cX7_best 29 = .ok (.aload_n 0, 1) := by decide +kernel
theorem dX7_best_30 : decode cX7_best 30 = .ok (.getfield 10, 3) := by decide +kernel
theorem dX7_best_33 : decode cX7_best 33 = .ok (.iload_n 1, 1) := by decide +kernel
theorem dX7_best_34 : decode cX7_best 34 = .ok (.invokevirtual 204, 3) := by decide +kernel
theorem dX7_best_37 : decode cX7_best 37 = .ok (.istore_n 3, 1) := by decide +kernel
theorem dX7_best_38 : decode cX7_best 38 = .ok (.iload_n 2, 1) := by decide +kernel
theorem dX7_best_39 : decode cX7_best 39 = .ok (.ifCond .ne 14, 3) := by decide +kernel
theorem dX7_best_42 : decode cX7_best 42 = .ok (.aload_n 0, 1) := by decide +kernel
theorem dX7_best_43 : decode cX7_best 43 = .ok (.getfield 10, 3) := by decide +kernel
theorem dX7_best_46 : decode cX7_best 46 = .ok (.iload_n 3, 1) := by decide +kernel
theorem dX7_best_47 : decode cX7_best 47 = .ok (.invokevirtual 207, 3) := by decide +kernel
theorem dX7_best_50 : decode cX7_best 50 = .ok (.goto 4, 3) := by decide +kernel
theorem dX7_best_53 : decode cX7_best 53 = .ok (.iload_n 3, 1) := by decide +kernel
theorem dX7_best_54 : decode cX7_best 54 = .ok (.ireturn, 1) := by decide +kernel
set_option maxRecDepth 20000 in
theorem ggX7_joins_J6_bitCount_0f7a4 : GoodIn wsX7_joins wsJ6_bitCount_0f7a4 := goodIn_r _ [6, 7, 8, 9] (by decide +kernel) (by decide +kernel)
set_option maxRecDepth 20000 in
theorem gX7_joins_J6_bitCount_0f7a4 : GoodIn wsX7_joins (va_wsS RX7 210 yJ6_bitCount_0f7a4 wsJ6_bitCount_0f7a4) := goodIn_app (goodIn_of _ (by decide +kernel)) ggX7_joins_J6_bitCount_0f7a4
set_option maxRecDepth 20000 in
theorem ggX7_joins_X5_holesMakeWhole : GoodIn wsX7_joins wsX5_holesMakeWhole := goodIn_r _ [14, 15, 16, 17, 18, 19, 20, 21, 22, 23, 24, 13, 25, 26, 38, 39, 40, 41, 42, 43, 44, 45, 46, 47, 48, 49, 50, 51, 52, 53, 54] (by decide +kernel) (by decide +kernel)
set_option maxRecDepth 20000 in
theorem gX7_joins_X5_holesMakeWhole : GoodIn wsX7_joins (wsV RX7 215 RX5 yX5_holesMakeWhole wsX5_holesMakeWhole) := goodIn_app (goodIn_of _ (by decide +kernel)) ggX7_joins_X5_holesMakeWhole
theorem dX7_joins_0 : decode cX7_joins 0 = .ok (.bipush 9, 2) := by decide +kernel
theorem dX7_joins_2 : decode cX7_joins 2 = .ok (.istore_n 1, 1) := by decide +kernel
theorem dX7_joins_3 : decode cX7_joins 3 = .ok (.iconst (-1), 1) := by decide +kernel
theorem dX7_joins_4 : decode cX7_joins 4 = .ok (.istore_n 2, 1) := by decide +kernel
theorem dX7_joins_5 : decode cX7_joins 5 = .ok (.iconst 1, 1) := by decide +kernel
theorem dX7_joins_6 : decode cX7_joins 6 = .ok (.istore_n 3, 1) := by decide +kernel
theorem dX7_joins_7 : decode cX7_joins 7 = .ok (.iload_n 3, 1) := by decide +kernel
theorem dX7_joins_8 : decode cX7_joins 8 = .ok (.iconst 1, 1) := by decide +kernel
theorem dX7_joins_9 : decode cX7_joins 9 = .ok (.aload_n 0, 1) := by decide +kernel
theorem dX7_joins_10 : decode cX7_joins 10 = .ok (.getfield 10, 3) := by decide +kernel
theorem dX7_joins_13 : decode cX7_joins 13 = .ok (.getfield 91, 3) := by decide +kernel
theorem dX7_joins_16 : decode cX7_joins 16 = .ok (.ishl, 1) := by decide +kernel
theorem dX7_joins_17 : decode cX7_joins 17 = .ok (.if_icmp .ge 37, 3) := by decide +kernel
theorem dX7_joins_20 : decode cX7_joins 20 = .ok (.iload_n 3, 1) := by decide +kernel
theorem dX7_joins_21 : decode cX7_joins 21 = .ok (.invokestatic 210, 3) := by decide +kernel
theorem dX7_joins_24 : decode cX7_joins 24 = .ok (.istore 4, 2) := by decide +kernel
theorem dX7_joins_26 : decode cX7_joins 26 = .ok (.iload 4, 2) := by decide +kernel
theorem dX7_joins_28 : decode cX7_joins 28 = .ok (.iload_n 1, 1) := by decide +kernel
theorem dX7_joins_29 : decode cX7_joins 29 = .ok (.if_icmp .ge 19, 3) := by decide +kernel
theorem dX7_joins_32 : decode cX7_joins 32 = .ok (.aload_n 0, 1) := by decide +kernel
theorem dX7_joins_33 : decode cX7_joins 33 = .ok (.getfield 10, 3) := by decide +kernel
theorem dX7_joins_36 : decode cX7_joins 36 = .ok (.iload_n 3, 1) := by decide +kernel
theorem dX7_joins_37 : decode cX7_joins 37 = .ok (.invokevirtual 215, 3) := by decide +kernel
theorem dX7_joins_40 : decode cX7_joins 40 = .ok (.ifCond .eq 8, 3) := by decide +kernel
theorem dX7_joins_43 : decode cX7_joins 43 = .ok (.iload 4, 2) := by decide +kernel
theorem dX7_joins_45 : decode cX7_joins 45 = .ok (.istore_n 1, 1) := by decide +kernel
theorem dX7_joins_46 : decode cX7_joins 46 = .ok (.iload_n 3, 1) := by decide +kernel
theorem dX7_joins_47 : decode cX7_joins 47 = .ok (.istore_n 2, 1) := by decide +kernel
theorem dX7_joins_48 : decode cX7_joins 48 = .ok (.iinc 3 1, 3) := by decide +kernel
theorem dX7_joins_51 : decode cX7_joins 51 = .ok (.goto (-44), 3) := by decide +kernel
theorem dX7_joins_54 : decode cX7_joins 54 = .ok (.iload_n 2, 1) := by decide +kernel
theorem dX7_joins_55 : decode cX7_joins 55 = .ok (.ireturn, 1) := by decide +kernel
set_option maxRecDepth 20000 in
theorem ggX7_run_X5_paidInOrder : GoodIn wsX7_run wsX5_paidInOrder := goodIn_r _ [11, 12, 13, 14, 15, 16, 10, 17, 18, 19, 20, 21, 22, 23, 24, 25, 26, 27, 28, 29, 30, 31, 32, 33, 34, 70, 71, 72, 73, 74, 75, 76, 77, 78, 79, 80, 81, 82, 83, 84, 85, 86] (by decide +kernel) (by decide +kernel)
set_option maxRecDepth 20000 in
theorem gX7_run_X5_paidInOrder : GoodIn wsX7_run (wsV RX7 218 RX5 yX5_paidInOrder wsX5_paidInOrder) := goodIn_app (goodIn_of _ (by decide +kernel)) ggX7_run_X5_paidInOrder
set_option maxRecDepth 20000 in
theorem ggX7_run_X5_leftInOrder : GoodIn wsX7_run wsX5_leftInOrder := goodIn_r _ [38, 12, 13, 14, 15, 16, 10, 17, 18, 19, 20, 21, 22, 23, 24, 25, 26, 27, 28, 29, 30, 31, 32, 33, 34, 70, 71, 72, 73, 74, 75, 76, 77, 78, 79, 80, 81, 82, 83, 84, 85, 86] (by decide +kernel) (by decide +kernel)
set_option maxRecDepth 20000 in
theorem gX7_run_X5_leftInOrder : GoodIn wsX7_run (wsV RX7 221 RX5 yX5_leftInOrder wsX5_leftInOrder) := goodIn_app (goodIn_of _ (by decide +kernel)) ggX7_run_X5_leftInOrder
set_option maxRecDepth 20000 in
theorem ggX7_run_X5_paidInBestOrder : GoodIn wsX7_run wsX5_paidInBestOrder := goodIn_r _ [42, 12, 13, 43, 44, 45, 10, 46, 47, 48, 49, 14, 15, 16, 17, 18, 19, 20, 21, 22, 23, 24, 25, 26, 27, 28, 29, 30, 31, 32, 33, 34, 70, 71, 72, 73, 74, 75, 76, 77, 78, 79, 80, 81, 82, 83, 84, 85, 86] (by decide +kernel) (by decide +kernel)
set_option maxRecDepth 20000 in
theorem gX7_run_X5_paidInBestOrder : GoodIn wsX7_run (wsV RX7 224 RX5 yX5_paidInBestOrder wsX5_paidInBestOrder) := goodIn_app (goodIn_of _ (by decide +kernel)) ggX7_run_X5_paidInBestOrder
set_option maxRecDepth 20000 in
theorem ggX7_run_X5_wantedByAll : GoodIn wsX7_run wsX5_wantedByAll := goodIn_r _ [53, 13, 14, 15, 16, 10, 17, 18, 19, 20, 21, 22, 23, 24, 25, 26, 27, 28, 29, 30, 31, 32, 33, 34, 70, 71, 72, 73, 74, 75, 76, 77, 78, 79, 80, 81, 82, 83, 84, 85, 86] (by decide +kernel) (by decide +kernel)
set_option maxRecDepth 20000 in
theorem gX7_run_X5_wantedByAll : GoodIn wsX7_run (wsV RX7 227 RX5 yX5_wantedByAll wsX5_wantedByAll) := goodIn_app (goodIn_of _ (by decide +kernel)) ggX7_run_X5_wantedByAll
set_option maxRecDepth 20000 in
theorem ggX7_run_X7_bad : GoodIn wsX7_run wsX7_bad := goodIn_r _ [57, 58, 59, 60, 61, 62, 63, 64, 65, 66, 67, 68, 69] (by decide +kernel) (by decide +kernel)
set_option maxRecDepth 20000 in
theorem gX7_run_X7_bad : GoodIn wsX7_run (wsV RX7 66 RX7 yX7_bad wsX7_bad) := goodIn_app (goodIn_of _ (by decide +kernel)) ggX7_run_X7_bad
theorem dX7_run_0 : decode cX7_run 0 = .ok (.iload_n 1, 1) := by decide +kernel
theorem dX7_run_1 : decode cX7_run 1 = .ok (.tableswitch 75 0 3 #[31, 39, 47, 55], 31) := by decide +kernel
theorem dX7_run_32 : decode cX7_run 32 = .ok (.aload_n 0, 1) := by decide +kernel
theorem dX7_run_33 : decode cX7_run 33 = .ok (.getfield 10, 3) := by decide +kernel
theorem dX7_run_36 : decode cX7_run 36 = .ok (.invokevirtual 218, 3) := by decide +kernel
theorem dX7_run_39 : decode cX7_run 39 = .ok (.ireturn, 1) := by decide +kernel
theorem dX7_run_40 : decode cX7_run 40 = .ok (.aload_n 0, 1) := by decide +kernel
theorem dX7_run_41 : decode cX7_run 41 = .ok (.getfield 10, 3) := by decide +kernel
theorem dX7_run_44 : decode cX7_run 44 = .ok (.invokevirtual 221, 3) := by decide +kernel
theorem dX7_run_47 : decode cX7_run 47 = .ok (.ireturn, 1) := by decide +kernel
theorem dX7_run_48 : decode cX7_run 48 = .ok (.aload_n 0, 1) := by decide +kernel
theorem dX7_run_49 : decode cX7_run 49 = .ok (.getfield 10, 3) := by decide +kernel
theorem dX7_run_52 : decode cX7_run 52 = .ok (.invokevirtual 224, 3) := by decide +kernel
theorem dX7_run_55 : decode cX7_run 55 = .ok (.ireturn, 1) := by decide +kernel
theorem dX7_run_56 : decode cX7_run 56 = .ok (.iconst 0, 1) := by decide +kernel
theorem dX7_run_57 : decode cX7_run 57 = .ok (.aload_n 0, 1) := by decide +kernel
theorem dX7_run_58 : decode cX7_run 58 = .ok (.getfield 10, 3) := by decide +kernel
theorem dX7_run_61 : decode cX7_run 61 = .ok (.invokevirtual 227, 3) := by decide +kernel
theorem dX7_run_64 : decode cX7_run 64 = .ok (.aload_n 0, 1) := by decide +kernel
theorem dX7_run_65 : decode cX7_run 65 = .ok (.getfield 10, 3) := by decide +kernel
theorem dX7_run_68 : decode cX7_run 68 = .ok (.getfield 70, 3) := by decide +kernel
theorem dX7_run_71 : decode cX7_run 71 = .ok (.isub, 1) := by decide +kernel
theorem dX7_run_72 : decode cX7_run 72 = .ok (.invokestatic 230, 3) := by decide +kernel
theorem dX7_run_75 : decode cX7_run 75 = .ok (.ireturn, 1) := by decide +kernel
theorem dX7_run_76 : decode cX7_run 76 = .ok (.aload_n 0, 1) := by decide +kernel
theorem dX7_run_77 : decode cX7_run 77 = .ok (.invokevirtual 66, 3) := by decide +kernel
theorem dX7_run_80 : decode cX7_run 80 = .ok (.ireturn, 1) := by decide +kernel
set_option maxRecDepth 20000 in
theorem ggX7_will_X5_hasPerson : GoodIn wsX7_will wsX5_hasPerson := goodIn_r _ [10, 11, 88, 89, 90, 91, 92, 93, 94, 95, 96, 97, 98, 99, 100, 101, 102, 103, 104] (by decide +kernel) (by decide +kernel)
set_option maxRecDepth 20000 in
theorem gX7_will_X5_hasPerson : GoodIn wsX7_will (wsV RX7 87 RX5 yX5_hasPerson wsX5_hasPerson) := goodIn_app (goodIn_of _ (by decide +kernel)) ggX7_will_X5_hasPerson
set_option maxRecDepth 20000 in
theorem ggX7_will_X7_within : GoodIn wsX7_will wsX7_within := goodIn_r _ [15] (by decide +kernel) (by decide +kernel)
set_option maxRecDepth 20000 in
theorem gX7_will_X7_within : GoodIn wsX7_will (va_wsS RX7 62 yX7_within wsX7_within) := goodIn_app (goodIn_of _ (by decide +kernel)) ggX7_will_X7_within
set_option maxRecDepth 20000 in
theorem ggX7_will_J6_bitCount_0f7a4 : GoodIn wsX7_will wsJ6_bitCount_0f7a4 := goodIn_r _ [19, 20, 21, 22] (by decide +kernel) (by decide +kernel)
set_option maxRecDepth 20000 in
theorem gX7_will_J6_bitCount_0f7a4 : GoodIn wsX7_will (va_wsS RX7 210 yJ6_bitCount_0f7a4 wsJ6_bitCount_0f7a4) := goodIn_app (goodIn_of _ (by decide +kernel)) ggX7_will_J6_bitCount_0f7a4
set_option maxRecDepth 20000 in
theorem ggX7_will_X7_bad : GoodIn wsX7_will wsX7_bad := goodIn_r _ [26, 27, 77, 78, 79, 80, 81, 82, 83, 84, 85, 86, 87] (by decide +kernel) (by decide +kernel)
set_option maxRecDepth 20000 in
theorem gX7_will_X7_bad : GoodIn wsX7_will (wsV RX7 66 RX7 yX7_bad wsX7_bad) := goodIn_app (goodIn_of _ (by decide +kernel)) ggX7_will_X7_bad
set_option maxRecDepth 20000 in
theorem ggX7_will_X7_hasBit : GoodIn wsX7_will wsX7_hasBit := goodIn_r _ [30] (by decide +kernel) (by decide +kernel)
set_option maxRecDepth 20000 in
theorem gX7_will_X7_hasBit : GoodIn wsX7_will (va_wsS RX7 233 yX7_hasBit wsX7_hasBit) := goodIn_app (goodIn_of _ (by decide +kernel)) ggX7_will_X7_hasBit
set_option maxRecDepth 20000 in
theorem ggX7_will_X6_share : GoodIn wsX7_will wsX6_share := goodIn_r _ [35, 36, 37, 38, 39, 40, 34, 41, 42, 43, 44, 45, 46, 47, 48, 49, 9, 50, 51, 52, 53, 54, 55, 56, 57, 58, 59, 29, 14, 30, 60, 61, 62, 63, 64, 65, 66, 67, 68, 69, 70, 71, 72, 105, 106, 107, 108, 109, 110, 111, 88, 89, 90, 91, 92, 93, 94, 95, 96, 97, 98, 99, 100, 101, 102, 103, 104] (by decide +kernel) (by decide +kernel)
set_option maxRecDepth 20000 in
theorem gX7_will_X6_share : GoodIn wsX7_will (wsV RX7 236 RX6 yX6_share wsX6_share) := goodIn_app (goodIn_of _ (by decide +kernel)) ggX7_will_X6_share
set_option maxRecDepth 20000 in
theorem ggX7_will_X6_heirOf : GoodIn wsX7_will wsX6_heirOf := goodIn_r _ [76, 42, 57, 37, 59, 105, 106, 107, 108, 109, 110, 111] (by decide +kernel) (by decide +kernel)
set_option maxRecDepth 20000 in
theorem gX7_will_X6_heirOf : GoodIn wsX7_will (wsV RX7 246 RX6 yX6_heirOf wsX6_heirOf) := goodIn_app (goodIn_of _ (by decide +kernel)) ggX7_will_X6_heirOf
theorem dX7_will_0 : decode cX7_will 0 = .ok (.aload_n 0, 1) := by decide +kernel
theorem dX7_will_1 : decode cX7_will 1 = .ok (.getfield 10, 3) := by decide +kernel
theorem dX7_will_4 : decode cX7_will 4 = .ok (.iload_n 1, 1) := by decide +kernel
theorem dX7_will_5 : decode cX7_will 5 = .ok (.invokevirtual 87, 3) := by decide +kernel
theorem dX7_will_8 : decode cX7_will 8 = .ok (.ifCond .eq 39, 3) := by decide +kernel
theorem dX7_will_11 : decode cX7_will 11 = .ok (.iload_n 2, 1) := by decide +kernel
theorem dX7_will_12 : decode cX7_will 12 = .ok (.iconst 0, 1) := by decide +kernel
theorem dX7_will_13 : decode cX7_will 13 = .ok (.iconst 1, 1) := by decide +kernel
theorem dX7_will_14 : decode cX7_will 14 = .ok (.aload_n 0, 1) := by decide +kernel
theorem dX7_will_15 : decode cX7_will 15 = .ok (.getfield 10, 3) := by decide +kernel
theorem dX7_will_18 : decode cX7_will 18 = .ok (.getfield 77, 3) := by decide +kernel
theorem dX7_will_21 : decode cX7_will 21 = .ok (.ishl, 1) := by decide +kernel
theorem dX7_will_22 : decode cX7_will 22 = .ok (.iconst 1, 1) := by decide +kernel
theorem dX7_will_23 : decode cX7_will 23 = .ok (.isub, 1) := by decide +kernel
theorem dX7_will_24 : decode cX7_will 24 = .ok (.invokestatic 62, 3) := by decide +kernel
theorem dX7_will_27 : decode cX7_will 27 = .ok (.ifCond .eq 20, 3) := by decide +kernel
theorem dX7_will_30 : decode cX7_will 30 = .ok (.iload_n 2, 1) := by decide +kernel
theorem dX7_will_31 : decode cX7_will 31 = .ok (.invokestatic 210, 3) := by decide +kernel
theorem dX7_will_34 : decode cX7_will 34 = .ok (.iconst 3, 1) := by decide +kernel
theorem dX7_will_35 : decode cX7_will 35 = .ok (.if_icmp .gt 12, 3) := by decide +kernel
theorem dX7_will_38 : decode cX7_will 38 = .ok (.iload_n 3, 1) := by decide +kernel
theorem dX7_will_39 : decode cX7_will 39 = .ok (.iconst (-1), 1) := by decide +kernel
theorem dX7_will_40 : decode cX7_will 40 = .ok (.if_icmp .lt 7, 3) := by decide +kernel
theorem dX7_will_43 : decode cX7_will 43 = .ok (.iconst 1, 1) := by decide +kernel
theorem dX7_will_44 : decode cX7_will 44 = .ok (.goto 4, 3) := by decide +kernel
theorem dX7_will_47 : decode cX7_will 47 = .ok (.iconst 0, 1) := by decide +kernel
theorem dX7_will_48 : decode cX7_will 48 = .ok (.istore 4, 2) := by decide +kernel
theorem dX7_will_50 : decode cX7_will 50 = .ok (.iload 4, 2) := by decide +kernel
theorem dX7_will_52 : decode cX7_will 52 = .ok (.ifCond .ne 11, 3) := by decide +kernel
theorem dX7_will_55 : decode cX7_will 55 = .ok (.aload_n 0, 1) := by decide +kernel
theorem dX7_will_56 : decode cX7_will 56 = .ok (.invokevirtual 66, 3) := by decide +kernel
theorem dX7_will_59 : decode cX7_will 59 = .ok (.pop, 1) := by decide +kernel
theorem dX7_will_60 : decode cX7_will 60 = .ok (.bipush (-10), 2) := by decide +kernel
theorem dX7_will_62 : decode cX7_will 62 = .ok (.ireturn, 1) := by decide +kernel
theorem dX7_will_63 : decode cX7_will 63 = .ok (.iload_n 2, 1) := by decide +kernel
theorem dX7_will_64 : decode cX7_will 64 = .ok (.ifCond .eq 11, 3) := by decide +kernel
theorem dX7_will_67 : decode cX7_will 67 = .ok (.iload_n 2, 1) := by decide +kernel
theorem dX7_will_68 : decode cX7_will 68 = .ok (.iload_n 1, 1) := by decide +kernel
theorem dX7_will_69 : decode cX7_will 69 = .ok (.invokestatic 233, 3) := by decide +kernel
theorem dX7_will_72 : decode cX7_will 72 = .ok (.ifCond .eq 5, 3) := by decide +kernel
theorem dX7_will_75 : decode cX7_will 75 = .ok (.iconst (-1), 1) := by decide +kernel
theorem dX7_will_76 : decode cX7_will 76 = .ok (.ireturn, 1) := by decide +kernel
theorem dX7_will_77 : decode cX7_will 77 = .ok (.aload_n 0, 1) := by decide +kernel
theorem dX7_will_78 : decode cX7_will 78 = .ok (.getfield 50, 3) := by decide +kernel
theorem dX7_will_81 : decode cX7_will 81 = .ok (.aload_n 0, 1) := by decide +kernel
theorem dX7_will_82 : decode cX7_will 82 = .ok (.getfield 10, 3) := by decide +kernel
theorem dX7_will_85 : decode cX7_will 85 = .ok (.iload_n 1, 1) := by decide +kernel
theorem dX7_will_86 : decode cX7_will 86 = .ok (.iload_n 2, 1) := by decide +kernel
theorem dX7_will_87 : decode cX7_will 87 = .ok (.invokevirtual 236, 3) := by decide +kernel
theorem dX7_will_90 : decode cX7_will 90 = .ok (.iload_n 3, 1) := by decide +kernel
theorem dX7_will_91 : decode cX7_will 91 = .ok (.iconst (-1), 1) := by decide +kernel
theorem dX7_will_92 : decode cX7_will 92 = .ok (.if_icmp .ne 11, 3) := by decide +kernel
theorem dX7_will_95 : decode cX7_will 95 = .ok (.aload_n 0, 1) := by decide +kernel
theorem dX7_will_96 : decode cX7_will 96 = .ok (.getfield 50, 3) := by decide +kernel
theorem dX7_will_99 : decode cX7_will 99 = .ok (.getfield 240, 3) := by decide +kernel
theorem dX7_will_102 : decode cX7_will 102 = .ok (.ireturn, 1) := by decide +kernel
theorem dX7_will_103 : decode cX7_will 103 = .ok (.iload_n 3, 1) := by decide +kernel
theorem dX7_will_104 : decode cX7_will 104 = .ok (.aload_n 0, 1) := by decide +kernel
theorem dX7_will_105 : decode cX7_will 105 = .ok (.getfield 50, 3) := by decide +kernel
theorem dX7_will_108 : decode cX7_will 108 = .ok (.getfield 243, 3) := by decide +kernel
theorem dX7_will_111 : decode cX7_will 111 = .ok (.if_icmp .ge 14, 3) := by decide +kernel
theorem dX7_will_114 : decode cX7_will 114 = .ok (.aload_n 0, 1) := by decide +kernel
theorem dX7_will_115 : decode cX7_will 115 = .ok (.getfield 50, 3) := by decide +kernel
theorem dX7_will_118 : decode cX7_will 118 = .ok (.iload_n 3, 1) := by decide +kernel
theorem dX7_will_119 : decode cX7_will 119 = .ok (.invokevirtual 246, 3) := by decide +kernel
theorem dX7_will_122 : decode cX7_will 122 = .ok (.goto 5, 3) := by decide +kernel
theorem dX7_will_125 : decode cX7_will 125 = .ok (.bipush (-5), 2) := by decide +kernel
theorem dX7_will_127 : decode cX7_will 127 = .ok (.ireturn, 1) := by decide +kernel
set_option maxRecDepth 20000 in
theorem ggX7_whom_X7_within : GoodIn wsX7_whom wsX7_within := goodIn_r _ [6] (by decide +kernel) (by decide +kernel)
set_option maxRecDepth 20000 in
theorem gX7_whom_X7_within : GoodIn wsX7_whom (va_wsS RX7 62 yX7_within wsX7_within) := goodIn_app (goodIn_of _ (by decide +kernel)) ggX7_whom_X7_within
set_option maxRecDepth 20000 in
theorem ggX7_whom_X7_bad : GoodIn wsX7_whom wsX7_bad := goodIn_r _ [10, 11, 94, 95, 96, 97, 98, 99, 100, 101, 102, 103, 104] (by decide +kernel) (by decide +kernel)
set_option maxRecDepth 20000 in
theorem gX7_whom_X7_bad : GoodIn wsX7_whom (wsV RX7 66 RX7 yX7_bad wsX7_bad) := goodIn_app (goodIn_of _ (by decide +kernel)) ggX7_whom_X7_bad
set_option maxRecDepth 20000 in
theorem ggX7_whom_X1_hadInMonth : GoodIn wsX7_whom wsX1_hadInMonth := goodIn_r _ [16, 17, 18, 19, 20, 21, 15, 22, 23, 24, 25, 26, 27, 28, 29, 30, 31, 32, 33, 34, 35, 36, 37, 38, 39, 40, 41, 42, 43, 44, 45, 46, 47, 48, 49, 50, 51, 52, 53, 5, 54, 55, 56, 57, 58, 59, 60, 61, 62, 63, 64, 65, 66, 67, 68, 69, 70, 71, 72, 73, 74, 75, 76, 77, 78, 79, 80, 81, 82, 83, 84, 85, 86, 87, 88, 89, 90, 91, 92, 93, 105, 106, 107, 108, 109, 110, 111, 112, 113, 114, 115, 116, 117, 118, 119, 120, 121, 122] (by decide +kernel) (by decide +kernel)
set_option maxRecDepth 20000 in
theorem gX7_whom_X1_hadInMonth : GoodIn wsX7_whom (wsV RX7 249 RX1 yX1_hadInMonth wsX1_hadInMonth) := goodIn_app (goodIn_of _ (by decide +kernel)) ggX7_whom_X1_hadInMonth
theorem dX7_whom_0 : decode cX7_whom 0 = .ok (.iload_n 1, 1) := by decide +kernel
theorem dX7_whom_1 : decode cX7_whom 1 = .ok (.iconst 0, 1) := by decide +kernel
theorem dX7_whom_2 : decode cX7_whom 2 = .ok (.bipush 59, 2) := by decide +kernel
theorem dX7_whom_4 : decode cX7_whom 4 = .ok (.invokestatic 62, 3) := by decide +kernel
theorem dX7_whom_7 : decode cX7_whom 7 = .ok (.ifCond .ne 8, 3) := by decide +kernel
theorem dX7_whom_10 : decode cX7_whom 10 = .ok (.aload_n 0, 1) := by decide +kernel
theorem dX7_whom_11 : decode cX7_whom 11 = .ok (.invokevirtual 66, 3) := by decide +kernel
theorem dX7_whom_14 : decode cX7_whom 14 = .ok (.ireturn, 1) := by decide +kernel
theorem dX7_whom_15 : decode cX7_whom 15 = .ok (.aload_n 0, 1) := by decide +kernel
theorem dX7_whom_16 : decode cX7_whom 16 = .ok (.getfield 43, 3) := by decide +kernel
theorem dX7_whom_19 : decode cX7_whom 19 = .ok (.aload_n 0, 1) := by decide +kernel
theorem dX7_whom_20 : decode cX7_whom 20 = .ok (.getfield 10, 3) := by decide +kernel
theorem dX7_whom_23 : decode cX7_whom 23 = .ok (.iload_n 1, 1) := by decide +kernel
theorem dX7_whom_24 : decode cX7_whom 24 = .ok (.iload_n 2, 1) := by decide +kernel
theorem dX7_whom_25 : decode cX7_whom 25 = .ok (.invokevirtual 249, 3) := by decide +kernel
theorem dX7_whom_28 : decode cX7_whom 28 = .ok (.ireturn, 1) := by decide +kernel
set_option maxRecDepth 20000 in
theorem ggX7_price_X5_hasLoan : GoodIn wsX7_price wsX5_hasLoan := goodIn_r _ [8, 9, 33, 34, 35, 36, 37, 38, 39, 40, 41, 42, 43, 44, 45, 46, 47, 48, 49] (by decide +kernel) (by decide +kernel)
set_option maxRecDepth 20000 in
theorem gX7_price_X5_hasLoan : GoodIn wsX7_price (wsV RX7 136 RX5 yX5_hasLoan wsX5_hasLoan) := goodIn_app (goodIn_of _ (by decide +kernel)) ggX7_price_X5_hasLoan
set_option maxRecDepth 20000 in
theorem ggX7_price_X7_bad : GoodIn wsX7_price wsX7_bad := goodIn_r _ [14, 15, 22, 23, 24, 25, 26, 27, 28, 29, 30, 31, 32] (by decide +kernel) (by decide +kernel)
set_option maxRecDepth 20000 in
theorem gX7_price_X7_bad : GoodIn wsX7_price (wsV RX7 66 RX7 yX7_bad wsX7_bad) := goodIn_app (goodIn_of _ (by decide +kernel)) ggX7_price_X7_bad
set_option maxRecDepth 20000 in
theorem ggX7_price_X5_givenPence : GoodIn wsX7_price wsX5_givenPence := goodIn_r _ [19, 20, 21, 33, 34, 35, 36, 37, 38, 39, 40, 41, 42, 43, 44, 45, 46, 47, 48, 49] (by decide +kernel) (by decide +kernel)
set_option maxRecDepth 20000 in
theorem gX7_price_X5_givenPence : GoodIn wsX7_price (wsV RX7 252 RX5 yX5_givenPence wsX5_givenPence) := goodIn_app (goodIn_of _ (by decide +kernel)) ggX7_price_X5_givenPence
theorem dX7_price_0 : decode cX7_price 0 = .ok (.aload_n 0, 1) := by decide +kernel
theorem dX7_price_1 : decode cX7_price 1 = .ok (.getfield 10, 3) := by decide +kernel
theorem dX7_price_4 : decode cX7_price 4 = .ok (.iload_n 1, 1) := by decide +kernel
theorem dX7_price_5 : decode cX7_price 5 = .ok (.invokevirtual 136, 3) := by decide +kernel
theorem dX7_price_8 : decode cX7_price 8 = .ok (.ifCond .eq 16, 3) := by decide +kernel
theorem dX7_price_11 : decode cX7_price 11 = .ok (.aload_n 0, 1) := by decide +kernel
theorem dX7_price_12 : decode cX7_price 12 = .ok (.getfield 10, 3) := by decide +kernel
theorem dX7_price_15 : decode cX7_price 15 = .ok (.getfield 180, 3) := by decide +kernel
theorem dX7_price_18 : decode cX7_price 18 = .ok (.iload_n 1, 1) := by decide +kernel
theorem dX7_price_19 : decode cX7_price 19 = .ok (.iaload, 1) := by decide +kernel
theorem dX7_price_20 : decode cX7_price 20 = .ok (.iconst 1, 1) := by decide +kernel
theorem dX7_price_21 : decode cX7_price 21 = .ok (.if_icmp .ge 8, 3) := by decide +kernel
theorem dX7_price_24 : decode cX7_price 24 = .ok (.aload_n 0, 1) := by decide +kernel
theorem dX7_price_25 : decode cX7_price 25 = .ok (.invokevirtual 66, 3) := by decide +kernel
theorem dX7_price_28 : decode cX7_price 28 = .ok (.ireturn, 1) := by decide +kernel
theorem dX7_price_29 : decode cX7_price 29 = .ok (.aload_n 0, 1) := by decide +kernel
theorem dX7_price_30 : decode cX7_price 30 = .ok (.getfield 10, 3) := by decide +kernel
theorem dX7_price_33 : decode cX7_price 33 = .ok (.iload_n 1, 1) := by decide +kernel
theorem dX7_price_34 : decode cX7_price 34 = .ok (.invokevirtual 252, 3) := by decide +kernel
theorem dX7_price_37 : decode cX7_price 37 = .ok (.aload_n 0, 1) := by decide +kernel
theorem dX7_price_38 : decode cX7_price 38 = .ok (.getfield 10, 3) := by decide +kernel
theorem dX7_price_41 : decode cX7_price 41 = .ok (.getfield 183, 3) := by decide +kernel
theorem dX7_price_44 : decode cX7_price 44 = .ok (.iload_n 1, 1) := by decide +kernel
theorem dX7_price_45 : decode cX7_price 45 = .ok (.iaload, 1) := by decide +kernel
theorem dX7_price_46 : decode cX7_price 46 = .ok (.imul, 1) := by decide +kernel
theorem dX7_price_47 : decode cX7_price 47 = .ok (.aload_n 0, 1) := by decide +kernel
theorem dX7_price_48 : decode cX7_price 48 = .ok (.getfield 10, 3) := by decide +kernel
theorem dX7_price_51 : decode cX7_price 51 = .ok (.getfield 180, 3) := by decide +kernel
theorem dX7_price_54 : decode cX7_price 54 = .ok (.iload_n 1, 1) := by decide +kernel
theorem dX7_price_55 : decode cX7_price 55 = .ok (.iaload, 1) := by decide +kernel
theorem dX7_price_56 : decode cX7_price 56 = .ok (.idiv, 1) := by decide +kernel
theorem dX7_price_57 : decode cX7_price 57 = .ok (.ireturn, 1) := by decide +kernel
set_option maxRecDepth 20000 in
theorem ggX7_luck_X5_hasLoan : GoodIn wsX7_luck wsX5_hasLoan := goodIn_r _ [8, 9, 61, 62, 63, 64, 65, 66, 67, 68, 69, 70, 71, 72, 73, 74, 75, 76, 77] (by decide +kernel) (by decide +kernel)
set_option maxRecDepth 20000 in
theorem gX7_luck_X5_hasLoan : GoodIn wsX7_luck (wsV RX7 136 RX5 yX5_hasLoan wsX5_hasLoan) := goodIn_app (goodIn_of _ (by decide +kernel)) ggX7_luck_X5_hasLoan
set_option maxRecDepth 20000 in
theorem ggX7_luck_X7_within : GoodIn wsX7_luck wsX7_within := goodIn_r _ [13] (by decide +kernel) (by decide +kernel)
set_option maxRecDepth 20000 in
theorem gX7_luck_X7_within : GoodIn wsX7_luck (va_wsS RX7 62 yX7_within wsX7_within) := goodIn_app (goodIn_of _ (by decide +kernel)) ggX7_luck_X7_within
set_option maxRecDepth 20000 in
theorem ggX7_luck_X7_bad : GoodIn wsX7_luck wsX7_bad := goodIn_r _ [17, 18, 50, 51, 52, 53, 54, 55, 56, 57, 58, 59, 60] (by decide +kernel) (by decide +kernel)
set_option maxRecDepth 20000 in
theorem gX7_luck_X7_bad : GoodIn wsX7_luck (wsV RX7 66 RX7 yX7_bad wsX7_bad) := goodIn_app (goodIn_of _ (by decide +kernel)) ggX7_luck_X7_bad
set_option maxRecDepth 20000 in
theorem ggX7_luck_X7_no : GoodIn wsX7_luck wsX7_no := goodIn_r _ [22, 23, 50, 51, 52, 53, 54, 55, 56, 57, 58, 59, 60] (by decide +kernel) (by decide +kernel)
set_option maxRecDepth 20000 in
theorem gX7_luck_X7_no : GoodIn wsX7_luck (wsV RX7 143 RX7 yX7_no wsX7_no) := goodIn_app (goodIn_of _ (by decide +kernel)) ggX7_luck_X7_no
set_option maxRecDepth 20000 in
theorem ggX7_luck_X0_giveToTheEnd : GoodIn wsX7_luck wsX0_giveToTheEnd := goodIn_r _ [28, 29, 30, 31, 32, 33, 34, 35, 36, 37, 38, 39, 40, 41, 42, 43, 27, 44, 45, 46, 47, 48, 49, 61, 62, 63, 64, 65, 66, 67, 68, 69, 70, 71, 72, 73, 74, 75, 76, 77, 78, 79, 80] (by decide +kernel) (by decide +kernel)
set_option maxRecDepth 20000 in
theorem gX7_luck_X0_giveToTheEnd : GoodIn wsX7_luck (wsV RX7 255 RX0 yX0_giveToTheEnd wsX0_giveToTheEnd) := goodIn_app (goodIn_of _ (by decide +kernel)) ggX7_luck_X0_giveToTheEnd
theorem dX7_luck_0 : decode cX7_luck 0 = .ok (.aload_n 0, 1) := by decide +kernel
theorem dX7_luck_1 : decode cX7_luck 1 = .ok (.getfield 10, 3) := by decide +kernel
theorem dX7_luck_4 : decode cX7_luck 4 = .ok (.iload_n 1, 1) := by decide +kernel
theorem dX7_luck_5 : decode cX7_luck 5 = .ok (.invokevirtual 136, 3) := by decide +kernel
theorem dX7_luck_8 : decode cX7_luck 8 = .ok (.ifCond .eq 13, 3) := by decide +kernel
theorem dX7_luck_11 : decode cX7_luck 11 = .ok (.iload_n 2, 1) := by decide +kernel
theorem dX7_luck_12 : decode cX7_luck 12 = .ok (.iconst 0, 1) := by decide +kernel
theorem dX7_luck_13 : decode cX7_luck 13 = .ok (.bipush 10, 2) := by decide +kernel
theorem dX7_luck_15 : decode cX7_luck 15 = .ok (.invokestatic 62, 3) := by decide +kernel
theorem dX7_luck_18 : decode cX7_luck 18 = .ok (.ifCond .ne 8, 3) := by decide +kernel
theorem dX7_luck_21 : decode cX7_luck 21 = .ok (.aload_n 0, 1) := by decide +kernel
theorem dX7_luck_22 : decode cX7_luck 22 = .ok (.invokevirtual 66, 3) := by decide +kernel
theorem dX7_luck_25 : decode cX7_luck 25 = .ok (.ireturn, 1) := by decide +kernel
theorem dX7_luck_26 : decode cX7_luck 26 = .ok (.aload_n 0, 1) := by decide +kernel
theorem dX7_luck_27 : decode cX7_luck 27 = .ok (.getfield 10, 3) := by decide +kernel
theorem dX7_luck_30 : decode cX7_luck 30 = .ok (.getfield 150, 3) := by decide +kernel
theorem dX7_luck_33 : decode cX7_luck 33 = .ok (.iload_n 1, 1) := by decide +kernel
theorem dX7_luck_34 : decode cX7_luck 34 = .ok (.iaload, 1) := by decide +kernel
theorem dX7_luck_35 : decode cX7_luck 35 = .ok (.ifCond .eq 8, 3) := by decide +kernel
theorem dX7_luck_38 : decode cX7_luck 38 = .ok (.aload_n 0, 1) := by decide +kernel
theorem dX7_luck_39 : decode cX7_luck 39 = .ok (.invokevirtual 143, 3) := by decide +kernel
theorem dX7_luck_42 : decode cX7_luck 42 = .ok (.ireturn, 1) := by decide +kernel
theorem dX7_luck_43 : decode cX7_luck 43 = .ok (.aload_n 0, 1) := by decide +kernel
theorem dX7_luck_44 : decode cX7_luck 44 = .ok (.getfield 57, 3) := by decide +kernel
theorem dX7_luck_47 : decode cX7_luck 47 = .ok (.aload_n 0, 1) := by decide +kernel
theorem dX7_luck_48 : decode cX7_luck 48 = .ok (.getfield 10, 3) := by decide +kernel
theorem dX7_luck_51 : decode cX7_luck 51 = .ok (.iload_n 1, 1) := by decide +kernel
theorem dX7_luck_52 : decode cX7_luck 52 = .ok (.iload_n 2, 1) := by decide +kernel
theorem dX7_luck_53 : decode cX7_luck 53 = .ok (.invokevirtual 255, 3) := by decide +kernel
theorem dX7_luck_56 : decode cX7_luck 56 = .ok (.iconst 1, 1) := by decide +kernel
theorem dX7_luck_57 : decode cX7_luck 57 = .ok (.ireturn, 1) := by decide +kernel
set_option maxRecDepth 20000 in
theorem ggX7_drawn_X7_within : GoodIn wsX7_drawn wsX7_within := goodIn_r _ [7] (by decide +kernel) (by decide +kernel)
set_option maxRecDepth 20000 in
theorem gX7_drawn_X7_within : GoodIn wsX7_drawn (va_wsS RX7 62 yX7_within wsX7_within) := goodIn_app (goodIn_of _ (by decide +kernel)) ggX7_drawn_X7_within
set_option maxRecDepth 20000 in
theorem ggX7_drawn_X7_bad : GoodIn wsX7_drawn wsX7_bad := goodIn_r _ [11, 12, 94, 95, 96, 97, 98, 99, 100, 101, 102, 103, 104] (by decide +kernel) (by decide +kernel)
set_option maxRecDepth 20000 in
theorem gX7_drawn_X7_bad : GoodIn wsX7_drawn (wsV RX7 66 RX7 yX7_bad wsX7_bad) := goodIn_app (goodIn_of _ (by decide +kernel)) ggX7_drawn_X7_bad
set_option maxRecDepth 20000 in
theorem ggX7_drawn_X1_drawMonths : GoodIn wsX7_drawn wsX1_drawMonths := goodIn_r _ [17, 18, 19, 20, 21, 22, 23, 24, 25, 26, 27, 28, 29, 30, 31, 32, 33, 34, 35, 36, 37, 38, 39, 40, 41, 42, 43, 44, 45, 46, 47, 48, 49, 50, 51, 52, 53, 54, 55, 6, 56, 57, 58, 59, 60, 61, 62, 63, 64, 65, 66, 67, 68, 69, 70, 71, 72, 73, 74, 75, 76, 77, 78, 79, 80, 81, 82, 83, 84, 85, 86, 87, 88, 89, 105, 106, 107, 108, 109, 110, 111, 112, 113, 114, 115, 116, 117, 118, 119, 120, 121, 122] (by decide +kernel) (by decide +kernel)
set_option maxRecDepth 20000 in
theorem gX7_drawn_X1_drawMonths : GoodIn wsX7_drawn (wsV RX7 259 RX1 yX1_drawMonths wsX1_drawMonths) := goodIn_app (goodIn_of _ (by decide +kernel)) ggX7_drawn_X1_drawMonths
set_option maxRecDepth 20000 in
theorem ggX7_drawn_X5_howManyAre : GoodIn wsX7_drawn wsX5_howManyAre := goodIn_r _ [93, 35, 47, 106, 107, 108, 109, 110, 111, 112, 113, 114, 115, 116, 117, 118, 119, 120, 121, 122] (by decide +kernel) (by decide +kernel)
set_option maxRecDepth 20000 in
theorem gX7_drawn_X5_howManyAre : GoodIn wsX7_drawn (wsV RX7 125 RX5 yX5_howManyAre wsX5_howManyAre) := goodIn_app (goodIn_of _ (by decide +kernel)) ggX7_drawn_X5_howManyAre
theorem dX7_drawn_0 : decode cX7_drawn 0 = .ok (.iload_n 1, 1) := by decide +kernel
theorem dX7_drawn_1 : decode cX7_drawn 1 = .ok (.iconst 0, 1) := by decide +kernel
theorem dX7_drawn_2 : decode cX7_drawn 2 = .ok (.ldc_w 258, 3) := by decide +kernel
theorem dX7_drawn_5 : decode cX7_drawn 5 = .ok (.invokestatic 62, 3) := by decide +kernel
theorem dX7_drawn_8 : decode cX7_drawn 8 = .ok (.ifCond .eq 37, 3) := by decide +kernel
theorem dX7_drawn_11 : decode cX7_drawn 11 = .ok (.iload_n 2, 1) := by decide +kernel
theorem dX7_drawn_12 : decode cX7_drawn 12 = .ok (.iconst 0, 1) := by decide +kernel
theorem dX7_drawn_13 : decode cX7_drawn 13 = .ok (.bipush 100, 2) := by decide +kernel
theorem dX7_drawn_15 : decode cX7_drawn 15 = .ok (.invokestatic 62, 3) := by decide +kernel
theorem dX7_drawn_18 : decode cX7_drawn 18 = .ok (.ifCond .eq 27, 3) := by decide +kernel
theorem dX7_drawn_21 : decode cX7_drawn 21 = .ok (.iload_n 3, 1) := by decide +kernel
theorem dX7_drawn_22 : decode cX7_drawn 22 = .ok (.iconst 0, 1) := by decide +kernel
theorem dX7_drawn_23 : decode cX7_drawn 23 = .ok (.bipush 60, 2) := by decide +kernel
theorem dX7_drawn_25 : decode cX7_drawn 25 = .ok (.invokestatic 62, 3) := by decide +kernel
theorem dX7_drawn_28 : decode cX7_drawn 28 = .ok (.ifCond .eq 17, 3) := by decide +kernel
theorem dX7_drawn_31 : decode cX7_drawn 31 = .ok (.iload 4, 2) := by decide +kernel
theorem dX7_drawn_33 : decode cX7_drawn 33 = .ok (.iconst 0, 1) := by decide +kernel
theorem dX7_drawn_34 : decode cX7_drawn 34 = .ok (.iconst 1, 1) := by decide +kernel
theorem dX7_drawn_35 : decode cX7_drawn 35 = .ok (.invokestatic 62, 3) := by decide +kernel
theorem dX7_drawn_38 : decode cX7_drawn 38 = .ok (.ifCond .eq 7, 3) := by decide +kernel
theorem dX7_drawn_41 : decode cX7_drawn 41 = .ok (.iconst 1, 1) := by decide +kernel
theorem dX7_drawn_42 : decode cX7_drawn 42 = .ok (.goto 4, 3) := by decide +kernel
theorem dX7_drawn_45 : decode cX7_drawn 45 = .ok (.iconst 0, 1) := by decide +kernel
theorem dX7_drawn_46 : decode cX7_drawn 46 = .ok (.istore 5, 2) := by decide +kernel
theorem dX7_drawn_48 : decode cX7_drawn 48 = .ok (.iload 5, 2) := by decide +kernel
theorem dX7_drawn_50 : decode cX7_drawn 50 = .ok (.ifCond .ne 8, 3) := by decide +kernel
theorem dX7_drawn_53 : decode cX7_drawn 53 = .ok (.aload_n 0, 1) := by decide +kernel
theorem dX7_drawn_54 : decode cX7_drawn 54 = .ok (.invokevirtual 66, 3) := by decide +kernel
theorem dX7_drawn_57 : decode cX7_drawn 57 = .ok (.ireturn, 1) := by decide +kernel
theorem dX7_drawn_58 : decode cX7_drawn 58 = .ok (.aload_n 0, 1) := by decide +kernel
theorem dX7_drawn_59 : decode cX7_drawn 59 = .ok (.getfield 43, 3) := by decide +kernel
theorem dX7_drawn_62 : decode cX7_drawn 62 = .ok (.aload_n 0, 1) := by decide +kernel
theorem dX7_drawn_63 : decode cX7_drawn 63 = .ok (.getfield 10, 3) := by decide +kernel
theorem dX7_drawn_66 : decode cX7_drawn 66 = .ok (.iload_n 1, 1) := by decide +kernel
theorem dX7_drawn_67 : decode cX7_drawn 67 = .ok (.iload_n 2, 1) := by decide +kernel
theorem dX7_drawn_68 : decode cX7_drawn 68 = .ok (.iload_n 3, 1) := by decide +kernel
theorem dX7_drawn_69 : decode cX7_drawn 69 = .ok (.invokevirtual 259, 3) := by decide +kernel
theorem dX7_drawn_72 : decode cX7_drawn 72 = .ok (.astore 6, 2) := by decide +kernel
theorem dX7_drawn_74 : decode cX7_drawn 74 = .ok (.aload 6, 2) := by decide +kernel
theorem dX7_drawn_76 : decode cX7_drawn 76 = .ok (.iload 4, 2) := by decide +kernel
theorem dX7_drawn_78 : decode cX7_drawn 78 = .ok (.ifCond .ne 7, 3) := by decide +kernel
theorem dX7_drawn_81 : decode cX7_drawn 81 = .ok (.iconst 1, 1) := by decide +kernel
theorem dX7_drawn_82 : decode cX7_drawn 82 = .ok (.goto 4, 3) := by decide +kernel
theorem dX7_drawn_85 : decode cX7_drawn 85 = .ok (.iconst 2, 1) := by decide +kernel
theorem dX7_drawn_86 : decode cX7_drawn 86 = .ok (.invokevirtual 125, 3) := by decide +kernel
theorem dX7_drawn_89 : decode cX7_drawn 89 = .ok (.ireturn, 1) := by decide +kernel
set_option maxRecDepth 20000 in
theorem ggX7_part_X7_bad : GoodIn wsX7_part wsX7_bad := goodIn_r _ [8, 9, 10, 11, 12, 13, 14, 15, 16, 17, 18, 19, 20] (by decide +kernel) (by decide +kernel)
set_option maxRecDepth 20000 in
theorem gX7_part_X7_bad : GoodIn wsX7_part (wsV RX7 66 RX7 yX7_bad wsX7_bad) := goodIn_app (goodIn_of _ (by decide +kernel)) ggX7_part_X7_bad
theorem dX7_part_0 : decode cX7_part 0 = .ok (.iload_n 1, 1) := by decide +kernel
theorem dX7_part_1 : decode cX7_part 1 = .ok (.lookupswitch 43 #[(0, 27), (1, 35)], 27) := by decide +kernel
theorem dX7_part_28 : decode cX7_part 28 = .ok (.aload_n 0, 1) := by decide +kernel
theorem dX7_part_29 : decode cX7_part 29 = .ok (.getfield 57, 3) := by decide +kernel
theorem dX7_part_32 : decode cX7_part 32 = .ok (.getfield 263, 3) := by decide +kernel
theorem dX7_part_35 : decode cX7_part 35 = .ok (.lreturn, 1) := by decide +kernel
theorem dX7_part_36 : decode cX7_part 36 = .ok (.aload_n 0, 1) := by decide +kernel
theorem dX7_part_37 : decode cX7_part 37 = .ok (.getfield 57, 3) := by decide +kernel
theorem dX7_part_40 : decode cX7_part 40 = .ok (.getfield 267, 3) := by decide +kernel
theorem dX7_part_43 : decode cX7_part 43 = .ok (.lreturn, 1) := by decide +kernel
theorem dX7_part_44 : decode cX7_part 44 = .ok (.aload_n 0, 1) := by decide +kernel
theorem dX7_part_45 : decode cX7_part 45 = .ok (.invokevirtual 66, 3) := by decide +kernel
theorem dX7_part_48 : decode cX7_part 48 = .ok (.i2l, 1) := by decide +kernel
theorem dX7_part_49 : decode cX7_part 49 = .ok (.lreturn, 1) := by decide +kernel
set_option maxRecDepth 20000 in
theorem ggX7_image_X7_within : GoodIn wsX7_image wsX7_within := goodIn_r _ [9] (by decide +kernel) (by decide +kernel)
set_option maxRecDepth 20000 in
theorem gX7_image_X7_within : GoodIn wsX7_image (va_wsS RX7 62 yX7_within wsX7_within) := goodIn_app (goodIn_of _ (by decide +kernel)) ggX7_image_X7_within
set_option maxRecDepth 20000 in
theorem ggX7_image_X7_bad : GoodIn wsX7_image wsX7_bad := goodIn_r _ [13, 14, 58, 59, 60, 61, 62, 63, 64, 65, 66, 67, 68] (by decide +kernel) (by decide +kernel)
set_option maxRecDepth 20000 in
theorem gX7_image_X7_bad : GoodIn wsX7_image (wsV RX7 66 RX7 yX7_bad wsX7_bad) := goodIn_app (goodIn_of _ (by decide +kernel)) ggX7_image_X7_bad
set_option maxRecDepth 20000 in
theorem ggX7_image_X7_imageAt : GoodIn wsX7_image wsX7_imageAt := goodIn_r _ [18, 19, 20, 58, 59, 60, 61, 62, 63, 64, 65, 66, 67, 68] (by decide +kernel) (by decide +kernel)
set_option maxRecDepth 20000 in
theorem gX7_image_X7_imageAt : GoodIn wsX7_image (wsV RX7 270 RX7 yX7_imageAt wsX7_imageAt) := goodIn_app (goodIn_of _ (by decide +kernel)) ggX7_image_X7_imageAt
set_option maxRecDepth 20000 in
theorem ggX7_image_X5_copyFrom : GoodIn wsX7_image wsX5_copyFrom := goodIn_r _ [25, 26, 27, 28, 29, 30, 31, 32, 33, 34, 35, 36, 37, 38, 39, 40, 41, 42, 43, 44, 45, 46, 69, 70, 71, 72, 73, 74, 75, 76, 77, 78, 79, 80, 81, 82, 83, 84, 85] (by decide +kernel) (by decide +kernel)
set_option maxRecDepth 20000 in
theorem gX7_image_X5_copyFrom : GoodIn wsX7_image (wsV RX7 118 RX5 yX5_copyFrom wsX5_copyFrom) := goodIn_app (goodIn_of _ (by decide +kernel)) ggX7_image_X5_copyFrom
set_option maxRecDepth 20000 in
theorem ggX7_image_X3_copyFrom : GoodIn wsX7_image wsX3_copyFrom := goodIn_r _ [51, 52, 53, 54, 35, 36, 37, 86, 87] (by decide +kernel) (by decide +kernel)
set_option maxRecDepth 20000 in
theorem gX7_image_X3_copyFrom : GoodIn wsX7_image (wsV RX7 278 RX3 yX3_copyFrom wsX3_copyFrom) := goodIn_app (goodIn_of _ (by decide +kernel)) ggX7_image_X3_copyFrom
theorem dX7_image_0 : decode cX7_image 0 = .ok (.iload_n 1, 1) := by decide +kernel
theorem dX7_image_1 : decode cX7_image 1 = .ok (.iconst 0, 1) := by decide +kernel
theorem dX7_image_2 : decode cX7_image 2 = .ok (.iconst 1, 1) := by decide +kernel
theorem dX7_image_3 : decode cX7_image 3 = .ok (.invokestatic 62, 3) := by decide +kernel
theorem dX7_image_6 : decode cX7_image 6 = .ok (.ifCond .ne 8, 3) := by decide +kernel
theorem dX7_image_9 : decode cX7_image 9 = .ok (.aload_n 0, 1) := by decide +kernel
theorem dX7_image_10 : decode cX7_image 10 = .ok (.invokevirtual 66, 3) := by decide +kernel
theorem dX7_image_13 : decode cX7_image 13 = .ok (.ireturn, 1) := by decide +kernel
theorem dX7_image_14 : decode cX7_image 14 = .ok (.aload_n 0, 1) := by decide +kernel
theorem dX7_image_15 : decode cX7_image 15 = .ok (.iload_n 1, 1) := by decide +kernel
theorem dX7_image_16 : decode cX7_image 16 = .ok (.invokevirtual 270, 3) := by decide +kernel
theorem dX7_image_19 : decode cX7_image 19 = .ok (.astore_n 2, 1) := by decide +kernel
theorem dX7_image_20 : decode cX7_image 20 = .ok (.aload_n 2, 1) := by decide +kernel
theorem dX7_image_21 : decode cX7_image 21 = .ok (.getfield 274, 3) := by decide +kernel
theorem dX7_image_24 : decode cX7_image 24 = .ok (.aload_n 0, 1) := by decide +kernel
theorem dX7_image_25 : decode cX7_image 25 = .ok (.getfield 10, 3) := by decide +kernel
theorem dX7_image_28 : decode cX7_image 28 = .ok (.invokevirtual 118, 3) := by decide +kernel
theorem dX7_image_31 : decode cX7_image 31 = .ok (.aload_n 2, 1) := by decide +kernel
theorem dX7_image_32 : decode cX7_image 32 = .ok (.getfield 277, 3) := by decide +kernel
theorem dX7_image_35 : decode cX7_image 35 = .ok (.aload_n 0, 1) := by decide +kernel
theorem dX7_image_36 : decode cX7_image 36 = .ok (.getfield 19, 3) := by decide +kernel
theorem dX7_image_39 : decode cX7_image 39 = .ok (.invokevirtual 278, 3) := by decide +kernel
theorem dX7_image_42 : decode cX7_image 42 = .ok (.aload_n 2, 1) := by decide +kernel
theorem dX7_image_43 : decode cX7_image 43 = .ok (.iconst 1, 1) := by decide +kernel
theorem dX7_image_44 : decode cX7_image 44 = .ok (.putfield 281, 3) := by decide +kernel
theorem dX7_image_47 : decode cX7_image 47 = .ok (.iconst 1, 1) := by decide +kernel
theorem dX7_image_48 : decode cX7_image 48 = .ok (.ireturn, 1) := by decide +kernel
set_option maxRecDepth 20000 in
theorem ggX7_from_X7_within : GoodIn wsX7_from wsX7_within := goodIn_r _ [9] (by decide +kernel) (by decide +kernel)
set_option maxRecDepth 20000 in
theorem gX7_from_X7_within : GoodIn wsX7_from (va_wsS RX7 62 yX7_within wsX7_within) := goodIn_app (goodIn_of _ (by decide +kernel)) ggX7_from_X7_within
set_option maxRecDepth 20000 in
theorem ggX7_from_X7_bad : GoodIn wsX7_from wsX7_bad := goodIn_r _ [13, 14, 63, 64, 65, 66, 67, 68, 69, 70, 71, 72, 73] (by decide +kernel) (by decide +kernel)
set_option maxRecDepth 20000 in
theorem gX7_from_X7_bad : GoodIn wsX7_from (wsV RX7 66 RX7 yX7_bad wsX7_bad) := goodIn_app (goodIn_of _ (by decide +kernel)) ggX7_from_X7_bad
set_option maxRecDepth 20000 in
theorem ggX7_from_X7_imageAt : GoodIn wsX7_from wsX7_imageAt := goodIn_r _ [18, 19, 20, 63, 64, 65, 66, 67, 68, 69, 70, 71, 72, 73] (by decide +kernel) (by decide +kernel)
set_option maxRecDepth 20000 in
theorem gX7_from_X7_imageAt : GoodIn wsX7_from (wsV RX7 270 RX7 yX7_imageAt wsX7_imageAt) := goodIn_app (goodIn_of _ (by decide +kernel)) ggX7_from_X7_imageAt
set_option maxRecDepth 20000 in
theorem ggX7_from_X7_no : GoodIn wsX7_from wsX7_no := goodIn_r _ [24, 25, 63, 64, 65, 66, 67, 68, 69, 70, 71, 72, 73] (by decide +kernel) (by decide +kernel)
set_option maxRecDepth 20000 in
theorem gX7_from_X7_no : GoodIn wsX7_from (wsV RX7 143 RX7 yX7_no wsX7_no) := goodIn_app (goodIn_of _ (by decide +kernel)) ggX7_from_X7_no
set_option maxRecDepth 20000 in
theorem ggX7_from_X5_copyFrom : GoodIn wsX7_from wsX5_copyFrom := goodIn_r _ [30, 31, 32, 33, 34, 35, 36, 37, 38, 39, 40, 41, 42, 43, 44, 45, 46, 47, 48, 49, 50, 51, 74, 75, 76, 77, 78, 79, 80, 81, 82, 83, 84, 85, 86, 87, 88, 89, 90] (by decide +kernel) (by decide +kernel)
set_option maxRecDepth 20000 in
theorem gX7_from_X5_copyFrom : GoodIn wsX7_from (wsV RX7 118 RX5 yX5_copyFrom wsX5_copyFrom) := goodIn_app (goodIn_of _ (by decide +kernel)) ggX7_from_X5_copyFrom
set_option maxRecDepth 20000 in
theorem ggX7_from_X3_copyFrom : GoodIn wsX7_from wsX3_copyFrom := goodIn_r _ [56, 57, 58, 59, 40, 41, 42, 91, 92] (by decide +kernel) (by decide +kernel)
set_option maxRecDepth 20000 in
theorem gX7_from_X3_copyFrom : GoodIn wsX7_from (wsV RX7 278 RX3 yX3_copyFrom wsX3_copyFrom) := goodIn_app (goodIn_of _ (by decide +kernel)) ggX7_from_X3_copyFrom
theorem dX7_from_0 : decode cX7_from 0 = .ok (.iload_n 1, 1) := by decide +kernel
theorem dX7_from_1 : decode cX7_from 1 = .ok (.iconst 0, 1) := by decide +kernel
theorem dX7_from_2 : decode cX7_from 2 = .ok (.iconst 1, 1) := by decide +kernel
theorem dX7_from_3 : decode cX7_from 3 = .ok (.invokestatic 62, 3) := by decide +kernel
theorem dX7_from_6 : decode cX7_from 6 = .ok (.ifCond .ne 8, 3) := by decide +kernel
theorem dX7_from_9 : decode cX7_from 9 = .ok (.aload_n 0, 1) := by decide +kernel
theorem dX7_from_10 : decode cX7_from 10 = .ok (.invokevirtual 66, 3) := by decide +kernel
theorem dX7_from_13 : decode cX7_from 13 = .ok (.ireturn, 1) := by decide +kernel
theorem dX7_from_14 : decode cX7_from 14 = .ok (.aload_n 0, 1) := by decide +kernel
theorem dX7_from_15 : decode cX7_from 15 = .ok (.iload_n 1, 1) := by decide +kernel
theorem dX7_from_16 : decode cX7_from 16 = .ok (.invokevirtual 270, 3) := by decide +kernel
theorem dX7_from_19 : decode cX7_from 19 = .ok (.astore_n 2, 1) := by decide +kernel
theorem dX7_from_20 : decode cX7_from 20 = .ok (.aload_n 2, 1) := by decide +kernel
theorem dX7_from_21 : decode cX7_from 21 = .ok (.getfield 281, 3) := by decide +kernel
theorem dX7_from_24 : decode cX7_from 24 = .ok (.ifCond .ne 8, 3) := by decide +kernel
theorem dX7_from_27 : decode cX7_from 27 = .ok (.aload_n 0, 1) := by decide +kernel
theorem dX7_from_28 : decode cX7_from 28 = .ok (.invokevirtual 143, 3) := by decide +kernel
theorem dX7_from_31 : decode cX7_from 31 = .ok (.ireturn, 1) := by decide +kernel
theorem dX7_from_32 : decode cX7_from 32 = .ok (.aload_n 0, 1) := by decide +kernel
theorem dX7_from_33 : decode cX7_from 33 = .ok (.getfield 10, 3) := by decide +kernel
theorem dX7_from_36 : decode cX7_from 36 = .ok (.aload_n 2, 1) := by decide +kernel
theorem dX7_from_37 : decode cX7_from 37 = .ok (.getfield 274, 3) := by decide +kernel
theorem dX7_from_40 : decode cX7_from 40 = .ok (.invokevirtual 118, 3) := by decide +kernel
theorem dX7_from_43 : decode cX7_from 43 = .ok (.aload_n 0, 1) := by decide +kernel
theorem dX7_from_44 : decode cX7_from 44 = .ok (.getfield 19, 3) := by decide +kernel
theorem dX7_from_47 : decode cX7_from 47 = .ok (.aload_n 2, 1) := by decide +kernel
theorem dX7_from_48 : decode cX7_from 48 = .ok (.getfield 277, 3) := by decide +kernel
theorem dX7_from_51 : decode cX7_from 51 = .ok (.invokevirtual 278, 3) := by decide +kernel
theorem dX7_from_54 : decode cX7_from 54 = .ok (.iconst 1, 1) := by decide +kernel
theorem dX7_from_55 : decode cX7_from 55 = .ok (.ireturn, 1) := by decide +kernel
set_option maxRecDepth 20000 in
theorem ggX7_status_X7_bad : GoodIn wsX7_status wsX7_bad := goodIn_r _ [8, 1, 9, 10, 11, 12, 13, 14, 15, 16, 17, 18, 19] (by decide +kernel) (by decide +kernel)
set_option maxRecDepth 20000 in
theorem gX7_status_X7_bad : GoodIn wsX7_status (wsV RX7 66 RX7 yX7_bad wsX7_bad) := goodIn_app (goodIn_of _ (by decide +kernel)) ggX7_status_X7_bad
theorem dX7_status_0 : decode cX7_status 0 = .ok (.iload_n 1, 1) := by decide +kernel
theorem dX7_status_1 : decode cX7_status 1 = .ok (.tableswitch 42 0 2 #[27, 32, 37], 27) := by decide +kernel
theorem dX7_status_28 : decode cX7_status 28 = .ok (.aload_n 0, 1) := by decide +kernel
theorem dX7_status_29 : decode cX7_status 29 = .ok (.getfield 284, 3) := by decide +kernel
theorem dX7_status_32 : decode cX7_status 32 = .ok (.ireturn, 1) := by decide +kernel
theorem dX7_status_33 : decode cX7_status 33 = .ok (.aload_n 0, 1) := by decide +kernel
theorem dX7_status_34 : decode cX7_status 34 = .ok (.getfield 287, 3) := by decide +kernel
theorem dX7_status_37 : decode cX7_status 37 = .ok (.ireturn, 1) := by decide +kernel
theorem dX7_status_38 : decode cX7_status 38 = .ok (.aload_n 0, 1) := by decide +kernel
theorem dX7_status_39 : decode cX7_status 39 = .ok (.getfield 290, 3) := by decide +kernel
theorem dX7_status_42 : decode cX7_status 42 = .ok (.ireturn, 1) := by decide +kernel
theorem dX7_status_43 : decode cX7_status 43 = .ok (.aload_n 0, 1) := by decide +kernel
theorem dX7_status_44 : decode cX7_status 44 = .ok (.invokevirtual 66, 3) := by decide +kernel
theorem dX7_status_47 : decode cX7_status 47 = .ok (.pop, 1) := by decide +kernel
theorem dX7_status_48 : decode cX7_status 48 = .ok (.iconst (-1), 1) := by decide +kernel
theorem dX7_status_49 : decode cX7_status 49 = .ok (.ireturn, 1) := by decide +kernel
set_option maxRecDepth 20000 in
theorem ggX7_count_X7_within : GoodIn wsX7_count wsX7_within := goodIn_r _ [4] (by decide +kernel) (by decide +kernel)
set_option maxRecDepth 20000 in
theorem gX7_count_X7_within : GoodIn wsX7_count (va_wsS RX7 62 yX7_within wsX7_within) := goodIn_app (goodIn_of _ (by decide +kernel)) ggX7_count_X7_within
set_option maxRecDepth 20000 in
theorem ggX7_count_X7_countOf : GoodIn wsX7_count wsX7_countOf := goodIn_r _ [8, 9, 10, 11, 12, 13, 14, 15, 16, 17, 18, 19, 20, 26, 27, 28, 29, 30, 31, 32, 33, 34, 35, 36, 37, 38, 39, 40, 41, 42, 43, 44, 45, 46, 47, 48, 49, 50, 51, 52, 53, 54, 55, 56, 57, 58, 59, 60, 61] (by decide +kernel) (by decide +kernel)
set_option maxRecDepth 20000 in
theorem gX7_count_X7_countOf : GoodIn wsX7_count (wsV RX7 293 RX7 yX7_countOf wsX7_countOf) := goodIn_app (goodIn_of _ (by decide +kernel)) ggX7_count_X7_countOf
set_option maxRecDepth 20000 in
theorem ggX7_count_X7_bad : GoodIn wsX7_count wsX7_bad := goodIn_r _ [24, 25, 26, 27, 28, 29, 30, 31, 32, 33, 34, 35, 36] (by decide +kernel) (by decide +kernel)
set_option maxRecDepth 20000 in
theorem gX7_count_X7_bad : GoodIn wsX7_count (wsV RX7 66 RX7 yX7_bad wsX7_bad) := goodIn_app (goodIn_of _ (by decide +kernel)) ggX7_count_X7_bad
theorem dX7_count_0 : decode cX7_count 0 = .ok (.iload_n 1, 1) := by decide +kernel
theorem dX7_count_1 : decode cX7_count 1 = .ok (.iconst 0, 1) := by decide +kernel
theorem dX7_count_2 : decode cX7_count 2 = .ok (.bipush 8, 2) := by decide +kernel
theorem dX7_count_4 : decode cX7_count 4 = .ok (.invokestatic 62, 3) := by decide +kernel
theorem dX7_count_7 : decode cX7_count 7 = .ok (.ifCond .eq 11, 3) := by decide +kernel
theorem dX7_count_10 : decode cX7_count 10 = .ok (.aload_n 0, 1) := by decide +kernel
theorem dX7_count_11 : decode cX7_count 11 = .ok (.iload_n 1, 1) := by decide +kernel
theorem dX7_count_12 : decode cX7_count 12 = .ok (.invokevirtual 293, 3) := by decide +kernel
theorem dX7_count_15 : decode cX7_count 15 = .ok (.goto 7, 3) := by decide +kernel
theorem dX7_count_18 : decode cX7_count 18 = .ok (.aload_n 0, 1) := by decide +kernel
theorem dX7_count_19 : decode cX7_count 19 = .ok (.invokevirtual 66, 3) := by decide +kernel
theorem dX7_count_22 : decode cX7_count 22 = .ok (.ireturn, 1) := by decide +kernel
set_option maxRecDepth 20000 in
theorem ggX7_digest_X7_countOf : GoodIn wsX7_digest wsX7_countOf := goodIn_r _ [11, 3, 12, 13, 14, 15, 16, 17, 18, 19, 20, 21, 22, 42, 43, 44, 45, 46, 47, 48, 49, 50, 51, 52, 56, 57, 58, 59, 60, 61, 62, 63, 64, 65, 66, 67, 68, 69, 70, 71, 72, 73, 74, 75, 76, 77, 78, 79, 80] (by decide +kernel) (by decide +kernel)
set_option maxRecDepth 20000 in
theorem gX7_digest_X7_countOf : GoodIn wsX7_digest (wsV RX7 293 RX7 yX7_countOf wsX7_countOf) := goodIn_app (goodIn_of _ (by decide +kernel)) ggX7_digest_X7_countOf
set_option maxRecDepth 20000 in
theorem ggX7_digest_X5_mixInto : GoodIn wsX7_digest wsX5_mixInto := goodIn_r _ [27, 28, 29, 30, 31, 32, 33, 34, 35, 36, 37, 38, 39, 40, 41, 56, 57, 58, 59, 60, 61, 62, 63, 64, 65, 66, 67, 68, 69, 70, 71, 72] (by decide +kernel) (by decide +kernel)
set_option maxRecDepth 20000 in
theorem gX7_digest_X5_mixInto : GoodIn wsX7_digest (wsV RX7 300 RX5 yX5_mixInto wsX5_mixInto) := goodIn_app (goodIn_of _ (by decide +kernel)) ggX7_digest_X5_mixInto
theorem dX7_digest_0 : decode cX7_digest 0 = .ok (.ldc2_w 296, 3) := by decide +kernel
theorem dX7_digest_3 : decode cX7_digest 3 = .ok (.lstore_n 1, 1) := by decide +kernel
theorem dX7_digest_4 : decode cX7_digest 4 = .ok (.iconst 0, 1) := by decide +kernel
theorem dX7_digest_5 : decode cX7_digest 5 = .ok (.istore_n 3, 1) := by decide +kernel
theorem dX7_digest_6 : decode cX7_digest 6 = .ok (.iload_n 3, 1) := by decide +kernel
theorem dX7_digest_7 : decode cX7_digest 7 = .ok (.bipush 8, 2) := by decide +kernel
theorem dX7_digest_9 : decode cX7_digest 9 = .ok (.if_icmp .gt 22, 3) := by decide +kernel
theorem dX7_digest_12 : decode cX7_digest 12 = .ok (.ldc2_w 298, 3) := by decide +kernel
theorem dX7_digest_15 : decode cX7_digest 15 = .ok (.lload_n 1, 1) := by decide +kernel
theorem dX7_digest_16 : decode cX7_digest 16 = .ok (.lmul, 1) := by decide +kernel
theorem dX7_digest_17 : decode cX7_digest 17 = .ok (.aload_n 0, 1) := by decide +kernel
theorem dX7_digest_18 : decode cX7_digest 18 = .ok (.iload_n 3, 1) := by decide +kernel
theorem dX7_digest_19 : decode cX7_digest 19 = .ok (.invokevirtual 293, 3) := by decide +kernel
theorem dX7_digest_22 : decode cX7_digest 22 = .ok (.i2l, 1) := by decide +kernel
theorem dX7_digest_23 : decode cX7_digest 23 = .ok (.ladd, 1) := by decide +kernel
theorem dX7_digest_24 : decode cX7_digest 24 = .ok (.lstore_n 1, 1) := by decide +kernel
theorem dX7_digest_25 : decode cX7_digest 25 = .ok (.iinc 3 1, 3) := by decide +kernel
theorem dX7_digest_28 : decode cX7_digest 28 = .ok (.goto (-22), 3) := by decide +kernel
theorem dX7_digest_31 : decode cX7_digest 31 = .ok (.aload_n 0, 1) := by decide +kernel
theorem dX7_digest_32 : decode cX7_digest 32 = .ok (.getfield 10, 3) := by decide +kernel
theorem dX7_digest_35 : decode cX7_digest 35 = .ok (.lload_n 1, 1) := by decide +kernel
theorem dX7_digest_36 : decode cX7_digest 36 = .ok (.invokevirtual 300, 3) := by decide +kernel
theorem dX7_digest_39 : decode cX7_digest 39 = .ok (.lstore_n 1, 1) := by decide +kernel
theorem dX7_digest_40 : decode cX7_digest 40 = .ok (.ldc2_w 298, 3) := by decide +kernel
theorem dX7_digest_43 : decode cX7_digest 43 = .ok (.lload_n 1, 1) := by decide +kernel
theorem dX7_digest_44 : decode cX7_digest 44 = .ok (.lmul, 1) := by decide +kernel
theorem dX7_digest_45 : decode cX7_digest 45 = .ok (.aload_n 0, 1) := by decide +kernel
theorem dX7_digest_46 : decode cX7_digest 46 = .ok (.getfield 57, 3) := by decide +kernel
theorem dX7_digest_49 : decode cX7_digest 49 = .ok (.getfield 263, 3) := by decide +kernel
theorem dX7_digest_52 : decode cX7_digest 52 = .ok (.ladd, 1) := by decide +kernel
theorem dX7_digest_53 : decode cX7_digest 53 = .ok (.lstore_n 1, 1) := by decide +kernel
theorem dX7_digest_54 : decode cX7_digest 54 = .ok (.ldc2_w 298, 3) := by decide +kernel
theorem dX7_digest_57 : decode cX7_digest 57 = .ok (.lload_n 1, 1) := by decide +kernel
theorem dX7_digest_58 : decode cX7_digest 58 = .ok (.lmul, 1) := by decide +kernel
theorem dX7_digest_59 : decode cX7_digest 59 = .ok (.aload_n 0, 1) := by decide +kernel
theorem dX7_digest_60 : decode cX7_digest 60 = .ok (.getfield 57, 3) := by decide +kernel
theorem dX7_digest_63 : decode cX7_digest 63 = .ok (.getfield 267, 3) := by decide +kernel
theorem dX7_digest_66 : decode cX7_digest 66 = .ok (.ladd, 1) := by decide +kernel
theorem dX7_digest_67 : decode cX7_digest 67 = .ok (.lreturn, 1) := by decide +kernel
theorem dX7_imageAt_0 : decode cX7_imageAt 0 = .ok (.iload_n 1, 1) := by decide +kernel
theorem dX7_imageAt_1 : decode cX7_imageAt 1 = .ok (.ifCond .ne 10, 3) := by decide +kernel
theorem dX7_imageAt_4 : decode cX7_imageAt 4 = .ok (.aload_n 0, 1) := by decide +kernel
theorem dX7_imageAt_5 : decode cX7_imageAt 5 = .ok (.getfield 26, 3) := by decide +kernel
theorem dX7_imageAt_8 : decode cX7_imageAt 8 = .ok (.goto 7, 3) := by decide +kernel
theorem dX7_imageAt_11 : decode cX7_imageAt 11 = .ok (.aload_n 0, 1) := by decide +kernel
theorem dX7_imageAt_12 : decode cX7_imageAt 12 = .ok (.getfield 30, 3) := by decide +kernel
theorem dX7_imageAt_15 : decode cX7_imageAt 15 = .ok (.areturn, 1) := by decide +kernel
theorem dX7_countOf_0 : decode cX7_countOf 0 = .ok (.iload_n 1, 1) := by decide +kernel
theorem dX7_countOf_1 : decode cX7_countOf 1 = .ok (.tableswitch 111 0 7 #[47, 55, 63, 71, 79, 87, 95, 103], 47) := by decide +kernel
theorem dX7_countOf_48 : decode cX7_countOf 48 = .ok (.aload_n 0, 1) := by decide +kernel
theorem dX7_countOf_49 : decode cX7_countOf 49 = .ok (.getfield 10, 3) := by decide +kernel
theorem dX7_countOf_52 : decode cX7_countOf 52 = .ok (.getfield 70, 3) := by decide +kernel
theorem dX7_countOf_55 : decode cX7_countOf 55 = .ok (.ireturn, 1) := by decide +kernel
theorem dX7_countOf_56 : decode cX7_countOf 56 = .ok (.aload_n 0, 1) := by decide +kernel
theorem dX7_countOf_57 : decode cX7_countOf 57 = .ok (.getfield 10, 3) := by decide +kernel
theorem dX7_countOf_60 : decode cX7_countOf 60 = .ok (.getfield 74, 3) := by decide +kernel
theorem dX7_countOf_63 : decode cX7_countOf 63 = .ok (.ireturn, 1) := by decide +kernel
theorem dX7_countOf_64 : decode cX7_countOf 64 = .ok (.aload_n 0, 1) := by decide +kernel
theorem dX7_countOf_65 : decode cX7_countOf 65 = .ok (.getfield 10, 3) := by decide +kernel
theorem dX7_countOf_68 : decode cX7_countOf 68 = .ok (.getfield 304, 3) := by decide +kernel
theorem dX7_countOf_71 : decode cX7_countOf 71 = .ok (.ireturn, 1) := by decide +kernel
theorem dX7_countOf_72 : decode cX7_countOf 72 = .ok (.aload_n 0, 1) := by decide +kernel
theorem dX7_countOf_73 : decode cX7_countOf 73 = .ok (.getfield 10, 3) := by decide +kernel
theorem dX7_countOf_76 : decode cX7_countOf 76 = .ok (.getfield 77, 3) := by decide +kernel
theorem dX7_countOf_79 : decode cX7_countOf 79 = .ok (.ireturn, 1) := by decide +kernel
theorem dX7_countOf_80 : decode cX7_countOf 80 = .ok (.aload_n 0, 1) := by decide +kernel
theorem dX7_countOf_81 : decode cX7_countOf 81 = .ok (.getfield 10, 3) := by decide +kernel
theorem dX7_countOf_84 : decode cX7_countOf 84 = .ok (.getfield 91, 3) := by decide +kernel
theorem dX7_countOf_87 : decode cX7_countOf 87 = .ok (.ireturn, 1) := by decide +kernel
theorem dX7_countOf_88 : decode cX7_countOf 88 = .ok (.aload_n 0, 1) := by decide +kernel
theorem dX7_countOf_89 : decode cX7_countOf 89 = .ok (.getfield 10, 3) := by decide +kernel
theorem dX7_countOf_92 : decode cX7_countOf 92 = .ok (.getfield 97, 3) := by decide +kernel
theorem dX7_countOf_95 : decode cX7_countOf 95 = .ok (.ireturn, 1) := by decide +kernel
theorem dX7_countOf_96 : decode cX7_countOf 96 = .ok (.aload_n 0, 1) := by decide +kernel
theorem dX7_countOf_97 : decode cX7_countOf 97 = .ok (.getfield 10, 3) := by decide +kernel
theorem dX7_countOf_100 : decode cX7_countOf 100 = .ok (.getfield 193, 3) := by decide +kernel
theorem dX7_countOf_103 : decode cX7_countOf 103 = .ok (.ireturn, 1) := by decide +kernel
theorem dX7_countOf_104 : decode cX7_countOf 104 = .ok (.aload_n 0, 1) := by decide +kernel
theorem dX7_countOf_105 : decode cX7_countOf 105 = .ok (.getfield 19, 3) := by decide +kernel
theorem dX7_countOf_108 : decode cX7_countOf 108 = .ok (.getfield 165, 3) := by decide +kernel
theorem dX7_countOf_111 : decode cX7_countOf 111 = .ok (.ireturn, 1) := by decide +kernel
theorem dX7_countOf_112 : decode cX7_countOf 112 = .ok (.aload_n 0, 1) := by decide +kernel
theorem dX7_countOf_113 : decode cX7_countOf 113 = .ok (.getfield 36, 3) := by decide +kernel
theorem dX7_countOf_116 : decode cX7_countOf 116 = .ok (.getfield 104, 3) := by decide +kernel
theorem dX7_countOf_119 : decode cX7_countOf 119 = .ok (.ireturn, 1) := by decide +kernel
theorem dX7_bad_0 : decode cX7_bad 0 = .ok (.aload_n 0, 1) := by decide +kernel
theorem dX7_bad_1 : decode cX7_bad 1 = .ok (.dup, 1) := by decide +kernel
theorem dX7_bad_2 : decode cX7_bad 2 = .ok (.getfield 284, 3) := by decide +kernel
theorem dX7_bad_5 : decode cX7_bad 5 = .ok (.iconst 1, 1) := by decide +kernel
theorem dX7_bad_6 : decode cX7_bad 6 = .ok (.iadd, 1) := by decide +kernel
theorem dX7_bad_7 : decode cX7_bad 7 = .ok (.putfield 284, 3) := by decide +kernel
theorem dX7_bad_10 : decode cX7_bad 10 = .ok (.bipush (-2), 2) := by decide +kernel
theorem dX7_bad_12 : decode cX7_bad 12 = .ok (.ireturn, 1) := by decide +kernel
theorem dX7_no_0 : decode cX7_no 0 = .ok (.aload_n 0, 1) := by decide +kernel
theorem dX7_no_1 : decode cX7_no 1 = .ok (.dup, 1) := by decide +kernel
theorem dX7_no_2 : decode cX7_no 2 = .ok (.getfield 287, 3) := by decide +kernel
theorem dX7_no_5 : decode cX7_no 5 = .ok (.iconst 1, 1) := by decide +kernel
theorem dX7_no_6 : decode cX7_no 6 = .ok (.iadd, 1) := by decide +kernel
theorem dX7_no_7 : decode cX7_no 7 = .ok (.putfield 287, 3) := by decide +kernel
theorem dX7_no_10 : decode cX7_no 10 = .ok (.bipush (-3), 2) := by decide +kernel
theorem dX7_no_12 : decode cX7_no 12 = .ok (.ireturn, 1) := by decide +kernel
theorem dX7_full_0 : decode cX7_full 0 = .ok (.aload_n 0, 1) := by decide +kernel
theorem dX7_full_1 : decode cX7_full 1 = .ok (.dup, 1) := by decide +kernel
theorem dX7_full_2 : decode cX7_full 2 = .ok (.getfield 290, 3) := by decide +kernel
theorem dX7_full_5 : decode cX7_full 5 = .ok (.iconst 1, 1) := by decide +kernel
theorem dX7_full_6 : decode cX7_full 6 = .ok (.iadd, 1) := by decide +kernel
theorem dX7_full_7 : decode cX7_full 7 = .ok (.putfield 290, 3) := by decide +kernel
theorem dX7_full_10 : decode cX7_full 10 = .ok (.bipush (-4), 2) := by decide +kernel
theorem dX7_full_12 : decode cX7_full 12 = .ok (.ireturn, 1) := by decide +kernel
theorem dX7_within_0 : decode cX7_within 0 = .ok (.iload_n 0, 1) := by decide +kernel
theorem dX7_within_1 : decode cX7_within 1 = .ok (.iload_n 1, 1) := by decide +kernel
theorem dX7_within_2 : decode cX7_within 2 = .ok (.if_icmp .lt 12, 3) := by decide +kernel
theorem dX7_within_5 : decode cX7_within 5 = .ok (.iload_n 0, 1) := by decide +kernel
theorem dX7_within_6 : decode cX7_within 6 = .ok (.iload_n 2, 1) := by decide +kernel
theorem dX7_within_7 : decode cX7_within 7 = .ok (.if_icmp .gt 7, 3) := by decide +kernel
theorem dX7_within_10 : decode cX7_within 10 = .ok (.iconst 1, 1) := by decide +kernel
theorem dX7_within_11 : decode cX7_within 11 = .ok (.goto 4, 3) := by decide +kernel
theorem dX7_within_14 : decode cX7_within 14 = .ok (.iconst 0, 1) := by decide +kernel
theorem dX7_within_15 : decode cX7_within 15 = .ok (.ireturn, 1) := by decide +kernel
theorem dX7_hasBit_0 : decode cX7_hasBit 0 = .ok (.iload_n 0, 1) := by decide +kernel
theorem dX7_hasBit_1 : decode cX7_hasBit 1 = .ok (.iload_n 1, 1) := by decide +kernel
theorem dX7_hasBit_2 : decode cX7_hasBit 2 = .ok (.ishr, 1) := by decide +kernel
theorem dX7_hasBit_3 : decode cX7_hasBit 3 = .ok (.iconst 1, 1) := by decide +kernel
theorem dX7_hasBit_4 : decode cX7_hasBit 4 = .ok (.iand, 1) := by decide +kernel
theorem dX7_hasBit_5 : decode cX7_hasBit 5 = .ok (.iconst 1, 1) := by decide +kernel
theorem dX7_hasBit_6 : decode cX7_hasBit 6 = .ok (.if_icmp .ne 7, 3) := by decide +kernel
theorem dX7_hasBit_9 : decode cX7_hasBit 9 = .ok (.iconst 1, 1) := by decide +kernel
theorem dX7_hasBit_10 : decode cX7_hasBit 10 = .ok (.goto 4, 3) := by decide +kernel
theorem dX7_hasBit_13 : decode cX7_hasBit 13 = .ok (.iconst 0, 1) := by decide +kernel
