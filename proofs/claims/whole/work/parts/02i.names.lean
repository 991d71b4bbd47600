theorem dX6_lays_2 : decode cX6_lays 2 = .ok (.putfield 62, 3) := by decide +kernel
theorem dX6_lays_5 : decode cX6_lays 5 = .ok (.iconst 0, 1) := by decide +kernel
theorem dX6_lays_6 : decode cX6_lays 6 = .ok (.istore_n 1, 1) := by decide +kernel
theorem dX6_lays_7 : decode cX6_lays 7 = .ok (.iload_n 1, 1) := by decide +kernel
theorem dX6_lays_8 : decode cX6_lays 8 = .ok (.aload_n 0, 1) := by decide +kernel
theorem dX6_lays_9 : decode cX6_lays 9 = .ok (.getfield 87, 3) := by decide +kernel
theorem dX6_lays_12 : decode cX6_lays 12 = .ok (.if_icmp .ge 17, 3) := by decide +kernel
theorem dX6_lays_15 : decode cX6_lays 15 = .ok (.aload_n 0, 1) := by decide +kernel
theorem dX6_lays_16 : decode cX6_lays 16 = .ok (.getfield 29, 3) := by decide +kernel
theorem dX6_lays_19 : decode cX6_lays 19 = .ok (.iload_n 1, 1) := by decide +kernel
theorem dX6_lays_20 : decode cX6_lays 20 = .ok (.bipush (-2), 2) := by decide +kernel
theorem dX6_lays_22 : decode cX6_lays 22 = .ok (.iastore, 1) := by decide +kernel
theorem dX6_lays_23 : decode cX6_lays 23 = .ok (.iinc 1 1, 3) := by decide +kernel
theorem dX6_lays_26 : decode cX6_lays 26 = .ok (.goto (-19), 3) := by decide +kernel
theorem dX6_lays_29 : decode cX6_lays 29 = .ok (.iconst 0, 1) := by decide +kernel
theorem dX6_lays_30 : decode cX6_lays 30 = .ok (.istore_n 1, 1) := by decide +kernel
theorem dX6_lays_31 : decode cX6_lays 31 = .ok (.iconst 1, 1) := by decide +kernel
theorem dX6_lays_32 : decode cX6_lays 32 = .ok (.aload_n 0, 1) := by decide +kernel
theorem dX6_lays_33 : decode cX6_lays 33 = .ok (.getfield 87, 3) := by decide +kernel
theorem dX6_lays_36 : decode cX6_lays 36 = .ok (.ishl, 1) := by decide +kernel
theorem dX6_lays_37 : decode cX6_lays 37 = .ok (.iconst 1, 1) := by decide +kernel
theorem dX6_lays_38 : decode cX6_lays 38 = .ok (.isub, 1) := by decide +kernel
theorem dX6_lays_39 : decode cX6_lays 39 = .ok (.istore_n 2, 1) := by decide +kernel
theorem dX6_lays_40 : decode cX6_lays 40 = .ok (.iload_n 2, 1) := by decide +kernel
theorem dX6_lays_41 : decode cX6_lays 41 = .ok (.ifCond .eq 45, 3) := by decide +kernel
theorem dX6_lays_44 : decode cX6_lays 44 = .ok (.aload_n 0, 1) := by decide +kernel
theorem dX6_lays_45 : decode cX6_lays 45 = .ok (.iload_n 2, 1) := by decide +kernel
theorem dX6_lays_46 : decode cX6_lays 46 = .ok (.invokevirtual 262, 3) := by decide +kernel
theorem dX6_lays_49 : decode cX6_lays 49 = .ok (.istore_n 3, 1) := by decide +kernel
theorem dX6_lays_50 : decode cX6_lays 50 = .ok (.aload_n 0, 1) := by decide +kernel
theorem dX6_lays_51 : decode cX6_lays 51 = .ok (.iload_n 3, 1) := by decide +kernel
theorem dX6_lays_52 : decode cX6_lays 52 = .ok (.invokevirtual 265, 3) := by decide +kernel
theorem dX6_lays_55 : decode cX6_lays 55 = .ok (.iload_n 1, 1) := by decide +kernel
theorem dX6_lays_56 : decode cX6_lays 56 = .ok (.aload_n 0, 1) := by decide +kernel
theorem dX6_lays_57 : decode cX6_lays 57 = .ok (.getfield 29, 3) := by decide +kernel
theorem dX6_lays_60 : decode cX6_lays 60 = .ok (.iload_n 3, 1) := by decide +kernel
theorem dX6_lays_61 : decode cX6_lays 61 = .ok (.iaload, 1) := by decide +kernel
theorem dX6_lays_62 : decode cX6_lays 62 = .ok (.bipush (-2), 2) := by decide +kernel
theorem dX6_lays_64 : decode cX6_lays 64 = .ok (.if_icmp .eq 7, 3) := by decide +kernel
theorem dX6_lays_67 : decode cX6_lays 67 = .ok (.iconst 1, 1) := by decide +kernel
theorem dX6_lays_68 : decode cX6_lays 68 = .ok (.goto 4, 3) := by decide +kernel
theorem dX6_lays_71 : decode cX6_lays 71 = .ok (.iconst 0, 1) := by decide +kernel
theorem dX6_lays_72 : decode cX6_lays 72 = .ok (.invokestatic 224, 3) := by decide +kernel
theorem dX6_lays_75 : decode cX6_lays 75 = .ok (.iadd, 1) := by decide +kernel
theorem dX6_lays_76 : decode cX6_lays 76 = .ok (.istore_n 1, 1) := by decide +kernel
theorem dX6_lays_77 : decode cX6_lays 77 = .ok (.iload_n 2, 1) := by decide +kernel
theorem dX6_lays_78 : decode cX6_lays 78 = .ok (.iconst 1, 1) := by decide +kernel
theorem dX6_lays_79 : decode cX6_lays 79 = .ok (.iload_n 3, 1) := by decide +kernel
theorem dX6_lays_80 : decode cX6_lays 80 = .ok (.ishl, 1) := by decide +kernel
theorem dX6_lays_81 : decode cX6_lays 81 = .ok (.ixor, 1) := by decide +kernel
theorem dX6_lays_82 : decode cX6_lays 82 = .ok (.istore_n 2, 1) := by decide +kernel
theorem dX6_lays_83 : decode cX6_lays 83 = .ok (.goto (-43), 3) := by decide +kernel
theorem dX6_lays_86 : decode cX6_lays 86 = .ok (.aload_n 0, 1) := by decide +kernel
theorem dX6_lays_87 : decode cX6_lays 87 = .ok (.aload_n 0, 1) := by decide +kernel
theorem dX6_lays_88 : decode cX6_lays 88 = .ok (.invokevirtual 199, 3) := by decide +kernel
theorem dX6_lays_91 : decode cX6_lays 91 = .ok (.invokestatic 161, 3) := by decide +kernel
theorem dX6_lays_94 : decode cX6_lays 94 = .ok (.invokevirtual 78, 3) := by decide +kernel
theorem dX6_lays_97 : decode cX6_lays 97 = .ok (.iload_n 1, 1) := by decide +kernel
theorem dX6_lays_98 : decode cX6_lays 98 = .ok (.ireturn, 1) := by decide +kernel
theorem dX6_freeIn_0 : decode cX6_freeIn 0 = .ok (.iconst 0, 1) := by decide +kernel
theorem dX6_freeIn_1 : decode cX6_freeIn 1 = .ok (.istore_n 3, 1) := by decide +kernel
theorem dX6_freeIn_2 : decode cX6_freeIn 2 = .ok (.iload_n 3, 1) := by decide +kernel
theorem dX6_freeIn_3 : decode cX6_freeIn 3 = .ok (.aload_n 0, 1) := by decide +kernel
theorem dX6_freeIn_4 : decode cX6_freeIn 4 = .ok (.getfield 87, 3) := by decide +kernel
theorem dX6_freeIn_7 : decode cX6_freeIn 7 = .ok (.if_icmp .ge 40, 3) := by decide +kernel
theorem dX6_freeIn_10 : decode cX6_freeIn 10 = .ok (.aload_n 0, 1) := by decide +kernel
theorem dX6_freeIn_11 : decode cX6_freeIn 11 = .ok (.getfield 20, 3) := by decide +kernel
theorem dX6_freeIn_14 : decode cX6_freeIn 14 = .ok (.iload_n 3, 1) := by decide +kernel
theorem dX6_freeIn_15 : decode cX6_freeIn 15 = .ok (.iaload, 1) := by decide +kernel
theorem dX6_freeIn_16 : decode cX6_freeIn 16 = .ok (.iload_n 1, 1) := by decide +kernel
theorem dX6_freeIn_17 : decode cX6_freeIn 17 = .ok (.if_icmp .ne 24, 3) := by decide +kernel
theorem dX6_freeIn_20 : decode cX6_freeIn 20 = .ok (.aload_n 0, 1) := by decide +kernel
theorem dX6_freeIn_21 : decode cX6_freeIn 21 = .ok (.getfield 29, 3) := by decide +kernel
theorem dX6_freeIn_24 : decode cX6_freeIn 24 = .ok (.iload_n 3, 1) := by decide +kernel
theorem dX6_freeIn_25 : decode cX6_freeIn 25 = .ok (.iaload, 1) := by decide +kernel
theorem dX6_freeIn_26 : decode cX6_freeIn 26 = .ok (.iload_n 2, 1) := by decide +kernel
theorem dX6_freeIn_27 : decode cX6_freeIn 27 = .ok (.if_icmp .ne 14, 3) := by decide +kernel
theorem dX6_freeIn_30 : decode cX6_freeIn 30 = .ok (.aload_n 0, 1) := by decide +kernel
theorem dX6_freeIn_31 : decode cX6_freeIn 31 = .ok (.getfield 56, 3) := by decide +kernel
theorem dX6_freeIn_34 : decode cX6_freeIn 34 = .ok (.iload_n 3, 1) := by decide +kernel
theorem dX6_freeIn_35 : decode cX6_freeIn 35 = .ok (.iaload, 1) := by decide +kernel
theorem dX6_freeIn_36 : decode cX6_freeIn 36 = .ok (.ifCond .le 5, 3) := by decide +kernel
theorem dX6_freeIn_39 : decode cX6_freeIn 39 = .ok (.iload_n 3, 1) := by decide +kernel
theorem dX6_freeIn_40 : decode cX6_freeIn 40 = .ok (.ireturn, 1) := by decide +kernel
theorem dX6_freeIn_41 : decode cX6_freeIn 41 = .ok (.iinc 3 1, 3) := by decide +kernel
theorem dX6_freeIn_44 : decode cX6_freeIn 44 = .ok (.goto (-42), 3) := by decide +kernel
theorem dX6_freeIn_47 : decode cX6_freeIn 47 = .ok (.iconst (-1), 1) := by decide +kernel
theorem dX6_freeIn_48 : decode cX6_freeIn 48 = .ok (.ireturn, 1) := by decide +kernel
set_option maxRecDepth 20000 in
theorem ggX6_seatsWay_J6_numberOfTrailingZeros_0f7a4 : GoodIn wsX6_seatsWay wsJ6_numberOfTrailingZeros_0f7a4 := goodIn_r _ [5, 6] (by decide +kernel) (by decide +kernel)
set_option maxRecDepth 20000 in
theorem gX6_seatsWay_J6_numberOfTrailingZeros_0f7a4 : GoodIn wsX6_seatsWay (va_wsS RX6 173 yJ6_numberOfTrailingZeros_0f7a4 wsJ6_numberOfTrailingZeros_0f7a4) := goodIn_app (goodIn_of _ (by decide +kernel)) ggX6_seatsWay_J6_numberOfTrailingZeros_0f7a4
set_option maxRecDepth 20000 in
theorem ggX6_seatsWay_X6_has : GoodIn wsX6_seatsWay wsX6_has := goodIn_r _ [10] (by decide +kernel) (by decide +kernel)
set_option maxRecDepth 20000 in
theorem gX6_seatsWay_X6_has : GoodIn wsX6_seatsWay (va_wsS RX6 93 yX6_has wsX6_has) := goodIn_app (goodIn_of _ (by decide +kernel)) ggX6_seatsWay_X6_has
set_option maxRecDepth 20000 in
theorem ggX6_seatsWay_X6_freeIn : GoodIn wsX6_seatsWay wsX6_freeIn := goodIn_r _ [14, 15, 16, 17, 18, 22, 23, 24, 25, 26, 27, 28, 29, 30, 31, 32, 33, 34, 35, 36, 37, 38, 39, 40, 41, 42, 43, 44, 45, 46, 47, 48, 49, 50] (by decide +kernel) (by decide +kernel)
set_option maxRecDepth 20000 in
theorem gX6_seatsWay_X6_freeIn : GoodIn wsX6_seatsWay (wsV RX6 268 RX6 yX6_freeIn wsX6_freeIn) := goodIn_app (goodIn_of _ (by decide +kernel)) ggX6_seatsWay_X6_freeIn
set_option maxRecDepth 20000 in
theorem ggX6_seatsWay_X6_seatsWay : GoodIn wsX6_seatsWay wsX6_seatsWay := goodIn_r _ [0, 1, 2, 3, 4, 5, 6, 7, 8, 9, 10, 11, 12, 13, 14, 15, 16, 17, 18, 19, 20, 21, 22, 23, 24, 25, 26, 27, 28, 29, 30, 31, 32, 33, 34, 35, 36, 37, 38, 39, 40, 41, 42, 43, 44, 45, 46, 47, 48, 49, 50] (by decide +kernel) (by decide +kernel)
set_option maxRecDepth 20000 in
theorem gX6_seatsWay_X6_seatsWay : GoodIn wsX6_seatsWay (wsV RX6 271 RX6 yX6_seatsWay wsX6_seatsWay) := goodIn_app (goodIn_of _ (by decide +kernel)) ggX6_seatsWay_X6_seatsWay
theorem dX6_seatsWay_0 : decode cX6_seatsWay 0 = .ok (.iload_n 1, 1) := by decide +kernel
theorem dX6_seatsWay_1 : decode cX6_seatsWay 1 = .ok (.ifCond .ne 5, 3) := by decide +kernel
theorem dX6_seatsWay_4 : decode cX6_seatsWay 4 = .ok (.iconst 0, 1) := by decide +kernel
theorem dX6_seatsWay_5 : decode cX6_seatsWay 5 = .ok (.ireturn, 1) := by decide +kernel
theorem dX6_seatsWay_6 : decode cX6_seatsWay 6 = .ok (.iload_n 1, 1) := by decide +kernel
theorem dX6_seatsWay_7 : decode cX6_seatsWay 7 = .ok (.invokestatic 173, 3) := by decide +kernel
theorem dX6_seatsWay_10 : decode cX6_seatsWay 10 = .ok (.istore_n 3, 1) := by decide +kernel
theorem dX6_seatsWay_11 : decode cX6_seatsWay 11 = .ok (.iconst 0, 1) := by decide +kernel
theorem dX6_seatsWay_12 : decode cX6_seatsWay 12 = .ok (.istore 4, 2) := by decide +kernel
theorem dX6_seatsWay_14 : decode cX6_seatsWay 14 = .ok (.iload 4, 2) := by decide +kernel
theorem dX6_seatsWay_16 : decode cX6_seatsWay 16 = .ok (.aload_n 0, 1) := by decide +kernel
theorem dX6_seatsWay_17 : decode cX6_seatsWay 17 = .ok (.getfield 13, 3) := by decide +kernel
theorem dX6_seatsWay_20 : decode cX6_seatsWay 20 = .ok (.if_icmp .ge 71, 3) := by decide +kernel
theorem dX6_seatsWay_23 : decode cX6_seatsWay 23 = .ok (.iload_n 2, 1) := by decide +kernel
theorem dX6_seatsWay_24 : decode cX6_seatsWay 24 = .ok (.iload 4, 2) := by decide +kernel
theorem dX6_seatsWay_26 : decode cX6_seatsWay 26 = .ok (.invokestatic 93, 3) := by decide +kernel
theorem dX6_seatsWay_29 : decode cX6_seatsWay 29 = .ok (.ifCond .eq 7, 3) := by decide +kernel
theorem dX6_seatsWay_32 : decode cX6_seatsWay 32 = .ok (.iconst (-1), 1) := by decide +kernel
theorem dX6_seatsWay_33 : decode cX6_seatsWay 33 = .ok (.goto 10, 3) := by decide +kernel
theorem dX6_seatsWay_36 : decode cX6_seatsWay 36 = .ok (.aload_n 0, 1) := by decide +kernel
theorem dX6_seatsWay_37 : decode cX6_seatsWay 37 = .ok (.iload_n 3, 1) := by decide +kernel
theorem dX6_seatsWay_38 : decode cX6_seatsWay 38 = .ok (.iload 4, 2) := by decide +kernel
theorem dX6_seatsWay_40 : decode cX6_seatsWay 40 = .ok (.invokevirtual 268, 3) := by decide +kernel
theorem dX6_seatsWay_43 : decode cX6_seatsWay 43 = .ok (.istore 5, 2) := by decide +kernel
theorem dX6_seatsWay_45 : decode cX6_seatsWay 45 = .ok (.iload 5, 2) := by decide +kernel
theorem dX6_seatsWay_47 : decode cX6_seatsWay 47 = .ok (.iconst (-1), 1) := by decide +kernel
theorem dX6_seatsWay_48 : decode cX6_seatsWay 48 = .ok (.if_icmp .ne 6, 3) := by decide +kernel
theorem dX6_seatsWay_51 : decode cX6_seatsWay 51 = .ok (.goto 34, 3) := by decide +kernel
theorem dX6_seatsWay_54 : decode cX6_seatsWay 54 = .ok (.aload_n 0, 1) := by decide +kernel
theorem dX6_seatsWay_55 : decode cX6_seatsWay 55 = .ok (.iload_n 1, 1) := by decide +kernel
theorem dX6_seatsWay_56 : decode cX6_seatsWay 56 = .ok (.iload_n 1, 1) := by decide +kernel
theorem dX6_seatsWay_57 : decode cX6_seatsWay 57 = .ok (.iconst 1, 1) := by decide +kernel
theorem dX6_seatsWay_58 : decode cX6_seatsWay 58 = .ok (.isub, 1) := by decide +kernel
theorem dX6_seatsWay_59 : decode cX6_seatsWay 59 = .ok (.iand, 1) := by decide +kernel
theorem dX6_seatsWay_60 : decode cX6_seatsWay 60 = .ok (.iload_n 2, 1) := by decide +kernel
theorem dX6_seatsWay_61 : decode cX6_seatsWay 61 = .ok (.iconst 1, 1) := by decide +kernel
theorem dX6_seatsWay_62 : decode cX6_seatsWay 62 = .ok (.iload 4, 2) := by decide +kernel
theorem dX6_seatsWay_64 : decode cX6_seatsWay 64 = .ok (.ishl, 1) := by decide +kernel
theorem dX6_seatsWay_65 : decode cX6_seatsWay 65 = .ok (.ior, 1) := by decide +kernel
theorem dX6_seatsWay_66 : decode cX6_seatsWay 66 = .ok (.invokevirtual 271, 3) := by decide +kernel
theorem dX6_seatsWay_69 : decode cX6_seatsWay 69 = .ok (.istore 6, 2) := by decide +kernel
theorem dX6_seatsWay_71 : decode cX6_seatsWay 71 = .ok (.iload 6, 2) := by decide +kernel
theorem dX6_seatsWay_73 : decode cX6_seatsWay 73 = .ok (.iconst (-1), 1) := by decide +kernel
theorem dX6_seatsWay_74 : decode cX6_seatsWay 74 = .ok (.if_icmp .eq 11, 3) := by decide +kernel
theorem dX6_seatsWay_77 : decode cX6_seatsWay 77 = .ok (.iload 6, 2) := by decide +kernel
theorem dX6_seatsWay_79 : decode cX6_seatsWay 79 = .ok (.iconst 1, 1) := by decide +kernel
theorem dX6_seatsWay_80 : decode cX6_seatsWay 80 = .ok (.iload 5, 2) := by decide +kernel
theorem dX6_seatsWay_82 : decode cX6_seatsWay 82 = .ok (.ishl, 1) := by decide +kernel
theorem dX6_seatsWay_83 : decode cX6_seatsWay 83 = .ok (.ior, 1) := by decide +kernel
theorem dX6_seatsWay_84 : decode cX6_seatsWay 84 = .ok (.ireturn, 1) := by decide +kernel
theorem dX6_seatsWay_85 : decode cX6_seatsWay 85 = .ok (.iinc 4 1, 3) := by decide +kernel
theorem dX6_seatsWay_88 : decode cX6_seatsWay 88 = .ok (.goto (-74), 3) := by decide +kernel
theorem dX6_seatsWay_91 : decode cX6_seatsWay 91 = .ok (.iconst (-1), 1) := by decide +kernel
theorem dX6_seatsWay_92 : decode cX6_seatsWay 92 = .ok (.ireturn, 1) := by decide +kernel
set_option maxRecDepth 20000 in
theorem ggX6_seatsAll_X6_seatsWay : GoodIn wsX6_seatsAll wsX6_seatsWay := goodIn_r _ [15, 16, 17, 18, 19, 20, 21, 22, 23, 14, 24, 25, 26, 27, 28, 1, 29, 30, 2, 11, 12, 13, 31, 32, 33, 34, 35, 36, 37, 38, 39, 40, 41, 42, 43, 44, 45, 46, 47, 48, 49, 50, 51, 52, 53, 54, 55, 56, 57, 58, 59] (by decide +kernel) (by decide +kernel)
set_option maxRecDepth 20000 in
theorem gX6_seatsAll_X6_seatsWay : GoodIn wsX6_seatsAll (wsV RX6 271 RX6 yX6_seatsWay wsX6_seatsWay) := goodIn_app (goodIn_of _ (by decide +kernel)) ggX6_seatsAll_X6_seatsWay
theorem dX6_seatsAll_0 : decode cX6_seatsAll 0 = .ok (.iconst 0, 1) := by decide +kernel
theorem dX6_seatsAll_1 : decode cX6_seatsAll 1 = .ok (.istore_n 2, 1) := by decide +kernel
theorem dX6_seatsAll_2 : decode cX6_seatsAll 2 = .ok (.iconst 0, 1) := by decide +kernel
theorem dX6_seatsAll_3 : decode cX6_seatsAll 3 = .ok (.istore_n 3, 1) := by decide +kernel
theorem dX6_seatsAll_4 : decode cX6_seatsAll 4 = .ok (.iload_n 3, 1) := by decide +kernel
theorem dX6_seatsAll_5 : decode cX6_seatsAll 5 = .ok (.aload_n 0, 1) := by decide +kernel
theorem dX6_seatsAll_6 : decode cX6_seatsAll 6 = .ok (.getfield 87, 3) := by decide +kernel
theorem dX6_seatsAll_9 : decode cX6_seatsAll 9 = .ok (.if_icmp .ge 21, 3) := by decide +kernel
theorem dX6_seatsAll_12 : decode cX6_seatsAll 12 = .ok (.aload_n 0, 1) := by decide +kernel
theorem dX6_seatsAll_13 : decode cX6_seatsAll 13 = .ok (.getfield 56, 3) := by decide +kernel
theorem dX6_seatsAll_16 : decode cX6_seatsAll 16 = .ok (.iload_n 3, 1) := by decide +kernel
theorem dX6_seatsAll_17 : decode cX6_seatsAll 17 = .ok (.aload_n 0, 1) := by decide +kernel
theorem dX6_seatsAll_18 : decode cX6_seatsAll 18 = .ok (.getfield 26, 3) := by decide +kernel
theorem dX6_seatsAll_21 : decode cX6_seatsAll 21 = .ok (.iload_n 3, 1) := by decide +kernel
theorem dX6_seatsAll_22 : decode cX6_seatsAll 22 = .ok (.iaload, 1) := by decide +kernel
theorem dX6_seatsAll_23 : decode cX6_seatsAll 23 = .ok (.iastore, 1) := by decide +kernel
theorem dX6_seatsAll_24 : decode cX6_seatsAll 24 = .ok (.iinc 3 1, 3) := by decide +kernel
theorem dX6_seatsAll_27 : decode cX6_seatsAll 27 = .ok (.goto (-23), 3) := by decide +kernel
theorem dX6_seatsAll_30 : decode cX6_seatsAll 30 = .ok (.iconst 0, 1) := by decide +kernel
theorem dX6_seatsAll_31 : decode cX6_seatsAll 31 = .ok (.istore_n 3, 1) := by decide +kernel
theorem dX6_seatsAll_32 : decode cX6_seatsAll 32 = .ok (.iload_n 3, 1) := by decide +kernel
theorem dX6_seatsAll_33 : decode cX6_seatsAll 33 = .ok (.aload_n 0, 1) := by decide +kernel
theorem dX6_seatsAll_34 : decode cX6_seatsAll 34 = .ok (.getfield 90, 3) := by decide +kernel
theorem dX6_seatsAll_37 : decode cX6_seatsAll 37 = .ok (.if_icmp .ge 111, 3) := by decide +kernel
theorem dX6_seatsAll_40 : decode cX6_seatsAll 40 = .ok (.iload_n 1, 1) := by decide +kernel
theorem dX6_seatsAll_41 : decode cX6_seatsAll 41 = .ok (.ifCond .eq 14, 3) := by decide +kernel
theorem dX6_seatsAll_44 : decode cX6_seatsAll 44 = .ok (.aload_n 0, 1) := by decide +kernel
theorem dX6_seatsAll_45 : decode cX6_seatsAll 45 = .ok (.getfield 90, 3) := by decide +kernel
theorem dX6_seatsAll_48 : decode cX6_seatsAll 48 = .ok (.iconst 1, 1) := by decide +kernel
theorem dX6_seatsAll_49 : decode cX6_seatsAll 49 = .ok (.isub, 1) := by decide +kernel
theorem dX6_seatsAll_50 : decode cX6_seatsAll 50 = .ok (.iload_n 3, 1) := by decide +kernel
theorem dX6_seatsAll_51 : decode cX6_seatsAll 51 = .ok (.isub, 1) := by decide +kernel
theorem dX6_seatsAll_52 : decode cX6_seatsAll 52 = .ok (.goto 4, 3) := by decide +kernel
theorem dX6_seatsAll_55 : decode cX6_seatsAll 55 = .ok (.iload_n 3, 1) := by decide +kernel
theorem dX6_seatsAll_56 : decode cX6_seatsAll 56 = .ok (.istore 4, 2) := by decide +kernel
theorem dX6_seatsAll_58 : decode cX6_seatsAll 58 = .ok (.aload_n 0, 1) := by decide +kernel
theorem dX6_seatsAll_59 : decode cX6_seatsAll 59 = .ok (.aload_n 0, 1) := by decide +kernel
theorem dX6_seatsAll_60 : decode cX6_seatsAll 60 = .ok (.getfield 35, 3) := by decide +kernel
theorem dX6_seatsAll_63 : decode cX6_seatsAll 63 = .ok (.iload 4, 2) := by decide +kernel
theorem dX6_seatsAll_65 : decode cX6_seatsAll 65 = .ok (.iaload, 1) := by decide +kernel
theorem dX6_seatsAll_66 : decode cX6_seatsAll 66 = .ok (.iconst 0, 1) := by decide +kernel
theorem dX6_seatsAll_67 : decode cX6_seatsAll 67 = .ok (.invokevirtual 271, 3) := by decide +kernel
theorem dX6_seatsAll_70 : decode cX6_seatsAll 70 = .ok (.istore 5, 2) := by decide +kernel
theorem dX6_seatsAll_72 : decode cX6_seatsAll 72 = .ok (.aload_n 0, 1) := by decide +kernel
theorem dX6_seatsAll_73 : decode cX6_seatsAll 73 = .ok (.getfield 59, 3) := by decide +kernel
theorem dX6_seatsAll_76 : decode cX6_seatsAll 76 = .ok (.iload 4, 2) := by decide +kernel
theorem dX6_seatsAll_78 : decode cX6_seatsAll 78 = .ok (.iconst 0, 1) := by decide +kernel
theorem dX6_seatsAll_79 : decode cX6_seatsAll 79 = .ok (.iload 5, 2) := by decide +kernel
theorem dX6_seatsAll_81 : decode cX6_seatsAll 81 = .ok (.invokestatic 274, 3) := by decide +kernel
theorem dX6_seatsAll_84 : decode cX6_seatsAll 84 = .ok (.iastore, 1) := by decide +kernel
theorem dX6_seatsAll_85 : decode cX6_seatsAll 85 = .ok (.iconst 0, 1) := by decide +kernel
theorem dX6_seatsAll_86 : decode cX6_seatsAll 86 = .ok (.istore 6, 2) := by decide +kernel
theorem dX6_seatsAll_88 : decode cX6_seatsAll 88 = .ok (.iload 6, 2) := by decide +kernel
theorem dX6_seatsAll_90 : decode cX6_seatsAll 90 = .ok (.aload_n 0, 1) := by decide +kernel
theorem dX6_seatsAll_91 : decode cX6_seatsAll 91 = .ok (.getfield 87, 3) := by decide +kernel
theorem dX6_seatsAll_94 : decode cX6_seatsAll 94 = .ok (.if_icmp .ge 31, 3) := by decide +kernel
theorem dX6_seatsAll_97 : decode cX6_seatsAll 97 = .ok (.aload_n 0, 1) := by decide +kernel
theorem dX6_seatsAll_98 : decode cX6_seatsAll 98 = .ok (.getfield 56, 3) := by decide +kernel
theorem dX6_seatsAll_101 : decode cX6_seatsAll 101 = .ok (.iload 6, 2) := by decide +kernel
theorem dX6_seatsAll_103 : decode cX6_seatsAll 103 = .ok (.dup2, 1) := by decide +kernel
theorem dX6_seatsAll_104 : decode cX6_seatsAll 104 = .ok (.iaload, 1) := by decide +kernel
theorem dX6_seatsAll_105 : decode cX6_seatsAll 105 = .ok (.aload_n 0, 1) := by decide +kernel
theorem dX6_seatsAll_106 : decode cX6_seatsAll 106 = .ok (.getfield 59, 3) := by decide +kernel
theorem dX6_seatsAll_109 : decode cX6_seatsAll 109 = .ok (.iload 4, 2) := by decide +kernel
theorem dX6_seatsAll_111 : decode cX6_seatsAll 111 = .ok (.iaload, 1) := by decide +kernel
theorem dX6_seatsAll_112 : decode cX6_seatsAll 112 = .ok (.iload 6, 2) := by decide +kernel
theorem dX6_seatsAll_114 : decode cX6_seatsAll 114 = .ok (.ishr, 1) := by decide +kernel
theorem dX6_seatsAll_115 : decode cX6_seatsAll 115 = .ok (.iconst 1, 1) := by decide +kernel
theorem dX6_seatsAll_116 : decode cX6_seatsAll 116 = .ok (.iand, 1) := by decide +kernel
theorem dX6_seatsAll_117 : decode cX6_seatsAll 117 = .ok (.isub, 1) := by decide +kernel
theorem dX6_seatsAll_118 : decode cX6_seatsAll 118 = .ok (.iastore, 1) := by decide +kernel
theorem dX6_seatsAll_119 : decode cX6_seatsAll 119 = .ok (.iinc 6 1, 3) := by decide +kernel
theorem dX6_seatsAll_122 : decode cX6_seatsAll 122 = .ok (.goto (-34), 3) := by decide +kernel
theorem dX6_seatsAll_125 : decode cX6_seatsAll 125 = .ok (.iload_n 2, 1) := by decide +kernel
theorem dX6_seatsAll_126 : decode cX6_seatsAll 126 = .ok (.iload 5, 2) := by decide +kernel
theorem dX6_seatsAll_128 : decode cX6_seatsAll 128 = .ok (.iconst (-1), 1) := by decide +kernel
theorem dX6_seatsAll_129 : decode cX6_seatsAll 129 = .ok (.if_icmp .ne 7, 3) := by decide +kernel
theorem dX6_seatsAll_132 : decode cX6_seatsAll 132 = .ok (.iconst 0, 1) := by decide +kernel
theorem dX6_seatsAll_133 : decode cX6_seatsAll 133 = .ok (.goto 7, 3) := by decide +kernel
theorem dX6_seatsAll_136 : decode cX6_seatsAll 136 = .ok (.iconst 1, 1) := by decide +kernel
theorem dX6_seatsAll_137 : decode cX6_seatsAll 137 = .ok (.iload 4, 2) := by decide +kernel
theorem dX6_seatsAll_139 : decode cX6_seatsAll 139 = .ok (.ishl, 1) := by decide +kernel
theorem dX6_seatsAll_140 : decode cX6_seatsAll 140 = .ok (.ior, 1) := by decide +kernel
theorem dX6_seatsAll_141 : decode cX6_seatsAll 141 = .ok (.istore_n 2, 1) := by decide +kernel
theorem dX6_seatsAll_142 : decode cX6_seatsAll 142 = .ok (.iinc 3 1, 3) := by decide +kernel
theorem dX6_seatsAll_145 : decode cX6_seatsAll 145 = .ok (.goto (-113), 3) := by decide +kernel
theorem dX6_seatsAll_148 : decode cX6_seatsAll 148 = .ok (.iload_n 2, 1) := by decide +kernel
theorem dX6_seatsAll_149 : decode cX6_seatsAll 149 = .ok (.ireturn, 1) := by decide +kernel
set_option maxRecDepth 20000 in
theorem ggX6_seated_X6_seatsAll : GoodIn wsX6_seated wsX6_seatsAll := goodIn_r _ [6, 7, 8, 9, 10, 11, 12, 13, 14, 15, 16, 17, 18, 19, 5, 20, 21, 22, 23, 24, 25, 26, 27, 28, 29, 30, 31, 32, 33, 34, 35, 55, 56, 57, 58, 59, 60, 61, 62, 63, 64, 65, 66, 67, 68, 69, 70, 71, 72, 73, 74, 75, 76, 77, 78, 79, 80, 81, 82, 83] (by decide +kernel) (by decide +kernel)
set_option maxRecDepth 20000 in
theorem gX6_seated_X6_seatsAll : GoodIn wsX6_seated (wsV RX6 279 RX6 yX6_seatsAll wsX6_seatsAll) := goodIn_app (goodIn_of _ (by decide +kernel)) ggX6_seated_X6_seatsAll
set_option maxRecDepth 20000 in
theorem ggX6_seated_X6_notesOne : GoodIn wsX6_seated wsX6_notesOne := goodIn_r _ [39, 40, 41, 42, 43, 5, 44, 45, 55, 56, 57, 58, 59, 60, 61, 62, 63, 64, 65, 66, 67, 68, 69, 70, 71, 72, 73, 74, 75, 76, 77, 78, 79, 80, 81, 82, 83] (by decide +kernel) (by decide +kernel)
set_option maxRecDepth 20000 in
theorem gX6_seated_X6_notesOne : GoodIn wsX6_seated (wsV RX6 78 RX6 yX6_notesOne wsX6_notesOne) := goodIn_app (goodIn_of _ (by decide +kernel)) ggX6_seated_X6_notesOne
set_option maxRecDepth 20000 in
theorem ggX6_seated_X6_bits : GoodIn wsX6_seated wsX6_bits := goodIn_r _ [48, 49, 50, 24, 51, 52, 53, 54] (by decide +kernel) (by decide +kernel)
set_option maxRecDepth 20000 in
theorem gX6_seated_X6_bits : GoodIn wsX6_seated (va_wsS RX6 161 yX6_bits wsX6_bits) := goodIn_app (goodIn_of _ (by decide +kernel)) ggX6_seated_X6_bits
theorem dX6_seated_0 : decode cX6_seated 0 = .ok (.aload_n 0, 1) := by decide +kernel
theorem dX6_seated_1 : decode cX6_seated 1 = .ok (.iconst 0, 1) := by decide +kernel
theorem dX6_seated_2 : decode cX6_seated 2 = .ok (.putfield 62, 3) := by decide +kernel
theorem dX6_seated_5 : decode cX6_seated 5 = .ok (.aload_n 0, 1) := by decide +kernel
theorem dX6_seated_6 : decode cX6_seated 6 = .ok (.iload_n 1, 1) := by decide +kernel
theorem dX6_seated_7 : decode cX6_seated 7 = .ok (.invokevirtual 279, 3) := by decide +kernel
theorem dX6_seated_10 : decode cX6_seated 10 = .ok (.istore_n 2, 1) := by decide +kernel
theorem dX6_seated_11 : decode cX6_seated 11 = .ok (.aload_n 0, 1) := by decide +kernel
theorem dX6_seated_12 : decode cX6_seated 12 = .ok (.iload_n 2, 1) := by decide +kernel
theorem dX6_seated_13 : decode cX6_seated 13 = .ok (.invokevirtual 78, 3) := by decide +kernel
theorem dX6_seated_16 : decode cX6_seated 16 = .ok (.iload_n 2, 1) := by decide +kernel
theorem dX6_seated_17 : decode cX6_seated 17 = .ok (.invokestatic 161, 3) := by decide +kernel
theorem dX6_seated_20 : decode cX6_seated 20 = .ok (.ireturn, 1) := by decide +kernel
set_option maxRecDepth 20000 in
theorem ggX6_sits_X6_isSection : GoodIn wsX6_sits wsX6_isSection := goodIn_r _ [9, 10, 11, 12, 8, 13, 53, 54, 55, 56, 57, 58, 59, 60, 61, 62, 63, 64, 65, 66, 67, 68, 69, 70, 71, 72, 73, 74, 75, 76, 77, 78, 79, 80, 81] (by decide +kernel) (by decide +kernel)
set_option maxRecDepth 20000 in
theorem gX6_sits_X6_isSection : GoodIn wsX6_sits (wsV RX6 193 RX6 yX6_isSection wsX6_isSection) := goodIn_app (goodIn_of _ (by decide +kernel)) ggX6_sits_X6_isSection
set_option maxRecDepth 20000 in
theorem ggX6_sits_X6_seatsAll : GoodIn wsX6_sits wsX6_seatsAll := goodIn_r _ [17, 10, 4, 18, 2, 19, 3, 20, 21, 22, 23, 24, 25, 26, 8, 27, 28, 29, 30, 31, 32, 33, 34, 35, 36, 37, 38, 39, 40, 41, 42, 53, 54, 55, 56, 57, 58, 59, 60, 61, 62, 63, 64, 65, 66, 67, 68, 69, 70, 71, 72, 73, 74, 75, 76, 77, 78, 79, 80, 81] (by decide +kernel) (by decide +kernel)
set_option maxRecDepth 20000 in
theorem gX6_sits_X6_seatsAll : GoodIn wsX6_sits (wsV RX6 279 RX6 yX6_seatsAll wsX6_seatsAll) := goodIn_app (goodIn_of _ (by decide +kernel)) ggX6_sits_X6_seatsAll
set_option maxRecDepth 20000 in
theorem ggX6_sits_X6_has : GoodIn wsX6_sits wsX6_has := goodIn_r _ [36] (by decide +kernel) (by decide +kernel)
set_option maxRecDepth 20000 in
theorem gX6_sits_X6_has : GoodIn wsX6_sits (va_wsS RX6 93 yX6_has wsX6_has) := goodIn_app (goodIn_of _ (by decide +kernel)) ggX6_sits_X6_has
set_option maxRecDepth 20000 in
theorem ggX6_sits_X6_notesOne : GoodIn wsX6_sits wsX6_notesOne := goodIn_r _ [46, 47, 48, 49, 50, 8, 51, 52, 53, 54, 55, 56, 57, 58, 59, 60, 61, 62, 63, 64, 65, 66, 67, 68, 69, 70, 71, 72, 73, 74, 75, 76, 77, 78, 79, 80, 81] (by decide +kernel) (by decide +kernel)
set_option maxRecDepth 20000 in
theorem gX6_sits_X6_notesOne : GoodIn wsX6_sits (wsV RX6 78 RX6 yX6_notesOne wsX6_notesOne) := goodIn_app (goodIn_of _ (by decide +kernel)) ggX6_sits_X6_notesOne
theorem dX6_sits_0 : decode cX6_sits 0 = .ok (.aload_n 0, 1) := by decide +kernel
theorem dX6_sits_1 : decode cX6_sits 1 = .ok (.iconst 0, 1) := by decide +kernel
theorem dX6_sits_2 : decode cX6_sits 2 = .ok (.putfield 62, 3) := by decide +kernel
theorem dX6_sits_5 : decode cX6_sits 5 = .ok (.aload_n 0, 1) := by decide +kernel
theorem dX6_sits_6 : decode cX6_sits 6 = .ok (.iload_n 1, 1) := by decide +kernel
theorem dX6_sits_7 : decode cX6_sits 7 = .ok (.invokevirtual 193, 3) := by decide +kernel
theorem dX6_sits_10 : decode cX6_sits 10 = .ok (.ifCond .ne 5, 3) := by decide +kernel
theorem dX6_sits_13 : decode cX6_sits 13 = .ok (.iconst (-1), 1) := by decide +kernel
theorem dX6_sits_14 : decode cX6_sits 14 = .ok (.ireturn, 1) := by decide +kernel
theorem dX6_sits_15 : decode cX6_sits 15 = .ok (.aload_n 0, 1) := by decide +kernel
theorem dX6_sits_16 : decode cX6_sits 16 = .ok (.iconst 0, 1) := by decide +kernel
theorem dX6_sits_17 : decode cX6_sits 17 = .ok (.invokevirtual 279, 3) := by decide +kernel
theorem dX6_sits_20 : decode cX6_sits 20 = .ok (.istore_n 2, 1) := by decide +kernel
theorem dX6_sits_21 : decode cX6_sits 21 = .ok (.iconst 0, 1) := by decide +kernel
theorem dX6_sits_22 : decode cX6_sits 22 = .ok (.istore_n 3, 1) := by decide +kernel
theorem dX6_sits_23 : decode cX6_sits 23 = .ok (.iconst 0, 1) := by decide +kernel
theorem dX6_sits_24 : decode cX6_sits 24 = .ok (.istore 4, 2) := by decide +kernel
theorem dX6_sits_26 : decode cX6_sits 26 = .ok (.iload 4, 2) := by decide +kernel
theorem dX6_sits_28 : decode cX6_sits 28 = .ok (.aload_n 0, 1) := by decide +kernel
theorem dX6_sits_29 : decode cX6_sits 29 = .ok (.getfield 90, 3) := by decide +kernel
theorem dX6_sits_32 : decode cX6_sits 32 = .ok (.if_icmp .ge 43, 3) := by decide +kernel
theorem dX6_sits_35 : decode cX6_sits 35 = .ok (.iload_n 3, 1) := by decide +kernel
theorem dX6_sits_36 : decode cX6_sits 36 = .ok (.iload_n 2, 1) := by decide +kernel
theorem dX6_sits_37 : decode cX6_sits 37 = .ok (.iload 4, 2) := by decide +kernel
theorem dX6_sits_39 : decode cX6_sits 39 = .ok (.invokestatic 93, 3) := by decide +kernel
theorem dX6_sits_42 : decode cX6_sits 42 = .ok (.ifCond .eq 24, 3) := by decide +kernel
theorem dX6_sits_45 : decode cX6_sits 45 = .ok (.aload_n 0, 1) := by decide +kernel
theorem dX6_sits_46 : decode cX6_sits 46 = .ok (.getfield 59, 3) := by decide +kernel
theorem dX6_sits_49 : decode cX6_sits 49 = .ok (.iload 4, 2) := by decide +kernel
theorem dX6_sits_51 : decode cX6_sits 51 = .ok (.iaload, 1) := by decide +kernel
theorem dX6_sits_52 : decode cX6_sits 52 = .ok (.iload_n 1, 1) := by decide +kernel
theorem dX6_sits_53 : decode cX6_sits 53 = .ok (.invokestatic 93, 3) := by decide +kernel
theorem dX6_sits_56 : decode cX6_sits 56 = .ok (.ifCond .eq 10, 3) := by decide +kernel
theorem dX6_sits_59 : decode cX6_sits 59 = .ok (.iconst 1, 1) := by decide +kernel
theorem dX6_sits_60 : decode cX6_sits 60 = .ok (.iload 4, 2) := by decide +kernel
theorem dX6_sits_62 : decode cX6_sits 62 = .ok (.ishl, 1) := by decide +kernel
theorem dX6_sits_63 : decode cX6_sits 63 = .ok (.goto 4, 3) := by decide +kernel
theorem dX6_sits_66 : decode cX6_sits 66 = .ok (.iconst 0, 1) := by decide +kernel
theorem dX6_sits_67 : decode cX6_sits 67 = .ok (.ior, 1) := by decide +kernel
theorem dX6_sits_68 : decode cX6_sits 68 = .ok (.istore_n 3, 1) := by decide +kernel
theorem dX6_sits_69 : decode cX6_sits 69 = .ok (.iinc 4 1, 3) := by decide +kernel
theorem dX6_sits_72 : decode cX6_sits 72 = .ok (.goto (-46), 3) := by decide +kernel
theorem dX6_sits_75 : decode cX6_sits 75 = .ok (.aload_n 0, 1) := by decide +kernel
theorem dX6_sits_76 : decode cX6_sits 76 = .ok (.aload_n 0, 1) := by decide +kernel
theorem dX6_sits_77 : decode cX6_sits 77 = .ok (.getfield 56, 3) := by decide +kernel
theorem dX6_sits_80 : decode cX6_sits 80 = .ok (.iload_n 1, 1) := by decide +kernel
theorem dX6_sits_81 : decode cX6_sits 81 = .ok (.iaload, 1) := by decide +kernel
theorem dX6_sits_82 : decode cX6_sits 82 = .ok (.invokevirtual 78, 3) := by decide +kernel
theorem dX6_sits_85 : decode cX6_sits 85 = .ok (.iload_n 3, 1) := by decide +kernel
theorem dX6_sits_86 : decode cX6_sits 86 = .ok (.ireturn, 1) := by decide +kernel
set_option maxRecDepth 20000 in
theorem ggX6_firstFull_X6_has : GoodIn wsX6_firstFull wsX6_has := goodIn_r _ [8] (by decide +kernel) (by decide +kernel)
set_option maxRecDepth 20000 in
theorem gX6_firstFull_X6_has : GoodIn wsX6_firstFull (va_wsS RX6 93 yX6_has wsX6_has) := goodIn_app (goodIn_of _ (by decide +kernel)) ggX6_firstFull_X6_has
theorem dX6_firstFull_0 : decode cX6_firstFull 0 = .ok (.iconst 0, 1) := by decide +kernel
theorem dX6_firstFull_1 : decode cX6_firstFull 1 = .ok (.istore_n 2, 1) := by decide +kernel
theorem dX6_firstFull_2 : decode cX6_firstFull 2 = .ok (.iload_n 2, 1) := by decide +kernel
theorem dX6_firstFull_3 : decode cX6_firstFull 3 = .ok (.bipush 10, 2) := by decide +kernel
theorem dX6_firstFull_5 : decode cX6_firstFull 5 = .ok (.if_icmp .ge 82, 3) := by decide +kernel
theorem dX6_firstFull_8 : decode cX6_firstFull 8 = .ok (.iload_n 1, 1) := by decide +kernel
theorem dX6_firstFull_9 : decode cX6_firstFull 9 = .ok (.iload_n 2, 1) := by decide +kernel
theorem dX6_firstFull_10 : decode cX6_firstFull 10 = .ok (.invokestatic 93, 3) := by decide +kernel
theorem dX6_firstFull_13 : decode cX6_firstFull 13 = .ok (.istore_n 3, 1) := by decide +kernel
theorem dX6_firstFull_14 : decode cX6_firstFull 14 = .ok (.iconst 0, 1) := by decide +kernel
theorem dX6_firstFull_15 : decode cX6_firstFull 15 = .ok (.istore 4, 2) := by decide +kernel
theorem dX6_firstFull_17 : decode cX6_firstFull 17 = .ok (.iload 4, 2) := by decide +kernel
theorem dX6_firstFull_19 : decode cX6_firstFull 19 = .ok (.aload_n 0, 1) := by decide +kernel
theorem dX6_firstFull_20 : decode cX6_firstFull 20 = .ok (.getfield 87, 3) := by decide +kernel
theorem dX6_firstFull_23 : decode cX6_firstFull 23 = .ok (.if_icmp .ge 52, 3) := by decide +kernel
theorem dX6_firstFull_26 : decode cX6_firstFull 26 = .ok (.iload_n 3, 1) := by decide +kernel
theorem dX6_firstFull_27 : decode cX6_firstFull 27 = .ok (.ifCond .eq 48, 3) := by decide +kernel
theorem dX6_firstFull_30 : decode cX6_firstFull 30 = .ok (.aload_n 0, 1) := by decide +kernel
theorem dX6_firstFull_31 : decode cX6_firstFull 31 = .ok (.getfield 20, 3) := by decide +kernel
theorem dX6_firstFull_34 : decode cX6_firstFull 34 = .ok (.iload 4, 2) := by decide +kernel
theorem dX6_firstFull_36 : decode cX6_firstFull 36 = .ok (.iaload, 1) := by decide +kernel
theorem dX6_firstFull_37 : decode cX6_firstFull 37 = .ok (.iload_n 2, 1) := by decide +kernel
theorem dX6_firstFull_38 : decode cX6_firstFull 38 = .ok (.if_icmp .ne 25, 3) := by decide +kernel
theorem dX6_firstFull_41 : decode cX6_firstFull 41 = .ok (.aload_n 0, 1) := by decide +kernel
theorem dX6_firstFull_42 : decode cX6_firstFull 42 = .ok (.getfield 29, 3) := by decide +kernel
theorem dX6_firstFull_45 : decode cX6_firstFull 45 = .ok (.iload 4, 2) := by decide +kernel
theorem dX6_firstFull_47 : decode cX6_firstFull 47 = .ok (.iaload, 1) := by decide +kernel
theorem dX6_firstFull_48 : decode cX6_firstFull 48 = .ok (.bipush (-2), 2) := by decide +kernel
theorem dX6_firstFull_50 : decode cX6_firstFull 50 = .ok (.if_icmp .eq 13, 3) := by decide +kernel
theorem dX6_firstFull_53 : decode cX6_firstFull 53 = .ok (.aload_n 0, 1) := by decide +kernel
theorem dX6_firstFull_54 : decode cX6_firstFull 54 = .ok (.getfield 56, 3) := by decide +kernel
theorem dX6_firstFull_57 : decode cX6_firstFull 57 = .ok (.iload 4, 2) := by decide +kernel
theorem dX6_firstFull_59 : decode cX6_firstFull 59 = .ok (.iaload, 1) := by decide +kernel
theorem dX6_firstFull_60 : decode cX6_firstFull 60 = .ok (.ifCond .ne 7, 3) := by decide +kernel
theorem dX6_firstFull_63 : decode cX6_firstFull 63 = .ok (.iconst 1, 1) := by decide +kernel
theorem dX6_firstFull_64 : decode cX6_firstFull 64 = .ok (.goto 4, 3) := by decide +kernel
theorem dX6_firstFull_67 : decode cX6_firstFull 67 = .ok (.iconst 0, 1) := by decide +kernel
theorem dX6_firstFull_68 : decode cX6_firstFull 68 = .ok (.istore_n 3, 1) := by decide +kernel
theorem dX6_firstFull_69 : decode cX6_firstFull 69 = .ok (.iinc 4 1, 3) := by decide +kernel
theorem dX6_firstFull_72 : decode cX6_firstFull 72 = .ok (.goto (-55), 3) := by decide +kernel
theorem dX6_firstFull_75 : decode cX6_firstFull 75 = .ok (.iload_n 3, 1) := by decide +kernel
theorem dX6_firstFull_76 : decode cX6_firstFull 76 = .ok (.ifCond .eq 5, 3) := by decide +kernel
theorem dX6_firstFull_79 : decode cX6_firstFull 79 = .ok (.iload_n 2, 1) := by decide +kernel
theorem dX6_firstFull_80 : decode cX6_firstFull 80 = .ok (.ireturn, 1) := by decide +kernel
theorem dX6_firstFull_81 : decode cX6_firstFull 81 = .ok (.iinc 2 1, 3) := by decide +kernel
theorem dX6_firstFull_84 : decode cX6_firstFull 84 = .ok (.goto (-82), 3) := by decide +kernel
theorem dX6_firstFull_87 : decode cX6_firstFull 87 = .ok (.iconst (-1), 1) := by decide +kernel
theorem dX6_firstFull_88 : decode cX6_firstFull 88 = .ok (.ireturn, 1) := by decide +kernel
set_option maxRecDepth 20000 in
theorem ggX6_lacking_X6_fitting : GoodIn wsX6_lacking wsX6_fitting := goodIn_r _ [7, 8, 2, 9, 10, 11, 6, 12, 13, 14, 15, 16, 17, 18, 19, 20, 21, 22, 23, 24, 25, 67, 68, 69, 70, 71, 72, 73, 74, 75, 76, 77, 78, 79, 80, 81, 82, 83, 84, 85, 86, 87, 88, 89, 90, 91, 92, 93, 94, 95] (by decide +kernel) (by decide +kernel)
set_option maxRecDepth 20000 in
theorem gX6_lacking_X6_fitting : GoodIn wsX6_lacking (wsV RX6 199 RX6 yX6_fitting wsX6_fitting) := goodIn_app (goodIn_of _ (by decide +kernel)) ggX6_lacking_X6_fitting
set_option maxRecDepth 20000 in
theorem ggX6_lacking_X6_seatsAll : GoodIn wsX6_lacking wsX6_seatsAll := goodIn_r _ [29, 14, 30, 31, 8, 2, 32, 33, 34, 35, 36, 37, 38, 39, 6, 40, 41, 21, 22, 23, 24, 25, 42, 43, 44, 45, 46, 47, 48, 15, 16, 67, 68, 69, 70, 71, 72, 73, 74, 75, 76, 77, 78, 79, 80, 81, 82, 83, 84, 85, 86, 87, 88, 89, 90, 91, 92, 93, 94, 95] (by decide +kernel) (by decide +kernel)
set_option maxRecDepth 20000 in
theorem gX6_lacking_X6_seatsAll : GoodIn wsX6_lacking (wsV RX6 279 RX6 yX6_seatsAll wsX6_seatsAll) := goodIn_app (goodIn_of _ (by decide +kernel)) ggX6_lacking_X6_seatsAll
set_option maxRecDepth 20000 in
theorem ggX6_lacking_J6_numberOfTrailingZeros_0f7a4 : GoodIn wsX6_lacking wsJ6_numberOfTrailingZeros_0f7a4 := goodIn_r _ [24, 25] (by decide +kernel) (by decide +kernel)
set_option maxRecDepth 20000 in
theorem gX6_lacking_J6_numberOfTrailingZeros_0f7a4 : GoodIn wsX6_lacking (va_wsS RX6 173 yJ6_numberOfTrailingZeros_0f7a4 wsJ6_numberOfTrailingZeros_0f7a4) := goodIn_app (goodIn_of _ (by decide +kernel)) ggX6_lacking_J6_numberOfTrailingZeros_0f7a4
set_option maxRecDepth 20000 in
theorem ggX6_lacking_X6_firstFull : GoodIn wsX6_lacking wsX6_firstFull := goodIn_r _ [52, 14, 15, 16, 30, 42, 43, 6, 44, 67, 68, 69, 70, 71, 72, 73, 74, 75, 76, 77, 78, 79, 80, 81, 82, 83, 84, 85, 86, 87, 88, 89, 90, 91, 92, 93, 94, 95] (by decide +kernel) (by decide +kernel)
set_option maxRecDepth 20000 in
theorem gX6_lacking_X6_firstFull : GoodIn wsX6_lacking (wsV RX6 282 RX6 yX6_firstFull wsX6_firstFull) := goodIn_app (goodIn_of _ (by decide +kernel)) ggX6_lacking_X6_firstFull
set_option maxRecDepth 20000 in
theorem ggX6_lacking_X6_notesTwo : GoodIn wsX6_lacking wsX6_notesTwo := goodIn_r _ [56, 57, 58, 59, 6, 60, 61, 62, 63, 64, 65, 66, 67, 68, 69, 70, 71, 72, 73, 74, 75, 76, 77, 78, 79, 80, 81, 82, 83, 84, 85, 86, 87, 88, 89, 90, 91, 92, 93, 94, 95] (by decide +kernel) (by decide +kernel)
set_option maxRecDepth 20000 in
theorem gX6_lacking_X6_notesTwo : GoodIn wsX6_lacking (wsV RX6 221 RX6 yX6_notesTwo wsX6_notesTwo) := goodIn_app (goodIn_of _ (by decide +kernel)) ggX6_lacking_X6_notesTwo
theorem dX6_lacking_0 : decode cX6_lacking 0 = .ok (.aload_n 0, 1) := by decide +kernel
theorem dX6_lacking_1 : decode cX6_lacking 1 = .ok (.iconst 0, 1) := by decide +kernel
theorem dX6_lacking_2 : decode cX6_lacking 2 = .ok (.putfield 62, 3) := by decide +kernel
theorem dX6_lacking_5 : decode cX6_lacking 5 = .ok (.aload_n 0, 1) := by decide +kernel
theorem dX6_lacking_6 : decode cX6_lacking 6 = .ok (.invokevirtual 199, 3) := by decide +kernel
theorem dX6_lacking_9 : decode cX6_lacking 9 = .ok (.aload_n 0, 1) := by decide +kernel
theorem dX6_lacking_10 : decode cX6_lacking 10 = .ok (.iconst 0, 1) := by decide +kernel
theorem dX6_lacking_11 : decode cX6_lacking 11 = .ok (.invokevirtual 279, 3) := by decide +kernel
theorem dX6_lacking_14 : decode cX6_lacking 14 = .ok (.iconst (-1), 1) := by decide +kernel
theorem dX6_lacking_15 : decode cX6_lacking 15 = .ok (.ixor, 1) := by decide +kernel
theorem dX6_lacking_16 : decode cX6_lacking 16 = .ok (.iand, 1) := by decide +kernel
theorem dX6_lacking_17 : decode cX6_lacking 17 = .ok (.istore_n 1, 1) := by decide +kernel
theorem dX6_lacking_18 : decode cX6_lacking 18 = .ok (.iload_n 1, 1) := by decide +kernel
theorem dX6_lacking_19 : decode cX6_lacking 19 = .ok (.ifCond .ne 7, 3) := by decide +kernel
theorem dX6_lacking_22 : decode cX6_lacking 22 = .ok (.iconst (-1), 1) := by decide +kernel
theorem dX6_lacking_23 : decode cX6_lacking 23 = .ok (.goto 7, 3) := by decide +kernel
theorem dX6_lacking_26 : decode cX6_lacking 26 = .ok (.iload_n 1, 1) := by decide +kernel
theorem dX6_lacking_27 : decode cX6_lacking 27 = .ok (.invokestatic 173, 3) := by decide +kernel
theorem dX6_lacking_30 : decode cX6_lacking 30 = .ok (.istore_n 2, 1) := by decide +kernel
theorem dX6_lacking_31 : decode cX6_lacking 31 = .ok (.aload_n 0, 1) := by decide +kernel
theorem dX6_lacking_32 : decode cX6_lacking 32 = .ok (.iload_n 2, 1) := by decide +kernel
theorem dX6_lacking_33 : decode cX6_lacking 33 = .ok (.iload_n 2, 1) := by decide +kernel
theorem dX6_lacking_34 : decode cX6_lacking 34 = .ok (.iconst (-1), 1) := by decide +kernel
theorem dX6_lacking_35 : decode cX6_lacking 35 = .ok (.if_icmp .ne 7, 3) := by decide +kernel
theorem dX6_lacking_38 : decode cX6_lacking 38 = .ok (.iconst (-1), 1) := by decide +kernel
theorem dX6_lacking_39 : decode cX6_lacking 39 = .ok (.goto 13, 3) := by decide +kernel
theorem dX6_lacking_42 : decode cX6_lacking 42 = .ok (.aload_n 0, 1) := by decide +kernel
theorem dX6_lacking_43 : decode cX6_lacking 43 = .ok (.aload_n 0, 1) := by decide +kernel
theorem dX6_lacking_44 : decode cX6_lacking 44 = .ok (.getfield 35, 3) := by decide +kernel
theorem dX6_lacking_47 : decode cX6_lacking 47 = .ok (.iload_n 2, 1) := by decide +kernel
theorem dX6_lacking_48 : decode cX6_lacking 48 = .ok (.iaload, 1) := by decide +kernel
theorem dX6_lacking_49 : decode cX6_lacking 49 = .ok (.invokevirtual 282, 3) := by decide +kernel
theorem dX6_lacking_52 : decode cX6_lacking 52 = .ok (.invokevirtual 221, 3) := by decide +kernel
theorem dX6_lacking_55 : decode cX6_lacking 55 = .ok (.iload_n 1, 1) := by decide +kernel
theorem dX6_lacking_56 : decode cX6_lacking 56 = .ok (.ireturn, 1) := by decide +kernel
set_option maxRecDepth 20000 in
theorem ggX6_wants_X6_isSection : GoodIn wsX6_wants wsX6_isSection := goodIn_r _ [7, 8, 9, 10, 6, 11, 65, 66, 67, 68, 69, 70, 71, 72, 73, 74, 75, 76, 77, 78, 79, 80, 81, 82, 83, 84, 85, 86, 87, 88, 89, 90, 91, 92, 93] (by decide +kernel) (by decide +kernel)
set_option maxRecDepth 20000 in
theorem gX6_wants_X6_isSection : GoodIn wsX6_wants (wsV RX6 193 RX6 yX6_isSection wsX6_isSection) := goodIn_app (goodIn_of _ (by decide +kernel)) ggX6_wants_X6_isSection
set_option maxRecDepth 20000 in
theorem ggX6_wants_X6_fitting : GoodIn wsX6_wants wsX6_fitting := goodIn_r _ [15, 16, 17, 18, 19, 20, 6, 21, 22, 8, 23, 24, 25, 26, 27, 28, 29, 30, 31, 32, 33, 65, 66, 67, 68, 69, 70, 71, 72, 73, 74, 75, 76, 77, 78, 79, 80, 81, 82, 83, 84, 85, 86, 87, 88, 89, 90, 91, 92, 93] (by decide +kernel) (by decide +kernel)
set_option maxRecDepth 20000 in
theorem gX6_wants_X6_fitting : GoodIn wsX6_wants (wsV RX6 199 RX6 yX6_fitting wsX6_fitting) := goodIn_app (goodIn_of _ (by decide +kernel)) ggX6_wants_X6_fitting
set_option maxRecDepth 20000 in
theorem ggX6_wants_X6_bits : GoodIn wsX6_wants wsX6_bits := goodIn_r _ [36, 37, 38, 31, 39, 40, 41, 42] (by decide +kernel) (by decide +kernel)
set_option maxRecDepth 20000 in
theorem gX6_wants_X6_bits : GoodIn wsX6_wants (va_wsS RX6 161 yX6_bits wsX6_bits) := goodIn_app (goodIn_of _ (by decide +kernel)) ggX6_wants_X6_bits
set_option maxRecDepth 20000 in
theorem ggX6_wants_X6_seatsAll : GoodIn wsX6_wants wsX6_seatsAll := goodIn_r _ [46, 8, 47, 2, 16, 17, 48, 49, 50, 51, 52, 53, 54, 55, 6, 56, 57, 29, 30, 31, 32, 33, 58, 59, 60, 61, 62, 63, 64, 23, 24, 65, 66, 67, 68, 69, 70, 71, 72, 73, 74, 75, 76, 77, 78, 79, 80, 81, 82, 83, 84, 85, 86, 87, 88, 89, 90, 91, 92, 93] (by decide +kernel) (by decide +kernel)
set_option maxRecDepth 20000 in
theorem gX6_wants_X6_seatsAll : GoodIn wsX6_wants (wsV RX6 279 RX6 yX6_seatsAll wsX6_seatsAll) := goodIn_app (goodIn_of _ (by decide +kernel)) ggX6_wants_X6_seatsAll
theorem dX6_wants_0 : decode cX6_wants 0 = .ok (.aload_n 0, 1) := by decide +kernel
theorem dX6_wants_1 : decode cX6_wants 1 = .ok (.iconst 0, 1) := by decide +kernel
theorem dX6_wants_2 : decode cX6_wants 2 = .ok (.putfield 62, 3) := by decide +kernel
theorem dX6_wants_5 : decode cX6_wants 5 = .ok (.aload_n 0, 1) := by decide +kernel
theorem dX6_wants_6 : decode cX6_wants 6 = .ok (.iload_n 1, 1) := by decide +kernel
theorem dX6_wants_7 : decode cX6_wants 7 = .ok (.invokevirtual 193, 3) := by decide +kernel
theorem dX6_wants_10 : decode cX6_wants 10 = .ok (.ifCond .ne 5, 3) := by decide +kernel
theorem dX6_wants_13 : decode cX6_wants 13 = .ok (.iconst (-1), 1) := by decide +kernel
theorem dX6_wants_14 : decode cX6_wants 14 = .ok (.ireturn, 1) := by decide +kernel
theorem dX6_wants_15 : decode cX6_wants 15 = .ok (.aload_n 0, 1) := by decide +kernel
theorem dX6_wants_16 : decode cX6_wants 16 = .ok (.invokevirtual 199, 3) := by decide +kernel
theorem dX6_wants_19 : decode cX6_wants 19 = .ok (.invokestatic 161, 3) := by decide +kernel
theorem dX6_wants_22 : decode cX6_wants 22 = .ok (.istore_n 2, 1) := by decide +kernel
theorem dX6_wants_23 : decode cX6_wants 23 = .ok (.aload_n 0, 1) := by decide +kernel
theorem dX6_wants_24 : decode cX6_wants 24 = .ok (.getfield 26, 3) := by decide +kernel
theorem dX6_wants_27 : decode cX6_wants 27 = .ok (.iload_n 1, 1) := by decide +kernel
theorem dX6_wants_28 : decode cX6_wants 28 = .ok (.iaload, 1) := by decide +kernel
theorem dX6_wants_29 : decode cX6_wants 29 = .ok (.istore_n 3, 1) := by decide +kernel
theorem dX6_wants_30 : decode cX6_wants 30 = .ok (.bipush (-2), 2) := by decide +kernel
theorem dX6_wants_32 : decode cX6_wants 32 = .ok (.istore 4, 2) := by decide +kernel
theorem dX6_wants_34 : decode cX6_wants 34 = .ok (.iconst 0, 1) := by decide +kernel
theorem dX6_wants_35 : decode cX6_wants 35 = .ok (.istore 5, 2) := by decide +kernel
theorem dX6_wants_37 : decode cX6_wants 37 = .ok (.iload 5, 2) := by decide +kernel
theorem dX6_wants_39 : decode cX6_wants 39 = .ok (.bipush 30, 2) := by decide +kernel
theorem dX6_wants_41 : decode cX6_wants 41 = .ok (.if_icmp .gt 45, 3) := by decide +kernel
theorem dX6_wants_44 : decode cX6_wants 44 = .ok (.iload 4, 2) := by decide +kernel
theorem dX6_wants_46 : decode cX6_wants 46 = .ok (.ifCond .ge 40, 3) := by decide +kernel
theorem dX6_wants_49 : decode cX6_wants 49 = .ok (.aload_n 0, 1) := by decide +kernel
theorem dX6_wants_50 : decode cX6_wants 50 = .ok (.getfield 26, 3) := by decide +kernel
theorem dX6_wants_53 : decode cX6_wants 53 = .ok (.iload_n 1, 1) := by decide +kernel
theorem dX6_wants_54 : decode cX6_wants 54 = .ok (.iload_n 3, 1) := by decide +kernel
theorem dX6_wants_55 : decode cX6_wants 55 = .ok (.iload 5, 2) := by decide +kernel
theorem dX6_wants_57 : decode cX6_wants 57 = .ok (.iadd, 1) := by decide +kernel
theorem dX6_wants_58 : decode cX6_wants 58 = .ok (.iastore, 1) := by decide +kernel
theorem dX6_wants_59 : decode cX6_wants 59 = .ok (.aload_n 0, 1) := by decide +kernel
theorem dX6_wants_60 : decode cX6_wants 60 = .ok (.iconst 0, 1) := by decide +kernel
theorem dX6_wants_61 : decode cX6_wants 61 = .ok (.invokevirtual 279, 3) := by decide +kernel
theorem dX6_wants_64 : decode cX6_wants 64 = .ok (.invokestatic 161, 3) := by decide +kernel
theorem dX6_wants_67 : decode cX6_wants 67 = .ok (.iload_n 2, 1) := by decide +kernel
theorem dX6_wants_68 : decode cX6_wants 68 = .ok (.if_icmp .ne 8, 3) := by decide +kernel
theorem dX6_wants_71 : decode cX6_wants 71 = .ok (.iload 5, 2) := by decide +kernel
theorem dX6_wants_73 : decode cX6_wants 73 = .ok (.goto 5, 3) := by decide +kernel
theorem dX6_wants_76 : decode cX6_wants 76 = .ok (.iload 4, 2) := by decide +kernel
theorem dX6_wants_78 : decode cX6_wants 78 = .ok (.istore 4, 2) := by decide +kernel
theorem dX6_wants_80 : decode cX6_wants 80 = .ok (.iinc 5 1, 3) := by decide +kernel
theorem dX6_wants_83 : decode cX6_wants 83 = .ok (.goto (-46), 3) := by decide +kernel
theorem dX6_wants_86 : decode cX6_wants 86 = .ok (.aload_n 0, 1) := by decide +kernel
theorem dX6_wants_87 : decode cX6_wants 87 = .ok (.getfield 26, 3) := by decide +kernel
theorem dX6_wants_90 : decode cX6_wants 90 = .ok (.iload_n 1, 1) := by decide +kernel
theorem dX6_wants_91 : decode cX6_wants 91 = .ok (.iload_n 3, 1) := by decide +kernel
theorem dX6_wants_92 : decode cX6_wants 92 = .ok (.iastore, 1) := by decide +kernel
theorem dX6_wants_93 : decode cX6_wants 93 = .ok (.iload 4, 2) := by decide +kernel
theorem dX6_wants_95 : decode cX6_wants 95 = .ok (.ireturn, 1) := by decide +kernel
theorem dX6_outs_0 : decode cX6_outs 0 = .ok (.iconst 0, 1) := by decide +kernel
theorem dX6_outs_1 : decode cX6_outs 1 = .ok (.istore_n 1, 1) := by decide +kernel
theorem dX6_outs_2 : decode cX6_outs 2 = .ok (.iconst 0, 1) := by decide +kernel
theorem dX6_outs_3 : decode cX6_outs 3 = .ok (.istore_n 2, 1) := by decide +kernel
theorem dX6_outs_4 : decode cX6_outs 4 = .ok (.iload_n 2, 1) := by decide +kernel
theorem dX6_outs_5 : decode cX6_outs 5 = .ok (.aload_n 0, 1) := by decide +kernel
theorem dX6_outs_6 : decode cX6_outs 6 = .ok (.getfield 87, 3) := by decide +kernel
theorem dX6_outs_9 : decode cX6_outs 9 = .ok (.if_icmp .ge 30, 3) := by decide +kernel
theorem dX6_outs_12 : decode cX6_outs 12 = .ok (.iload_n 1, 1) := by decide +kernel
theorem dX6_outs_13 : decode cX6_outs 13 = .ok (.aload_n 0, 1) := by decide +kernel
theorem dX6_outs_14 : decode cX6_outs 14 = .ok (.getfield 29, 3) := by decide +kernel
theorem dX6_outs_17 : decode cX6_outs 17 = .ok (.iload_n 2, 1) := by decide +kernel
theorem dX6_outs_18 : decode cX6_outs 18 = .ok (.iaload, 1) := by decide +kernel
theorem dX6_outs_19 : decode cX6_outs 19 = .ok (.bipush (-2), 2) := by decide +kernel
theorem dX6_outs_21 : decode cX6_outs 21 = .ok (.if_icmp .ne 9, 3) := by decide +kernel
theorem dX6_outs_24 : decode cX6_outs 24 = .ok (.iconst 1, 1) := by decide +kernel
theorem dX6_outs_25 : decode cX6_outs 25 = .ok (.iload_n 2, 1) := by decide +kernel
theorem dX6_outs_26 : decode cX6_outs 26 = .ok (.ishl, 1) := by decide +kernel
theorem dX6_outs_27 : decode cX6_outs 27 = .ok (.goto 4, 3) := by decide +kernel
theorem dX6_outs_30 : decode cX6_outs 30 = .ok (.iconst 0, 1) := by decide +kernel
theorem dX6_outs_31 : decode cX6_outs 31 = .ok (.ior, 1) := by decide +kernel
theorem dX6_outs_32 : decode cX6_outs 32 = .ok (.istore_n 1, 1) := by decide +kernel
theorem dX6_outs_33 : decode cX6_outs 33 = .ok (.iinc 2 1, 3) := by decide +kernel
theorem dX6_outs_36 : decode cX6_outs 36 = .ok (.goto (-32), 3) := by decide +kernel
theorem dX6_outs_39 : decode cX6_outs 39 = .ok (.iload_n 1, 1) := by decide +kernel
theorem dX6_outs_40 : decode cX6_outs 40 = .ok (.ireturn, 1) := by decide +kernel
set_option maxRecDepth 20000 in
theorem ggX6_fulls_X6_inColumn : GoodIn wsX6_fulls wsX6_inColumn := goodIn_r _ [7, 8, 9, 20, 21, 22, 23, 24, 25, 26, 27, 28, 29, 30, 31, 32, 33, 34, 35, 36, 37, 38, 39, 40, 41, 42, 43, 44, 45, 46, 47, 48] (by decide +kernel) (by decide +kernel)
set_option maxRecDepth 20000 in
theorem gX6_fulls_X6_inColumn : GoodIn wsX6_fulls (wsV RX6 213 RX6 yX6_inColumn wsX6_inColumn) := goodIn_app (goodIn_of _ (by decide +kernel)) ggX6_fulls_X6_inColumn
set_option maxRecDepth 20000 in
theorem ggX6_fulls_X6_bits : GoodIn wsX6_fulls wsX6_bits := goodIn_r _ [12, 13, 14, 15, 16, 17, 18, 19] (by decide +kernel) (by decide +kernel)
set_option maxRecDepth 20000 in
theorem gX6_fulls_X6_bits : GoodIn wsX6_fulls (va_wsS RX6 161 yX6_bits wsX6_bits) := goodIn_app (goodIn_of _ (by decide +kernel)) ggX6_fulls_X6_bits
theorem dX6_fulls_0 : decode cX6_fulls 0 = .ok (.iconst 0, 1) := by decide +kernel
theorem dX6_fulls_1 : decode cX6_fulls 1 = .ok (.istore_n 1, 1) := by decide +kernel
theorem dX6_fulls_2 : decode cX6_fulls 2 = .ok (.iconst 0, 1) := by decide +kernel
theorem dX6_fulls_3 : decode cX6_fulls 3 = .ok (.istore_n 2, 1) := by decide +kernel
theorem dX6_fulls_4 : decode cX6_fulls 4 = .ok (.iload_n 2, 1) := by decide +kernel
theorem dX6_fulls_5 : decode cX6_fulls 5 = .ok (.aload_n 0, 1) := by decide +kernel
theorem dX6_fulls_6 : decode cX6_fulls 6 = .ok (.getfield 13, 3) := by decide +kernel
theorem dX6_fulls_9 : decode cX6_fulls 9 = .ok (.if_icmp .ge 34, 3) := by decide +kernel
theorem dX6_fulls_12 : decode cX6_fulls 12 = .ok (.iload_n 1, 1) := by decide +kernel
theorem dX6_fulls_13 : decode cX6_fulls 13 = .ok (.aload_n 0, 1) := by decide +kernel
theorem dX6_fulls_14 : decode cX6_fulls 14 = .ok (.iload_n 2, 1) := by decide +kernel
theorem dX6_fulls_15 : decode cX6_fulls 15 = .ok (.invokevirtual 213, 3) := by decide +kernel
theorem dX6_fulls_18 : decode cX6_fulls 18 = .ok (.invokestatic 161, 3) := by decide +kernel
theorem dX6_fulls_21 : decode cX6_fulls 21 = .ok (.aload_n 0, 1) := by decide +kernel
theorem dX6_fulls_22 : decode cX6_fulls 22 = .ok (.getfield 17, 3) := by decide +kernel
theorem dX6_fulls_25 : decode cX6_fulls 25 = .ok (.if_icmp .ne 9, 3) := by decide +kernel
theorem dX6_fulls_28 : decode cX6_fulls 28 = .ok (.iconst 1, 1) := by decide +kernel
theorem dX6_fulls_29 : decode cX6_fulls 29 = .ok (.iload_n 2, 1) := by decide +kernel
theorem dX6_fulls_30 : decode cX6_fulls 30 = .ok (.ishl, 1) := by decide +kernel
theorem dX6_fulls_31 : decode cX6_fulls 31 = .ok (.goto 4, 3) := by decide +kernel
theorem dX6_fulls_34 : decode cX6_fulls 34 = .ok (.iconst 0, 1) := by decide +kernel
theorem dX6_fulls_35 : decode cX6_fulls 35 = .ok (.ior, 1) := by decide +kernel
theorem dX6_fulls_36 : decode cX6_fulls 36 = .ok (.istore_n 1, 1) := by decide +kernel
theorem dX6_fulls_37 : decode cX6_fulls 37 = .ok (.iinc 2 1, 3) := by decide +kernel
theorem dX6_fulls_40 : decode cX6_fulls 40 = .ok (.goto (-36), 3) := by decide +kernel
theorem dX6_fulls_43 : decode cX6_fulls 43 = .ok (.iload_n 1, 1) := by decide +kernel
theorem dX6_fulls_44 : decode cX6_fulls 44 = .ok (.ireturn, 1) := by decide +kernel
theorem dX6_busyTeachers_0 : decode cX6_busyTeachers 0 = .ok (.iconst 0, 1) := by decide +kernel
theorem dX6_busyTeachers_1 : decode cX6_busyTeachers 1 = .ok (.istore_n 1, 1) := by decide +kernel
theorem dX6_busyTeachers_2 : decode cX6_busyTeachers 2 = .ok (.iconst 0, 1) := by decide +kernel
theorem dX6_busyTeachers_3 : decode cX6_busyTeachers 3 = .ok (.istore_n 2, 1) := by decide +kernel
theorem dX6_busyTeachers_4 : decode cX6_busyTeachers 4 = .ok (.iconst 0, 1) := by decide +kernel
theorem dX6_busyTeachers_5 : decode cX6_busyTeachers 5 = .ok (.istore_n 3, 1) := by decide +kernel
theorem dX6_busyTeachers_6 : decode cX6_busyTeachers 6 = .ok (.iload_n 3, 1) := by decide +kernel
theorem dX6_busyTeachers_7 : decode cX6_busyTeachers 7 = .ok (.aload_n 0, 1) := by decide +kernel
theorem dX6_busyTeachers_8 : decode cX6_busyTeachers 8 = .ok (.getfield 87, 3) := by decide +kernel
theorem dX6_busyTeachers_11 : decode cX6_busyTeachers 11 = .ok (.if_icmp .ge 33, 3) := by decide +kernel
theorem dX6_busyTeachers_14 : decode cX6_busyTeachers 14 = .ok (.iload_n 2, 1) := by decide +kernel
theorem dX6_busyTeachers_15 : decode cX6_busyTeachers 15 = .ok (.iload_n 1, 1) := by decide +kernel
theorem dX6_busyTeachers_16 : decode cX6_busyTeachers 16 = .ok (.iconst 1, 1) := by decide +kernel
theorem dX6_busyTeachers_17 : decode cX6_busyTeachers 17 = .ok (.aload_n 0, 1) := by decide +kernel
theorem dX6_busyTeachers_18 : decode cX6_busyTeachers 18 = .ok (.getfield 23, 3) := by decide +kernel
theorem dX6_busyTeachers_21 : decode cX6_busyTeachers 21 = .ok (.iload_n 3, 1) := by decide +kernel
theorem dX6_busyTeachers_22 : decode cX6_busyTeachers 22 = .ok (.iaload, 1) := by decide +kernel
theorem dX6_busyTeachers_23 : decode cX6_busyTeachers 23 = .ok (.ishl, 1) := by decide +kernel
theorem dX6_busyTeachers_24 : decode cX6_busyTeachers 24 = .ok (.iand, 1) := by decide +kernel
theorem dX6_busyTeachers_25 : decode cX6_busyTeachers 25 = .ok (.ior, 1) := by decide +kernel
theorem dX6_busyTeachers_26 : decode cX6_busyTeachers 26 = .ok (.istore_n 2, 1) := by decide +kernel
theorem dX6_busyTeachers_27 : decode cX6_busyTeachers 27 = .ok (.iload_n 1, 1) := by decide +kernel
theorem dX6_busyTeachers_28 : decode cX6_busyTeachers 28 = .ok (.iconst 1, 1) := by decide +kernel
theorem dX6_busyTeachers_29 : decode cX6_busyTeachers 29 = .ok (.aload_n 0, 1) := by decide +kernel
theorem dX6_busyTeachers_30 : decode cX6_busyTeachers 30 = .ok (.getfield 23, 3) := by decide +kernel
theorem dX6_busyTeachers_33 : decode cX6_busyTeachers 33 = .ok (.iload_n 3, 1) := by decide +kernel
theorem dX6_busyTeachers_34 : decode cX6_busyTeachers 34 = .ok (.iaload, 1) := by decide +kernel
theorem dX6_busyTeachers_35 : decode cX6_busyTeachers 35 = .ok (.ishl, 1) := by decide +kernel
theorem dX6_busyTeachers_36 : decode cX6_busyTeachers 36 = .ok (.ior, 1) := by decide +kernel
theorem dX6_busyTeachers_37 : decode cX6_busyTeachers 37 = .ok (.istore_n 1, 1) := by decide +kernel
theorem dX6_busyTeachers_38 : decode cX6_busyTeachers 38 = .ok (.iinc 3 1, 3) := by decide +kernel
theorem dX6_busyTeachers_41 : decode cX6_busyTeachers 41 = .ok (.goto (-35), 3) := by decide +kernel
theorem dX6_busyTeachers_44 : decode cX6_busyTeachers 44 = .ok (.iload_n 2, 1) := by decide +kernel
theorem dX6_busyTeachers_45 : decode cX6_busyTeachers 45 = .ok (.ireturn, 1) := by decide +kernel
set_option maxRecDepth 20000 in
theorem ggX6_count_X6_outs : GoodIn wsX6_count wsX6_outs := goodIn_r _ [13, 4, 14, 38, 39, 40, 41, 42, 43, 44, 45, 46, 47, 48, 49, 50, 51, 52, 53, 54, 55, 56, 57, 58, 59, 60, 61, 62, 63, 64, 65, 66] (by decide +kernel) (by decide +kernel)
set_option maxRecDepth 20000 in
theorem gX6_count_X6_outs : GoodIn wsX6_count (wsV RX6 285 RX6 yX6_outs wsX6_outs) := goodIn_app (goodIn_of _ (by decide +kernel)) ggX6_count_X6_outs
set_option maxRecDepth 20000 in
theorem ggX6_count_X6_fulls : GoodIn wsX6_count wsX6_fulls := goodIn_r _ [18, 2, 3, 19, 20, 21, 12, 22, 4, 14, 23, 24, 25, 26, 27, 28, 29, 30, 31, 32, 38, 39, 40, 41, 42, 43, 44, 45, 46, 47, 48, 49, 50, 51, 52, 53, 54, 55, 56, 57, 58, 59, 60, 61, 62, 63, 64, 65, 66] (by decide +kernel) (by decide +kernel)
set_option maxRecDepth 20000 in
theorem gX6_count_X6_fulls : GoodIn wsX6_count (wsV RX6 288 RX6 yX6_fulls wsX6_fulls) := goodIn_app (goodIn_of _ (by decide +kernel)) ggX6_count_X6_fulls
set_option maxRecDepth 20000 in
theorem ggX6_count_X6_busyTeachers : GoodIn wsX6_count wsX6_busyTeachers := goodIn_r _ [36, 4, 37, 38, 39, 40, 41, 42, 43, 44, 45, 46, 47, 48, 49, 50, 51, 52, 53, 54, 55, 56, 57, 58, 59, 60, 61, 62, 63, 64, 65, 66] (by decide +kernel) (by decide +kernel)
set_option maxRecDepth 20000 in
theorem gX6_count_X6_busyTeachers : GoodIn wsX6_count (wsV RX6 291 RX6 yX6_busyTeachers wsX6_busyTeachers) := goodIn_app (goodIn_of _ (by decide +kernel)) ggX6_count_X6_busyTeachers
theorem dX6_count_0 : decode cX6_count 0 = .ok (.aload_n 0, 1) := by decide +kernel
theorem dX6_count_1 : decode cX6_count 1 = .ok (.iconst 0, 1) := by decide +kernel
theorem dX6_count_2 : decode cX6_count 2 = .ok (.putfield 62, 3) := by decide +kernel
theorem dX6_count_5 : decode cX6_count 5 = .ok (.iload_n 1, 1) := by decide +kernel
theorem dX6_count_6 : decode cX6_count 6 = .ok (.tableswitch 104 0 9 #[54, 59, 64, 69, 74, 79, 84, 89, 94, 99], 54) := by decide +kernel
theorem dX6_count_60 : decode cX6_count 60 = .ok (.aload_n 0, 1) := by decide +kernel
theorem dX6_count_61 : decode cX6_count 61 = .ok (.getfield 13, 3) := by decide +kernel
theorem dX6_count_64 : decode cX6_count 64 = .ok (.ireturn, 1) := by decide +kernel
theorem dX6_count_65 : decode cX6_count 65 = .ok (.aload_n 0, 1) := by decide +kernel
theorem dX6_count_66 : decode cX6_count 66 = .ok (.getfield 17, 3) := by decide +kernel
theorem dX6_count_69 : decode cX6_count 69 = .ok (.ireturn, 1) := by decide +kernel
theorem dX6_count_70 : decode cX6_count 70 = .ok (.aload_n 0, 1) := by decide +kernel
theorem dX6_count_71 : decode cX6_count 71 = .ok (.getfield 87, 3) := by decide +kernel
theorem dX6_count_74 : decode cX6_count 74 = .ok (.ireturn, 1) := by decide +kernel
theorem dX6_count_75 : decode cX6_count 75 = .ok (.aload_n 0, 1) := by decide +kernel
theorem dX6_count_76 : decode cX6_count 76 = .ok (.invokevirtual 285, 3) := by decide +kernel
theorem dX6_count_79 : decode cX6_count 79 = .ok (.ireturn, 1) := by decide +kernel
theorem dX6_count_80 : decode cX6_count 80 = .ok (.aload_n 0, 1) := by decide +kernel
theorem dX6_count_81 : decode cX6_count 81 = .ok (.getfield 90, 3) := by decide +kernel
theorem dX6_count_84 : decode cX6_count 84 = .ok (.ireturn, 1) := by decide +kernel
theorem dX6_count_85 : decode cX6_count 85 = .ok (.aload_n 0, 1) := by decide +kernel
theorem dX6_count_86 : decode cX6_count 86 = .ok (.getfield 158, 3) := by decide +kernel
theorem dX6_count_89 : decode cX6_count 89 = .ok (.ireturn, 1) := by decide +kernel
theorem dX6_count_90 : decode cX6_count 90 = .ok (.aload_n 0, 1) := by decide +kernel
theorem dX6_count_91 : decode cX6_count 91 = .ok (.invokevirtual 288, 3) := by decide +kernel
theorem dX6_count_94 : decode cX6_count 94 = .ok (.ireturn, 1) := by decide +kernel
theorem dX6_count_95 : decode cX6_count 95 = .ok (.aload_n 0, 1) := by decide +kernel
theorem dX6_count_96 : decode cX6_count 96 = .ok (.getfield 71, 3) := by decide +kernel
theorem dX6_count_99 : decode cX6_count 99 = .ok (.ireturn, 1) := by decide +kernel
theorem dX6_count_100 : decode cX6_count 100 = .ok (.aload_n 0, 1) := by decide +kernel
theorem dX6_count_101 : decode cX6_count 101 = .ok (.getfield 101, 3) := by decide +kernel
theorem dX6_count_104 : decode cX6_count 104 = .ok (.ireturn, 1) := by decide +kernel
theorem dX6_count_105 : decode cX6_count 105 = .ok (.aload_n 0, 1) := by decide +kernel
theorem dX6_count_106 : decode cX6_count 106 = .ok (.invokevirtual 291, 3) := by decide +kernel
theorem dX6_count_109 : decode cX6_count 109 = .ok (.ireturn, 1) := by decide +kernel
theorem dX6_count_110 : decode cX6_count 110 = .ok (.iconst (-1), 1) := by decide +kernel
theorem dX6_count_111 : decode cX6_count 111 = .ok (.ireturn, 1) := by decide +kernel
set_option maxRecDepth 20000 in
theorem ggX6_row_X6_in : GoodIn wsX6_row wsX6_in := goodIn_r _ [7] (by decide +kernel) (by decide +kernel)
set_option maxRecDepth 20000 in
theorem gX6_row_X6_in : GoodIn wsX6_row (va_wsS RX6 81 yX6_in wsX6_in) := goodIn_app (goodIn_of _ (by decide +kernel)) ggX6_row_X6_in
set_option maxRecDepth 20000 in
theorem ggX6_row_X6_flag : GoodIn wsX6_row wsX6_flag := goodIn_r _ [10] (by decide +kernel) (by decide +kernel)
set_option maxRecDepth 20000 in
theorem gX6_row_X6_flag : GoodIn wsX6_row (va_wsS RX6 224 yX6_flag wsX6_flag) := goodIn_app (goodIn_of _ (by decide +kernel)) ggX6_row_X6_flag
theorem dX6_row_0 : decode cX6_row 0 = .ok (.aload_n 0, 1) := by decide +kernel
theorem dX6_row_1 : decode cX6_row 1 = .ok (.iload_n 1, 1) := by decide +kernel
theorem dX6_row_2 : decode cX6_row 2 = .ok (.i2l, 1) := by decide +kernel
theorem dX6_row_3 : decode cX6_row 3 = .ok (.lconst 0, 1) := by decide +kernel
theorem dX6_row_4 : decode cX6_row 4 = .ok (.aload_n 0, 1) := by decide +kernel
theorem dX6_row_5 : decode cX6_row 5 = .ok (.getfield 71, 3) := by decide +kernel
theorem dX6_row_8 : decode cX6_row 8 = .ok (.iconst 1, 1) := by decide +kernel
theorem dX6_row_9 : decode cX6_row 9 = .ok (.isub, 1) := by decide +kernel
theorem dX6_row_10 : decode cX6_row 10 = .ok (.i2l, 1) := by decide +kernel
theorem dX6_row_11 : decode cX6_row 11 = .ok (.invokestatic 81, 3) := by decide +kernel
theorem dX6_row_14 : decode cX6_row 14 = .ok (.ifCond .ne 7, 3) := by decide +kernel
theorem dX6_row_17 : decode cX6_row 17 = .ok (.iconst 1, 1) := by decide +kernel
theorem dX6_row_18 : decode cX6_row 18 = .ok (.goto 4, 3) := by decide +kernel
theorem dX6_row_21 : decode cX6_row 21 = .ok (.iconst 0, 1) := by decide +kernel
theorem dX6_row_22 : decode cX6_row 22 = .ok (.invokestatic 224, 3) := by decide +kernel
theorem dX6_row_25 : decode cX6_row 25 = .ok (.putfield 62, 3) := by decide +kernel
theorem dX6_row_28 : decode cX6_row 28 = .ok (.aload_n 0, 1) := by decide +kernel
theorem dX6_row_29 : decode cX6_row 29 = .ok (.getfield 62, 3) := by decide +kernel
theorem dX6_row_32 : decode cX6_row 32 = .ok (.iconst 1, 1) := by decide +kernel
theorem dX6_row_33 : decode cX6_row 33 = .ok (.if_icmp .ne 7, 3) := by decide +kernel
theorem dX6_row_36 : decode cX6_row 36 = .ok (.lconst 0, 1) := by decide +kernel
theorem dX6_row_37 : decode cX6_row 37 = .ok (.goto 10, 3) := by decide +kernel
theorem dX6_row_40 : decode cX6_row 40 = .ok (.aload_n 0, 1) := by decide +kernel
theorem dX6_row_41 : decode cX6_row 41 = .ok (.getfield 9, 3) := by decide +kernel
theorem dX6_row_44 : decode cX6_row 44 = .ok (.iload_n 1, 1) := by decide +kernel
theorem dX6_row_45 : decode cX6_row 45 = .ok (.iaload, 1) := by decide +kernel
theorem dX6_row_46 : decode cX6_row 46 = .ok (.i2l, 1) := by decide +kernel
theorem dX6_row_47 : decode cX6_row 47 = .ok (.lreturn, 1) := by decide +kernel
theorem dJ6_numberOfTrailingZeros_0f7a4_0 : decode cJ6_numberOfTrailingZeros_0f7a4 0 = .ok (.iload_n 0, 1) := by decide +kernel
theorem dJ6_numberOfTrailingZeros_0f7a4_1 : decode cJ6_numberOfTrailingZeros_0f7a4 1 = .ok (.iconst (-1), 1) := by decide +kernel
theorem dJ6_numberOfTrailingZeros_0f7a4_2 : decode cJ6_numberOfTrailingZeros_0f7a4 2 = .ok (.ixor, 1) := by decide +kernel
theorem dJ6_numberOfTrailingZeros_0f7a4_3 : decode cJ6_numberOfTrailingZeros_0f7a4 3 = .ok (.iload_n 0, 1) := by decide +kernel
theorem dJ6_numberOfTrailingZeros_0f7a4_4 : decode cJ6_numberOfTrailingZeros_0f7a4 4 = .ok (.iconst 1, 1) := by decide +kernel
theorem dJ6_numberOfTrailingZeros_0f7a4_5 : decode cJ6_numberOfTrailingZeros_0f7a4 5 = .ok (.isub, 1) := by decide +kernel
theorem dJ6_numberOfTrailingZeros_0f7a4_6 : decode cJ6_numberOfTrailingZeros_0f7a4 6 = .ok (.iand, 1) := by decide +kernel
theorem dJ6_numberOfTrailingZeros_0f7a4_7 : decode cJ6_numberOfTrailingZeros_0f7a4 7 = .ok (.istore_n 0, 1) := by decide +kernel
theorem dJ6_numberOfTrailingZeros_0f7a4_8 : decode cJ6_numberOfTrailingZeros_0f7a4 8 = .ok (.iload_n 0, 1) := by decide +kernel
theorem dJ6_numberOfTrailingZeros_0f7a4_9 : decode cJ6_numberOfTrailingZeros_0f7a4 9 = .ok (.ifCond .gt 8, 3) := by decide +kernel
theorem dJ6_numberOfTrailingZeros_0f7a4_12 : decode cJ6_numberOfTrailingZeros_0f7a4 12 = .ok (.iload_n 0, 1) := by decide +kernel
theorem dJ6_numberOfTrailingZeros_0f7a4_13 : decode cJ6_numberOfTrailingZeros_0f7a4 13 = .ok (.bipush 32, 2) := by decide +kernel
theorem dJ6_numberOfTrailingZeros_0f7a4_15 : decode cJ6_numberOfTrailingZeros_0f7a4 15 = .ok (.iand, 1) := by decide +kernel
theorem dJ6_numberOfTrailingZeros_0f7a4_16 : decode cJ6_numberOfTrailingZeros_0f7a4 16 = .ok (.ireturn, 1) := by decide +kernel
theorem dJ6_numberOfTrailingZeros_0f7a4_17 : decode cJ6_numberOfTrailingZeros_0f7a4 17 = .ok (.iconst 1, 1) := by decide +kernel
theorem dJ6_numberOfTrailingZeros_0f7a4_18 : decode cJ6_numberOfTrailingZeros_0f7a4 18 = .ok (.istore_n 1, 1) := by decide +kernel
theorem dJ6_numberOfTrailingZeros_0f7a4_19 : decode cJ6_numberOfTrailingZeros_0f7a4 19 = .ok (.iload_n 0, 1) := by decide +kernel
theorem dJ6_numberOfTrailingZeros_0f7a4_20 : decode cJ6_numberOfTrailingZeros_0f7a4 20 = .ok (.ldc_w 264, 3) := by decide +kernel
theorem dJ6_numberOfTrailingZeros_0f7a4_23 : decode cJ6_numberOfTrailingZeros_0f7a4 23 = .ok (.if_icmp .le 11, 3) := by decide +kernel
theorem dJ6_numberOfTrailingZeros_0f7a4_26 : decode cJ6_numberOfTrailingZeros_0f7a4 26 = .ok (.iinc 1 16, 3) := by decide +kernel
theorem dJ6_numberOfTrailingZeros_0f7a4_29 : decode cJ6_numberOfTrailingZeros_0f7a4 29 = .ok (.iload_n 0, 1) := by decide +kernel
theorem dJ6_numberOfTrailingZeros_0f7a4_30 : decode cJ6_numberOfTrailingZeros_0f7a4 30 = .ok (.bipush 16, 2) := by decide +kernel
theorem dJ6_numberOfTrailingZeros_0f7a4_32 : decode cJ6_numberOfTrailingZeros_0f7a4 32 = .ok (.iushr, 1) := by decide +kernel
theorem dJ6_numberOfTrailingZeros_0f7a4_33 : decode cJ6_numberOfTrailingZeros_0f7a4 33 = .ok (.istore_n 0, 1) := by decide +kernel
theorem dJ6_numberOfTrailingZeros_0f7a4_34 : decode cJ6_numberOfTrailingZeros_0f7a4 34 = .ok (.iload_n 0, 1) := by decide +kernel
theorem dJ6_numberOfTrailingZeros_0f7a4_35 : decode cJ6_numberOfTrailingZeros_0f7a4 35 = .ok (.sipush 256, 3) := by decide +kernel
theorem dJ6_numberOfTrailingZeros_0f7a4_38 : decode cJ6_numberOfTrailingZeros_0f7a4 38 = .ok (.if_icmp .le 11, 3) := by decide +kernel
theorem dJ6_numberOfTrailingZeros_0f7a4_41 : decode cJ6_numberOfTrailingZeros_0f7a4 41 = .ok (.iinc 1 8, 3) := by decide +kernel
theorem dJ6_numberOfTrailingZeros_0f7a4_44 : decode cJ6_numberOfTrailingZeros_0f7a4 44 = .ok (.iload_n 0, 1) := by decide +kernel
theorem dJ6_numberOfTrailingZeros_0f7a4_45 : decode cJ6_numberOfTrailingZeros_0f7a4 45 = .ok (.bipush 8, 2) := by decide +kernel
theorem dJ6_numberOfTrailingZeros_0f7a4_47 : decode cJ6_numberOfTrailingZeros_0f7a4 47 = .ok (.iushr, 1) := by decide +kernel
theorem dJ6_numberOfTrailingZeros_0f7a4_48 : decode cJ6_numberOfTrailingZeros_0f7a4 48 = .ok (.istore_n 0, 1) := by decide +kernel
theorem dJ6_numberOfTrailingZeros_0f7a4_49 : decode cJ6_numberOfTrailingZeros_0f7a4 49 = .ok (.iload_n 0, 1) := by decide +kernel
theorem dJ6_numberOfTrailingZeros_0f7a4_50 : decode cJ6_numberOfTrailingZeros_0f7a4 50 = .ok (.bipush 16, 2) := by decide +kernel
theorem dJ6_numberOfTrailingZeros_0f7a4_52 : decode cJ6_numberOfTrailingZeros_0f7a4 52 = .ok (.if_icmp .le 10, 3) := by decide +kernel
theorem dJ6_numberOfTrailingZeros_0f7a4_55 : decode cJ6_numberOfTrailingZeros_0f7a4 55 = .ok (.iinc 1 4, 3) := by decide +kernel
theorem dJ6_numberOfTrailingZeros_0f7a4_58 : decode cJ6_numberOfTrailingZeros_0f7a4 58 = .ok (.iload_n 0, 1) := by decide +kernel
theorem dJ6_numberOfTrailingZeros_0f7a4_59 : decode cJ6_numberOfTrailingZeros_0f7a4 59 = .ok (.iconst 4, 1) := by decide +kernel
theorem dJ6_numberOfTrailingZeros_0f7a4_60 : decode cJ6_numberOfTrailingZeros_0f7a4 60 = .ok (.iushr, 1) := by decide +kernel
theorem dJ6_numberOfTrailingZeros_0f7a4_61 : decode cJ6_numberOfTrailingZeros_0f7a4 61 = .ok (.istore_n 0, 1) := by decide +kernel
theorem dJ6_numberOfTrailingZeros_0f7a4_62 : decode cJ6_numberOfTrailingZeros_0f7a4 62 = .ok (.iload_n 0, 1) := by decide +kernel
theorem dJ6_numberOfTrailingZeros_0f7a4_63 : decode cJ6_numberOfTrailingZeros_0f7a4 63 = .ok (.iconst 4, 1) := by decide +kernel
theorem dJ6_numberOfTrailingZeros_0f7a4_64 : decode cJ6_numberOfTrailingZeros_0f7a4 64 = .ok (.if_icmp .le 10, 3) := by decide +kernel
theorem dJ6_numberOfTrailingZeros_0f7a4_67 : decode cJ6_numberOfTrailingZeros_0f7a4 67 = .ok (.iinc 1 2, 3) := by decide +kernel
theorem dJ6_numberOfTrailingZeros_0f7a4_70 : decode cJ6_numberOfTrailingZeros_0f7a4 70 = .ok (.iload_n 0, 1) := by decide +kernel
theorem dJ6_numberOfTrailingZeros_0f7a4_71 : decode cJ6_numberOfTrailingZeros_0f7a4 71 = .ok (.iconst 2, 1) := by decide +kernel
theorem dJ6_numberOfTrailingZeros_0f7a4_72 : decode cJ6_numberOfTrailingZeros_0f7a4 72 = .ok (.iushr, 1) := by decide +kernel
theorem dJ6_numberOfTrailingZeros_0f7a4_73 : decode cJ6_numberOfTrailingZeros_0f7a4 73 = .ok (.istore_n 0, 1) := by decide +kernel
theorem dJ6_numberOfTrailingZeros_0f7a4_74 : decode cJ6_numberOfTrailingZeros_0f7a4 74 = .ok (.iload_n 1, 1) := by decide +kernel
theorem dJ6_numberOfTrailingZeros_0f7a4_75 : decode cJ6_numberOfTrailingZeros_0f7a4 75 = .ok (.iload_n 0, 1) := by decide +kernel
theorem dJ6_numberOfTrailingZeros_0f7a4_76 : decode cJ6_numberOfTrailingZeros_0f7a4 76 = .ok (.iconst 1, 1) := by decide +kernel
theorem dJ6_numberOfTrailingZeros_0f7a4_77 : decode cJ6_numberOfTrailingZeros_0f7a4 77 = .ok (.iushr, 1) := by decide +kernel
theorem dJ6_numberOfTrailingZeros_0f7a4_78 : decode cJ6_numberOfTrailingZeros_0f7a4 78 = .ok (.iadd, 1) := by decide +kernel
theorem dJ6_numberOfTrailingZeros_0f7a4_79 : decode cJ6_numberOfTrailingZeros_0f7a4 79 = .ok (.ireturn, 1) := by decide +kernel
theorem dJ6_bitCount_0f7a4_0 : decode cJ6_bitCount_0f7a4 0 = .ok (.iload_n 0, 1) := by decide +kernel
theorem dJ6_bitCount_0f7a4_1 : decode cJ6_bitCount_0f7a4 1 = .ok (.iload_n 0, 1) := by decide +kernel
theorem dJ6_bitCount_0f7a4_2 : decode cJ6_bitCount_0f7a4 2 = .ok (.iconst 1, 1) := by decide +kernel
theorem dJ6_bitCount_0f7a4_3 : decode cJ6_bitCount_0f7a4 3 = .ok (.iushr, 1) := by decide +kernel
theorem dJ6_bitCount_0f7a4_4 : decode cJ6_bitCount_0f7a4 4 = .ok (.ldc_w 265, 3) := by decide +kernel
theorem dJ6_bitCount_0f7a4_7 : decode cJ6_bitCount_0f7a4 7 = .ok (.iand, 1) := by decide +kernel
theorem dJ6_bitCount_0f7a4_8 : decode cJ6_bitCount_0f7a4 8 = .ok (.isub, 1) := by decide +kernel
theorem dJ6_bitCount_0f7a4_9 : decode cJ6_bitCount_0f7a4 9 = .ok (.istore_n 0, 1) := by decide +kernel
theorem dJ6_bitCount_0f7a4_10 : decode cJ6_bitCount_0f7a4 10 = .ok (.iload_n 0, 1) := by decide +kernel
theorem dJ6_bitCount_0f7a4_11 : decode cJ6_bitCount_0f7a4 11 = .ok (.ldc_w 266, 3) := by decide +kernel
theorem dJ6_bitCount_0f7a4_14 : decode cJ6_bitCount_0f7a4 14 = .ok (.iand, 1) := by decide +kernel
theorem dJ6_bitCount_0f7a4_15 : decode cJ6_bitCount_0f7a4 15 = .ok (.iload_n 0, 1) := by decide +kernel
theorem dJ6_bitCount_0f7a4_16 : decode cJ6_bitCount_0f7a4 16 = .ok (.iconst 2, 1) := by decide +kernel
theorem dJ6_bitCount_0f7a4_17 : decode cJ6_bitCount_0f7a4 17 = .ok (.iushr, 1) := by decide +kernel
theorem dJ6_bitCount_0f7a4_18 : decode cJ6_bitCount_0f7a4 18 = .ok (.ldc_w 266, 3) := by decide +kernel
theorem dJ6_bitCount_0f7a4_21 : decode cJ6_bitCount_0f7a4 21 = .ok (.iand, 1) := by decide +kernel
theorem dJ6_bitCount_0f7a4_22 : decode cJ6_bitCount_0f7a4 22 = .ok (.iadd, 1) := by decide +kernel
theorem dJ6_bitCount_0f7a4_23 : decode cJ6_bitCount_0f7a4 23 = .ok (.istore_n 0, 1) := by decide +kernel
theorem dJ6_bitCount_0f7a4_24 : decode cJ6_bitCount_0f7a4 24 = .ok (.iload_n 0, 1) := by decide +kernel
theorem dJ6_bitCount_0f7a4_25 : decode cJ6_bitCount_0f7a4 25 = .ok (.iload_n 0, 1) := by decide +kernel
theorem dJ6_bitCount_0f7a4_26 : decode cJ6_bitCount_0f7a4 26 = .ok (.iconst 4, 1) := by decide +kernel
theorem dJ6_bitCount_0f7a4_27 : decode cJ6_bitCount_0f7a4 27 = .ok (.iushr, 1) := by decide +kernel
theorem dJ6_bitCount_0f7a4_28 : decode cJ6_bitCount_0f7a4 28 = .ok (.iadd, 1) := by decide +kernel
theorem dJ6_bitCount_0f7a4_29 : decode cJ6_bitCount_0f7a4 29 = .ok (.ldc_w 267, 3) := by decide +kernel
theorem dJ6_bitCount_0f7a4_32 : decode cJ6_bitCount_0f7a4 32 = .ok (.iand, 1) := by decide +kernel
theorem dJ6_bitCount_0f7a4_33 : decode cJ6_bitCount_0f7a4 33 = .ok (.istore_n 0, 1) := by decide +kernel
theorem dJ6_bitCount_0f7a4_34 : decode cJ6_bitCount_0f7a4 34 = .ok (.iload_n 0, 1) := by decide +kernel
theorem dJ6_bitCount_0f7a4_35 : decode cJ6_bitCount_0f7a4 35 = .ok (.iload_n 0, 1) := by decide +kernel
theorem dJ6_bitCount_0f7a4_36 : decode cJ6_bitCount_0f7a4 36 = .ok (.bipush 8, 2) := by decide +kernel
theorem dJ6_bitCount_0f7a4_38 : decode cJ6_bitCount_0f7a4 38 = .ok (.iushr, 1) := by decide +kernel
theorem dJ6_bitCount_0f7a4_39 : decode cJ6_bitCount_0f7a4 39 = .ok (.iadd, 1) := by decide +kernel
theorem dJ6_bitCount_0f7a4_40 : decode cJ6_bitCount_0f7a4 40 = .ok (.istore_n 0, 1) := by decide +kernel
theorem dJ6_bitCount_0f7a4_41 : decode cJ6_bitCount_0f7a4 41 = .ok (.iload_n 0, 1) := by decide +kernel
theorem dJ6_bitCount_0f7a4_42 : decode cJ6_bitCount_0f7a4 42 = .ok (.iload_n 0, 1) := by decide +kernel
theorem dJ6_bitCount_0f7a4_43 : decode cJ6_bitCount_0f7a4 43 = .ok (.bipush 16, 2) := by decide +kernel
theorem dJ6_bitCount_0f7a4_45 : decode cJ6_bitCount_0f7a4 45 = .ok (.iushr, 1) := by decide +kernel
theorem dJ6_bitCount_0f7a4_46 : decode cJ6_bitCount_0f7a4 46 = .ok (.iadd, 1) := by decide +kernel
theorem dJ6_bitCount_0f7a4_47 : decode cJ6_bitCount_0f7a4 47 = .ok (.istore_n 0, 1) := by decide +kernel
theorem dJ6_bitCount_0f7a4_48 : decode cJ6_bitCount_0f7a4 48 = .ok (.iload_n 0, 1) := by decide +kernel
theorem dJ6_bitCount_0f7a4_49 : decode cJ6_bitCount_0f7a4 49 = .ok (.bipush 63, 2) := by decide +kernel
theorem dJ6_bitCount_0f7a4_51 : decode cJ6_bitCount_0f7a4 51 = .ok (.iand, 1) := by decide +kernel
theorem dJ6_bitCount_0f7a4_52 : decode cJ6_bitCount_0f7a4 52 = .ok (.ireturn, 1) := by decide +kernel
theorem dJ9_max_7cf53_0 : decode cJ9_max_7cf53 0 = .ok (.iload_n 0, 1) := by decide +kernel
theorem dJ9_max_7cf53_1 : decode cJ9_max_7cf53 1 = .ok (.iload_n 1, 1) := by decide +kernel
theorem dJ9_max_7cf53_2 : decode cJ9_max_7cf53 2 = .ok (.if_icmp .lt 7, 3) := by decide +kernel
theorem dJ9_max_7cf53_5 : decode cJ9_max_7cf53 5 = .ok (.iload_n 0, 1) := by decide +kernel
theorem dJ9_max_7cf53_6 : decode cJ9_max_7cf53 6 = .ok (.goto 4, 3) := by decide +kernel
theorem dJ9_max_7cf53_9 : decode cJ9_max_7cf53 9 = .ok (.iload_n 1, 1) := by decide +kernel
theorem dJ9_max_7cf53_10 : decode cJ9_max_7cf53 10 = .ok (.ireturn, 1) := by decide +kernel
theorem dJ9_min_7cf53_0 : decode cJ9_min_7cf53 0 = .ok (.iload_n 0, 1) := by decide +kernel
theorem dJ9_min_7cf53_1 : decode cJ9_min_7cf53 1 = .ok (.iload_n 1, 1) := by decide +kernel
theorem dJ9_min_7cf53_2 : decode cJ9_min_7cf53 2 = .ok (.if_icmp .gt 7, 3) := by decide +kernel
theorem dJ9_min_7cf53_5 : decode cJ9_min_7cf53 5 = .ok (.iload_n 0, 1) := by decide +kernel
theorem dJ9_min_7cf53_6 : decode cJ9_min_7cf53 6 = .ok (.goto 4, 3) := by decide +kernel
theorem dJ9_min_7cf53_9 : decode cJ9_min_7cf53 9 = .ok (.iload_n 1, 1) := by decide +kernel
theorem dJ9_min_7cf53_10 : decode cJ9_min_7cf53 10 = .ok (.ireturn, 1) := by decide +kernel
