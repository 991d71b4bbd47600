theorem dX5_tell___7 : decode cX5_tell__ 7 = .ok (.getfield 54, 3) := by decide +kernel
theorem dX5_tell___10 : decode cX5_tell__ 10 = .ok (.iconst 2, 1) := by decide +kernel
theorem dX5_tell___11 : decode cX5_tell__ 11 = .ok (.iload_n 3, 1) := by decide +kernel
theorem dX5_tell___12 : decode cX5_tell__ 12 = .ok (.i2l, 1) := by decide +kernel
theorem dX5_tell___13 : decode cX5_tell__ 13 = .ok (.lastore, 1) := by decide +kernel
theorem dX5_tell___14 : decode cX5_tell__ 14 = .ok (.aload_n 0, 1) := by decide +kernel
theorem dX5_tell___15 : decode cX5_tell__ 15 = .ok (.iconst 3, 1) := by decide +kernel
theorem dX5_tell___16 : decode cX5_tell__ 16 = .ok (.putfield 58, 3) := by decide +kernel
theorem dX5_tell___19 : decode cX5_tell__ 19 = .ok (.return_, 1) := by decide +kernel
theorem dX5_tellFirstWay_0 : decode cX5_tellFirstWay 0 = .ok (.iload_n 1, 1) := by decide +kernel
theorem dX5_tellFirstWay_1 : decode cX5_tellFirstWay 1 = .ok (.bipush 6, 2) := by decide +kernel
theorem dX5_tellFirstWay_3 : decode cX5_tellFirstWay 3 = .ok (.invokestatic 277, 3) := by decide +kernel
theorem dX5_tellFirstWay_6 : decode cX5_tellFirstWay 6 = .ok (.istore_n 2, 1) := by decide +kernel
theorem dX5_tellFirstWay_7 : decode cX5_tellFirstWay 7 = .ok (.iconst 0, 1) := by decide +kernel
theorem dX5_tellFirstWay_8 : decode cX5_tellFirstWay 8 = .ok (.istore_n 3, 1) := by decide +kernel
theorem dX5_tellFirstWay_9 : decode cX5_tellFirstWay 9 = .ok (.iload_n 3, 1) := by decide +kernel
theorem dX5_tellFirstWay_10 : decode cX5_tellFirstWay 10 = .ok (.iload_n 2, 1) := by decide +kernel
theorem dX5_tellFirstWay_11 : decode cX5_tellFirstWay 11 = .ok (.if_icmp .ge 25, 3) := by decide +kernel
theorem dX5_tellFirstWay_14 : decode cX5_tellFirstWay 14 = .ok (.aload_n 0, 1) := by decide +kernel
theorem dX5_tellFirstWay_15 : decode cX5_tellFirstWay 15 = .ok (.getfield 54, 3) := by decide +kernel
theorem dX5_tellFirstWay_18 : decode cX5_tellFirstWay 18 = .ok (.iload_n 3, 1) := by decide +kernel
theorem dX5_tellFirstWay_19 : decode cX5_tellFirstWay 19 = .ok (.aload_n 0, 1) := by decide +kernel
theorem dX5_tellFirstWay_20 : decode cX5_tellFirstWay 20 = .ok (.getfield 39, 3) := by decide +kernel
theorem dX5_tellFirstWay_23 : decode cX5_tellFirstWay 23 = .ok (.getfield 289, 3) := by decide +kernel
theorem dX5_tellFirstWay_26 : decode cX5_tellFirstWay 26 = .ok (.iload_n 3, 1) := by decide +kernel
theorem dX5_tellFirstWay_27 : decode cX5_tellFirstWay 27 = .ok (.iaload, 1) := by decide +kernel
theorem dX5_tellFirstWay_28 : decode cX5_tellFirstWay 28 = .ok (.i2l, 1) := by decide +kernel
theorem dX5_tellFirstWay_29 : decode cX5_tellFirstWay 29 = .ok (.lastore, 1) := by decide +kernel
theorem dX5_tellFirstWay_30 : decode cX5_tellFirstWay 30 = .ok (.iinc 3 1, 3) := by decide +kernel
theorem dX5_tellFirstWay_33 : decode cX5_tellFirstWay 33 = .ok (.goto (-24), 3) := by decide +kernel
theorem dX5_tellFirstWay_36 : decode cX5_tellFirstWay 36 = .ok (.aload_n 0, 1) := by decide +kernel
theorem dX5_tellFirstWay_37 : decode cX5_tellFirstWay 37 = .ok (.iload_n 2, 1) := by decide +kernel
theorem dX5_tellFirstWay_38 : decode cX5_tellFirstWay 38 = .ok (.putfield 58, 3) := by decide +kernel
theorem dX5_tellFirstWay_41 : decode cX5_tellFirstWay 41 = .ok (.return_, 1) := by decide +kernel
set_option maxRecDepth 20000 in
theorem ggX5_fitting_X5_fittingAnew : GoodIn wsX5_fitting wsX5_fittingAnew := goodIn_r _ [5, 6, 7, 8, 9, 4, 10, 11, 12, 13, 14, 15, 16, 17, 18, 19, 20, 21, 22, 23, 24, 25, 26, 27, 28, 29, 30, 31, 32, 33, 34, 35, 36, 37, 38, 39, 40, 41, 42, 43, 44, 45, 46, 47, 48, 49, 50] (by decide +kernel) (by decide +kernel)
set_option maxRecDepth 20000 in
theorem gX5_fitting_X5_fittingAnew : GoodIn wsX5_fitting (wsV RX5 246 RX5 yX5_fittingAnew wsX5_fittingAnew) := goodIn_app (goodIn_of _ (by decide +kernel)) ggX5_fitting_X5_fittingAnew
theorem dX5_fitting_0 : decode cX5_fitting 0 = .ok (.aload_n 0, 1) := by decide +kernel
theorem dX5_fitting_1 : decode cX5_fitting 1 = .ok (.iconst 0, 1) := by decide +kernel
theorem dX5_fitting_2 : decode cX5_fitting 2 = .ok (.sipush 1023, 3) := by decide +kernel
theorem dX5_fitting_5 : decode cX5_fitting 5 = .ok (.invokevirtual 246, 3) := by decide +kernel
theorem dX5_fitting_8 : decode cX5_fitting 8 = .ok (.ireturn, 1) := by decide +kernel
set_option maxRecDepth 20000 in
theorem ggX5_fittingAnew_X5_hasBit : GoodIn wsX5_fittingAnew wsX5_hasBit := goodIn_r _ [6] (by decide +kernel) (by decide +kernel)
set_option maxRecDepth 20000 in
theorem gX5_fittingAnew_X5_hasBit : GoodIn wsX5_fittingAnew (va_wsS RX5 152 yX5_hasBit wsX5_hasBit) := goodIn_app (goodIn_of _ (by decide +kernel)) ggX5_fittingAnew_X5_hasBit
set_option maxRecDepth 20000 in
theorem ggX5_fittingAnew_X0_hasWay : GoodIn wsX5_fittingAnew wsX0_hasWay := goodIn_r _ [11, 12, 13, 14, 15, 16, 17, 4, 5, 6, 18, 19, 20, 21, 22, 23, 24, 38, 39, 40, 41, 42, 43, 44, 45, 46] (by decide +kernel) (by decide +kernel)
set_option maxRecDepth 20000 in
theorem gX5_fittingAnew_X0_hasWay : GoodIn wsX5_fittingAnew (wsV RX5 195 RX0 yX0_hasWay wsX0_hasWay) := goodIn_app (goodIn_of _ (by decide +kernel)) ggX5_fittingAnew_X0_hasWay
theorem dX5_fittingAnew_0 : decode cX5_fittingAnew 0 = .ok (.iconst 0, 1) := by decide +kernel
theorem dX5_fittingAnew_1 : decode cX5_fittingAnew 1 = .ok (.istore_n 3, 1) := by decide +kernel
theorem dX5_fittingAnew_2 : decode cX5_fittingAnew 2 = .ok (.iconst 0, 1) := by decide +kernel
theorem dX5_fittingAnew_3 : decode cX5_fittingAnew 3 = .ok (.istore 4, 2) := by decide +kernel
theorem dX5_fittingAnew_5 : decode cX5_fittingAnew 5 = .ok (.iload 4, 2) := by decide +kernel
theorem dX5_fittingAnew_7 : decode cX5_fittingAnew 7 = .ok (.aload_n 0, 1) := by decide +kernel
theorem dX5_fittingAnew_8 : decode cX5_fittingAnew 8 = .ok (.getfield 29, 3) := by decide +kernel
theorem dX5_fittingAnew_11 : decode cX5_fittingAnew 11 = .ok (.getfield 92, 3) := by decide +kernel
theorem dX5_fittingAnew_14 : decode cX5_fittingAnew 14 = .ok (.if_icmp .ge 64, 3) := by decide +kernel
theorem dX5_fittingAnew_17 : decode cX5_fittingAnew 17 = .ok (.aload_n 0, 1) := by decide +kernel
theorem dX5_fittingAnew_18 : decode cX5_fittingAnew 18 = .ok (.getfield 29, 3) := by decide +kernel
theorem dX5_fittingAnew_21 : decode cX5_fittingAnew 21 = .ok (.getfield 168, 3) := by decide +kernel
theorem dX5_fittingAnew_24 : decode cX5_fittingAnew 24 = .ok (.iload 4, 2) := by decide +kernel
theorem dX5_fittingAnew_26 : decode cX5_fittingAnew 26 = .ok (.iaload, 1) := by decide +kernel
theorem dX5_fittingAnew_27 : decode cX5_fittingAnew 27 = .ok (.istore 5, 2) := by decide +kernel
theorem dX5_fittingAnew_29 : decode cX5_fittingAnew 29 = .ok (.iload 5, 2) := by decide +kernel
theorem dX5_fittingAnew_31 : decode cX5_fittingAnew 31 = .ok (.iload_n 2, 1) := by decide +kernel
theorem dX5_fittingAnew_32 : decode cX5_fittingAnew 32 = .ok (.iand, 1) := by decide +kernel
theorem dX5_fittingAnew_33 : decode cX5_fittingAnew 33 = .ok (.ifCond .ne 12, 3) := by decide +kernel
theorem dX5_fittingAnew_36 : decode cX5_fittingAnew 36 = .ok (.iload_n 1, 1) := by decide +kernel
theorem dX5_fittingAnew_37 : decode cX5_fittingAnew 37 = .ok (.iload 4, 2) := by decide +kernel
theorem dX5_fittingAnew_39 : decode cX5_fittingAnew 39 = .ok (.invokestatic 152, 3) := by decide +kernel
theorem dX5_fittingAnew_42 : decode cX5_fittingAnew 42 = .ok (.goto 12, 3) := by decide +kernel
theorem dX5_fittingAnew_45 : decode cX5_fittingAnew 45 = .ok (.aload_n 0, 1) := by decide +kernel
theorem dX5_fittingAnew_46 : decode cX5_fittingAnew 46 = .ok (.getfield 19, 3) := by decide +kernel
theorem dX5_fittingAnew_49 : decode cX5_fittingAnew 49 = .ok (.iload 5, 2) := by decide +kernel
theorem dX5_fittingAnew_51 : decode cX5_fittingAnew 51 = .ok (.invokevirtual 195, 3) := by decide +kernel
theorem dX5_fittingAnew_54 : decode cX5_fittingAnew 54 = .ok (.istore 6, 2) := by decide +kernel
theorem dX5_fittingAnew_56 : decode cX5_fittingAnew 56 = .ok (.iload_n 3, 1) := by decide +kernel
theorem dX5_fittingAnew_57 : decode cX5_fittingAnew 57 = .ok (.iload 6, 2) := by decide +kernel
theorem dX5_fittingAnew_59 : decode cX5_fittingAnew 59 = .ok (.ifCond .eq 10, 3) := by decide +kernel
theorem dX5_fittingAnew_62 : decode cX5_fittingAnew 62 = .ok (.iconst 1, 1) := by decide +kernel
theorem dX5_fittingAnew_63 : decode cX5_fittingAnew 63 = .ok (.iload 4, 2) := by decide +kernel
theorem dX5_fittingAnew_65 : decode cX5_fittingAnew 65 = .ok (.ishl, 1) := by decide +kernel
theorem dX5_fittingAnew_66 : decode cX5_fittingAnew 66 = .ok (.goto 4, 3) := by decide +kernel
theorem dX5_fittingAnew_69 : decode cX5_fittingAnew 69 = .ok (.iconst 0, 1) := by decide +kernel
theorem dX5_fittingAnew_70 : decode cX5_fittingAnew 70 = .ok (.ior, 1) := by decide +kernel
theorem dX5_fittingAnew_71 : decode cX5_fittingAnew 71 = .ok (.istore_n 3, 1) := by decide +kernel
theorem dX5_fittingAnew_72 : decode cX5_fittingAnew 72 = .ok (.iinc 4 1, 3) := by decide +kernel
theorem dX5_fittingAnew_75 : decode cX5_fittingAnew 75 = .ok (.goto (-70), 3) := by decide +kernel
theorem dX5_fittingAnew_78 : decode cX5_fittingAnew 78 = .ok (.iload_n 3, 1) := by decide +kernel
theorem dX5_fittingAnew_79 : decode cX5_fittingAnew 79 = .ok (.ireturn, 1) := by decide +kernel
set_option maxRecDepth 20000 in
theorem ggX5_fittingMoved_X0_place : GoodIn wsX5_fittingMoved wsX0_place := goodIn_r _ [6, 7, 8, 9, 10, 11, 5, 12, 13, 14, 15, 16, 17, 18, 54, 55, 56, 57, 58, 59, 60, 61, 62] (by decide +kernel) (by decide +kernel)
set_option maxRecDepth 20000 in
theorem gX5_fittingMoved_X0_place : GoodIn wsX5_fittingMoved (wsV RX5 129 RX0 yX0_place wsX0_place) := goodIn_app (goodIn_of _ (by decide +kernel)) ggX5_fittingMoved_X0_place
set_option maxRecDepth 20000 in
theorem ggX5_fittingMoved_X5_fittingAnew : GoodIn wsX5_fittingMoved wsX5_fittingAnew := goodIn_r _ [23, 24, 1, 25, 26, 22, 27, 28, 29, 30, 5, 31, 13, 32, 33, 34, 35, 36, 37, 38, 39, 40, 41, 42, 43, 44, 45, 46, 47, 48, 49, 50, 51, 52, 53, 63, 64, 65, 54, 55, 56, 57, 58, 59, 60, 61, 62] (by decide +kernel) (by decide +kernel)
set_option maxRecDepth 20000 in
theorem gX5_fittingMoved_X5_fittingAnew : GoodIn wsX5_fittingMoved (wsV RX5 246 RX5 yX5_fittingAnew wsX5_fittingAnew) := goodIn_app (goodIn_of _ (by decide +kernel)) ggX5_fittingMoved_X5_fittingAnew
theorem dX5_fittingMoved_0 : decode cX5_fittingMoved 0 = .ok (.aload_n 0, 1) := by decide +kernel
theorem dX5_fittingMoved_1 : decode cX5_fittingMoved 1 = .ok (.getfield 19, 3) := by decide +kernel
theorem dX5_fittingMoved_4 : decode cX5_fittingMoved 4 = .ok (.getfield 122, 3) := by decide +kernel
theorem dX5_fittingMoved_7 : decode cX5_fittingMoved 7 = .ok (.iload_n 2, 1) := by decide +kernel
theorem dX5_fittingMoved_8 : decode cX5_fittingMoved 8 = .ok (.iaload, 1) := by decide +kernel
theorem dX5_fittingMoved_9 : decode cX5_fittingMoved 9 = .ok (.istore 4, 2) := by decide +kernel
theorem dX5_fittingMoved_11 : decode cX5_fittingMoved 11 = .ok (.aload_n 0, 1) := by decide +kernel
theorem dX5_fittingMoved_12 : decode cX5_fittingMoved 12 = .ok (.getfield 19, 3) := by decide +kernel
theorem dX5_fittingMoved_15 : decode cX5_fittingMoved 15 = .ok (.iload_n 2, 1) := by decide +kernel
theorem dX5_fittingMoved_16 : decode cX5_fittingMoved 16 = .ok (.iload_n 3, 1) := by decide +kernel
theorem dX5_fittingMoved_17 : decode cX5_fittingMoved 17 = .ok (.invokevirtual 129, 3) := by decide +kernel
theorem dX5_fittingMoved_20 : decode cX5_fittingMoved 20 = .ok (.aload_n 0, 1) := by decide +kernel
theorem dX5_fittingMoved_21 : decode cX5_fittingMoved 21 = .ok (.iload_n 1, 1) := by decide +kernel
theorem dX5_fittingMoved_22 : decode cX5_fittingMoved 22 = .ok (.iconst 1, 1) := by decide +kernel
theorem dX5_fittingMoved_23 : decode cX5_fittingMoved 23 = .ok (.aload_n 0, 1) := by decide +kernel
theorem dX5_fittingMoved_24 : decode cX5_fittingMoved 24 = .ok (.getfield 19, 3) := by decide +kernel
theorem dX5_fittingMoved_27 : decode cX5_fittingMoved 27 = .ok (.getfield 174, 3) := by decide +kernel
theorem dX5_fittingMoved_30 : decode cX5_fittingMoved 30 = .ok (.iload_n 2, 1) := by decide +kernel
theorem dX5_fittingMoved_31 : decode cX5_fittingMoved 31 = .ok (.iaload, 1) := by decide +kernel
theorem dX5_fittingMoved_32 : decode cX5_fittingMoved 32 = .ok (.ishl, 1) := by decide +kernel
theorem dX5_fittingMoved_33 : decode cX5_fittingMoved 33 = .ok (.invokevirtual 246, 3) := by decide +kernel
theorem dX5_fittingMoved_36 : decode cX5_fittingMoved 36 = .ok (.istore 5, 2) := by decide +kernel
theorem dX5_fittingMoved_38 : decode cX5_fittingMoved 38 = .ok (.aload_n 0, 1) := by decide +kernel
theorem dX5_fittingMoved_39 : decode cX5_fittingMoved 39 = .ok (.getfield 19, 3) := by decide +kernel
theorem dX5_fittingMoved_42 : decode cX5_fittingMoved 42 = .ok (.iload_n 2, 1) := by decide +kernel
theorem dX5_fittingMoved_43 : decode cX5_fittingMoved 43 = .ok (.iload 4, 2) := by decide +kernel
theorem dX5_fittingMoved_45 : decode cX5_fittingMoved 45 = .ok (.invokevirtual 129, 3) := by decide +kernel
theorem dX5_fittingMoved_48 : decode cX5_fittingMoved 48 = .ok (.iload 5, 2) := by decide +kernel
theorem dX5_fittingMoved_50 : decode cX5_fittingMoved 50 = .ok (.ireturn, 1) := by decide +kernel
set_option maxRecDepth 20000 in
theorem ggX5_fittingTraded_X0_trade : GoodIn wsX5_fittingTraded wsX0_trade := goodIn_r _ [6, 7, 8, 9, 10, 5, 11, 12, 13, 14, 15, 16, 17, 18, 19, 20, 21, 22, 58, 59, 60, 61, 62, 63, 64, 65, 66] (by decide +kernel) (by decide +kernel)
set_option maxRecDepth 20000 in
theorem gX5_fittingTraded_X0_trade : GoodIn wsX5_fittingTraded (wsV RX5 146 RX0 yX0_trade wsX0_trade) := goodIn_app (goodIn_of _ (by decide +kernel)) ggX5_fittingTraded_X0_trade
set_option maxRecDepth 20000 in
theorem ggX5_fittingTraded_X5_fittingAnew : GoodIn wsX5_fittingTraded wsX5_fittingAnew := goodIn_r _ [27, 28, 1, 29, 30, 26, 31, 32, 33, 34, 5, 35, 17, 36, 37, 38, 39, 40, 41, 42, 43, 44, 45, 46, 47, 48, 49, 50, 51, 52, 53, 54, 55, 56, 57, 67, 68, 69, 58, 59, 60, 61, 62, 63, 64, 65, 66] (by decide +kernel) (by decide +kernel)
set_option maxRecDepth 20000 in
theorem gX5_fittingTraded_X5_fittingAnew : GoodIn wsX5_fittingTraded (wsV RX5 246 RX5 yX5_fittingAnew wsX5_fittingAnew) := goodIn_app (goodIn_of _ (by decide +kernel)) ggX5_fittingTraded_X5_fittingAnew
theorem dX5_fittingTraded_0 : decode cX5_fittingTraded 0 = .ok (.aload_n 0, 1) := by decide +kernel
theorem dX5_fittingTraded_1 : decode cX5_fittingTraded 1 = .ok (.getfield 19, 3) := by decide +kernel
theorem dX5_fittingTraded_4 : decode cX5_fittingTraded 4 = .ok (.iload_n 2, 1) := by decide +kernel
theorem dX5_fittingTraded_5 : decode cX5_fittingTraded 5 = .ok (.iload_n 3, 1) := by decide +kernel
theorem dX5_fittingTraded_6 : decode cX5_fittingTraded 6 = .ok (.invokevirtual 146, 3) := by decide +kernel
theorem dX5_fittingTraded_9 : decode cX5_fittingTraded 9 = .ok (.aload_n 0, 1) := by decide +kernel
theorem dX5_fittingTraded_10 : decode cX5_fittingTraded 10 = .ok (.iload_n 1, 1) := by decide +kernel
theorem dX5_fittingTraded_11 : decode cX5_fittingTraded 11 = .ok (.iconst 1, 1) := by decide +kernel
theorem dX5_fittingTraded_12 : decode cX5_fittingTraded 12 = .ok (.aload_n 0, 1) := by decide +kernel
theorem dX5_fittingTraded_13 : decode cX5_fittingTraded 13 = .ok (.getfield 19, 3) := by decide +kernel
theorem dX5_fittingTraded_16 : decode cX5_fittingTraded 16 = .ok (.getfield 174, 3) := by decide +kernel
theorem dX5_fittingTraded_19 : decode cX5_fittingTraded 19 = .ok (.iload_n 2, 1) := by decide +kernel
theorem dX5_fittingTraded_20 : decode cX5_fittingTraded 20 = .ok (.iaload, 1) := by decide +kernel
theorem dX5_fittingTraded_21 : decode cX5_fittingTraded 21 = .ok (.ishl, 1) := by decide +kernel
theorem dX5_fittingTraded_22 : decode cX5_fittingTraded 22 = .ok (.iconst 1, 1) := by decide +kernel
theorem dX5_fittingTraded_23 : decode cX5_fittingTraded 23 = .ok (.aload_n 0, 1) := by decide +kernel
theorem dX5_fittingTraded_24 : decode cX5_fittingTraded 24 = .ok (.getfield 19, 3) := by decide +kernel
theorem dX5_fittingTraded_27 : decode cX5_fittingTraded 27 = .ok (.getfield 174, 3) := by decide +kernel
theorem dX5_fittingTraded_30 : decode cX5_fittingTraded 30 = .ok (.iload_n 3, 1) := by decide +kernel
theorem dX5_fittingTraded_31 : decode cX5_fittingTraded 31 = .ok (.iaload, 1) := by decide +kernel
theorem dX5_fittingTraded_32 : decode cX5_fittingTraded 32 = .ok (.ishl, 1) := by decide +kernel
theorem dX5_fittingTraded_33 : decode cX5_fittingTraded 33 = .ok (.ior, 1) := by decide +kernel
theorem dX5_fittingTraded_34 : decode cX5_fittingTraded 34 = .ok (.invokevirtual 246, 3) := by decide +kernel
theorem dX5_fittingTraded_37 : decode cX5_fittingTraded 37 = .ok (.istore 4, 2) := by decide +kernel
theorem dX5_fittingTraded_39 : decode cX5_fittingTraded 39 = .ok (.aload_n 0, 1) := by decide +kernel
theorem dX5_fittingTraded_40 : decode cX5_fittingTraded 40 = .ok (.getfield 19, 3) := by decide +kernel
theorem dX5_fittingTraded_43 : decode cX5_fittingTraded 43 = .ok (.iload_n 2, 1) := by decide +kernel
theorem dX5_fittingTraded_44 : decode cX5_fittingTraded 44 = .ok (.iload_n 3, 1) := by decide +kernel
theorem dX5_fittingTraded_45 : decode cX5_fittingTraded 45 = .ok (.invokevirtual 146, 3) := by decide +kernel
theorem dX5_fittingTraded_48 : decode cX5_fittingTraded 48 = .ok (.iload 4, 2) := by decide +kernel
theorem dX5_fittingTraded_50 : decode cX5_fittingTraded 50 = .ok (.ireturn, 1) := by decide +kernel
theorem dX5_isHeld_0 : decode cX5_isHeld 0 = .ok (.iload_n 1, 1) := by decide +kernel
theorem dX5_isHeld_1 : decode cX5_isHeld 1 = .ok (.iload_n 2, 1) := by decide +kernel
theorem dX5_isHeld_2 : decode cX5_isHeld 2 = .ok (.iconst (-1), 1) := by decide +kernel
theorem dX5_isHeld_3 : decode cX5_isHeld 3 = .ok (.ixor, 1) := by decide +kernel
theorem dX5_isHeld_4 : decode cX5_isHeld 4 = .ok (.iand, 1) := by decide +kernel
theorem dX5_isHeld_5 : decode cX5_isHeld 5 = .ok (.aload_n 0, 1) := by decide +kernel
theorem dX5_isHeld_6 : decode cX5_isHeld 6 = .ok (.getfield 29, 3) := by decide +kernel
theorem dX5_isHeld_9 : decode cX5_isHeld 9 = .ok (.getfield 171, 3) := by decide +kernel
theorem dX5_isHeld_12 : decode cX5_isHeld 12 = .ok (.iand, 1) := by decide +kernel
theorem dX5_isHeld_13 : decode cX5_isHeld 13 = .ok (.ifCond .ne 7, 3) := by decide +kernel
theorem dX5_isHeld_16 : decode cX5_isHeld 16 = .ok (.iconst 1, 1) := by decide +kernel
theorem dX5_isHeld_17 : decode cX5_isHeld 17 = .ok (.goto 4, 3) := by decide +kernel
theorem dX5_isHeld_20 : decode cX5_isHeld 20 = .ok (.iconst 0, 1) := by decide +kernel
theorem dX5_isHeld_21 : decode cX5_isHeld 21 = .ok (.ireturn, 1) := by decide +kernel
set_option maxRecDepth 20000 in
theorem ggX5_allFit_X5_hasBit : GoodIn wsX5_allFit wsX5_hasBit := goodIn_r _ [6] (by decide +kernel) (by decide +kernel)
set_option maxRecDepth 20000 in
theorem gX5_allFit_X5_hasBit : GoodIn wsX5_allFit (va_wsS RX5 152 yX5_hasBit wsX5_hasBit) := goodIn_app (goodIn_of _ (by decide +kernel)) ggX5_allFit_X5_hasBit
set_option maxRecDepth 20000 in
theorem ggX5_allFit_X0_hasWay : GoodIn wsX5_allFit wsX0_hasWay := goodIn_r _ [11, 12, 13, 14, 15, 16, 17, 4, 5, 6, 18, 19, 20, 21, 22, 23, 24, 38, 39, 40, 41, 42, 43, 44, 45, 46] (by decide +kernel) (by decide +kernel)
set_option maxRecDepth 20000 in
theorem gX5_allFit_X0_hasWay : GoodIn wsX5_allFit (wsV RX5 195 RX0 yX0_hasWay wsX0_hasWay) := goodIn_app (goodIn_of _ (by decide +kernel)) ggX5_allFit_X0_hasWay
theorem dX5_allFit_0 : decode cX5_allFit 0 = .ok (.iconst 0, 1) := by decide +kernel
theorem dX5_allFit_1 : decode cX5_allFit 1 = .ok (.istore_n 2, 1) := by decide +kernel
theorem dX5_allFit_2 : decode cX5_allFit 2 = .ok (.iload_n 2, 1) := by decide +kernel
theorem dX5_allFit_3 : decode cX5_allFit 3 = .ok (.aload_n 0, 1) := by decide +kernel
theorem dX5_allFit_4 : decode cX5_allFit 4 = .ok (.getfield 29, 3) := by decide +kernel
theorem dX5_allFit_7 : decode cX5_allFit 7 = .ok (.getfield 92, 3) := by decide +kernel
theorem dX5_allFit_10 : decode cX5_allFit 10 = .ok (.if_icmp .ge 38, 3) := by decide +kernel
theorem dX5_allFit_13 : decode cX5_allFit 13 = .ok (.iload_n 1, 1) := by decide +kernel
theorem dX5_allFit_14 : decode cX5_allFit 14 = .ok (.iload_n 2, 1) := by decide +kernel
theorem dX5_allFit_15 : decode cX5_allFit 15 = .ok (.invokestatic 152, 3) := by decide +kernel
theorem dX5_allFit_18 : decode cX5_allFit 18 = .ok (.ifCond .eq 24, 3) := by decide +kernel
theorem dX5_allFit_21 : decode cX5_allFit 21 = .ok (.aload_n 0, 1) := by decide +kernel
theorem dX5_allFit_22 : decode cX5_allFit 22 = .ok (.getfield 19, 3) := by decide +kernel
theorem dX5_allFit_25 : decode cX5_allFit 25 = .ok (.aload_n 0, 1) := by decide +kernel
theorem dX5_allFit_26 : decode cX5_allFit 26 = .ok (.getfield 29, 3) := by decide +kernel
theorem dX5_allFit_29 : decode cX5_allFit 29 = .ok (.getfield 168, 3) := by decide +kernel
theorem dX5_allFit_32 : decode cX5_allFit 32 = .ok (.iload_n 2, 1) := by decide +kernel
theorem dX5_allFit_33 : decode cX5_allFit 33 = .ok (.iaload, 1) := by decide +kernel
theorem dX5_allFit_34 : decode cX5_allFit 34 = .ok (.invokevirtual 195, 3) := by decide +kernel
theorem dX5_allFit_37 : decode cX5_allFit 37 = .ok (.ifCond .ne 5, 3) := by decide +kernel
theorem dX5_allFit_40 : decode cX5_allFit 40 = .ok (.iconst 0, 1) := by decide +kernel
theorem dX5_allFit_41 : decode cX5_allFit 41 = .ok (.ireturn, 1) := by decide +kernel
theorem dX5_allFit_42 : decode cX5_allFit 42 = .ok (.iinc 2 1, 3) := by decide +kernel
theorem dX5_allFit_45 : decode cX5_allFit 45 = .ok (.goto (-43), 3) := by decide +kernel
theorem dX5_allFit_48 : decode cX5_allFit 48 = .ok (.iconst 1, 1) := by decide +kernel
theorem dX5_allFit_49 : decode cX5_allFit 49 = .ok (.ireturn, 1) := by decide +kernel
set_option maxRecDepth 20000 in
theorem ggX5_bestMove_J6_bitCount_0f7a4 : GoodIn wsX5_bestMove wsJ6_bitCount_0f7a4 := goodIn_r _ [5, 6, 7, 8] (by decide +kernel) (by decide +kernel)
set_option maxRecDepth 20000 in
theorem gX5_bestMove_J6_bitCount_0f7a4 : GoodIn wsX5_bestMove (va_wsS RX5 137 yJ6_bitCount_0f7a4 wsJ6_bitCount_0f7a4) := goodIn_app (goodIn_of _ (by decide +kernel)) ggX5_bestMove_J6_bitCount_0f7a4
set_option maxRecDepth 20000 in
theorem ggX5_bestMove_X0_mayMove : GoodIn wsX5_bestMove wsX0_mayMove := goodIn_r _ [13, 14, 15, 16, 17, 18, 12, 19, 20, 21, 22, 23, 24, 25, 80, 81, 82, 83, 84, 85, 86, 87, 88] (by decide +kernel) (by decide +kernel)
set_option maxRecDepth 20000 in
theorem gX5_bestMove_X0_mayMove : GoodIn wsX5_bestMove (wsV RX5 125 RX0 yX0_mayMove wsX0_mayMove) := goodIn_app (goodIn_of _ (by decide +kernel)) ggX5_bestMove_X0_mayMove
set_option maxRecDepth 20000 in
theorem ggX5_bestMove_X5_fittingMoved : GoodIn wsX5_bestMove wsX5_fittingMoved := goodIn_r _ [29, 1, 30, 31, 32, 12, 33, 14, 34, 35, 36, 37, 38, 39, 40, 41, 42, 43, 20, 44, 45, 46, 24, 47, 48, 49, 23, 25, 50, 51, 52, 53, 54, 55, 56, 57, 58, 59, 60, 61, 62, 63, 64, 65, 70, 71, 72, 73, 74, 75, 76, 77, 78, 79, 80, 81, 82, 83, 84, 85, 86, 87, 88, 89, 90, 91] (by decide +kernel) (by decide +kernel)
set_option maxRecDepth 20000 in
theorem gX5_bestMove_X5_fittingMoved : GoodIn wsX5_bestMove (wsV RX5 231 RX5 yX5_fittingMoved wsX5_fittingMoved) := goodIn_app (goodIn_of _ (by decide +kernel)) ggX5_bestMove_X5_fittingMoved
set_option maxRecDepth 20000 in
theorem ggX5_bestMove_X5_isHeld : GoodIn wsX5_bestMove wsX5_isHeld := goodIn_r _ [69, 48, 70, 71, 72, 73, 74, 75, 76, 77, 78, 79, 89, 90, 91] (by decide +kernel) (by decide +kernel)
set_option maxRecDepth 20000 in
theorem gX5_bestMove_X5_isHeld : GoodIn wsX5_bestMove (wsV RX5 243 RX5 yX5_isHeld wsX5_isHeld) := goodIn_app (goodIn_of _ (by decide +kernel)) ggX5_bestMove_X5_isHeld
theorem dX5_bestMove_0 : decode cX5_bestMove 0 = .ok (.iload_n 1, 1) := by decide +kernel
theorem dX5_bestMove_1 : decode cX5_bestMove 1 = .ok (.invokestatic 137, 3) := by decide +kernel
theorem dX5_bestMove_4 : decode cX5_bestMove 4 = .ok (.istore_n 2, 1) := by decide +kernel
theorem dX5_bestMove_5 : decode cX5_bestMove 5 = .ok (.bipush (-2), 2) := by decide +kernel
theorem dX5_bestMove_7 : decode cX5_bestMove 7 = .ok (.istore_n 3, 1) := by decide +kernel
theorem dX5_bestMove_8 : decode cX5_bestMove 8 = .ok (.iconst 0, 1) := by decide +kernel
theorem dX5_bestMove_9 : decode cX5_bestMove 9 = .ok (.istore 4, 2) := by decide +kernel
theorem dX5_bestMove_11 : decode cX5_bestMove 11 = .ok (.iload 4, 2) := by decide +kernel
theorem dX5_bestMove_13 : decode cX5_bestMove 13 = .ok (.aload_n 0, 1) := by decide +kernel
theorem dX5_bestMove_14 : decode cX5_bestMove 14 = .ok (.getfield 19, 3) := by decide +kernel
theorem dX5_bestMove_17 : decode cX5_bestMove 17 = .ok (.getfield 79, 3) := by decide +kernel
theorem dX5_bestMove_20 : decode cX5_bestMove 20 = .ok (.if_icmp .ge 89, 3) := by decide +kernel
theorem dX5_bestMove_23 : decode cX5_bestMove 23 = .ok (.iconst 0, 1) := by decide +kernel
theorem dX5_bestMove_24 : decode cX5_bestMove 24 = .ok (.istore 5, 2) := by decide +kernel
theorem dX5_bestMove_26 : decode cX5_bestMove 26 = .ok (.iload 5, 2) := by decide +kernel
theorem dX5_bestMove_28 : decode cX5_bestMove 28 = .ok (.aload_n 0, 1) := by decide +kernel
theorem dX5_bestMove_29 : decode cX5_bestMove 29 = .ok (.getfield 19, 3) := by decide +kernel
theorem dX5_bestMove_32 : decode cX5_bestMove 32 = .ok (.getfield 158, 3) := by decide +kernel
theorem dX5_bestMove_35 : decode cX5_bestMove 35 = .ok (.if_icmp .ge 68, 3) := by decide +kernel
theorem dX5_bestMove_38 : decode cX5_bestMove 38 = .ok (.aload_n 0, 1) := by decide +kernel
theorem dX5_bestMove_39 : decode cX5_bestMove 39 = .ok (.getfield 19, 3) := by decide +kernel
theorem dX5_bestMove_42 : decode cX5_bestMove 42 = .ok (.iload 4, 2) := by decide +kernel
theorem dX5_bestMove_44 : decode cX5_bestMove 44 = .ok (.iload 5, 2) := by decide +kernel
theorem dX5_bestMove_46 : decode cX5_bestMove 46 = .ok (.invokevirtual 125, 3) := by decide +kernel
theorem dX5_bestMove_49 : decode cX5_bestMove 49 = .ok (.ifCond .eq 48, 3) := by decide +kernel
theorem dX5_bestMove_52 : decode cX5_bestMove 52 = .ok (.aload_n 0, 1) := by decide +kernel
theorem dX5_bestMove_53 : decode cX5_bestMove 53 = .ok (.iload_n 1, 1) := by decide +kernel
theorem dX5_bestMove_54 : decode cX5_bestMove 54 = .ok (.iload 4, 2) := by decide +kernel
theorem dX5_bestMove_56 : decode cX5_bestMove 56 = .ok (.iload 5, 2) := by decide +kernel
theorem dX5_bestMove_58 : decode cX5_bestMove 58 = .ok (.invokevirtual 231, 3) := by decide +kernel
theorem dX5_bestMove_61 : decode cX5_bestMove 61 = .ok (.istore 6, 2) := by decide +kernel
theorem dX5_bestMove_63 : decode cX5_bestMove 63 = .ok (.aload_n 0, 1) := by decide +kernel
theorem dX5_bestMove_64 : decode cX5_bestMove 64 = .ok (.iload_n 1, 1) := by decide +kernel
theorem dX5_bestMove_65 : decode cX5_bestMove 65 = .ok (.iload 6, 2) := by decide +kernel
theorem dX5_bestMove_67 : decode cX5_bestMove 67 = .ok (.invokevirtual 243, 3) := by decide +kernel
theorem dX5_bestMove_70 : decode cX5_bestMove 70 = .ok (.ifCond .eq 27, 3) := by decide +kernel
theorem dX5_bestMove_73 : decode cX5_bestMove 73 = .ok (.iload 6, 2) := by decide +kernel
theorem dX5_bestMove_75 : decode cX5_bestMove 75 = .ok (.invokestatic 137, 3) := by decide +kernel
theorem dX5_bestMove_78 : decode cX5_bestMove 78 = .ok (.iload_n 2, 1) := by decide +kernel
theorem dX5_bestMove_79 : decode cX5_bestMove 79 = .ok (.if_icmp .le 18, 3) := by decide +kernel
theorem dX5_bestMove_82 : decode cX5_bestMove 82 = .ok (.iload 6, 2) := by decide +kernel
theorem dX5_bestMove_84 : decode cX5_bestMove 84 = .ok (.invokestatic 137, 3) := by decide +kernel
theorem dX5_bestMove_87 : decode cX5_bestMove 87 = .ok (.istore_n 2, 1) := by decide +kernel
theorem dX5_bestMove_88 : decode cX5_bestMove 88 = .ok (.bipush 100, 2) := by decide +kernel
theorem dX5_bestMove_90 : decode cX5_bestMove 90 = .ok (.iload 4, 2) := by decide +kernel
theorem dX5_bestMove_92 : decode cX5_bestMove 92 = .ok (.imul, 1) := by decide +kernel
theorem dX5_bestMove_93 : decode cX5_bestMove 93 = .ok (.iload 5, 2) := by decide +kernel
theorem dX5_bestMove_95 : decode cX5_bestMove 95 = .ok (.iadd, 1) := by decide +kernel
theorem dX5_bestMove_96 : decode cX5_bestMove 96 = .ok (.istore_n 3, 1) := by decide +kernel
theorem dX5_bestMove_97 : decode cX5_bestMove 97 = .ok (.iinc 5 1, 3) := by decide +kernel
theorem dX5_bestMove_100 : decode cX5_bestMove 100 = .ok (.goto (-74), 3) := by decide +kernel
theorem dX5_bestMove_103 : decode cX5_bestMove 103 = .ok (.iinc 4 1, 3) := by decide +kernel
theorem dX5_bestMove_106 : decode cX5_bestMove 106 = .ok (.goto (-95), 3) := by decide +kernel
theorem dX5_bestMove_109 : decode cX5_bestMove 109 = .ok (.iload_n 3, 1) := by decide +kernel
theorem dX5_bestMove_110 : decode cX5_bestMove 110 = .ok (.ireturn, 1) := by decide +kernel
set_option maxRecDepth 20000 in
theorem ggX5_lastMove_X0_helpfulColumns : GoodIn wsX5_lastMove wsX0_helpfulColumns := goodIn_r _ [6, 7, 8, 9, 10, 11, 12, 13, 14, 15, 5, 16, 17, 18, 19, 20, 21, 22, 23, 24, 25, 26, 27, 28, 29, 30, 31, 32, 33, 34, 71, 72, 73, 74, 75, 76, 77, 78, 79] (by decide +kernel) (by decide +kernel)
set_option maxRecDepth 20000 in
theorem gX5_lastMove_X0_helpfulColumns : GoodIn wsX5_lastMove (wsV RX5 292 RX0 yX0_helpfulColumns wsX0_helpfulColumns) := goodIn_app (goodIn_of _ (by decide +kernel)) ggX5_lastMove_X0_helpfulColumns
set_option maxRecDepth 20000 in
theorem ggX5_lastMove_X5_hasBit : GoodIn wsX5_lastMove wsX5_hasBit := goodIn_r _ [12] (by decide +kernel) (by decide +kernel)
set_option maxRecDepth 20000 in
theorem gX5_lastMove_X5_hasBit : GoodIn wsX5_lastMove (va_wsS RX5 152 yX5_hasBit wsX5_hasBit) := goodIn_app (goodIn_of _ (by decide +kernel)) ggX5_lastMove_X5_hasBit
set_option maxRecDepth 20000 in
theorem ggX5_lastMove_X0_mayMove : GoodIn wsX5_lastMove wsX0_mayMove := goodIn_r _ [39, 34, 40, 41, 42, 43, 5, 44, 33, 45, 46, 10, 11, 12, 71, 72, 73, 74, 75, 76, 77, 78, 79] (by decide +kernel) (by decide +kernel)
set_option maxRecDepth 20000 in
theorem gX5_lastMove_X0_mayMove : GoodIn wsX5_lastMove (wsV RX5 125 RX0 yX0_mayMove wsX0_mayMove) := goodIn_app (goodIn_of _ (by decide +kernel)) ggX5_lastMove_X0_mayMove
set_option maxRecDepth 20000 in
theorem ggX5_lastMove_X0_place : GoodIn wsX5_lastMove wsX0_place := goodIn_r _ [50, 34, 7, 51, 52, 53, 5, 54, 8, 29, 30, 31, 32, 33, 71, 72, 73, 74, 75, 76, 77, 78, 79] (by decide +kernel) (by decide +kernel)
set_option maxRecDepth 20000 in
theorem gX5_lastMove_X0_place : GoodIn wsX5_lastMove (wsV RX5 129 RX0 yX0_place wsX0_place) := goodIn_app (goodIn_of _ (by decide +kernel)) ggX5_lastMove_X0_place
set_option maxRecDepth 20000 in
theorem ggX5_lastMove_X5_allFit : GoodIn wsX5_lastMove wsX5_allFit := goodIn_r _ [58, 59, 1, 35, 10, 11, 12, 60, 14, 15, 5, 16, 8, 17, 18, 19, 20, 21, 22, 23, 24, 25, 26, 27, 28, 61, 62, 63, 64, 65, 66, 67, 68, 69, 70, 80, 81, 82, 71, 72, 73, 74, 75, 76, 77, 78, 79] (by decide +kernel) (by decide +kernel)
set_option maxRecDepth 20000 in
theorem gX5_lastMove_X5_allFit : GoodIn wsX5_lastMove (wsV RX5 295 RX5 yX5_allFit wsX5_allFit) := goodIn_app (goodIn_of _ (by decide +kernel)) ggX5_lastMove_X5_allFit
theorem dX5_lastMove_0 : decode cX5_lastMove 0 = .ok (.iconst 0, 1) := by decide +kernel
theorem dX5_lastMove_1 : decode cX5_lastMove 1 = .ok (.istore_n 3, 1) := by decide +kernel
theorem dX5_lastMove_2 : decode cX5_lastMove 2 = .ok (.iload_n 3, 1) := by decide +kernel
theorem dX5_lastMove_3 : decode cX5_lastMove 3 = .ok (.aload_n 0, 1) := by decide +kernel
theorem dX5_lastMove_4 : decode cX5_lastMove 4 = .ok (.getfield 19, 3) := by decide +kernel
theorem dX5_lastMove_7 : decode cX5_lastMove 7 = .ok (.getfield 79, 3) := by decide +kernel
theorem dX5_lastMove_10 : decode cX5_lastMove 10 = .ok (.if_icmp .ge 115, 3) := by decide +kernel
theorem dX5_lastMove_13 : decode cX5_lastMove 13 = .ok (.aload_n 0, 1) := by decide +kernel
theorem dX5_lastMove_14 : decode cX5_lastMove 14 = .ok (.getfield 19, 3) := by decide +kernel
theorem dX5_lastMove_17 : decode cX5_lastMove 17 = .ok (.iload_n 3, 1) := by decide +kernel
theorem dX5_lastMove_18 : decode cX5_lastMove 18 = .ok (.iload_n 1, 1) := by decide +kernel
theorem dX5_lastMove_19 : decode cX5_lastMove 19 = .ok (.invokevirtual 292, 3) := by decide +kernel
theorem dX5_lastMove_22 : decode cX5_lastMove 22 = .ok (.istore 4, 2) := by decide +kernel
theorem dX5_lastMove_24 : decode cX5_lastMove 24 = .ok (.iconst 0, 1) := by decide +kernel
theorem dX5_lastMove_25 : decode cX5_lastMove 25 = .ok (.istore 5, 2) := by decide +kernel
theorem dX5_lastMove_27 : decode cX5_lastMove 27 = .ok (.iload 5, 2) := by decide +kernel
theorem dX5_lastMove_29 : decode cX5_lastMove 29 = .ok (.aload_n 0, 1) := by decide +kernel
theorem dX5_lastMove_30 : decode cX5_lastMove 30 = .ok (.getfield 19, 3) := by decide +kernel
theorem dX5_lastMove_33 : decode cX5_lastMove 33 = .ok (.getfield 158, 3) := by decide +kernel
theorem dX5_lastMove_36 : decode cX5_lastMove 36 = .ok (.if_icmp .ge 83, 3) := by decide +kernel
theorem dX5_lastMove_39 : decode cX5_lastMove 39 = .ok (.iload 4, 2) := by decide +kernel
theorem dX5_lastMove_41 : decode cX5_lastMove 41 = .ok (.iload 5, 2) := by decide +kernel
theorem dX5_lastMove_43 : decode cX5_lastMove 43 = .ok (.invokestatic 152, 3) := by decide +kernel
theorem dX5_lastMove_46 : decode cX5_lastMove 46 = .ok (.ifCond .eq 67, 3) := by decide +kernel
theorem dX5_lastMove_49 : decode cX5_lastMove 49 = .ok (.aload_n 0, 1) := by decide +kernel
theorem dX5_lastMove_50 : decode cX5_lastMove 50 = .ok (.getfield 19, 3) := by decide +kernel
theorem dX5_lastMove_53 : decode cX5_lastMove 53 = .ok (.iload_n 3, 1) := by decide +kernel
theorem dX5_lastMove_54 : decode cX5_lastMove 54 = .ok (.iload 5, 2) := by decide +kernel
theorem dX5_lastMove_56 : decode cX5_lastMove 56 = .ok (.invokevirtual 125, 3) := by decide +kernel
theorem dX5_lastMove_59 : decode cX5_lastMove 59 = .ok (.ifCond .eq 54, 3) := by decide +kernel
theorem dX5_lastMove_62 : decode cX5_lastMove 62 = .ok (.aload_n 0, 1) := by decide +kernel
theorem dX5_lastMove_63 : decode cX5_lastMove 63 = .ok (.getfield 19, 3) := by decide +kernel
theorem dX5_lastMove_66 : decode cX5_lastMove 66 = .ok (.getfield 122, 3) := by decide +kernel
theorem dX5_lastMove_69 : decode cX5_lastMove 69 = .ok (.iload_n 3, 1) := by decide +kernel
theorem dX5_lastMove_70 : decode cX5_lastMove 70 = .ok (.iaload, 1) := by decide +kernel
theorem dX5_lastMove_71 : decode cX5_lastMove 71 = .ok (.istore 6, 2) := by decide +kernel
theorem dX5_lastMove_73 : decode cX5_lastMove 73 = .ok (.aload_n 0, 1) := by decide +kernel
theorem dX5_lastMove_74 : decode cX5_lastMove 74 = .ok (.getfield 19, 3) := by decide +kernel
theorem dX5_lastMove_77 : decode cX5_lastMove 77 = .ok (.iload_n 3, 1) := by decide +kernel
theorem dX5_lastMove_78 : decode cX5_lastMove 78 = .ok (.iload 5, 2) := by decide +kernel
theorem dX5_lastMove_80 : decode cX5_lastMove 80 = .ok (.invokevirtual 129, 3) := by decide +kernel
theorem dX5_lastMove_83 : decode cX5_lastMove 83 = .ok (.aload_n 0, 1) := by decide +kernel
theorem dX5_lastMove_84 : decode cX5_lastMove 84 = .ok (.iload_n 2, 1) := by decide +kernel
theorem dX5_lastMove_85 : decode cX5_lastMove 85 = .ok (.invokevirtual 295, 3) := by decide +kernel
theorem dX5_lastMove_88 : decode cX5_lastMove 88 = .ok (.istore 7, 2) := by decide +kernel
theorem dX5_lastMove_90 : decode cX5_lastMove 90 = .ok (.aload_n 0, 1) := by decide +kernel
theorem dX5_lastMove_91 : decode cX5_lastMove 91 = .ok (.getfield 19, 3) := by decide +kernel
theorem dX5_lastMove_94 : decode cX5_lastMove 94 = .ok (.iload_n 3, 1) := by decide +kernel
theorem dX5_lastMove_95 : decode cX5_lastMove 95 = .ok (.iload 6, 2) := by decide +kernel
theorem dX5_lastMove_97 : decode cX5_lastMove 97 = .ok (.invokevirtual 129, 3) := by decide +kernel
theorem dX5_lastMove_100 : decode cX5_lastMove 100 = .ok (.iload 7, 2) := by decide +kernel
theorem dX5_lastMove_102 : decode cX5_lastMove 102 = .ok (.ifCond .eq 11, 3) := by decide +kernel
theorem dX5_lastMove_105 : decode cX5_lastMove 105 = .ok (.bipush 100, 2) := by decide +kernel
theorem dX5_lastMove_107 : decode cX5_lastMove 107 = .ok (.iload_n 3, 1) := by decide +kernel
theorem dX5_lastMove_108 : decode cX5_lastMove 108 = .ok (.imul, 1) := by decide +kernel
theorem dX5_lastMove_109 : decode cX5_lastMove 109 = .ok (.iload 5, 2) := by decide +kernel
theorem dX5_lastMove_111 : decode cX5_lastMove 111 = .ok (.iadd, 1) := by decide +kernel
theorem dX5_lastMove_112 : decode cX5_lastMove 112 = .ok (.ireturn, 1) := by decide +kernel
theorem dX5_lastMove_113 : decode cX5_lastMove 113 = .ok (.iinc 5 1, 3) := by decide +kernel
theorem dX5_lastMove_116 : decode cX5_lastMove 116 = .ok (.goto (-89), 3) := by decide +kernel
theorem dX5_lastMove_119 : decode cX5_lastMove 119 = .ok (.iinc 3 1, 3) := by decide +kernel
theorem dX5_lastMove_122 : decode cX5_lastMove 122 = .ok (.goto (-120), 3) := by decide +kernel
theorem dX5_lastMove_125 : decode cX5_lastMove 125 = .ok (.bipush (-2), 2) := by decide +kernel
theorem dX5_lastMove_127 : decode cX5_lastMove 127 = .ok (.ireturn, 1) := by decide +kernel
set_option maxRecDepth 20000 in
theorem ggX5_tellTwoMoves_X0_mayMove : GoodIn wsX5_tellTwoMoves wsX0_mayMove := goodIn_r _ [6, 7, 8, 9, 10, 11, 5, 12, 13, 14, 15, 16, 17, 18, 81, 82, 83, 84, 85, 86, 87, 88, 89] (by decide +kernel) (by decide +kernel)
set_option maxRecDepth 20000 in
theorem gX5_tellTwoMoves_X0_mayMove : GoodIn wsX5_tellTwoMoves (wsV RX5 125 RX0 yX0_mayMove wsX0_mayMove) := goodIn_app (goodIn_of _ (by decide +kernel)) ggX5_tellTwoMoves_X0_mayMove
set_option maxRecDepth 20000 in
theorem ggX5_tellTwoMoves_X0_place : GoodIn wsX5_tellTwoMoves wsX0_place := goodIn_r _ [22, 7, 23, 24, 25, 26, 5, 27, 28, 29, 30, 31, 32, 13, 81, 82, 83, 84, 85, 86, 87, 88, 89] (by decide +kernel) (by decide +kernel)
set_option maxRecDepth 20000 in
theorem gX5_tellTwoMoves_X0_place : GoodIn wsX5_tellTwoMoves (wsV RX5 129 RX0 yX0_place wsX0_place) := goodIn_app (goodIn_of _ (by decide +kernel)) ggX5_tellTwoMoves_X0_place
set_option maxRecDepth 20000 in
theorem ggX5_tellTwoMoves_X5_lastMove : GoodIn wsX5_tellTwoMoves wsX5_lastMove := goodIn_r _ [36, 1, 37, 38, 39, 5, 40, 23, 28, 41, 16, 17, 18, 42, 43, 44, 45, 46, 47, 48, 49, 50, 51, 52, 53, 54, 55, 56, 57, 29, 30, 31, 32, 13, 7, 58, 2, 3, 4, 6, 8, 9, 10, 11, 12, 14, 15, 19, 20, 21, 22, 24, 25, 26, 27, 59, 60, 61, 62, 63, 64, 71, 72, 73, 74, 75, 76, 77, 78, 79, 80, 81, 82, 83, 84, 85, 86, 87, 88, 89, 90, 91, 92] (by decide +kernel) (by decide +kernel)
set_option maxRecDepth 20000 in
theorem gX5_tellTwoMoves_X5_lastMove : GoodIn wsX5_tellTwoMoves (wsV RX5 249 RX5 yX5_lastMove wsX5_lastMove) := goodIn_app (goodIn_of _ (by decide +kernel)) ggX5_tellTwoMoves_X5_lastMove
set_option maxRecDepth 20000 in
theorem ggX5_tellTwoMoves_X5_tell_ : GoodIn wsX5_tellTwoMoves wsX5_tell_ := goodIn_r _ [68, 69, 70, 71, 72, 73, 74, 75, 76, 77, 78, 79, 80] (by decide +kernel) (by decide +kernel)
set_option maxRecDepth 20000 in
theorem gX5_tellTwoMoves_X5_tell_ : GoodIn wsX5_tellTwoMoves (wsV RX5 183 RX5 yX5_tell_ wsX5_tell_) := goodIn_app (goodIn_of _ (by decide +kernel)) ggX5_tellTwoMoves_X5_tell_
theorem dX5_tellTwoMoves_0 : decode cX5_tellTwoMoves 0 = .ok (.iconst 0, 1) := by decide +kernel
theorem dX5_tellTwoMoves_1 : decode cX5_tellTwoMoves 1 = .ok (.istore_n 3, 1) := by decide +kernel
theorem dX5_tellTwoMoves_2 : decode cX5_tellTwoMoves 2 = .ok (.iload_n 3, 1) := by decide +kernel
theorem dX5_tellTwoMoves_3 : decode cX5_tellTwoMoves 3 = .ok (.aload_n 0, 1) := by decide +kernel
theorem dX5_tellTwoMoves_4 : decode cX5_tellTwoMoves 4 = .ok (.getfield 19, 3) := by decide +kernel
theorem dX5_tellTwoMoves_7 : decode cX5_tellTwoMoves 7 = .ok (.getfield 79, 3) := by decide +kernel
theorem dX5_tellTwoMoves_10 : decode cX5_tellTwoMoves 10 = .ok (.if_icmp .ge 104, 3) := by decide +kernel
theorem dX5_tellTwoMoves_13 : decode cX5_tellTwoMoves 13 = .ok (.iconst 0, 1) := by decide +kernel
theorem dX5_tellTwoMoves_14 : decode cX5_tellTwoMoves 14 = .ok (.istore 4, 2) := by decide +kernel
theorem dX5_tellTwoMoves_16 : decode cX5_tellTwoMoves 16 = .ok (.iload 4, 2) := by decide +kernel
theorem dX5_tellTwoMoves_18 : decode cX5_tellTwoMoves 18 = .ok (.aload_n 0, 1) := by decide +kernel
theorem dX5_tellTwoMoves_19 : decode cX5_tellTwoMoves 19 = .ok (.getfield 19, 3) := by decide +kernel
theorem dX5_tellTwoMoves_22 : decode cX5_tellTwoMoves 22 = .ok (.getfield 158, 3) := by decide +kernel
theorem dX5_tellTwoMoves_25 : decode cX5_tellTwoMoves 25 = .ok (.if_icmp .ge 83, 3) := by decide +kernel
theorem dX5_tellTwoMoves_28 : decode cX5_tellTwoMoves 28 = .ok (.aload_n 0, 1) := by decide +kernel
theorem dX5_tellTwoMoves_29 : decode cX5_tellTwoMoves 29 = .ok (.getfield 19, 3) := by decide +kernel
theorem dX5_tellTwoMoves_32 : decode cX5_tellTwoMoves 32 = .ok (.iload_n 3, 1) := by decide +kernel
theorem dX5_tellTwoMoves_33 : decode cX5_tellTwoMoves 33 = .ok (.iload 4, 2) := by decide +kernel
theorem dX5_tellTwoMoves_35 : decode cX5_tellTwoMoves 35 = .ok (.invokevirtual 125, 3) := by decide +kernel
theorem dX5_tellTwoMoves_38 : decode cX5_tellTwoMoves 38 = .ok (.ifCond .eq 64, 3) := by decide +kernel
theorem dX5_tellTwoMoves_41 : decode cX5_tellTwoMoves 41 = .ok (.aload_n 0, 1) := by decide +kernel
theorem dX5_tellTwoMoves_42 : decode cX5_tellTwoMoves 42 = .ok (.getfield 19, 3) := by decide +kernel
theorem dX5_tellTwoMoves_45 : decode cX5_tellTwoMoves 45 = .ok (.getfield 122, 3) := by decide +kernel
theorem dX5_tellTwoMoves_48 : decode cX5_tellTwoMoves 48 = .ok (.iload_n 3, 1) := by decide +kernel
theorem dX5_tellTwoMoves_49 : decode cX5_tellTwoMoves 49 = .ok (.iaload, 1) := by decide +kernel
theorem dX5_tellTwoMoves_50 : decode cX5_tellTwoMoves 50 = .ok (.istore 5, 2) := by decide +kernel
theorem dX5_tellTwoMoves_52 : decode cX5_tellTwoMoves 52 = .ok (.aload_n 0, 1) := by decide +kernel
theorem dX5_tellTwoMoves_53 : decode cX5_tellTwoMoves 53 = .ok (.getfield 19, 3) := by decide +kernel
theorem dX5_tellTwoMoves_56 : decode cX5_tellTwoMoves 56 = .ok (.iload_n 3, 1) := by decide +kernel
theorem dX5_tellTwoMoves_57 : decode cX5_tellTwoMoves 57 = .ok (.iload 4, 2) := by decide +kernel
theorem dX5_tellTwoMoves_59 : decode cX5_tellTwoMoves 59 = .ok (.invokevirtual 129, 3) := by decide +kernel
theorem dX5_tellTwoMoves_62 : decode cX5_tellTwoMoves 62 = .ok (.aload_n 0, 1) := by decide +kernel
theorem dX5_tellTwoMoves_63 : decode cX5_tellTwoMoves 63 = .ok (.iload_n 1, 1) := by decide +kernel
theorem dX5_tellTwoMoves_64 : decode cX5_tellTwoMoves 64 = .ok (.iload_n 2, 1) := by decide +kernel
theorem dX5_tellTwoMoves_65 : decode cX5_tellTwoMoves 65 = .ok (.invokevirtual 249, 3) := by decide +kernel
theorem dX5_tellTwoMoves_68 : decode cX5_tellTwoMoves 68 = .ok (.istore 6, 2) := by decide +kernel
theorem dX5_tellTwoMoves_70 : decode cX5_tellTwoMoves 70 = .ok (.aload_n 0, 1) := by decide +kernel
theorem dX5_tellTwoMoves_71 : decode cX5_tellTwoMoves 71 = .ok (.getfield 19, 3) := by decide +kernel
theorem dX5_tellTwoMoves_74 : decode cX5_tellTwoMoves 74 = .ok (.iload_n 3, 1) := by decide +kernel
theorem dX5_tellTwoMoves_75 : decode cX5_tellTwoMoves 75 = .ok (.iload 5, 2) := by decide +kernel
theorem dX5_tellTwoMoves_77 : decode cX5_tellTwoMoves 77 = .ok (.invokevirtual 129, 3) := by decide +kernel
theorem dX5_tellTwoMoves_80 : decode cX5_tellTwoMoves 80 = .ok (.iload 6, 2) := by decide +kernel
theorem dX5_tellTwoMoves_82 : decode cX5_tellTwoMoves 82 = .ok (.bipush (-2), 2) := by decide +kernel
theorem dX5_tellTwoMoves_84 : decode cX5_tellTwoMoves 84 = .ok (.if_icmp .eq 18, 3) := by decide +kernel
theorem dX5_tellTwoMoves_87 : decode cX5_tellTwoMoves 87 = .ok (.aload_n 0, 1) := by decide +kernel
theorem dX5_tellTwoMoves_88 : decode cX5_tellTwoMoves 88 = .ok (.bipush 100, 2) := by decide +kernel
theorem dX5_tellTwoMoves_90 : decode cX5_tellTwoMoves 90 = .ok (.iload_n 3, 1) := by decide +kernel
theorem dX5_tellTwoMoves_91 : decode cX5_tellTwoMoves 91 = .ok (.imul, 1) := by decide +kernel
theorem dX5_tellTwoMoves_92 : decode cX5_tellTwoMoves 92 = .ok (.iload 4, 2) := by decide +kernel
theorem dX5_tellTwoMoves_94 : decode cX5_tellTwoMoves 94 = .ok (.iadd, 1) := by decide +kernel
theorem dX5_tellTwoMoves_95 : decode cX5_tellTwoMoves 95 = .ok (.iload 6, 2) := by decide +kernel
theorem dX5_tellTwoMoves_97 : decode cX5_tellTwoMoves 97 = .ok (.invokevirtual 183, 3) := by decide +kernel
theorem dX5_tellTwoMoves_100 : decode cX5_tellTwoMoves 100 = .ok (.iconst 1, 1) := by decide +kernel
theorem dX5_tellTwoMoves_101 : decode cX5_tellTwoMoves 101 = .ok (.ireturn, 1) := by decide +kernel
theorem dX5_tellTwoMoves_102 : decode cX5_tellTwoMoves 102 = .ok (.iinc 4 1, 3) := by decide +kernel
theorem dX5_tellTwoMoves_105 : decode cX5_tellTwoMoves 105 = .ok (.goto (-89), 3) := by decide +kernel
theorem dX5_tellTwoMoves_108 : decode cX5_tellTwoMoves 108 = .ok (.iinc 3 1, 3) := by decide +kernel
theorem dX5_tellTwoMoves_111 : decode cX5_tellTwoMoves 111 = .ok (.goto (-109), 3) := by decide +kernel
theorem dX5_tellTwoMoves_114 : decode cX5_tellTwoMoves 114 = .ok (.iconst 0, 1) := by decide +kernel
theorem dX5_tellTwoMoves_115 : decode cX5_tellTwoMoves 115 = .ok (.ireturn, 1) := by decide +kernel
set_option maxRecDepth 20000 in
theorem ggX5_lay_X5_fitting : GoodIn wsX5_lay wsX5_fitting := goodIn_r _ [6, 7, 8, 9, 5, 10, 11, 1, 12, 13, 14, 15, 16, 17, 18, 19, 20, 21, 22, 23, 24, 25, 26, 27, 28, 29, 30, 31, 32, 70, 71, 72, 73, 74, 75, 76, 77, 78, 79, 89, 90, 91, 80, 81, 82, 83, 84, 85, 86, 87, 88] (by decide +kernel) (by decide +kernel)
set_option maxRecDepth 20000 in
theorem gX5_lay_X5_fitting : GoodIn wsX5_lay (wsV RX5 133 RX5 yX5_fitting wsX5_fitting) := goodIn_app (goodIn_of _ (by decide +kernel)) ggX5_lay_X5_fitting
set_option maxRecDepth 20000 in
theorem ggX5_lay_X0_mayMove : GoodIn wsX5_lay wsX0_mayMove := goodIn_r _ [36, 37, 38, 39, 40, 41, 18, 42, 43, 44, 45, 13, 5, 14, 80, 81, 82, 83, 84, 85, 86, 87, 88] (by decide +kernel) (by decide +kernel)
set_option maxRecDepth 20000 in
theorem gX5_lay_X0_mayMove : GoodIn wsX5_lay (wsV RX5 125 RX0 yX0_mayMove wsX0_mayMove) := goodIn_app (goodIn_of _ (by decide +kernel)) ggX5_lay_X0_mayMove
set_option maxRecDepth 20000 in
theorem ggX5_lay_X5_fittingMoved : GoodIn wsX5_lay wsX5_fittingMoved := goodIn_r _ [49, 1, 50, 51, 52, 18, 53, 37, 54, 55, 56, 57, 58, 20, 59, 60, 61, 62, 43, 7, 8, 9, 5, 10, 11, 12, 13, 14, 15, 16, 17, 19, 21, 22, 23, 24, 25, 26, 27, 28, 29, 30, 31, 32, 70, 71, 72, 73, 74, 75, 76, 77, 78, 79, 80, 81, 82, 83, 84, 85, 86, 87, 88, 89, 90, 91] (by decide +kernel) (by decide +kernel)
set_option maxRecDepth 20000 in
theorem gX5_lay_X5_fittingMoved : GoodIn wsX5_lay (wsV RX5 231 RX5 yX5_fittingMoved wsX5_fittingMoved) := goodIn_app (goodIn_of _ (by decide +kernel)) ggX5_lay_X5_fittingMoved
set_option maxRecDepth 20000 in
theorem ggX5_lay_J6_bitCount_0f7a4 : GoodIn wsX5_lay wsJ6_bitCount_0f7a4 := goodIn_r _ [66, 67, 68, 69] (by decide +kernel) (by decide +kernel)
set_option maxRecDepth 20000 in
theorem gX5_lay_J6_bitCount_0f7a4 : GoodIn wsX5_lay (va_wsS RX5 137 yJ6_bitCount_0f7a4 wsJ6_bitCount_0f7a4) := goodIn_app (goodIn_of _ (by decide +kernel)) ggX5_lay_J6_bitCount_0f7a4
set_option maxRecDepth 20000 in
theorem ggX5_lay_X0_place : GoodIn wsX5_lay wsX0_place := goodIn_r _ [53, 37, 54, 55, 56, 57, 18, 58, 20, 59, 60, 61, 62, 43, 80, 81, 82, 83, 84, 85, 86, 87, 88] (by decide +kernel) (by decide +kernel)
set_option maxRecDepth 20000 in
theorem gX5_lay_X0_place : GoodIn wsX5_lay (wsV RX5 129 RX0 yX0_place wsX0_place) := goodIn_app (goodIn_of _ (by decide +kernel)) ggX5_lay_X0_place
theorem dX5_lay_0 : decode cX5_lay 0 = .ok (.aload_n 0, 1) := by decide +kernel
theorem dX5_lay_1 : decode cX5_lay 1 = .ok (.invokevirtual 133, 3) := by decide +kernel
theorem dX5_lay_4 : decode cX5_lay 4 = .ok (.istore_n 2, 1) := by decide +kernel
theorem dX5_lay_5 : decode cX5_lay 5 = .ok (.iconst (-1), 1) := by decide +kernel
theorem dX5_lay_6 : decode cX5_lay 6 = .ok (.istore_n 3, 1) := by decide +kernel
theorem dX5_lay_7 : decode cX5_lay 7 = .ok (.iconst (-1), 1) := by decide +kernel
theorem dX5_lay_8 : decode cX5_lay 8 = .ok (.istore 4, 2) := by decide +kernel
theorem dX5_lay_10 : decode cX5_lay 10 = .ok (.iconst 0, 1) := by decide +kernel
theorem dX5_lay_11 : decode cX5_lay 11 = .ok (.istore 5, 2) := by decide +kernel
theorem dX5_lay_13 : decode cX5_lay 13 = .ok (.iload 5, 2) := by decide +kernel
theorem dX5_lay_15 : decode cX5_lay 15 = .ok (.aload_n 0, 1) := by decide +kernel
theorem dX5_lay_16 : decode cX5_lay 16 = .ok (.getfield 19, 3) := by decide +kernel
theorem dX5_lay_19 : decode cX5_lay 19 = .ok (.getfield 158, 3) := by decide +kernel
theorem dX5_lay_22 : decode cX5_lay 22 = .ok (.if_icmp .ge 48, 3) := by decide +kernel
theorem dX5_lay_25 : decode cX5_lay 25 = .ok (.aload_n 0, 1) := by decide +kernel
theorem dX5_lay_26 : decode cX5_lay 26 = .ok (.getfield 19, 3) := by decide +kernel
theorem dX5_lay_29 : decode cX5_lay 29 = .ok (.iload_n 1, 1) := by decide +kernel
theorem dX5_lay_30 : decode cX5_lay 30 = .ok (.iload 5, 2) := by decide +kernel
theorem dX5_lay_32 : decode cX5_lay 32 = .ok (.invokevirtual 125, 3) := by decide +kernel
theorem dX5_lay_35 : decode cX5_lay 35 = .ok (.ifCond .eq 29, 3) := by decide +kernel
theorem dX5_lay_38 : decode cX5_lay 38 = .ok (.aload_n 0, 1) := by decide +kernel
theorem dX5_lay_39 : decode cX5_lay 39 = .ok (.iload_n 2, 1) := by decide +kernel
theorem dX5_lay_40 : decode cX5_lay 40 = .ok (.iload_n 1, 1) := by decide +kernel
theorem dX5_lay_41 : decode cX5_lay 41 = .ok (.iload 5, 2) := by decide +kernel
theorem dX5_lay_43 : decode cX5_lay 43 = .ok (.invokevirtual 231, 3) := by decide +kernel
theorem dX5_lay_46 : decode cX5_lay 46 = .ok (.invokestatic 137, 3) := by decide +kernel
theorem dX5_lay_49 : decode cX5_lay 49 = .ok (.istore 6, 2) := by decide +kernel
theorem dX5_lay_51 : decode cX5_lay 51 = .ok (.iload 6, 2) := by decide +kernel
theorem dX5_lay_53 : decode cX5_lay 53 = .ok (.iload_n 3, 1) := by decide +kernel
theorem dX5_lay_54 : decode cX5_lay 54 = .ok (.if_icmp .le 10, 3) := by decide +kernel
theorem dX5_lay_57 : decode cX5_lay 57 = .ok (.iload 6, 2) := by decide +kernel
theorem dX5_lay_59 : decode cX5_lay 59 = .ok (.istore_n 3, 1) := by decide +kernel
theorem dX5_lay_60 : decode cX5_lay 60 = .ok (.iload 5, 2) := by decide +kernel
theorem dX5_lay_62 : decode cX5_lay 62 = .ok (.istore 4, 2) := by decide +kernel
theorem dX5_lay_64 : decode cX5_lay 64 = .ok (.iinc 5 1, 3) := by decide +kernel
theorem dX5_lay_67 : decode cX5_lay 67 = .ok (.goto (-54), 3) := by decide +kernel
theorem dX5_lay_70 : decode cX5_lay 70 = .ok (.aload_n 0, 1) := by decide +kernel
theorem dX5_lay_71 : decode cX5_lay 71 = .ok (.getfield 19, 3) := by decide +kernel
theorem dX5_lay_74 : decode cX5_lay 74 = .ok (.iload_n 1, 1) := by decide +kernel
theorem dX5_lay_75 : decode cX5_lay 75 = .ok (.iload 4, 2) := by decide +kernel
theorem dX5_lay_77 : decode cX5_lay 77 = .ok (.invokevirtual 129, 3) := by decide +kernel
theorem dX5_lay_80 : decode cX5_lay 80 = .ok (.return_, 1) := by decide +kernel
theorem dX5_hasBit_0 : decode cX5_hasBit 0 = .ok (.iload_n 0, 1) := by decide +kernel
theorem dX5_hasBit_1 : decode cX5_hasBit 1 = .ok (.iload_n 1, 1) := by decide +kernel
theorem dX5_hasBit_2 : decode cX5_hasBit 2 = .ok (.ishr, 1) := by decide +kernel
theorem dX5_hasBit_3 : decode cX5_hasBit 3 = .ok (.iconst 1, 1) := by decide +kernel
theorem dX5_hasBit_4 : decode cX5_hasBit 4 = .ok (.iand, 1) := by decide +kernel
theorem dX5_hasBit_5 : decode cX5_hasBit 5 = .ok (.ifCond .eq 7, 3) := by decide +kernel
theorem dX5_hasBit_8 : decode cX5_hasBit 8 = .ok (.iconst 1, 1) := by decide +kernel
theorem dX5_hasBit_9 : decode cX5_hasBit 9 = .ok (.goto 4, 3) := by decide +kernel
theorem dX5_hasBit_12 : decode cX5_hasBit 12 = .ok (.iconst 0, 1) := by decide +kernel
theorem dX5_hasBit_13 : decode cX5_hasBit 13 = .ok (.ireturn, 1) := by decide +kernel
set_option maxRecDepth 20000 in
theorem ggX5_leastBit_X5_hasBit : GoodIn wsX5_leastBit wsX5_hasBit := goodIn_r _ [4] (by decide +kernel) (by decide +kernel)
set_option maxRecDepth 20000 in
theorem gX5_leastBit_X5_hasBit : GoodIn wsX5_leastBit (va_wsS RX5 152 yX5_hasBit wsX5_hasBit) := goodIn_app (goodIn_of _ (by decide +kernel)) ggX5_leastBit_X5_hasBit
theorem dX5_leastBit_0 : decode cX5_leastBit 0 = .ok (.iconst 0, 1) := by decide +kernel
theorem dX5_leastBit_1 : decode cX5_leastBit 1 = .ok (.istore_n 1, 1) := by decide +kernel
theorem dX5_leastBit_2 : decode cX5_leastBit 2 = .ok (.iload_n 1, 1) := by decide +kernel
theorem dX5_leastBit_3 : decode cX5_leastBit 3 = .ok (.bipush 24, 2) := by decide +kernel
theorem dX5_leastBit_5 : decode cX5_leastBit 5 = .ok (.if_icmp .ge 19, 3) := by decide +kernel
theorem dX5_leastBit_8 : decode cX5_leastBit 8 = .ok (.iload_n 0, 1) := by decide +kernel
theorem dX5_leastBit_9 : decode cX5_leastBit 9 = .ok (.iload_n 1, 1) := by decide +kernel
theorem dX5_leastBit_10 : decode cX5_leastBit 10 = .ok (.invokestatic 152, 3) := by decide +kernel
theorem dX5_leastBit_13 : decode cX5_leastBit 13 = .ok (.ifCond .eq 5, 3) := by decide +kernel
theorem dX5_leastBit_16 : decode cX5_leastBit 16 = .ok (.iload_n 1, 1) := by decide +kernel
theorem dX5_leastBit_17 : decode cX5_leastBit 17 = .ok (.ireturn, 1) := by decide +kernel
theorem dX5_leastBit_18 : decode cX5_leastBit 18 = .ok (.iinc 1 1, 3) := by decide +kernel
theorem dX5_leastBit_21 : decode cX5_leastBit 21 = .ok (.goto (-19), 3) := by decide +kernel
theorem dX5_leastBit_24 : decode cX5_leastBit 24 = .ok (.iconst (-1), 1) := by decide +kernel
theorem dX5_leastBit_25 : decode cX5_leastBit 25 = .ok (.ireturn, 1) := by decide +kernel
theorem dX5_digitsAbove_0 : decode cX5_digitsAbove 0 = .ok (.sipush 1023, 3) := by decide +kernel
theorem dX5_digitsAbove_3 : decode cX5_digitsAbove 3 = .ok (.iconst 2, 1) := by decide +kernel
theorem dX5_digitsAbove_4 : decode cX5_digitsAbove 4 = .ok (.iload_n 0, 1) := by decide +kernel
theorem dX5_digitsAbove_5 : decode cX5_digitsAbove 5 = .ok (.ishl, 1) := by decide +kernel
theorem dX5_digitsAbove_6 : decode cX5_digitsAbove 6 = .ok (.ineg, 1) := by decide +kernel
theorem dX5_digitsAbove_7 : decode cX5_digitsAbove 7 = .ok (.iand, 1) := by decide +kernel
theorem dX5_digitsAbove_8 : decode cX5_digitsAbove 8 = .ok (.ireturn, 1) := by decide +kernel
theorem dX5_isSubject_0 : decode cX5_isSubject 0 = .ok (.iload_n 0, 1) := by decide +kernel
theorem dX5_isSubject_1 : decode cX5_isSubject 1 = .ok (.ifCond .lt 13, 3) := by decide +kernel
theorem dX5_isSubject_4 : decode cX5_isSubject 4 = .ok (.iload_n 0, 1) := by decide +kernel
theorem dX5_isSubject_5 : decode cX5_isSubject 5 = .ok (.bipush 10, 2) := by decide +kernel
theorem dX5_isSubject_7 : decode cX5_isSubject 7 = .ok (.if_icmp .ge 7, 3) := by decide +kernel
theorem dX5_isSubject_10 : decode cX5_isSubject 10 = .ok (.iconst 1, 1) := by decide +kernel
theorem dX5_isSubject_11 : decode cX5_isSubject 11 = .ok (.goto 4, 3) := by decide +kernel
theorem dX5_isSubject_14 : decode cX5_isSubject 14 = .ok (.iconst 0, 1) := by decide +kernel
theorem dX5_isSubject_15 : decode cX5_isSubject 15 = .ok (.ireturn, 1) := by decide +kernel
theorem dX5_isTeacher_0 : decode cX5_isTeacher 0 = .ok (.iload_n 0, 1) := by decide +kernel
theorem dX5_isTeacher_1 : decode cX5_isTeacher 1 = .ok (.ifCond .lt 13, 3) := by decide +kernel
theorem dX5_isTeacher_4 : decode cX5_isTeacher 4 = .ok (.iload_n 0, 1) := by decide +kernel
theorem dX5_isTeacher_5 : decode cX5_isTeacher 5 = .ok (.bipush 10, 2) := by decide +kernel
theorem dX5_isTeacher_7 : decode cX5_isTeacher 7 = .ok (.if_icmp .ge 7, 3) := by decide +kernel
theorem dX5_isTeacher_10 : decode cX5_isTeacher 10 = .ok (.iconst 1, 1) := by decide +kernel
theorem dX5_isTeacher_11 : decode cX5_isTeacher 11 = .ok (.goto 4, 3) := by decide +kernel
theorem dX5_isTeacher_14 : decode cX5_isTeacher 14 = .ok (.iconst 0, 1) := by decide +kernel
theorem dX5_isTeacher_15 : decode cX5_isTeacher 15 = .ok (.ireturn, 1) := by decide +kernel
theorem dX5_areSeats_0 : decode cX5_areSeats 0 = .ok (.iload_n 0, 1) := by decide +kernel
theorem dX5_areSeats_1 : decode cX5_areSeats 1 = .ok (.iconst 1, 1) := by decide +kernel
theorem dX5_areSeats_2 : decode cX5_areSeats 2 = .ok (.if_icmp .lt 13, 3) := by decide +kernel
theorem dX5_areSeats_5 : decode cX5_areSeats 5 = .ok (.iload_n 0, 1) := by decide +kernel
theorem dX5_areSeats_6 : decode cX5_areSeats 6 = .ok (.bipush 30, 2) := by decide +kernel
theorem dX5_areSeats_8 : decode cX5_areSeats 8 = .ok (.if_icmp .gt 7, 3) := by decide +kernel
theorem dX5_areSeats_11 : decode cX5_areSeats 11 = .ok (.iconst 1, 1) := by decide +kernel
theorem dX5_areSeats_12 : decode cX5_areSeats 12 = .ok (.goto 4, 3) := by decide +kernel
theorem dX5_areSeats_15 : decode cX5_areSeats 15 = .ok (.iconst 0, 1) := by decide +kernel
theorem dX5_areSeats_16 : decode cX5_areSeats 16 = .ok (.ireturn, 1) := by decide +kernel
theorem dX6_init_0 : decode cX6_init 0 = .ok (.aload_n 0, 1) := by decide +kernel
theorem dX6_init_1 : decode cX6_init 1 = .ok (.invokespecial 1, 3) := by decide +kernel
theorem dX6_init_4 : decode cX6_init 4 = .ok (.aload_n 0, 1) := by decide +kernel
theorem dX6_init_5 : decode cX6_init 5 = .ok (.bipush 32, 2) := by decide +kernel
theorem dX6_init_7 : decode cX6_init 7 = .ok (.newarray .int, 2) := by decide +kernel
theorem dX6_init_9 : decode cX6_init 9 = .ok (.putfield 9, 3) := by decide +kernel
theorem dX6_init_12 : decode cX6_init 12 = .ok (.aload_n 0, 1) := by decide +kernel
theorem dX6_init_13 : decode cX6_init 13 = .ok (.iconst 4, 1) := by decide +kernel
theorem dX6_init_14 : decode cX6_init 14 = .ok (.putfield 13, 3) := by decide +kernel
theorem dX6_init_17 : decode cX6_init 17 = .ok (.aload_n 0, 1) := by decide +kernel
theorem dX6_init_18 : decode cX6_init 18 = .ok (.iconst 5, 1) := by decide +kernel
theorem dX6_init_19 : decode cX6_init 19 = .ok (.putfield 17, 3) := by decide +kernel
theorem dX6_init_22 : decode cX6_init 22 = .ok (.aload_n 0, 1) := by decide +kernel
theorem dX6_init_23 : decode cX6_init 23 = .ok (.bipush 17, 2) := by decide +kernel
theorem dX6_init_25 : decode cX6_init 25 = .ok (.newarray .int, 2) := by decide +kernel
theorem dX6_init_27 : decode cX6_init 27 = .ok (.putfield 20, 3) := by decide +kernel
theorem dX6_init_30 : decode cX6_init 30 = .ok (.aload_n 0, 1) := by decide +kernel
theorem dX6_init_31 : decode cX6_init 31 = .ok (.bipush 17, 2) := by decide +kernel
theorem dX6_init_33 : decode cX6_init 33 = .ok (.newarray .int, 2) := by decide +kernel
theorem dX6_init_35 : decode cX6_init 35 = .ok (.putfield 23, 3) := by decide +kernel
theorem dX6_init_38 : decode cX6_init 38 = .ok (.aload_n 0, 1) := by decide +kernel
theorem dX6_init_39 : decode cX6_init 39 = .ok (.bipush 17, 2) := by decide +kernel
theorem dX6_init_41 : decode cX6_init 41 = .ok (.newarray .int, 2) := by decide +kernel
theorem dX6_init_43 : decode cX6_init 43 = .ok (.putfield 26, 3) := by decide +kernel
theorem dX6_init_46 : decode cX6_init 46 = .ok (.aload_n 0, 1) := by decide +kernel
theorem dX6_init_47 : decode cX6_init 47 = .ok (.bipush 17, 2) := by decide +kernel
theorem dX6_init_49 : decode cX6_init 49 = .ok (.newarray .int, 2) := by decide +kernel
theorem dX6_init_51 : decode cX6_init 51 = .ok (.putfield 29, 3) := by decide +kernel
theorem dX6_init_54 : decode cX6_init 54 = .ok (.aload_n 0, 1) := by decide +kernel
theorem dX6_init_55 : decode cX6_init 55 = .ok (.bipush 10, 2) := by decide +kernel
theorem dX6_init_57 : decode cX6_init 57 = .ok (.newarray .int, 2) := by decide +kernel
theorem dX6_init_59 : decode cX6_init 59 = .ok (.putfield 32, 3) := by decide +kernel
theorem dX6_init_62 : decode cX6_init 62 = .ok (.aload_n 0, 1) := by decide +kernel
theorem dX6_init_63 : decode cX6_init 63 = .ok (.bipush 24, 2) := by decide +kernel
theorem dX6_init_65 : decode cX6_init 65 = .ok (.newarray .int, 2) := by decide +kernel
theorem dX6_init_67 : decode cX6_init 67 = .ok (.putfield 35, 3) := by decide +kernel
theorem dX6_init_70 : decode cX6_init 70 = .ok (.aload_n 0, 1) := by decide +kernel
theorem dX6_init_71 : decode cX6_init 71 = .ok (.sipush 240, 3) := by decide +kernel
theorem dX6_init_74 : decode cX6_init 74 = .ok (.newarray .int, 2) := by decide +kernel
theorem dX6_init_76 : decode cX6_init 76 = .ok (.putfield 38, 3) := by decide +kernel
theorem dX6_init_79 : decode cX6_init 79 = .ok (.aload_n 0, 1) := by decide +kernel
theorem dX6_init_80 : decode cX6_init 80 = .ok (.bipush 77, 2) := by decide +kernel
theorem dX6_init_82 : decode cX6_init 82 = .ok (.newarray .int, 2) := by decide +kernel
theorem dX6_init_84 : decode cX6_init 84 = .ok (.putfield 41, 3) := by decide +kernel
theorem dX6_init_87 : decode cX6_init 87 = .ok (.aload_n 0, 1) := by decide +kernel
theorem dX6_init_88 : decode cX6_init 88 = .ok (.bipush 24, 2) := by decide +kernel
theorem dX6_init_90 : decode cX6_init 90 = .ok (.newarray .int, 2) := by decide +kernel
theorem dX6_init_92 : decode cX6_init 92 = .ok (.putfield 44, 3) := by decide +kernel
theorem dX6_init_95 : decode cX6_init 95 = .ok (.aload_n 0, 1) := by decide +kernel
theorem dX6_init_96 : decode cX6_init 96 = .ok (.bipush 10, 2) := by decide +kernel
theorem dX6_init_98 : decode cX6_init 98 = .ok (.newarray .int, 2) := by decide +kernel
theorem dX6_init_100 : decode cX6_init 100 = .ok (.putfield 47, 3) := by decide +kernel
theorem dX6_init_103 : decode cX6_init 103 = .ok (.aload_n 0, 1) := by decide +kernel
theorem dX6_init_104 : decode cX6_init 104 = .ok (.bipush 10, 2) := by decide +kernel
theorem dX6_init_106 : decode cX6_init 106 = .ok (.newarray .int, 2) := by decide +kernel
theorem dX6_init_108 : decode cX6_init 108 = .ok (.putfield 50, 3) := by decide +kernel
theorem dX6_init_111 : decode cX6_init 111 = .ok (.aload_n 0, 1) := by decide +kernel
theorem dX6_init_112 : decode cX6_init 112 = .ok (.iconst 2, 1) := by decide +kernel
theorem dX6_init_113 : decode cX6_init 113 = .ok (.newarray .int, 2) := by decide +kernel
theorem dX6_init_115 : decode cX6_init 115 = .ok (.putfield 53, 3) := by decide +kernel
theorem dX6_init_118 : decode cX6_init 118 = .ok (.aload_n 0, 1) := by decide +kernel
theorem dX6_init_119 : decode cX6_init 119 = .ok (.bipush 17, 2) := by decide +kernel
theorem dX6_init_121 : decode cX6_init 121 = .ok (.newarray .int, 2) := by decide +kernel
theorem dX6_init_123 : decode cX6_init 123 = .ok (.putfield 56, 3) := by decide +kernel
theorem dX6_init_126 : decode cX6_init 126 = .ok (.aload_n 0, 1) := by decide +kernel
theorem dX6_init_127 : decode cX6_init 127 = .ok (.bipush 24, 2) := by decide +kernel
theorem dX6_init_129 : decode cX6_init 129 = .ok (.newarray .int, 2) := by decide +kernel
theorem dX6_init_131 : decode cX6_init 131 = .ok (.putfield 59, 3) := by decide +kernel
theorem dX6_init_134 : decode cX6_init 134 = .ok (.return_, 1) := by decide +kernel
theorem dX6_thrown_0 : decode cX6_thrown 0 = .ok (.aload_n 0, 1) := by decide +kernel
theorem dX6_thrown_1 : decode cX6_thrown 1 = .ok (.getfield 62, 3) := by decide +kernel
theorem dX6_thrown_4 : decode cX6_thrown 4 = .ok (.ireturn, 1) := by decide +kernel
theorem dX6_in_0 : decode cX6_in 0 = .ok (.lload_n 0, 1) := by decide +kernel
theorem dX6_in_1 : decode cX6_in 1 = .ok (.lload_n 2, 1) := by decide +kernel
theorem dX6_in_2 : decode cX6_in 2 = .ok (.lcmp, 1) := by decide +kernel
theorem dX6_in_3 : decode cX6_in 3 = .ok (.ifCond .lt 14, 3) := by decide +kernel
theorem dX6_in_6 : decode cX6_in 6 = .ok (.lload_n 0, 1) := by decide +kernel
theorem dX6_in_7 : decode cX6_in 7 = .ok (.lload 4, 2) := by decide +kernel
theorem dX6_in_9 : decode cX6_in 9 = .ok (.lcmp, 1) := by decide +kernel
theorem dX6_in_10 : decode cX6_in 10 = .ok (.ifCond .gt 7, 3) := by decide +kernel
theorem dX6_in_13 : decode cX6_in 13 = .ok (.iconst 1, 1) := by decide +kernel
theorem dX6_in_14 : decode cX6_in 14 = .ok (.goto 4, 3) := by decide +kernel
theorem dX6_in_17 : decode cX6_in 17 = .ok (.iconst 0, 1) := by decide +kernel
theorem dX6_in_18 : decode cX6_in 18 = .ok (.ireturn, 1) := by decide +kernel
theorem dX6_flag_0 : decode cX6_flag 0 = .ok (.iload_n 0, 1) := by decide +kernel
theorem dX6_flag_1 : decode cX6_flag 1 = .ok (.ifCond .eq 7, 3) := by decide +kernel
theorem dX6_flag_4 : decode cX6_flag 4 = .ok (.iconst 1, 1) := by decide +kernel
theorem dX6_flag_5 : decode cX6_flag 5 = .ok (.goto 4, 3) := by decide +kernel
theorem dX6_flag_8 : decode cX6_flag 8 = .ok (.iconst 0, 1) := by decide +kernel
theorem dX6_flag_9 : decode cX6_flag 9 = .ok (.ireturn, 1) := by decide +kernel
theorem dX6_has_0 : decode cX6_has 0 = .ok (.iload_n 0, 1) := by decide +kernel
theorem dX6_has_1 : decode cX6_has 1 = .ok (.iload_n 1, 1) := by decide +kernel
theorem dX6_has_2 : decode cX6_has 2 = .ok (.ishr, 1) := by decide +kernel
theorem dX6_has_3 : decode cX6_has 3 = .ok (.iconst 1, 1) := by decide +kernel
theorem dX6_has_4 : decode cX6_has 4 = .ok (.iand, 1) := by decide +kernel
theorem dX6_has_5 : decode cX6_has 5 = .ok (.iconst 1, 1) := by decide +kernel
theorem dX6_has_6 : decode cX6_has 6 = .ok (.if_icmp .ne 7, 3) := by decide +kernel
theorem dX6_has_9 : decode cX6_has 9 = .ok (.iconst 1, 1) := by decide +kernel
theorem dX6_has_10 : decode cX6_has 10 = .ok (.goto 4, 3) := by decide +kernel
theorem dX6_has_13 : decode cX6_has 13 = .ok (.iconst 0, 1) := by decide +kernel
theorem dX6_has_14 : decode cX6_has 14 = .ok (.ireturn, 1) := by decide +kernel
set_option maxRecDepth 20000 in
theorem ggX6_bits_J6_bitCount_0f7a4 : GoodIn wsX6_bits wsJ6_bitCount_0f7a4 := goodIn_r _ [4, 5, 6, 7] (by decide +kernel) (by decide +kernel)
set_option maxRecDepth 20000 in
theorem gX6_bits_J6_bitCount_0f7a4 : GoodIn wsX6_bits (va_wsS RX6 65 yJ6_bitCount_0f7a4 wsJ6_bitCount_0f7a4) := goodIn_app (goodIn_of _ (by decide +kernel)) ggX6_bits_J6_bitCount_0f7a4
theorem dX6_bits_0 : decode cX6_bits 0 = .ok (.iload_n 0, 1) := by decide +kernel
theorem dX6_bits_1 : decode cX6_bits 1 = .ok (.invokestatic 65, 3) := by decide +kernel
theorem dX6_bits_4 : decode cX6_bits 4 = .ok (.ireturn, 1) := by decide +kernel
theorem dX6_notes_0 : decode cX6_notes 0 = .ok (.aload_n 0, 1) := by decide +kernel
theorem dX6_notes_1 : decode cX6_notes 1 = .ok (.getfield 9, 3) := by decide +kernel
theorem dX6_notes_4 : decode cX6_notes 4 = .ok (.aload_n 0, 1) := by decide +kernel
theorem dX6_notes_5 : decode cX6_notes 5 = .ok (.getfield 71, 3) := by decide +kernel
theorem dX6_notes_8 : decode cX6_notes 8 = .ok (.iload_n 1, 1) := by decide +kernel
theorem dX6_notes_9 : decode cX6_notes 9 = .ok (.iastore, 1) := by decide +kernel
theorem dX6_notes_10 : decode cX6_notes 10 = .ok (.aload_n 0, 1) := by decide +kernel
theorem dX6_notes_11 : decode cX6_notes 11 = .ok (.dup, 1) := by decide +kernel
theorem dX6_notes_12 : decode cX6_notes 12 = .ok (.getfield 71, 3) := by decide +kernel
theorem dX6_notes_15 : decode cX6_notes 15 = .ok (.iconst 1, 1) := by decide +kernel
theorem dX6_notes_16 : decode cX6_notes 16 = .ok (.iadd, 1) := by decide +kernel
theorem dX6_notes_17 : decode cX6_notes 17 = .ok (.putfield 71, 3) := by decide +kernel
theorem dX6_notes_20 : decode cX6_notes 20 = .ok (.return_, 1) := by decide +kernel
set_option maxRecDepth 20000 in
theorem ggX6_notesOne_X6_notes : GoodIn wsX6_notesOne wsX6_notes := goodIn_r _ [6, 7, 1, 8, 9, 10, 11, 12, 13, 14, 15, 16, 17, 18, 19, 20, 21, 22, 23, 24, 25, 26, 27, 28, 29, 30, 31, 32, 33, 34, 35, 36] (by decide +kernel) (by decide +kernel)
set_option maxRecDepth 20000 in
theorem gX6_notesOne_X6_notes : GoodIn wsX6_notesOne (wsV RX6 74 RX6 yX6_notes wsX6_notes) := goodIn_app (goodIn_of _ (by decide +kernel)) ggX6_notesOne_X6_notes
theorem dX6_notesOne_0 : decode cX6_notesOne 0 = .ok (.aload_n 0, 1) := by decide +kernel
theorem dX6_notesOne_1 : decode cX6_notesOne 1 = .ok (.iconst 0, 1) := by decide +kernel
theorem dX6_notesOne_2 : decode cX6_notesOne 2 = .ok (.putfield 71, 3) := by decide +kernel
theorem dX6_notesOne_5 : decode cX6_notesOne 5 = .ok (.aload_n 0, 1) := by decide +kernel
theorem dX6_notesOne_6 : decode cX6_notesOne 6 = .ok (.iload_n 1, 1) := by decide +kernel
theorem dX6_notesOne_7 : decode cX6_notesOne 7 = .ok (.invokevirtual 74, 3) := by decide +kernel
theorem dX6_notesOne_10 : decode cX6_notesOne 10 = .ok (.return_, 1) := by decide +kernel
set_option maxRecDepth 20000 in
theorem ggX6_notesTwo_X6_notesOne : GoodIn wsX6_notesTwo wsX6_notesOne := goodIn_r _ [5, 6, 7, 8, 9, 4, 10, 11, 12, 13, 14, 15, 16, 17, 18, 19, 20, 21, 22, 23, 24, 25, 26, 27, 28, 29, 30, 31, 32, 33, 34, 35, 36, 37, 38, 39, 40] (by decide +kernel) (by decide +kernel)
set_option maxRecDepth 20000 in
theorem gX6_notesTwo_X6_notesOne : GoodIn wsX6_notesTwo (wsV RX6 78 RX6 yX6_notesOne wsX6_notesOne) := goodIn_app (goodIn_of _ (by decide +kernel)) ggX6_notesTwo_X6_notesOne
set_option maxRecDepth 20000 in
theorem ggX6_notesTwo_X6_notes : GoodIn wsX6_notesTwo wsX6_notes := goodIn_r _ [10, 11, 6, 12, 13, 14, 15, 16, 17, 18, 19, 20, 21, 22, 23, 24, 25, 26, 27, 28, 29, 30, 31, 32, 33, 34, 35, 36, 37, 38, 39, 40] (by decide +kernel) (by decide +kernel)
set_option maxRecDepth 20000 in
theorem gX6_notesTwo_X6_notes : GoodIn wsX6_notesTwo (wsV RX6 74 RX6 yX6_notes wsX6_notes) := goodIn_app (goodIn_of _ (by decide +kernel)) ggX6_notesTwo_X6_notes
theorem dX6_notesTwo_0 : decode cX6_notesTwo 0 = .ok (.aload_n 0, 1) := by decide +kernel
theorem dX6_notesTwo_1 : decode cX6_notesTwo 1 = .ok (.iload_n 1, 1) := by decide +kernel
theorem dX6_notesTwo_2 : decode cX6_notesTwo 2 = .ok (.invokevirtual 78, 3) := by decide +kernel
theorem dX6_notesTwo_5 : decode cX6_notesTwo 5 = .ok (.aload_n 0, 1) := by decide +kernel
theorem dX6_notesTwo_6 : decode cX6_notesTwo 6 = .ok (.iload_n 2, 1) := by decide +kernel
theorem dX6_notesTwo_7 : decode cX6_notesTwo 7 = .ok (.invokevirtual 74, 3) := by decide +kernel
theorem dX6_notesTwo_10 : decode cX6_notesTwo 10 = .ok (.return_, 1) := by decide +kernel
set_option maxRecDepth 20000 in
theorem ggX6_isColumn_X6_in : GoodIn wsX6_isColumn wsX6_in := goodIn_r _ [5] (by decide +kernel) (by decide +kernel)
set_option maxRecDepth 20000 in
theorem gX6_isColumn_X6_in : GoodIn wsX6_isColumn (va_wsS RX6 81 yX6_in wsX6_in) := goodIn_app (goodIn_of _ (by decide +kernel)) ggX6_isColumn_X6_in
theorem dX6_isColumn_0 : decode cX6_isColumn 0 = .ok (.iload_n 1, 1) := by decide +kernel
theorem dX6_isColumn_1 : decode cX6_isColumn 1 = .ok (.i2l, 1) := by decide +kernel
theorem dX6_isColumn_2 : decode cX6_isColumn 2 = .ok (.lconst 0, 1) := by decide +kernel
theorem dX6_isColumn_3 : decode cX6_isColumn 3 = .ok (.aload_n 0, 1) := by decide +kernel
theorem dX6_isColumn_4 : decode cX6_isColumn 4 = .ok (.getfield 13, 3) := by decide +kernel
theorem dX6_isColumn_7 : decode cX6_isColumn 7 = .ok (.iconst 1, 1) := by decide +kernel
theorem dX6_isColumn_8 : decode cX6_isColumn 8 = .ok (.isub, 1) := by decide +kernel
theorem dX6_isColumn_9 : decode cX6_isColumn 9 = .ok (.i2l, 1) := by decide +kernel
theorem dX6_isColumn_10 : decode cX6_isColumn 10 = .ok (.invokestatic 81, 3) := by decide +kernel
theorem dX6_isColumn_13 : decode cX6_isColumn 13 = .ok (.ireturn, 1) := by decide +kernel
set_option maxRecDepth 20000 in
theorem ggX6_isSubject_X6_in : GoodIn wsX6_isSubject wsX6_in := goodIn_r _ [5] (by decide +kernel) (by decide +kernel)
set_option maxRecDepth 20000 in
theorem gX6_isSubject_X6_in : GoodIn wsX6_isSubject (va_wsS RX6 81 yX6_in wsX6_in) := goodIn_app (goodIn_of _ (by decide +kernel)) ggX6_isSubject_X6_in
theorem dX6_isSubject_0 : decode cX6_isSubject 0 = .ok (.iload_n 0, 1) := by decide +kernel
theorem dX6_isSubject_1 : decode cX6_isSubject 1 = .ok (.i2l, 1) := by decide +kernel
theorem dX6_isSubject_2 : decode cX6_isSubject 2 = .ok (.lconst 0, 1) := by decide +kernel
theorem dX6_isSubject_3 : decode cX6_isSubject 3 = .ok (.ldc2_w 85, 3) := by decide +kernel
theorem dX6_isSubject_6 : decode cX6_isSubject 6 = .ok (.invokestatic 81, 3) := by decide +kernel
theorem dX6_isSubject_9 : decode cX6_isSubject 9 = .ok (.ireturn, 1) := by decide +kernel
set_option maxRecDepth 20000 in
theorem ggX6_isTeacher_X6_in : GoodIn wsX6_isTeacher wsX6_in := goodIn_r _ [5] (by decide +kernel) (by decide +kernel)
set_option maxRecDepth 20000 in
theorem gX6_isTeacher_X6_in : GoodIn wsX6_isTeacher (va_wsS RX6 81 yX6_in wsX6_in) := goodIn_app (goodIn_of _ (by decide +kernel)) ggX6_isTeacher_X6_in
theorem dX6_isTeacher_0 : decode cX6_isTeacher 0 = .ok (.iload_n 0, 1) := by decide +kernel
theorem dX6_isTeacher_1 : decode cX6_isTeacher 1 = .ok (.i2l, 1) := by decide +kernel
theorem dX6_isTeacher_2 : decode cX6_isTeacher 2 = .ok (.lconst 0, 1) := by decide +kernel
theorem dX6_isTeacher_3 : decode cX6_isTeacher 3 = .ok (.ldc2_w 85, 3) := by decide +kernel
theorem dX6_isTeacher_6 : decode cX6_isTeacher 6 = .ok (.invokestatic 81, 3) := by decide +kernel
theorem dX6_isTeacher_9 : decode cX6_isTeacher 9 = .ok (.ireturn, 1) := by decide +kernel
set_option maxRecDepth 20000 in
theorem ggX6_isSection_X6_in : GoodIn wsX6_isSection wsX6_in := goodIn_r _ [5] (by decide +kernel) (by decide +kernel)
set_option maxRecDepth 20000 in
theorem gX6_isSection_X6_in : GoodIn wsX6_isSection (va_wsS RX6 81 yX6_in wsX6_in) := goodIn_app (goodIn_of _ (by decide +kernel)) ggX6_isSection_X6_in
theorem dX6_isSection_0 : decode cX6_isSection 0 = .ok (.iload_n 1, 1) := by decide +kernel
theorem dX6_isSection_1 : decode cX6_isSection 1 = .ok (.i2l, 1) := by decide +kernel
theorem dX6_isSection_2 : decode cX6_isSection 2 = .ok (.lconst 0, 1) := by decide +kernel
theorem dX6_isSection_3 : decode cX6_isSection 3 = .ok (.aload_n 0, 1) := by decide +kernel
theorem dX6_isSection_4 : decode cX6_isSection 4 = .ok (.getfield 87, 3) := by decide +kernel
theorem dX6_isSection_7 : decode cX6_isSection 7 = .ok (.iconst 1, 1) := by decide +kernel
theorem dX6_isSection_8 : decode cX6_isSection 8 = .ok (.isub, 1) := by decide +kernel
theorem dX6_isSection_9 : decode cX6_isSection 9 = .ok (.i2l, 1) := by decide +kernel
theorem dX6_isSection_10 : decode cX6_isSection 10 = .ok (.invokestatic 81, 3) := by decide +kernel
theorem dX6_isSection_13 : decode cX6_isSection 13 = .ok (.ireturn, 1) := by decide +kernel
set_option maxRecDepth 20000 in
theorem ggX6_isPupil_X6_in : GoodIn wsX6_isPupil wsX6_in := goodIn_r _ [5] (by decide +kernel) (by decide +kernel)
set_option maxRecDepth 20000 in
theorem gX6_isPupil_X6_in : GoodIn wsX6_isPupil (va_wsS RX6 81 yX6_in wsX6_in) := goodIn_app (goodIn_of _ (by decide +kernel)) ggX6_isPupil_X6_in
theorem dX6_isPupil_0 : decode cX6_isPupil 0 = .ok (.iload_n 1, 1) := by decide +kernel
theorem dX6_isPupil_1 : decode cX6_isPupil 1 = .ok (.i2l, 1) := by decide +kernel
theorem dX6_isPupil_2 : decode cX6_isPupil 2 = .ok (.lconst 0, 1) := by decide +kernel
theorem dX6_isPupil_3 : decode cX6_isPupil 3 = .ok (.aload_n 0, 1) := by decide +kernel
theorem dX6_isPupil_4 : decode cX6_isPupil 4 = .ok (.getfield 90, 3) := by decide +kernel
theorem dX6_isPupil_7 : decode cX6_isPupil 7 = .ok (.iconst 1, 1) := by decide +kernel
theorem dX6_isPupil_8 : decode cX6_isPupil 8 = .ok (.isub, 1) := by decide +kernel
theorem dX6_isPupil_9 : decode cX6_isPupil 9 = .ok (.i2l, 1) := by decide +kernel
theorem dX6_isPupil_10 : decode cX6_isPupil 10 = .ok (.invokestatic 81, 3) := by decide +kernel
theorem dX6_isPupil_13 : decode cX6_isPupil 13 = .ok (.ireturn, 1) := by decide +kernel
set_option maxRecDepth 20000 in
theorem ggX6_whyNot_X6_has : GoodIn wsX6_whyNot wsX6_has := goodIn_r _ [9] (by decide +kernel) (by decide +kernel)
set_option maxRecDepth 20000 in
theorem gX6_whyNot_X6_has : GoodIn wsX6_whyNot (va_wsS RX6 93 yX6_has wsX6_has) := goodIn_app (goodIn_of _ (by decide +kernel)) ggX6_whyNot_X6_has
theorem dX6_whyNot_0 : decode cX6_whyNot 0 = .ok (.iconst 0, 1) := by decide +kernel
theorem dX6_whyNot_1 : decode cX6_whyNot 1 = .ok (.istore_n 3, 1) := by decide +kernel
theorem dX6_whyNot_2 : decode cX6_whyNot 2 = .ok (.iconst 0, 1) := by decide +kernel
theorem dX6_whyNot_3 : decode cX6_whyNot 3 = .ok (.istore 4, 2) := by decide +kernel
theorem dX6_whyNot_5 : decode cX6_whyNot 5 = .ok (.iconst 0, 1) := by decide +kernel
theorem dX6_whyNot_6 : decode cX6_whyNot 6 = .ok (.istore 5, 2) := by decide +kernel
theorem dX6_whyNot_8 : decode cX6_whyNot 8 = .ok (.iload 5, 2) := by decide +kernel
theorem dX6_whyNot_10 : decode cX6_whyNot 10 = .ok (.aload_n 0, 1) := by decide +kernel
theorem dX6_whyNot_11 : decode cX6_whyNot 11 = .ok (.getfield 87, 3) := by decide +kernel
theorem dX6_whyNot_14 : decode cX6_whyNot 14 = .ok (.if_icmp .ge 60, 3) := by decide +kernel
theorem dX6_whyNot_17 : decode cX6_whyNot 17 = .ok (.iload 5, 2) := by decide +kernel
theorem dX6_whyNot_19 : decode cX6_whyNot 19 = .ok (.iload_n 1, 1) := by decide +kernel
theorem dX6_whyNot_20 : decode cX6_whyNot 20 = .ok (.if_icmp .eq 48, 3) := by decide +kernel
theorem dX6_whyNot_23 : decode cX6_whyNot 23 = .ok (.aload_n 0, 1) := by decide +kernel
theorem dX6_whyNot_24 : decode cX6_whyNot 24 = .ok (.getfield 29, 3) := by decide +kernel
theorem dX6_whyNot_27 : decode cX6_whyNot 27 = .ok (.iload 5, 2) := by decide +kernel
theorem dX6_whyNot_29 : decode cX6_whyNot 29 = .ok (.iaload, 1) := by decide +kernel
theorem dX6_whyNot_30 : decode cX6_whyNot 30 = .ok (.iload_n 2, 1) := by decide +kernel
theorem dX6_whyNot_31 : decode cX6_whyNot 31 = .ok (.if_icmp .eq 6, 3) := by decide +kernel
theorem dX6_whyNot_34 : decode cX6_whyNot 34 = .ok (.goto 34, 3) := by decide +kernel
theorem dX6_whyNot_37 : decode cX6_whyNot 37 = .ok (.iinc 3 1, 3) := by decide +kernel
theorem dX6_whyNot_40 : decode cX6_whyNot 40 = .ok (.iload 4, 2) := by decide +kernel
theorem dX6_whyNot_42 : decode cX6_whyNot 42 = .ok (.ifCond .ne 19, 3) := by decide +kernel
theorem dX6_whyNot_45 : decode cX6_whyNot 45 = .ok (.aload_n 0, 1) := by decide +kernel
theorem dX6_whyNot_46 : decode cX6_whyNot 46 = .ok (.getfield 23, 3) := by decide +kernel
theorem dX6_whyNot_49 : decode cX6_whyNot 49 = .ok (.iload 5, 2) := by decide +kernel
theorem dX6_whyNot_51 : decode cX6_whyNot 51 = .ok (.iaload, 1) := by decide +kernel
theorem dX6_whyNot_52 : decode cX6_whyNot 52 = .ok (.aload_n 0, 1) := by decide +kernel
theorem dX6_whyNot_53 : decode cX6_whyNot 53 = .ok (.getfield 23, 3) := by decide +kernel
theorem dX6_whyNot_56 : decode cX6_whyNot 56 = .ok (.iload_n 1, 1) := by decide +kernel
theorem dX6_whyNot_57 : decode cX6_whyNot 57 = .ok (.iaload, 1) := by decide +kernel
theorem dX6_whyNot_58 : decode cX6_whyNot 58 = .ok (.if_icmp .ne 7, 3) := by decide +kernel
theorem dX6_whyNot_61 : decode cX6_whyNot 61 = .ok (.iconst 1, 1) := by decide +kernel
theorem dX6_whyNot_62 : decode cX6_whyNot 62 = .ok (.goto 4, 3) := by decide +kernel
theorem dX6_whyNot_65 : decode cX6_whyNot 65 = .ok (.iconst 0, 1) := by decide +kernel
theorem dX6_whyNot_66 : decode cX6_whyNot 66 = .ok (.istore 4, 2) := by decide +kernel
theorem dX6_whyNot_68 : decode cX6_whyNot 68 = .ok (.iinc 5 1, 3) := by decide +kernel
theorem dX6_whyNot_71 : decode cX6_whyNot 71 = .ok (.goto (-63), 3) := by decide +kernel
theorem dX6_whyNot_74 : decode cX6_whyNot 74 = .ok (.iload 4, 2) := by decide +kernel
theorem dX6_whyNot_76 : decode cX6_whyNot 76 = .ok (.ifCond .eq 7, 3) := by decide +kernel
theorem dX6_whyNot_79 : decode cX6_whyNot 79 = .ok (.iconst 1, 1) := by decide +kernel
theorem dX6_whyNot_80 : decode cX6_whyNot 80 = .ok (.goto 38, 3) := by decide +kernel
theorem dX6_whyNot_83 : decode cX6_whyNot 83 = .ok (.aload_n 0, 1) := by decide +kernel
theorem dX6_whyNot_84 : decode cX6_whyNot 84 = .ok (.getfield 32, 3) := by decide +kernel
theorem dX6_whyNot_87 : decode cX6_whyNot 87 = .ok (.aload_n 0, 1) := by decide +kernel
theorem dX6_whyNot_88 : decode cX6_whyNot 88 = .ok (.getfield 23, 3) := by decide +kernel
theorem dX6_whyNot_91 : decode cX6_whyNot 91 = .ok (.iload_n 1, 1) := by decide +kernel
theorem dX6_whyNot_92 : decode cX6_whyNot 92 = .ok (.iaload, 1) := by decide +kernel
theorem dX6_whyNot_93 : decode cX6_whyNot 93 = .ok (.iaload, 1) := by decide +kernel
theorem dX6_whyNot_94 : decode cX6_whyNot 94 = .ok (.iload_n 2, 1) := by decide +kernel
theorem dX6_whyNot_95 : decode cX6_whyNot 95 = .ok (.invokestatic 93, 3) := by decide +kernel
theorem dX6_whyNot_98 : decode cX6_whyNot 98 = .ok (.ifCond .eq 7, 3) := by decide +kernel
theorem dX6_whyNot_101 : decode cX6_whyNot 101 = .ok (.iconst 2, 1) := by decide +kernel
theorem dX6_whyNot_102 : decode cX6_whyNot 102 = .ok (.goto 16, 3) := by decide +kernel
theorem dX6_whyNot_105 : decode cX6_whyNot 105 = .ok (.iload_n 3, 1) := by decide +kernel
theorem dX6_whyNot_106 : decode cX6_whyNot 106 = .ok (.aload_n 0, 1) := by decide +kernel
theorem dX6_whyNot_107 : decode cX6_whyNot 107 = .ok (.getfield 17, 3) := by decide +kernel
theorem dX6_whyNot_110 : decode cX6_whyNot 110 = .ok (.if_icmp .lt 7, 3) := by decide +kernel
theorem dX6_whyNot_113 : decode cX6_whyNot 113 = .ok (.iconst 3, 1) := by decide +kernel
theorem dX6_whyNot_114 : decode cX6_whyNot 114 = .ok (.goto 4, 3) := by decide +kernel
theorem dX6_whyNot_117 : decode cX6_whyNot 117 = .ok (.iconst 0, 1) := by decide +kernel
theorem dX6_whyNot_118 : decode cX6_whyNot 118 = .ok (.ireturn, 1) := by decide +kernel
set_option maxRecDepth 20000 in
theorem ggX6_isLegal_X6_whyNot : GoodIn wsX6_isLegal wsX6_whyNot := goodIn_r _ [5, 6, 7, 8, 9, 10, 11, 12, 4, 13, 14, 15, 16, 17, 18, 19, 20, 21, 22, 23, 24, 25, 26, 27, 28, 29, 30, 31, 32, 33, 34, 35, 36, 37, 38, 39, 40, 41, 42] (by decide +kernel) (by decide +kernel)
set_option maxRecDepth 20000 in
theorem gX6_isLegal_X6_whyNot : GoodIn wsX6_isLegal (wsV RX6 97 RX6 yX6_whyNot wsX6_whyNot) := goodIn_app (goodIn_of _ (by decide +kernel)) ggX6_isLegal_X6_whyNot
theorem dX6_isLegal_0 : decode cX6_isLegal 0 = .ok (.aload_n 0, 1) := by decide +kernel
theorem dX6_isLegal_1 : decode cX6_isLegal 1 = .ok (.iload_n 1, 1) := by decide +kernel
theorem dX6_isLegal_2 : decode cX6_isLegal 2 = .ok (.iload_n 2, 1) := by decide +kernel
theorem dX6_isLegal_3 : decode cX6_isLegal 3 = .ok (.invokevirtual 97, 3) := by decide +kernel
theorem dX6_isLegal_6 : decode cX6_isLegal 6 = .ok (.ifCond .ne 7, 3) := by decide +kernel
theorem dX6_isLegal_9 : decode cX6_isLegal 9 = .ok (.iconst 1, 1) := by decide +kernel
theorem dX6_isLegal_10 : decode cX6_isLegal 10 = .ok (.goto 4, 3) := by decide +kernel
theorem dX6_isLegal_13 : decode cX6_isLegal 13 = .ok (.iconst 0, 1) := by decide +kernel
theorem dX6_isLegal_14 : decode cX6_isLegal 14 = .ok (.ireturn, 1) := by decide +kernel
theorem dX6_sign_0 : decode cX6_sign 0 = .ok (.aload_n 0, 1) := by decide +kernel
theorem dX6_sign_1 : decode cX6_sign 1 = .ok (.iconst 0, 1) := by decide +kernel
theorem dX6_sign_2 : decode cX6_sign 2 = .ok (.putfield 62, 3) := by decide +kernel
theorem dX6_sign_5 : decode cX6_sign 5 = .ok (.aload_n 0, 1) := by decide +kernel
theorem dX6_sign_6 : decode cX6_sign 6 = .ok (.getfield 101, 3) := by decide +kernel
theorem dX6_sign_9 : decode cX6_sign 9 = .ok (.sipush 236, 3) := by decide +kernel
theorem dX6_sign_12 : decode cX6_sign 12 = .ok (.if_icmp .le 5, 3) := by decide +kernel
theorem dX6_sign_15 : decode cX6_sign 15 = .ok (.iconst (-1), 1) := by decide +kernel
theorem dX6_sign_16 : decode cX6_sign 16 = .ok (.ireturn, 1) := by decide +kernel
theorem dX6_sign_17 : decode cX6_sign 17 = .ok (.iconst 0, 1) := by decide +kernel
theorem dX6_sign_18 : decode cX6_sign 18 = .ok (.istore_n 2, 1) := by decide +kernel
theorem dX6_sign_19 : decode cX6_sign 19 = .ok (.iload_n 2, 1) := by decide +kernel
theorem dX6_sign_20 : decode cX6_sign 20 = .ok (.iconst 4, 1) := by decide +kernel
theorem dX6_sign_21 : decode cX6_sign 21 = .ok (.if_icmp .ge 33, 3) := by decide +kernel
theorem dX6_sign_24 : decode cX6_sign 24 = .ok (.aload_n 0, 1) := by decide +kernel
theorem dX6_sign_25 : decode cX6_sign 25 = .ok (.getfield 38, 3) := by decide +kernel
theorem dX6_sign_28 : decode cX6_sign 28 = .ok (.aload_n 0, 1) := by decide +kernel
theorem dX6_sign_29 : decode cX6_sign 29 = .ok (.getfield 101, 3) := by decide +kernel
theorem dX6_sign_32 : decode cX6_sign 32 = .ok (.iload_n 2, 1) := by decide +kernel
theorem dX6_sign_33 : decode cX6_sign 33 = .ok (.iadd, 1) := by decide +kernel
theorem dX6_sign_34 : decode cX6_sign 34 = .ok (.iload_n 1, 1) := by decide +kernel
theorem dX6_sign_35 : decode cX6_sign 35 = .ok (.bipush 24, 2) := by decide +kernel
theorem dX6_sign_37 : decode cX6_sign 37 = .ok (.bipush 8, 2) := by decide +kernel
theorem dX6_sign_39 : decode cX6_sign 39 = .ok (.iload_n 2, 1) := by decide +kernel
theorem dX6_sign_40 : decode cX6_sign 40 = .ok (.imul, 1) := by decide +kernel
theorem dX6_sign_41 : decode cX6_sign 41 = .ok (.isub, 1) := by decide +kernel
theorem dX6_sign_42 : decode cX6_sign 42 = .ok (.ishr, 1) := by decide +kernel
theorem dX6_sign_43 : decode cX6_sign 43 = .ok (.sipush 255, 3) := by decide +kernel
theorem dX6_sign_46 : decode cX6_sign 46 = .ok (.iand, 1) := by decide +kernel
theorem dX6_sign_47 : decode cX6_sign 47 = .ok (.iastore, 1) := by decide +kernel
theorem dX6_sign_48 : decode cX6_sign 48 = .ok (.iinc 2 1, 3) := by decide +kernel
theorem dX6_sign_51 : decode cX6_sign 51 = .ok (.goto (-32), 3) := by decide +kernel
theorem dX6_sign_54 : decode cX6_sign 54 = .ok (.aload_n 0, 1) := by decide +kernel
theorem dX6_sign_55 : decode cX6_sign 55 = .ok (.dup, 1) := by decide +kernel
theorem dX6_sign_56 : decode cX6_sign 56 = .ok (.getfield 101, 3) := by decide +kernel
theorem dX6_sign_59 : decode cX6_sign 59 = .ok (.iconst 4, 1) := by decide +kernel
theorem dX6_sign_60 : decode cX6_sign 60 = .ok (.iadd, 1) := by decide +kernel
theorem dX6_sign_61 : decode cX6_sign 61 = .ok (.putfield 101, 3) := by decide +kernel
theorem dX6_sign_64 : decode cX6_sign 64 = .ok (.aload_n 0, 1) := by decide +kernel
theorem dX6_sign_65 : decode cX6_sign 65 = .ok (.getfield 101, 3) := by decide +kernel
theorem dX6_sign_68 : decode cX6_sign 68 = .ok (.ireturn, 1) := by decide +kernel
set_option maxRecDepth 20000 in
theorem ggX6_end_X6_in : GoodIn wsX6_end wsX6_in := goodIn_r _ [6] (by decide +kernel) (by decide +kernel)
set_option maxRecDepth 20000 in
theorem gX6_end_X6_in : GoodIn wsX6_end (va_wsS RX6 81 yX6_in wsX6_in) := goodIn_app (goodIn_of _ (by decide +kernel)) ggX6_end_X6_in
theorem dX6_end_0 : decode cX6_end 0 = .ok (.aload_n 0, 1) := by decide +kernel
theorem dX6_end_1 : decode cX6_end 1 = .ok (.iconst 0, 1) := by decide +kernel
theorem dX6_end_2 : decode cX6_end 2 = .ok (.putfield 62, 3) := by decide +kernel
theorem dX6_end_5 : decode cX6_end 5 = .ok (.iload_n 1, 1) := by decide +kernel
theorem dX6_end_6 : decode cX6_end 6 = .ok (.i2l, 1) := by decide +kernel
theorem dX6_end_7 : decode cX6_end 7 = .ok (.lconst 0, 1) := by decide +kernel
theorem dX6_end_8 : decode cX6_end 8 = .ok (.aload_n 0, 1) := by decide +kernel
theorem dX6_end_9 : decode cX6_end 9 = .ok (.getfield 101, 3) := by decide +kernel
theorem dX6_end_12 : decode cX6_end 12 = .ok (.i2l, 1) := by decide +kernel
theorem dX6_end_13 : decode cX6_end 13 = .ok (.invokestatic 81, 3) := by decide +kernel
theorem dX6_end_16 : decode cX6_end 16 = .ok (.ifCond .ne 5, 3) := by decide +kernel
theorem dX6_end_19 : decode cX6_end 19 = .ok (.iconst 0, 1) := by decide +kernel
theorem dX6_end_20 : decode cX6_end 20 = .ok (.ireturn, 1) := by decide +kernel
theorem dX6_end_21 : decode cX6_end 21 = .ok (.aload_n 0, 1) := by decide +kernel
theorem dX6_end_22 : decode cX6_end 22 = .ok (.iload_n 1, 1) := by decide +kernel
theorem dX6_end_23 : decode cX6_end 23 = .ok (.putfield 101, 3) := by decide +kernel
theorem dX6_end_26 : decode cX6_end 26 = .ok (.iconst 1, 1) := by decide +kernel
theorem dX6_end_27 : decode cX6_end 27 = .ok (.ireturn, 1) := by decide +kernel
theorem dX6_reads_0 : decode cX6_reads 0 = .ok (.aload_n 0, 1) := by decide +kernel
theorem dX6_reads_1 : decode cX6_reads 1 = .ok (.aload_n 0, 1) := by decide +kernel
theorem dX6_reads_2 : decode cX6_reads 2 = .ok (.getfield 101, 3) := by decide +kernel
theorem dX6_reads_5 : decode cX6_reads 5 = .ok (.putfield 104, 3) := by decide +kernel
theorem dX6_reads_8 : decode cX6_reads 8 = .ok (.aload_n 0, 1) := by decide +kernel
theorem dX6_reads_9 : decode cX6_reads 9 = .ok (.iconst 0, 1) := by decide +kernel
theorem dX6_reads_10 : decode cX6_reads 10 = .ok (.putfield 101, 3) := by decide +kernel
theorem dX6_reads_13 : decode cX6_reads 13 = .ok (.aload_n 0, 1) := by decide +kernel
theorem dX6_reads_14 : decode cX6_reads 14 = .ok (.iconst 0, 1) := by decide +kernel
theorem dX6_reads_15 : decode cX6_reads 15 = .ok (.putfield 107, 3) := by decide +kernel
theorem dX6_reads_18 : decode cX6_reads 18 = .ok (.return_, 1) := by decide +kernel
theorem dX6_passes_0 : decode cX6_passes 0 = .ok (.aload_n 0, 1) := by decide +kernel
theorem dX6_passes_1 : decode cX6_passes 1 = .ok (.getfield 107, 3) := by decide +kernel
theorem dX6_passes_4 : decode cX6_passes 4 = .ok (.aload_n 0, 1) := by decide +kernel
theorem dX6_passes_5 : decode cX6_passes 5 = .ok (.getfield 104, 3) := by decide +kernel
theorem dX6_passes_8 : decode cX6_passes 8 = .ok (.if_icmp .ge 16, 3) := by decide +kernel
theorem dX6_passes_11 : decode cX6_passes 11 = .ok (.aload_n 0, 1) := by decide +kernel
theorem dX6_passes_12 : decode cX6_passes 12 = .ok (.getfield 38, 3) := by decide +kernel
theorem dX6_passes_15 : decode cX6_passes 15 = .ok (.aload_n 0, 1) := by decide +kernel
theorem dX6_passes_16 : decode cX6_passes 16 = .ok (.getfield 107, 3) := by decide +kernel
theorem dX6_passes_19 : decode cX6_passes 19 = .ok (.iaload, 1) := by decide +kernel
theorem dX6_passes_20 : decode cX6_passes 20 = .ok (.iload_n 1, 1) := by decide +kernel
theorem dX6_passes_21 : decode cX6_passes 21 = .ok (.if_icmp .eq 5, 3) := by decide +kernel
theorem dX6_passes_24 : decode cX6_passes 24 = .ok (.iconst 0, 1) := by decide +kernel
theorem dX6_passes_25 : decode cX6_passes 25 = .ok (.ireturn, 1) := by decide +kernel
theorem dX6_passes_26 : decode cX6_passes 26 = .ok (.aload_n 0, 1) := by decide +kernel
theorem dX6_passes_27 : decode cX6_passes 27 = .ok (.dup, 1) := by decide +kernel
theorem dX6_passes_28 : decode cX6_passes 28 = .ok (.getfield 107, 3) := by decide +kernel
theorem dX6_passes_31 : decode cX6_passes 31 = .ok (.iconst 1, 1) := by decide +kernel
theorem dX6_passes_32 : decode cX6_passes 32 = .ok (.iadd, 1) := by decide +kernel
theorem dX6_passes_33 : decode cX6_passes 33 = .ok (.putfield 107, 3) := by decide +kernel
theorem dX6_passes_36 : decode cX6_passes 36 = .ok (.iconst 1, 1) := by decide +kernel
theorem dX6_passes_37 : decode cX6_passes 37 = .ok (.ireturn, 1) := by decide +kernel
set_option maxRecDepth 20000 in
theorem ggX6_takesDigit_X6_in : GoodIn wsX6_takesDigit wsX6_in := goodIn_r _ [8] (by decide +kernel) (by decide +kernel)
set_option maxRecDepth 20000 in
theorem gX6_takesDigit_X6_in : GoodIn wsX6_takesDigit (va_wsS RX6 81 yX6_in wsX6_in) := goodIn_app (goodIn_of _ (by decide +kernel)) ggX6_takesDigit_X6_in
theorem dX6_takesDigit_0 : decode cX6_takesDigit 0 = .ok (.aload_n 0, 1) := by decide +kernel
theorem dX6_takesDigit_1 : decode cX6_takesDigit 1 = .ok (.getfield 107, 3) := by decide +kernel
theorem dX6_takesDigit_4 : decode cX6_takesDigit 4 = .ok (.aload_n 0, 1) := by decide +kernel
theorem dX6_takesDigit_5 : decode cX6_takesDigit 5 = .ok (.getfield 104, 3) := by decide +kernel
theorem dX6_takesDigit_8 : decode cX6_takesDigit 8 = .ok (.if_icmp .ge 26, 3) := by decide +kernel
theorem dX6_takesDigit_11 : decode cX6_takesDigit 11 = .ok (.aload_n 0, 1) := by decide +kernel
theorem dX6_takesDigit_12 : decode cX6_takesDigit 12 = .ok (.getfield 38, 3) := by decide +kernel
theorem dX6_takesDigit_15 : decode cX6_takesDigit 15 = .ok (.aload_n 0, 1) := by decide +kernel
theorem dX6_takesDigit_16 : decode cX6_takesDigit 16 = .ok (.getfield 107, 3) := by decide +kernel
theorem dX6_takesDigit_19 : decode cX6_takesDigit 19 = .ok (.iaload, 1) := by decide +kernel
theorem dX6_takesDigit_20 : decode cX6_takesDigit 20 = .ok (.bipush 48, 2) := by decide +kernel
theorem dX6_takesDigit_22 : decode cX6_takesDigit 22 = .ok (.isub, 1) := by decide +kernel
theorem dX6_takesDigit_23 : decode cX6_takesDigit 23 = .ok (.i2l, 1) := by decide +kernel
theorem dX6_takesDigit_24 : decode cX6_takesDigit 24 = .ok (.iload_n 1, 1) := by decide +kernel
theorem dX6_takesDigit_25 : decode cX6_takesDigit 25 = .ok (.i2l, 1) := by decide +kernel
theorem dX6_takesDigit_26 : decode cX6_takesDigit 26 = .ok (.iload_n 2, 1) := by decide +kernel
theorem dX6_takesDigit_27 : decode cX6_takesDigit 27 = .ok (.i2l, 1) := by decide +kernel
theorem dX6_takesDigit_28 : decode cX6_takesDigit 28 = .ok (.invokestatic 81, 3) := by decide +kernel
theorem dX6_takesDigit_31 : decode cX6_takesDigit 31 = .ok (.ifCond .ne 5, 3) := by decide +kernel
theorem dX6_takesDigit_34 : decode cX6_takesDigit 34 = .ok (.iconst 0, 1) := by decide +kernel
theorem dX6_takesDigit_35 : decode cX6_takesDigit 35 = .ok (.ireturn, 1) := by decide +kernel
theorem dX6_takesDigit_36 : decode cX6_takesDigit 36 = .ok (.aload_n 0, 1) := by decide +kernel
theorem dX6_takesDigit_37 : decode cX6_takesDigit 37 = .ok (.aload_n 0, 1) := by decide +kernel
theorem dX6_takesDigit_38 : decode cX6_takesDigit 38 = .ok (.getfield 38, 3) := by decide +kernel
theorem dX6_takesDigit_41 : decode cX6_takesDigit 41 = .ok (.aload_n 0, 1) := by decide +kernel
theorem dX6_takesDigit_42 : decode cX6_takesDigit 42 = .ok (.getfield 107, 3) := by decide +kernel
theorem dX6_takesDigit_45 : decode cX6_takesDigit 45 = .ok (.iaload, 1) := by decide +kernel
theorem dX6_takesDigit_46 : decode cX6_takesDigit 46 = .ok (.bipush 48, 2) := by decide +kernel
theorem dX6_takesDigit_48 : decode cX6_takesDigit 48 = .ok (.isub, 1) := by decide +kernel
theorem dX6_takesDigit_49 : decode cX6_takesDigit 49 = .ok (.putfield 110, 3) := by decide +kernel
theorem dX6_takesDigit_52 : decode cX6_takesDigit 52 = .ok (.aload_n 0, 1) := by decide +kernel
theorem dX6_takesDigit_53 : decode cX6_takesDigit 53 = .ok (.dup, 1) := by decide +kernel
theorem dX6_takesDigit_54 : decode cX6_takesDigit 54 = .ok (.getfield 107, 3) := by decide +kernel
theorem dX6_takesDigit_57 : decode cX6_takesDigit 57 = .ok (.iconst 1, 1) := by decide +kernel
theorem dX6_takesDigit_58 : decode cX6_takesDigit 58 = .ok (.iadd, 1) := by decide +kernel
theorem dX6_takesDigit_59 : decode cX6_takesDigit 59 = .ok (.putfield 107, 3) := by decide +kernel
theorem dX6_takesDigit_62 : decode cX6_takesDigit 62 = .ok (.iconst 1, 1) := by decide +kernel
theorem dX6_takesDigit_63 : decode cX6_takesDigit 63 = .ok (.ireturn, 1) := by decide +kernel
set_option maxRecDepth 20000 in
theorem ggX6_isDigit_X6_in : GoodIn wsX6_isDigit wsX6_in := goodIn_r _ [9] (by decide +kernel) (by decide +kernel)
set_option maxRecDepth 20000 in
theorem gX6_isDigit_X6_in : GoodIn wsX6_isDigit (va_wsS RX6 81 yX6_in wsX6_in) := goodIn_app (goodIn_of _ (by decide +kernel)) ggX6_isDigit_X6_in
theorem dX6_isDigit_0 : decode cX6_isDigit 0 = .ok (.aload_n 0, 1) := by decide +kernel
theorem dX6_isDigit_1 : decode cX6_isDigit 1 = .ok (.getfield 107, 3) := by decide +kernel
theorem dX6_isDigit_4 : decode cX6_isDigit 4 = .ok (.aload_n 0, 1) := by decide +kernel
theorem dX6_isDigit_5 : decode cX6_isDigit 5 = .ok (.getfield 104, 3) := by decide +kernel
theorem dX6_isDigit_8 : decode cX6_isDigit 8 = .ok (.if_icmp .ge 29, 3) := by decide +kernel
theorem dX6_isDigit_11 : decode cX6_isDigit 11 = .ok (.aload_n 0, 1) := by decide +kernel
theorem dX6_isDigit_12 : decode cX6_isDigit 12 = .ok (.getfield 38, 3) := by decide +kernel
theorem dX6_isDigit_15 : decode cX6_isDigit 15 = .ok (.aload_n 0, 1) := by decide +kernel
theorem dX6_isDigit_16 : decode cX6_isDigit 16 = .ok (.getfield 107, 3) := by decide +kernel
theorem dX6_isDigit_19 : decode cX6_isDigit 19 = .ok (.iaload, 1) := by decide +kernel
theorem dX6_isDigit_20 : decode cX6_isDigit 20 = .ok (.i2l, 1) := by decide +kernel
theorem dX6_isDigit_21 : decode cX6_isDigit 21 = .ok (.ldc2_w 113, 3) := by decide +kernel
theorem dX6_isDigit_24 : decode cX6_isDigit 24 = .ok (.ldc2_w 115, 3) := by decide +kernel
theorem dX6_isDigit_27 : decode cX6_isDigit 27 = .ok (.invokestatic 81, 3) := by decide +kernel
theorem dX6_isDigit_30 : decode cX6_isDigit 30 = .ok (.ifCond .eq 7, 3) := by decide +kernel
theorem dX6_isDigit_33 : decode cX6_isDigit 33 = .ok (.iconst 1, 1) := by decide +kernel
theorem dX6_isDigit_34 : decode cX6_isDigit 34 = .ok (.goto 4, 3) := by decide +kernel
theorem dX6_isDigit_37 : decode cX6_isDigit 37 = .ok (.iconst 0, 1) := by decide +kernel
theorem dX6_isDigit_38 : decode cX6_isDigit 38 = .ok (.ireturn, 1) := by decide +kernel
set_option maxRecDepth 20000 in
theorem ggX6_takesSeats_X6_takesDigit : GoodIn wsX6_takesSeats wsX6_takesDigit := goodIn_r _ [9, 4, 10, 3, 1, 11, 12, 8, 13, 20, 21, 22, 23, 24, 25, 26, 27, 28, 29, 30, 31, 32, 33, 34, 35, 36, 37, 38, 39, 40, 41, 42, 43, 44, 45, 46, 47, 48] (by decide +kernel) (by decide +kernel)
set_option maxRecDepth 20000 in
theorem gX6_takesSeats_X6_takesDigit : GoodIn wsX6_takesSeats (wsV RX6 117 RX6 yX6_takesDigit wsX6_takesDigit) := goodIn_app (goodIn_of _ (by decide +kernel)) ggX6_takesSeats_X6_takesDigit
set_option maxRecDepth 20000 in
theorem ggX6_takesSeats_X6_isDigit : GoodIn wsX6_takesSeats wsX6_isDigit := goodIn_r _ [17, 4, 10, 3, 18, 19, 11, 12, 8, 13, 20, 21, 22, 23, 24, 25, 26, 27, 28, 29, 30, 31, 32, 33, 34, 35, 36, 37, 38, 39, 40, 41, 42, 43, 44, 45, 46, 47, 48] (by decide +kernel) (by decide +kernel)
set_option maxRecDepth 20000 in
theorem gX6_takesSeats_X6_isDigit : GoodIn wsX6_takesSeats (wsV RX6 123 RX6 yX6_isDigit wsX6_isDigit) := goodIn_app (goodIn_of _ (by decide +kernel)) ggX6_takesSeats_X6_isDigit
theorem dX6_takesSeats_0 : decode cX6_takesSeats 0 = .ok (.aload_n 0, 1) := by decide +kernel
theorem dX6_takesSeats_1 : decode cX6_takesSeats 1 = .ok (.iconst 1, 1) := by decide +kernel
theorem dX6_takesSeats_2 : decode cX6_takesSeats 2 = .ok (.bipush 9, 2) := by decide +kernel
theorem dX6_takesSeats_4 : decode cX6_takesSeats 4 = .ok (.invokevirtual 117, 3) := by decide +kernel
theorem dX6_takesSeats_7 : decode cX6_takesSeats 7 = .ok (.ifCond .ne 5, 3) := by decide +kernel
theorem dX6_takesSeats_10 : decode cX6_takesSeats 10 = .ok (.iconst 0, 1) := by decide +kernel
theorem dX6_takesSeats_11 : decode cX6_takesSeats 11 = .ok (.ireturn, 1) := by decide +kernel
theorem dX6_takesSeats_12 : decode cX6_takesSeats 12 = .ok (.aload_n 0, 1) := by decide +kernel
theorem dX6_takesSeats_13 : decode cX6_takesSeats 13 = .ok (.aload_n 0, 1) := by decide +kernel
theorem dX6_takesSeats_14 : decode cX6_takesSeats 14 = .ok (.getfield 110, 3) := by decide +kernel
theorem dX6_takesSeats_17 : decode cX6_takesSeats 17 = .ok (.putfield 120, 3) := by decide +kernel
theorem dX6_takesSeats_20 : decode cX6_takesSeats 20 = .ok (.aload_n 0, 1) := by decide +kernel
theorem dX6_takesSeats_21 : decode cX6_takesSeats 21 = .ok (.invokevirtual 123, 3) := by decide +kernel
theorem dX6_takesSeats_24 : decode cX6_takesSeats 24 = .ok (.ifCond .eq 48, 3) := by decide +kernel
theorem dX6_takesSeats_27 : decode cX6_takesSeats 27 = .ok (.aload_n 0, 1) := by decide +kernel
theorem dX6_takesSeats_28 : decode cX6_takesSeats 28 = .ok (.bipush 10, 2) := by decide +kernel
theorem dX6_takesSeats_30 : decode cX6_takesSeats 30 = .ok (.aload_n 0, 1) := by decide +kernel
theorem dX6_takesSeats_31 : decode cX6_takesSeats 31 = .ok (.getfield 120, 3) := by decide +kernel
theorem dX6_takesSeats_34 : decode cX6_takesSeats 34 = .ok (.imul, 1) := by decide +kernel
theorem dX6_takesSeats_35 : decode cX6_takesSeats 35 = .ok (.aload_n 0, 1) := by decide +kernel
theorem dX6_takesSeats_36 : decode cX6_takesSeats 36 = .ok (.getfield 38, 3) := by decide +kernel
theorem dX6_takesSeats_39 : decode cX6_takesSeats 39 = .ok (.aload_n 0, 1) := by decide +kernel
theorem dX6_takesSeats_40 : decode cX6_takesSeats 40 = .ok (.getfield 107, 3) := by decide +kernel
theorem dX6_takesSeats_43 : decode cX6_takesSeats 43 = .ok (.iaload, 1) := by decide +kernel
theorem dX6_takesSeats_44 : decode cX6_takesSeats 44 = .ok (.iadd, 1) := by decide +kernel
theorem dX6_takesSeats_45 : decode cX6_takesSeats 45 = .ok (.bipush 48, 2) := by decide +kernel
theorem dX6_takesSeats_47 : decode cX6_takesSeats 47 = .ok (.isub, 1) := by decide +kernel
theorem dX6_takesSeats_48 : decode cX6_takesSeats 48 = .ok (.putfield 120, 3) := by decide +kernel
theorem dX6_takesSeats_51 : decode cX6_takesSeats 51 = .ok (.aload_n 0, 1) := by decide +kernel
theorem dX6_takesSeats_52 : decode cX6_takesSeats 52 = .ok (.getfield 120, 3) := by decide +kernel
theorem dX6_takesSeats_55 : decode cX6_takesSeats 55 = .ok (.bipush 30, 2) := by decide +kernel
theorem dX6_takesSeats_57 : decode cX6_takesSeats 57 = .ok (.if_icmp .le 5, 3) := by decide +kernel
theorem dX6_takesSeats_60 : decode cX6_takesSeats 60 = .ok (.iconst 0, 1) := by decide +kernel
theorem dX6_takesSeats_61 : decode cX6_takesSeats 61 = .ok (.ireturn, 1) := by decide +kernel
theorem dX6_takesSeats_62 : decode cX6_takesSeats 62 = .ok (.aload_n 0, 1) := by decide +kernel
theorem dX6_takesSeats_63 : decode cX6_takesSeats 63 = .ok (.dup, 1) := by decide +kernel
theorem dX6_takesSeats_64 : decode cX6_takesSeats 64 = .ok (.getfield 107, 3) := by decide +kernel
theorem dX6_takesSeats_67 : decode cX6_takesSeats 67 = .ok (.iconst 1, 1) := by decide +kernel
theorem dX6_takesSeats_68 : decode cX6_takesSeats 68 = .ok (.iadd, 1) := by decide +kernel
theorem dX6_takesSeats_69 : decode cX6_takesSeats 69 = .ok (.putfield 107, 3) := by decide +kernel
theorem dX6_takesSeats_72 : decode cX6_takesSeats 72 = .ok (.aload_n 0, 1) := by decide +kernel
theorem dX6_takesSeats_73 : decode cX6_takesSeats 73 = .ok (.invokevirtual 123, 3) := by decide +kernel
theorem dX6_takesSeats_76 : decode cX6_takesSeats 76 = .ok (.ifCond .ne 7, 3) := by decide +kernel
theorem dX6_takesSeats_79 : decode cX6_takesSeats 79 = .ok (.iconst 1, 1) := by decide +kernel
theorem dX6_takesSeats_80 : decode cX6_takesSeats 80 = .ok (.goto 4, 3) := by decide +kernel
theorem dX6_takesSeats_83 : decode cX6_takesSeats 83 = .ok (.iconst 0, 1) := by decide +kernel
theorem dX6_takesSeats_84 : decode cX6_takesSeats 84 = .ok (.ireturn, 1) := by decide +kernel
theorem dX6_isTeaching_0 : decode cX6_isTeaching 0 = .ok (.iconst 0, 1) := by decide +kernel
theorem dX6_isTeaching_1 : decode cX6_isTeaching 1 = .ok (.istore_n 2, 1) := by decide +kernel
theorem dX6_isTeaching_2 : decode cX6_isTeaching 2 = .ok (.iconst 0, 1) := by decide +kernel
theorem dX6_isTeaching_3 : decode cX6_isTeaching 3 = .ok (.istore_n 3, 1) := by decide +kernel
theorem dX6_isTeaching_4 : decode cX6_isTeaching 4 = .ok (.iload_n 3, 1) := by decide +kernel
theorem dX6_isTeaching_5 : decode cX6_isTeaching 5 = .ok (.aload_n 0, 1) := by decide +kernel
theorem dX6_isTeaching_6 : decode cX6_isTeaching 6 = .ok (.getfield 87, 3) := by decide +kernel
theorem dX6_isTeaching_9 : decode cX6_isTeaching 9 = .ok (.if_icmp .ge 29, 3) := by decide +kernel
theorem dX6_isTeaching_12 : decode cX6_isTeaching 12 = .ok (.iload_n 2, 1) := by decide +kernel
theorem dX6_isTeaching_13 : decode cX6_isTeaching 13 = .ok (.ifCond .ne 13, 3) := by decide +kernel
theorem dX6_isTeaching_16 : decode cX6_isTeaching 16 = .ok (.aload_n 0, 1) := by decide +kernel
theorem dX6_isTeaching_17 : decode cX6_isTeaching 17 = .ok (.getfield 23, 3) := by decide +kernel
theorem dX6_isTeaching_20 : decode cX6_isTeaching 20 = .ok (.iload_n 3, 1) := by decide +kernel
theorem dX6_isTeaching_21 : decode cX6_isTeaching 21 = .ok (.iaload, 1) := by decide +kernel
theorem dX6_isTeaching_22 : decode cX6_isTeaching 22 = .ok (.iload_n 1, 1) := by decide +kernel
theorem dX6_isTeaching_23 : decode cX6_isTeaching 23 = .ok (.if_icmp .ne 7, 3) := by decide +kernel
theorem dX6_isTeaching_26 : decode cX6_isTeaching 26 = .ok (.iconst 1, 1) := by decide +kernel
theorem dX6_isTeaching_27 : decode cX6_isTeaching 27 = .ok (.goto 4, 3) := by decide +kernel
theorem dX6_isTeaching_30 : decode cX6_isTeaching 30 = .ok (.iconst 0, 1) := by decide +kernel
theorem dX6_isTeaching_31 : decode cX6_isTeaching 31 = .ok (.istore_n 2, 1) := by decide +kernel
theorem dX6_isTeaching_32 : decode cX6_isTeaching 32 = .ok (.iinc 3 1, 3) := by decide +kernel
theorem dX6_isTeaching_35 : decode cX6_isTeaching 35 = .ok (.goto (-31), 3) := by decide +kernel
theorem dX6_isTeaching_38 : decode cX6_isTeaching 38 = .ok (.iload_n 2, 1) := by decide +kernel
theorem dX6_isTeaching_39 : decode cX6_isTeaching 39 = .ok (.ireturn, 1) := by decide +kernel
set_option maxRecDepth 20000 in
theorem ggX6_takesBars_X6_takesDigit : GoodIn wsX6_takesBars wsX6_takesDigit := goodIn_r _ [9, 3, 10, 11, 1, 12, 13, 8, 14, 27, 28, 29, 30, 31, 32, 33, 34, 35, 36, 37, 38, 39, 40, 41, 42, 43, 44, 45, 46, 47, 48, 49, 50, 51, 52, 53, 54, 55] (by decide +kernel) (by decide +kernel)
set_option maxRecDepth 20000 in
theorem gX6_takesBars_X6_takesDigit : GoodIn wsX6_takesBars (wsV RX6 117 RX6 yX6_takesDigit wsX6_takesDigit) := goodIn_app (goodIn_of _ (by decide +kernel)) ggX6_takesBars_X6_takesDigit
set_option maxRecDepth 20000 in
theorem ggX6_takesBars_X6_isTeaching : GoodIn wsX6_takesBars wsX6_isTeaching := goodIn_r _ [18, 19, 20, 27, 28, 29, 30, 31, 32, 33, 34, 35, 36, 37, 38, 39, 40, 41, 42, 43, 44, 45, 46, 47, 48, 49, 50, 51, 52, 53, 54, 55] (by decide +kernel) (by decide +kernel)
set_option maxRecDepth 20000 in
theorem gX6_takesBars_X6_isTeaching : GoodIn wsX6_takesBars (wsV RX6 127 RX6 yX6_isTeaching wsX6_isTeaching) := goodIn_app (goodIn_of _ (by decide +kernel)) ggX6_takesBars_X6_isTeaching
set_option maxRecDepth 20000 in
theorem ggX6_takesBars_X6_isDigit : GoodIn wsX6_takesBars wsX6_isDigit := goodIn_r _ [24, 3, 10, 11, 25, 26, 12, 13, 8, 14, 27, 28, 29, 30, 31, 32, 33, 34, 35, 36, 37, 38, 39, 40, 41, 42, 43, 44, 45, 46, 47, 48, 49, 50, 51, 52, 53, 54, 55] (by decide +kernel) (by decide +kernel)
set_option maxRecDepth 20000 in
theorem gX6_takesBars_X6_isDigit : GoodIn wsX6_takesBars (wsV RX6 123 RX6 yX6_isDigit wsX6_isDigit) := goodIn_app (goodIn_of _ (by decide +kernel)) ggX6_takesBars_X6_isDigit
theorem dX6_takesBars_0 : decode cX6_takesBars 0 = .ok (.aload_n 0, 1) := by decide +kernel
theorem dX6_takesBars_1 : decode cX6_takesBars 1 = .ok (.iconst 0, 1) := by decide +kernel
theorem dX6_takesBars_2 : decode cX6_takesBars 2 = .ok (.bipush 9, 2) := by decide +kernel
theorem dX6_takesBars_4 : decode cX6_takesBars 4 = .ok (.invokevirtual 117, 3) := by decide +kernel
theorem dX6_takesBars_7 : decode cX6_takesBars 7 = .ok (.ifCond .ne 5, 3) := by decide +kernel
theorem dX6_takesBars_10 : decode cX6_takesBars 10 = .ok (.iconst 0, 1) := by decide +kernel
theorem dX6_takesBars_11 : decode cX6_takesBars 11 = .ok (.ireturn, 1) := by decide +kernel
theorem dX6_takesBars_12 : decode cX6_takesBars 12 = .ok (.aload_n 0, 1) := by decide +kernel
theorem dX6_takesBars_13 : decode cX6_takesBars 13 = .ok (.getfield 110, 3) := by decide +kernel
theorem dX6_takesBars_16 : decode cX6_takesBars 16 = .ok (.istore_n 1, 1) := by decide +kernel
theorem dX6_takesBars_17 : decode cX6_takesBars 17 = .ok (.aload_n 0, 1) := by decide +kernel
theorem dX6_takesBars_18 : decode cX6_takesBars 18 = .ok (.getfield 32, 3) := by decide +kernel
theorem dX6_takesBars_21 : decode cX6_takesBars 21 = .ok (.iload_n 1, 1) := by decide +kernel
theorem dX6_takesBars_22 : decode cX6_takesBars 22 = .ok (.iaload, 1) := by decide +kernel
theorem dX6_takesBars_23 : decode cX6_takesBars 23 = .ok (.ifCond .ne 11, 3) := by decide +kernel
theorem dX6_takesBars_26 : decode cX6_takesBars 26 = .ok (.aload_n 0, 1) := by decide +kernel
theorem dX6_takesBars_27 : decode cX6_takesBars 27 = .ok (.iload_n 1, 1) := by decide +kernel
theorem dX6_takesBars_28 : decode cX6_takesBars 28 = .ok (.invokevirtual 127, 3) := by decide +kernel
theorem dX6_takesBars_31 : decode cX6_takesBars 31 = .ok (.ifCond .eq 15, 3) := by decide +kernel
theorem dX6_takesBars_34 : decode cX6_takesBars 34 = .ok (.aload_n 0, 1) := by decide +kernel
theorem dX6_takesBars_35 : decode cX6_takesBars 35 = .ok (.dup, 1) := by decide +kernel
theorem dX6_takesBars_36 : decode cX6_takesBars 36 = .ok (.getfield 107, 3) := by decide +kernel
theorem dX6_takesBars_39 : decode cX6_takesBars 39 = .ok (.iconst 1, 1) := by decide +kernel
theorem dX6_takesBars_40 : decode cX6_takesBars 40 = .ok (.isub, 1) := by decide +kernel
theorem dX6_takesBars_41 : decode cX6_takesBars 41 = .ok (.putfield 107, 3) := by decide +kernel
theorem dX6_takesBars_44 : decode cX6_takesBars 44 = .ok (.iconst 0, 1) := by decide +kernel
theorem dX6_takesBars_45 : decode cX6_takesBars 45 = .ok (.ireturn, 1) := by decide +kernel
theorem dX6_takesBars_46 : decode cX6_takesBars 46 = .ok (.iconst 0, 1) := by decide +kernel
theorem dX6_takesBars_47 : decode cX6_takesBars 47 = .ok (.istore_n 2, 1) := by decide +kernel
theorem dX6_takesBars_48 : decode cX6_takesBars 48 = .ok (.iload_n 2, 1) := by decide +kernel
theorem dX6_takesBars_49 : decode cX6_takesBars 49 = .ok (.ifCond .eq 10, 3) := by decide +kernel
theorem dX6_takesBars_52 : decode cX6_takesBars 52 = .ok (.aload_n 0, 1) := by decide +kernel
theorem dX6_takesBars_53 : decode cX6_takesBars 53 = .ok (.invokevirtual 123, 3) := by decide +kernel
theorem dX6_takesBars_56 : decode cX6_takesBars 56 = .ok (.ifCond .eq 44, 3) := by decide +kernel
theorem dX6_takesBars_59 : decode cX6_takesBars 59 = .ok (.aload_n 0, 1) := by decide +kernel
theorem dX6_takesBars_60 : decode cX6_takesBars 60 = .ok (.iload_n 2, 1) := by decide +kernel
theorem dX6_takesBars_61 : decode cX6_takesBars 61 = .ok (.aload_n 0, 1) := by decide +kernel
theorem dX6_takesBars_62 : decode cX6_takesBars 62 = .ok (.getfield 13, 3) := by decide +kernel
theorem dX6_takesBars_65 : decode cX6_takesBars 65 = .ok (.iconst 1, 1) := by decide +kernel
theorem dX6_takesBars_66 : decode cX6_takesBars 66 = .ok (.isub, 1) := by decide +kernel
theorem dX6_takesBars_67 : decode cX6_takesBars 67 = .ok (.invokevirtual 117, 3) := by decide +kernel
theorem dX6_takesBars_70 : decode cX6_takesBars 70 = .ok (.ifCond .ne 5, 3) := by decide +kernel
theorem dX6_takesBars_73 : decode cX6_takesBars 73 = .ok (.iconst 0, 1) := by decide +kernel
theorem dX6_takesBars_74 : decode cX6_takesBars 74 = .ok (.ireturn, 1) := by decide +kernel
theorem dX6_takesBars_75 : decode cX6_takesBars 75 = .ok (.aload_n 0, 1) := by decide +kernel
theorem dX6_takesBars_76 : decode cX6_takesBars 76 = .ok (.getfield 32, 3) := by decide +kernel
theorem dX6_takesBars_79 : decode cX6_takesBars 79 = .ok (.iload_n 1, 1) := by decide +kernel
theorem dX6_takesBars_80 : decode cX6_takesBars 80 = .ok (.dup2, 1) := by decide +kernel
theorem dX6_takesBars_81 : decode cX6_takesBars 81 = .ok (.iaload, 1) := by decide +kernel
theorem dX6_takesBars_82 : decode cX6_takesBars 82 = .ok (.iconst 1, 1) := by decide +kernel
theorem dX6_takesBars_83 : decode cX6_takesBars 83 = .ok (.aload_n 0, 1) := by decide +kernel
theorem dX6_takesBars_84 : decode cX6_takesBars 84 = .ok (.getfield 110, 3) := by decide +kernel
theorem dX6_takesBars_87 : decode cX6_takesBars 87 = .ok (.ishl, 1) := by decide +kernel
theorem dX6_takesBars_88 : decode cX6_takesBars 88 = .ok (.ior, 1) := by decide +kernel
theorem dX6_takesBars_89 : decode cX6_takesBars 89 = .ok (.iastore, 1) := by decide +kernel
theorem dX6_takesBars_90 : decode cX6_takesBars 90 = .ok (.aload_n 0, 1) := by decide +kernel
theorem dX6_takesBars_91 : decode cX6_takesBars 91 = .ok (.getfield 110, 3) := by decide +kernel
theorem dX6_takesBars_94 : decode cX6_takesBars 94 = .ok (.iconst 1, 1) := by decide +kernel
theorem dX6_takesBars_95 : decode cX6_takesBars 95 = .ok (.iadd, 1) := by decide +kernel
theorem dX6_takesBars_96 : decode cX6_takesBars 96 = .ok (.istore_n 2, 1) := by decide +kernel
theorem dX6_takesBars_97 : decode cX6_takesBars 97 = .ok (.goto (-49), 3) := by decide +kernel
theorem dX6_takesBars_100 : decode cX6_takesBars 100 = .ok (.iconst 1, 1) := by decide +kernel
theorem dX6_takesBars_101 : decode cX6_takesBars 101 = .ok (.ireturn, 1) := by decide +kernel
set_option maxRecDepth 20000 in
theorem ggX6_takesSection_X6_isDigit : GoodIn wsX6_takesSection wsX6_isDigit := goodIn_r _ [15, 4, 16, 3, 17, 18, 19, 20, 14, 21, 47, 48, 49, 50, 51, 52, 53, 54, 55, 56, 57, 58, 59, 60, 61, 62, 63, 64, 65, 66, 67, 68, 69, 70, 71, 72, 73, 74, 75] (by decide +kernel) (by decide +kernel)
set_option maxRecDepth 20000 in
theorem gX6_takesSection_X6_isDigit : GoodIn wsX6_takesSection (wsV RX6 123 RX6 yX6_isDigit wsX6_isDigit) := goodIn_app (goodIn_of _ (by decide +kernel)) ggX6_takesSection_X6_isDigit
set_option maxRecDepth 20000 in
theorem ggX6_takesSection_X6_passes : GoodIn wsX6_takesSection wsX6_passes := goodIn_r _ [25, 4, 16, 3, 47, 48, 49, 50, 51, 52, 53, 54, 55, 56, 57, 58, 59, 60, 61, 62, 63, 64, 65, 66, 67, 68, 69, 70, 71, 72, 73, 74, 75] (by decide +kernel) (by decide +kernel)
set_option maxRecDepth 20000 in
theorem gX6_takesSection_X6_passes : GoodIn wsX6_takesSection (wsV RX6 131 RX6 yX6_passes wsX6_passes) := goodIn_app (goodIn_of _ (by decide +kernel)) ggX6_takesSection_X6_passes
set_option maxRecDepth 20000 in
theorem ggX6_takesSection_X6_takesDigit : GoodIn wsX6_takesSection wsX6_takesDigit := goodIn_r _ [29, 4, 16, 3, 6, 19, 20, 14, 21, 47, 48, 49, 50, 51, 52, 53, 54, 55, 56, 57, 58, 59, 60, 61, 62, 63, 64, 65, 66, 67, 68, 69, 70, 71, 72, 73, 74, 75] (by decide +kernel) (by decide +kernel)
set_option maxRecDepth 20000 in
theorem gX6_takesSection_X6_takesDigit : GoodIn wsX6_takesSection (wsV RX6 117 RX6 yX6_takesDigit wsX6_takesDigit) := goodIn_app (goodIn_of _ (by decide +kernel)) ggX6_takesSection_X6_takesDigit
set_option maxRecDepth 20000 in
theorem ggX6_takesSection_X6_takesSeats : GoodIn wsX6_takesSection wsX6_takesSeats := goodIn_r _ [33, 6, 8, 3, 4, 26, 27, 28, 14, 29, 16, 19, 20, 21, 11, 12, 13, 15, 17, 18, 47, 48, 49, 50, 51, 52, 53, 54, 55, 56, 57, 58, 59, 60, 61, 62, 63, 64, 65, 66, 67, 68, 69, 70, 71, 72, 73, 74, 75] (by decide +kernel) (by decide +kernel)
set_option maxRecDepth 20000 in
theorem gX6_takesSection_X6_takesSeats : GoodIn wsX6_takesSection (wsV RX6 134 RX6 yX6_takesSeats wsX6_takesSeats) := goodIn_app (goodIn_of _ (by decide +kernel)) ggX6_takesSection_X6_takesSeats
set_option maxRecDepth 20000 in
theorem ggX6_takesSection_X6_isLegal : GoodIn wsX6_takesSection wsX6_isLegal := goodIn_r _ [37, 38, 39, 40, 14, 41, 1, 9, 5, 42, 43, 44, 45, 46, 47, 48, 49, 50, 51, 52, 53, 54, 55, 56, 57, 58, 59, 60, 61, 62, 63, 64, 65, 66, 67, 68, 69, 70, 71, 72, 73, 74, 75] (by decide +kernel) (by decide +kernel)
set_option maxRecDepth 20000 in
theorem gX6_takesSection_X6_isLegal : GoodIn wsX6_takesSection (wsV RX6 137 RX6 yX6_isLegal wsX6_isLegal) := goodIn_app (goodIn_of _ (by decide +kernel)) ggX6_takesSection_X6_isLegal
theorem dX6_takesSection_0 : decode cX6_takesSection 0 = .ok (.aload_n 0, 1) := by decide +kernel
theorem dX6_takesSection_1 : decode cX6_takesSection 1 = .ok (.invokevirtual 123, 3) := by decide +kernel
theorem dX6_takesSection_4 : decode cX6_takesSection 4 = .ok (.ifCond .eq 12, 3) := by decide +kernel
theorem dX6_takesSection_7 : decode cX6_takesSection 7 = .ok (.aload_n 0, 1) := by decide +kernel
theorem dX6_takesSection_8 : decode cX6_takesSection 8 = .ok (.getfield 87, 3) := by decide +kernel
theorem dX6_takesSection_11 : decode cX6_takesSection 11 = .ok (.bipush 16, 2) := by decide +kernel
theorem dX6_takesSection_13 : decode cX6_takesSection 13 = .ok (.if_icmp .ne 5, 3) := by decide +kernel
theorem dX6_takesSection_16 : decode cX6_takesSection 16 = .ok (.iconst 0, 1) := by decide +kernel
theorem dX6_takesSection_17 : decode cX6_takesSection 17 = .ok (.ireturn, 1) := by decide +kernel
theorem dX6_takesSection_18 : decode cX6_takesSection 18 = .ok (.aload_n 0, 1) := by decide +kernel
theorem dX6_takesSection_19 : decode cX6_takesSection 19 = .ok (.getfield 20, 3) := by decide +kernel
theorem dX6_takesSection_22 : decode cX6_takesSection 22 = .ok (.aload_n 0, 1) := by decide +kernel
theorem dX6_takesSection_23 : decode cX6_takesSection 23 = .ok (.getfield 87, 3) := by decide +kernel
theorem dX6_takesSection_26 : decode cX6_takesSection 26 = .ok (.aload_n 0, 1) := by decide +kernel
theorem dX6_takesSection_27 : decode cX6_takesSection 27 = .ok (.getfield 38, 3) := by decide +kernel
theorem dX6_takesSection_30 : decode cX6_takesSection 30 = .ok (.aload_n 0, 1) := by decide +kernel
theorem dX6_takesSection_31 : decode cX6_takesSection 31 = .ok (.getfield 107, 3) := by decide +kernel
theorem dX6_takesSection_34 : decode cX6_takesSection 34 = .ok (.iaload, 1) := by decide +kernel
theorem dX6_takesSection_35 : decode cX6_takesSection 35 = .ok (.bipush 48, 2) := by decide +kernel
theorem dX6_takesSection_37 : decode cX6_takesSection 37 = .ok (.isub, 1) := by decide +kernel
theorem dX6_takesSection_38 : decode cX6_takesSection 38 = .ok (.iastore, 1) := by decide +kernel
theorem dX6_takesSection_39 : decode cX6_takesSection 39 = .ok (.aload_n 0, 1) := by decide +kernel
theorem dX6_takesSection_40 : decode cX6_takesSection 40 = .ok (.dup, 1) := by decide +kernel
theorem dX6_takesSection_41 : decode cX6_takesSection 41 = .ok (.getfield 107, 3) := by decide +kernel
theorem dX6_takesSection_44 : decode cX6_takesSection 44 = .ok (.iconst 1, 1) := by decide +kernel
theorem dX6_takesSection_45 : decode cX6_takesSection 45 = .ok (.iadd, 1) := by decide +kernel
theorem dX6_takesSection_46 : decode cX6_takesSection 46 = .ok (.putfield 107, 3) := by decide +kernel
theorem dX6_takesSection_49 : decode cX6_takesSection 49 = .ok (.aload_n 0, 1) := by decide +kernel
theorem dX6_takesSection_50 : decode cX6_takesSection 50 = .ok (.bipush 116, 2) := by decide +kernel
theorem dX6_takesSection_52 : decode cX6_takesSection 52 = .ok (.invokevirtual 131, 3) := by decide +kernel
theorem dX6_takesSection_55 : decode cX6_takesSection 55 = .ok (.ifCond .eq 13, 3) := by decide +kernel
theorem dX6_takesSection_58 : decode cX6_takesSection 58 = .ok (.aload_n 0, 1) := by decide +kernel
theorem dX6_takesSection_59 : decode cX6_takesSection 59 = .ok (.iconst 0, 1) := by decide +kernel
theorem dX6_takesSection_60 : decode cX6_takesSection 60 = .ok (.bipush 9, 2) := by decide +kernel
theorem dX6_takesSection_62 : decode cX6_takesSection 62 = .ok (.invokevirtual 117, 3) := by decide +kernel
theorem dX6_takesSection_65 : decode cX6_takesSection 65 = .ok (.ifCond .ne 5, 3) := by decide +kernel
theorem dX6_takesSection_68 : decode cX6_takesSection 68 = .ok (.iconst 0, 1) := by decide +kernel
theorem dX6_takesSection_69 : decode cX6_takesSection 69 = .ok (.ireturn, 1) := by decide +kernel
theorem dX6_takesSection_70 : decode cX6_takesSection 70 = .ok (.aload_n 0, 1) := by decide +kernel
theorem dX6_takesSection_71 : decode cX6_takesSection 71 = .ok (.getfield 23, 3) := by decide +kernel
theorem dX6_takesSection_74 : decode cX6_takesSection 74 = .ok (.aload_n 0, 1) := by decide +kernel
theorem dX6_takesSection_75 : decode cX6_takesSection 75 = .ok (.getfield 87, 3) := by decide +kernel
theorem dX6_takesSection_78 : decode cX6_takesSection 78 = .ok (.aload_n 0, 1) := by decide +kernel
theorem dX6_takesSection_79 : decode cX6_takesSection 79 = .ok (.getfield 110, 3) := by decide +kernel
theorem dX6_takesSection_82 : decode cX6_takesSection 82 = .ok (.iastore, 1) := by decide +kernel
theorem dX6_takesSection_83 : decode cX6_takesSection 83 = .ok (.aload_n 0, 1) := by decide +kernel
theorem dX6_takesSection_84 : decode cX6_takesSection 84 = .ok (.bipush 122, 2) := by decide +kernel
theorem dX6_takesSection_86 : decode cX6_takesSection 86 = .ok (.invokevirtual 131, 3) := by decide +kernel
theorem dX6_takesSection_89 : decode cX6_takesSection 89 = .ok (.ifCond .eq 10, 3) := by decide +kernel
theorem dX6_takesSection_92 : decode cX6_takesSection 92 = .ok (.aload_n 0, 1) := by decide +kernel
theorem dX6_takesSection_93 : decode cX6_takesSection 93 = .ok (.invokevirtual 134, 3) := by decide +kernel
theorem dX6_takesSection_96 : decode cX6_takesSection 96 = .ok (.ifCond .ne 5, 3) := by decide +kernel
theorem dX6_takesSection_99 : decode cX6_takesSection 99 = .ok (.iconst 0, 1) := by decide +kernel
theorem dX6_takesSection_100 : decode cX6_takesSection 100 = .ok (.ireturn, 1) := by decide +kernel
theorem dX6_takesSection_101 : decode cX6_takesSection 101 = .ok (.aload_n 0, 1) := by decide +kernel
theorem dX6_takesSection_102 : decode cX6_takesSection 102 = .ok (.getfield 26, 3) := by decide +kernel
theorem dX6_takesSection_105 : decode cX6_takesSection 105 = .ok (.aload_n 0, 1) := by decide +kernel
theorem dX6_takesSection_106 : decode cX6_takesSection 106 = .ok (.getfield 87, 3) := by decide +kernel
theorem dX6_takesSection_109 : decode cX6_takesSection 109 = .ok (.aload_n 0, 1) := by decide +kernel
theorem dX6_takesSection_110 : decode cX6_takesSection 110 = .ok (.getfield 120, 3) := by decide +kernel
theorem dX6_takesSection_113 : decode cX6_takesSection 113 = .ok (.iastore, 1) := by decide +kernel
theorem dX6_takesSection_114 : decode cX6_takesSection 114 = .ok (.aload_n 0, 1) := by decide +kernel
theorem dX6_takesSection_115 : decode cX6_takesSection 115 = .ok (.getfield 29, 3) := by decide +kernel
theorem dX6_takesSection_118 : decode cX6_takesSection 118 = .ok (.aload_n 0, 1) := by decide +kernel
theorem dX6_takesSection_119 : decode cX6_takesSection 119 = .ok (.getfield 87, 3) := by decide +kernel
theorem dX6_takesSection_122 : decode cX6_takesSection 122 = .ok (.bipush (-2), 2) := by decide +kernel
theorem dX6_takesSection_124 : decode cX6_takesSection 124 = .ok (.iastore, 1) := by decide +kernel
theorem dX6_takesSection_125 : decode cX6_takesSection 125 = .ok (.aload_n 0, 1) := by decide +kernel
theorem dX6_takesSection_126 : decode cX6_takesSection 126 = .ok (.bipush 64, 2) := by decide +kernel
theorem dX6_takesSection_128 : decode cX6_takesSection 128 = .ok (.invokevirtual 131, 3) := by decide +kernel
theorem dX6_takesSection_131 : decode cX6_takesSection 131 = .ok (.ifCond .eq 59, 3) := by decide +kernel
theorem dX6_takesSection_134 : decode cX6_takesSection 134 = .ok (.aload_n 0, 1) := by decide +kernel
theorem dX6_takesSection_135 : decode cX6_takesSection 135 = .ok (.iconst 0, 1) := by decide +kernel
theorem dX6_takesSection_136 : decode cX6_takesSection 136 = .ok (.aload_n 0, 1) := by decide +kernel
theorem dX6_takesSection_137 : decode cX6_takesSection 137 = .ok (.getfield 13, 3) := by decide +kernel
theorem dX6_takesSection_140 : decode cX6_takesSection 140 = .ok (.iconst 1, 1) := by decide +kernel
theorem dX6_takesSection_141 : decode cX6_takesSection 141 = .ok (.isub, 1) := by decide +kernel
theorem dX6_takesSection_142 : decode cX6_takesSection 142 = .ok (.invokevirtual 117, 3) := by decide +kernel
theorem dX6_takesSection_145 : decode cX6_takesSection 145 = .ok (.ifCond .ne 5, 3) := by decide +kernel
theorem dX6_takesSection_148 : decode cX6_takesSection 148 = .ok (.iconst 0, 1) := by decide +kernel
theorem dX6_takesSection_149 : decode cX6_takesSection 149 = .ok (.ireturn, 1) := by decide +kernel
theorem dX6_takesSection_150 : decode cX6_takesSection 150 = .ok (.aload_n 0, 1) := by decide +kernel
theorem dX6_takesSection_151 : decode cX6_takesSection 151 = .ok (.aload_n 0, 1) := by decide +kernel
theorem dX6_takesSection_152 : decode cX6_takesSection 152 = .ok (.getfield 87, 3) := by decide +kernel
theorem dX6_takesSection_155 : decode cX6_takesSection 155 = .ok (.aload_n 0, 1) := by decide +kernel
theorem dX6_takesSection_156 : decode cX6_takesSection 156 = .ok (.getfield 110, 3) := by decide +kernel
theorem dX6_takesSection_159 : decode cX6_takesSection 159 = .ok (.invokevirtual 137, 3) := by decide +kernel
theorem dX6_takesSection_162 : decode cX6_takesSection 162 = .ok (.ifCond .ne 15, 3) := by decide +kernel
theorem dX6_takesSection_165 : decode cX6_takesSection 165 = .ok (.aload_n 0, 1) := by decide +kernel
theorem dX6_takesSection_166 : decode cX6_takesSection 166 = .ok (.dup, 1) := by decide +kernel
theorem dX6_takesSection_167 : decode cX6_takesSection 167 = .ok (.getfield 107, 3) := by decide +kernel
theorem dX6_takesSection_170 : decode cX6_takesSection 170 = .ok (.iconst 1, 1) := by decide +kernel
theorem dX6_takesSection_171 : decode cX6_takesSection 171 = .ok (.isub, 1) := by decide +kernel
theorem dX6_takesSection_172 : decode cX6_takesSection 172 = .ok (.putfield 107, 3) := by decide +kernel
theorem dX6_takesSection_175 : decode cX6_takesSection 175 = .ok (.iconst 0, 1) := by decide +kernel
theorem dX6_takesSection_176 : decode cX6_takesSection 176 = .ok (.ireturn, 1) := by decide +kernel
theorem dX6_takesSection_177 : decode cX6_takesSection 177 = .ok (.aload_n 0, 1) := by decide +kernel
theorem dX6_takesSection_178 : decode cX6_takesSection 178 = .ok (.getfield 29, 3) := by decide +kernel
theorem dX6_takesSection_181 : decode cX6_takesSection 181 = .ok (.aload_n 0, 1) := by decide +kernel
theorem dX6_takesSection_182 : decode cX6_takesSection 182 = .ok (.getfield 87, 3) := by decide +kernel
theorem dX6_takesSection_185 : decode cX6_takesSection 185 = .ok (.aload_n 0, 1) := by decide +kernel
theorem dX6_takesSection_186 : decode cX6_takesSection 186 = .ok (.getfield 110, 3) := by decide +kernel
theorem dX6_takesSection_189 : decode cX6_takesSection 189 = .ok (.iastore, 1) := by decide +kernel
theorem dX6_takesSection_190 : decode cX6_takesSection 190 = .ok (.aload_n 0, 1) := by decide +kernel
theorem dX6_takesSection_191 : decode cX6_takesSection 191 = .ok (.dup, 1) := by decide +kernel
theorem dX6_takesSection_192 : decode cX6_takesSection 192 = .ok (.getfield 87, 3) := by decide +kernel
theorem dX6_takesSection_195 : decode cX6_takesSection 195 = .ok (.iconst 1, 1) := by decide +kernel
theorem dX6_takesSection_196 : decode cX6_takesSection 196 = .ok (.iadd, 1) := by decide +kernel
theorem dX6_takesSection_197 : decode cX6_takesSection 197 = .ok (.putfield 87, 3) := by decide +kernel
theorem dX6_takesSection_200 : decode cX6_takesSection 200 = .ok (.iconst 1, 1) := by decide +kernel
theorem dX6_takesSection_201 : decode cX6_takesSection 201 = .ok (.ireturn, 1) := by decide +kernel
set_option maxRecDepth 20000 in
theorem ggX6_takesDesk_X6_takesDigit : GoodIn wsX6_takesDesk wsX6_takesDigit := goodIn_r _ [10, 4, 5, 11, 1, 12, 13, 9, 14, 59, 60, 61, 62, 63, 64, 65, 66, 67, 68, 69, 70, 71, 72, 73, 74, 75, 76, 77, 78, 79, 80, 81, 82, 83, 84, 85, 86, 87] (by decide +kernel) (by decide +kernel)
set_option maxRecDepth 20000 in
theorem gX6_takesDesk_X6_takesDigit : GoodIn wsX6_takesDesk (wsV RX6 117 RX6 yX6_takesDigit wsX6_takesDigit) := goodIn_app (goodIn_of _ (by decide +kernel)) ggX6_takesDesk_X6_takesDigit
set_option maxRecDepth 20000 in
theorem ggX6_takesDesk_X6_passes : GoodIn wsX6_takesDesk wsX6_passes := goodIn_r _ [18, 4, 5, 11, 59, 60, 61, 62, 63, 64, 65, 66, 67, 68, 69, 70, 71, 72, 73, 74, 75, 76, 77, 78, 79, 80, 81, 82, 83, 84, 85, 86, 87] (by decide +kernel) (by decide +kernel)
set_option maxRecDepth 20000 in
theorem gX6_takesDesk_X6_passes : GoodIn wsX6_takesDesk (wsV RX6 131 RX6 yX6_passes wsX6_passes) := goodIn_app (goodIn_of _ (by decide +kernel)) ggX6_takesDesk_X6_passes
set_option maxRecDepth 20000 in
theorem ggX6_takesDesk_X6_takesBars : GoodIn wsX6_takesDesk wsX6_takesBars := goodIn_r _ [22, 1, 23, 4, 2, 6, 7, 8, 9, 10, 5, 11, 12, 13, 14, 24, 25, 26, 27, 28, 29, 30, 31, 32, 33, 34, 35, 59, 60, 61, 62, 63, 64, 65, 66, 67, 68, 69, 70, 71, 72, 73, 74, 75, 76, 77, 78, 79, 80, 81, 82, 83, 84, 85, 86, 87] (by decide +kernel) (by decide +kernel)
set_option maxRecDepth 20000 in
theorem gX6_takesDesk_X6_takesBars : GoodIn wsX6_takesDesk (wsV RX6 140 RX6 yX6_takesBars wsX6_takesBars) := goodIn_app (goodIn_of _ (by decide +kernel)) ggX6_takesDesk_X6_takesBars
set_option maxRecDepth 20000 in
theorem ggX6_takesDesk_X6_takesSection : GoodIn wsX6_takesDesk wsX6_takesSection := goodIn_r _ [39, 28, 40, 11, 4, 29, 1, 41, 42, 43, 2, 30, 31, 32, 9, 33, 5, 34, 35, 12, 13, 14, 15, 16, 17, 18, 6, 7, 8, 10, 44, 45, 46, 47, 48, 49, 50, 51, 52, 53, 54, 55, 23, 3, 56, 57, 58, 59, 60, 61, 62, 63, 64, 65, 66, 67, 68, 69, 70, 71, 72, 73, 74, 75, 76, 77, 78, 79, 80, 81, 82, 83, 84, 85, 86, 87] (by decide +kernel) (by decide +kernel)
set_option maxRecDepth 20000 in
theorem gX6_takesDesk_X6_takesSection : GoodIn wsX6_takesDesk (wsV RX6 143 RX6 yX6_takesSection wsX6_takesSection) := goodIn_app (goodIn_of _ (by decide +kernel)) ggX6_takesDesk_X6_takesSection
theorem dX6_takesDesk_0 : decode cX6_takesDesk 0 = .ok (.aload_n 0, 1) := by decide +kernel
theorem dX6_takesDesk_1 : decode cX6_takesDesk 1 = .ok (.iconst 1, 1) := by decide +kernel
theorem dX6_takesDesk_2 : decode cX6_takesDesk 2 = .ok (.bipush 6, 2) := by decide +kernel
theorem dX6_takesDesk_4 : decode cX6_takesDesk 4 = .ok (.invokevirtual 117, 3) := by decide +kernel
theorem dX6_takesDesk_7 : decode cX6_takesDesk 7 = .ok (.ifCond .ne 5, 3) := by decide +kernel
theorem dX6_takesDesk_10 : decode cX6_takesDesk 10 = .ok (.iconst 0, 1) := by decide +kernel
theorem dX6_takesDesk_11 : decode cX6_takesDesk 11 = .ok (.ireturn, 1) := by decide +kernel
theorem dX6_takesDesk_12 : decode cX6_takesDesk 12 = .ok (.aload_n 0, 1) := by decide +kernel
theorem dX6_takesDesk_13 : decode cX6_takesDesk 13 = .ok (.aload_n 0, 1) := by decide +kernel
theorem dX6_takesDesk_14 : decode cX6_takesDesk 14 = .ok (.getfield 110, 3) := by decide +kernel
theorem dX6_takesDesk_17 : decode cX6_takesDesk 17 = .ok (.putfield 13, 3) := by decide +kernel
theorem dX6_takesDesk_20 : decode cX6_takesDesk 20 = .ok (.aload_n 0, 1) := by decide +kernel
theorem dX6_takesDesk_21 : decode cX6_takesDesk 21 = .ok (.bipush 120, 2) := by decide +kernel
theorem dX6_takesDesk_23 : decode cX6_takesDesk 23 = .ok (.invokevirtual 131, 3) := by decide +kernel
theorem dX6_takesDesk_26 : decode cX6_takesDesk 26 = .ok (.ifCond .eq 13, 3) := by decide +kernel
theorem dX6_takesDesk_29 : decode cX6_takesDesk 29 = .ok (.aload_n 0, 1) := by decide +kernel
theorem dX6_takesDesk_30 : decode cX6_takesDesk 30 = .ok (.iconst 1, 1) := by decide +kernel
theorem dX6_takesDesk_31 : decode cX6_takesDesk 31 = .ok (.bipush 9, 2) := by decide +kernel
theorem dX6_takesDesk_33 : decode cX6_takesDesk 33 = .ok (.invokevirtual 117, 3) := by decide +kernel
theorem dX6_takesDesk_36 : decode cX6_takesDesk 36 = .ok (.ifCond .ne 5, 3) := by decide +kernel
theorem dX6_takesDesk_39 : decode cX6_takesDesk 39 = .ok (.iconst 0, 1) := by decide +kernel
theorem dX6_takesDesk_40 : decode cX6_takesDesk 40 = .ok (.ireturn, 1) := by decide +kernel
theorem dX6_takesDesk_41 : decode cX6_takesDesk 41 = .ok (.aload_n 0, 1) := by decide +kernel
theorem dX6_takesDesk_42 : decode cX6_takesDesk 42 = .ok (.aload_n 0, 1) := by decide +kernel
theorem dX6_takesDesk_43 : decode cX6_takesDesk 43 = .ok (.getfield 110, 3) := by decide +kernel
theorem dX6_takesDesk_46 : decode cX6_takesDesk 46 = .ok (.putfield 17, 3) := by decide +kernel
theorem dX6_takesDesk_49 : decode cX6_takesDesk 49 = .ok (.aload_n 0, 1) := by decide +kernel
theorem dX6_takesDesk_50 : decode cX6_takesDesk 50 = .ok (.bipush 59, 2) := by decide +kernel
theorem dX6_takesDesk_52 : decode cX6_takesDesk 52 = .ok (.invokevirtual 131, 3) := by decide +kernel
theorem dX6_takesDesk_55 : decode cX6_takesDesk 55 = .ok (.ifCond .eq 31, 3) := by decide +kernel
theorem dX6_takesDesk_58 : decode cX6_takesDesk 58 = .ok (.aload_n 0, 1) := by decide +kernel
theorem dX6_takesDesk_59 : decode cX6_takesDesk 59 = .ok (.bipush 98, 2) := by decide +kernel
theorem dX6_takesDesk_61 : decode cX6_takesDesk 61 = .ok (.invokevirtual 131, 3) := by decide +kernel
theorem dX6_takesDesk_64 : decode cX6_takesDesk 64 = .ok (.ifCond .eq 13, 3) := by decide +kernel
theorem dX6_takesDesk_67 : decode cX6_takesDesk 67 = .ok (.aload_n 0, 1) := by decide +kernel
theorem dX6_takesDesk_68 : decode cX6_takesDesk 68 = .ok (.invokevirtual 140, 3) := by decide +kernel
theorem dX6_takesDesk_71 : decode cX6_takesDesk 71 = .ok (.ifCond .ne (-22), 3) := by decide +kernel
theorem dX6_takesDesk_74 : decode cX6_takesDesk 74 = .ok (.goto 10, 3) := by decide +kernel
theorem dX6_takesDesk_77 : decode cX6_takesDesk 77 = .ok (.aload_n 0, 1) := by decide +kernel
theorem dX6_takesDesk_78 : decode cX6_takesDesk 78 = .ok (.invokevirtual 143, 3) := by decide +kernel
theorem dX6_takesDesk_81 : decode cX6_takesDesk 81 = .ok (.ifCond .ne (-32), 3) := by decide +kernel
theorem dX6_takesDesk_84 : decode cX6_takesDesk 84 = .ok (.iconst 0, 1) := by decide +kernel
theorem dX6_takesDesk_85 : decode cX6_takesDesk 85 = .ok (.ireturn, 1) := by decide +kernel
theorem dX6_takesDesk_86 : decode cX6_takesDesk 86 = .ok (.aload_n 0, 1) := by decide +kernel
theorem dX6_takesDesk_87 : decode cX6_takesDesk 87 = .ok (.getfield 107, 3) := by decide +kernel
theorem dX6_takesDesk_90 : decode cX6_takesDesk 90 = .ok (.aload_n 0, 1) := by decide +kernel
theorem dX6_takesDesk_91 : decode cX6_takesDesk 91 = .ok (.getfield 104, 3) := by decide +kernel
theorem dX6_takesDesk_94 : decode cX6_takesDesk 94 = .ok (.if_icmp .ne 7, 3) := by decide +kernel
theorem dX6_takesDesk_97 : decode cX6_takesDesk 97 = .ok (.iconst 1, 1) := by decide +kernel
theorem dX6_takesDesk_98 : decode cX6_takesDesk 98 = .ok (.goto 4, 3) := by decide +kernel
theorem dX6_takesDesk_101 : decode cX6_takesDesk 101 = .ok (.iconst 0, 1) := by decide +kernel
theorem dX6_takesDesk_102 : decode cX6_takesDesk 102 = .ok (.ireturn, 1) := by decide +kernel
theorem dX6_putsBy_0 : decode cX6_putsBy 0 = .ok (.aload_n 0, 1) := by decide +kernel
theorem dX6_putsBy_1 : decode cX6_putsBy 1 = .ok (.getfield 41, 3) := by decide +kernel
theorem dX6_putsBy_4 : decode cX6_putsBy 4 = .ok (.iconst 0, 1) := by decide +kernel
theorem dX6_putsBy_5 : decode cX6_putsBy 5 = .ok (.aload_n 0, 1) := by decide +kernel
theorem dX6_putsBy_6 : decode cX6_putsBy 6 = .ok (.getfield 13, 3) := by decide +kernel
theorem dX6_putsBy_9 : decode cX6_putsBy 9 = .ok (.iastore, 1) := by decide +kernel
theorem dX6_putsBy_10 : decode cX6_putsBy 10 = .ok (.aload_n 0, 1) := by decide +kernel
theorem dX6_putsBy_11 : decode cX6_putsBy 11 = .ok (.getfield 41, 3) := by decide +kernel
theorem dX6_putsBy_14 : decode cX6_putsBy 14 = .ok (.iconst 1, 1) := by decide +kernel
theorem dX6_putsBy_15 : decode cX6_putsBy 15 = .ok (.aload_n 0, 1) := by decide +kernel
theorem dX6_putsBy_16 : decode cX6_putsBy 16 = .ok (.getfield 17, 3) := by decide +kernel
theorem dX6_putsBy_19 : decode cX6_putsBy 19 = .ok (.iastore, 1) := by decide +kernel
theorem dX6_putsBy_20 : decode cX6_putsBy 20 = .ok (.aload_n 0, 1) := by decide +kernel
theorem dX6_putsBy_21 : decode cX6_putsBy 21 = .ok (.getfield 41, 3) := by decide +kernel
theorem dX6_putsBy_24 : decode cX6_putsBy 24 = .ok (.iconst 2, 1) := by decide +kernel
theorem dX6_putsBy_25 : decode cX6_putsBy 25 = .ok (.aload_n 0, 1) := by decide +kernel
theorem dX6_putsBy_26 : decode cX6_putsBy 26 = .ok (.getfield 87, 3) := by decide +kernel
theorem dX6_putsBy_29 : decode cX6_putsBy 29 = .ok (.iastore, 1) := by decide +kernel
theorem dX6_putsBy_30 : decode cX6_putsBy 30 = .ok (.iconst 0, 1) := by decide +kernel
theorem dX6_putsBy_31 : decode cX6_putsBy 31 = .ok (.istore_n 1, 1) := by decide +kernel
theorem dX6_putsBy_32 : decode cX6_putsBy 32 = .ok (.iload_n 1, 1) := by decide +kernel
theorem dX6_putsBy_33 : decode cX6_putsBy 33 = .ok (.bipush 16, 2) := by decide +kernel
theorem dX6_putsBy_35 : decode cX6_putsBy 35 = .ok (.if_icmp .ge 74, 3) := by decide +kernel
theorem dX6_putsBy_38 : decode cX6_putsBy 38 = .ok (.aload_n 0, 1) := by decide +kernel
theorem dX6_putsBy_39 : decode cX6_putsBy 39 = .ok (.getfield 41, 3) := by decide +kernel
theorem dX6_putsBy_42 : decode cX6_putsBy 42 = .ok (.iconst 3, 1) := by decide +kernel
theorem dX6_putsBy_43 : decode cX6_putsBy 43 = .ok (.iconst 4, 1) := by decide +kernel
theorem dX6_putsBy_44 : decode cX6_putsBy 44 = .ok (.iload_n 1, 1) := by decide +kernel
theorem dX6_putsBy_45 : decode cX6_putsBy 45 = .ok (.imul, 1) := by decide +kernel
theorem dX6_putsBy_46 : decode cX6_putsBy 46 = .ok (.iadd, 1) := by decide +kernel
theorem dX6_putsBy_47 : decode cX6_putsBy 47 = .ok (.aload_n 0, 1) := by decide +kernel
theorem dX6_putsBy_48 : decode cX6_putsBy 48 = .ok (.getfield 20, 3) := by decide +kernel
theorem dX6_putsBy_51 : decode cX6_putsBy 51 = .ok (.iload_n 1, 1) := by decide +kernel
theorem dX6_putsBy_52 : decode cX6_putsBy 52 = .ok (.iaload, 1) := by decide +kernel
theorem dX6_putsBy_53 : decode cX6_putsBy 53 = .ok (.iastore, 1) := by decide +kernel
theorem dX6_putsBy_54 : decode cX6_putsBy 54 = .ok (.aload_n 0, 1) := by decide +kernel
theorem dX6_putsBy_55 : decode cX6_putsBy 55 = .ok (.getfield 41, 3) := by decide +kernel
theorem dX6_putsBy_58 : decode cX6_putsBy 58 = .ok (.iconst 4, 1) := by decide +kernel
theorem dX6_putsBy_59 : decode cX6_putsBy 59 = .ok (.iconst 4, 1) := by decide +kernel
theorem dX6_putsBy_60 : decode cX6_putsBy 60 = .ok (.iload_n 1, 1) := by decide +kernel
theorem dX6_putsBy_61 : decode cX6_putsBy 61 = .ok (.imul, 1) := by decide +kernel
theorem dX6_putsBy_62 : decode cX6_putsBy 62 = .ok (.iadd, 1) := by decide +kernel
theorem dX6_putsBy_63 : decode cX6_putsBy 63 = .ok (.aload_n 0, 1) := by decide +kernel
theorem dX6_putsBy_64 : decode cX6_putsBy 64 = .ok (.getfield 23, 3) := by decide +kernel
theorem dX6_putsBy_67 : decode cX6_putsBy 67 = .ok (.iload_n 1, 1) := by decide +kernel
theorem dX6_putsBy_68 : decode cX6_putsBy 68 = .ok (.iaload, 1) := by decide +kernel
theorem dX6_putsBy_69 : decode cX6_putsBy 69 = .ok (.iastore, 1) := by decide +kernel
theorem dX6_putsBy_70 : decode cX6_putsBy 70 = .ok (.aload_n 0, 1) := by decide +kernel
theorem dX6_putsBy_71 : decode cX6_putsBy 71 = .ok (.getfield 41, 3) := by decide +kernel
theorem dX6_putsBy_74 : decode cX6_putsBy 74 = .ok (.iconst 5, 1) := by decide +kernel
theorem dX6_putsBy_75 : decode cX6_putsBy 75 = .ok (.iconst 4, 1) := by decide +kernel
theorem dX6_putsBy_76 : decode cX6_putsBy 76 = .ok (.iload_n 1, 1) := by decide +kernel
theorem dX6_putsBy_77 : decode cX6_putsBy 77 = .ok (.imul, 1) := by decide +kernel
theorem dX6_putsBy_78 : decode cX6_putsBy 78 = .ok (.iadd, 1) := by decide +kernel
theorem dX6_putsBy_79 : decode cX6_putsBy 79 = .ok (.aload_n 0, 1) := by decide +kernel
theorem dX6_putsBy_80 : decode cX6_putsBy 80 = .ok (.getfield 26, 3) := by decide +kernel
theorem dX6_putsBy_83 : decode cX6_putsBy 83 = .ok (.iload_n 1, 1) := by decide +kernel
theorem dX6_putsBy_84 : decode cX6_putsBy 84 = .ok (.iaload, 1) := by decide +kernel
theorem dX6_putsBy_85 : decode cX6_putsBy 85 = .ok (.iastore, 1) := by decide +kernel
theorem dX6_putsBy_86 : decode cX6_putsBy 86 = .ok (.aload_n 0, 1) := by decide +kernel
theorem dX6_putsBy_87 : decode cX6_putsBy 87 = .ok (.getfield 41, 3) := by decide +kernel
theorem dX6_putsBy_90 : decode cX6_putsBy 90 = .ok (.bipush 6, 2) := by decide +kernel
theorem dX6_putsBy_92 : decode cX6_putsBy 92 = .ok (.iconst 4, 1) := by decide +kernel
theorem dX6_putsBy_93 : decode cX6_putsBy 93 = .ok (.iload_n 1, 1) := by decide +kernel
theorem dX6_putsBy_94 : decode cX6_putsBy 94 = .ok (.imul, 1) := by decide +kernel
theorem dX6_putsBy_95 : decode cX6_putsBy 95 = .ok (.iadd, 1) := by decide +kernel
theorem dX6_putsBy_96 : decode cX6_putsBy 96 = .ok (.aload_n 0, 1) := by decide +kernel
theorem dX6_putsBy_97 : decode cX6_putsBy 97 = .ok (.getfield 29, 3) := by decide +kernel
theorem dX6_putsBy_100 : decode cX6_putsBy 100 = .ok (.iload_n 1, 1) := by decide +kernel
theorem dX6_putsBy_101 : decode cX6_putsBy 101 = .ok (.iaload, 1) := by decide +kernel
theorem dX6_putsBy_102 : decode cX6_putsBy 102 = .ok (.iastore, 1) := by decide +kernel
theorem dX6_putsBy_103 : decode cX6_putsBy 103 = .ok (.iinc 1 1, 3) := by decide +kernel
theorem dX6_putsBy_106 : decode cX6_putsBy 106 = .ok (.goto (-74), 3) := by decide +kernel
theorem dX6_putsBy_109 : decode cX6_putsBy 109 = .ok (.iconst 0, 1) := by decide +kernel
theorem dX6_putsBy_110 : decode cX6_putsBy 110 = .ok (.istore_n 1, 1) := by decide +kernel
theorem dX6_putsBy_111 : decode cX6_putsBy 111 = .ok (.iload_n 1, 1) := by decide +kernel
theorem dX6_putsBy_112 : decode cX6_putsBy 112 = .ok (.bipush 10, 2) := by decide +kernel
theorem dX6_putsBy_114 : decode cX6_putsBy 114 = .ok (.if_icmp .ge 24, 3) := by decide +kernel
theorem dX6_putsBy_117 : decode cX6_putsBy 117 = .ok (.aload_n 0, 1) := by decide +kernel
theorem dX6_putsBy_118 : decode cX6_putsBy 118 = .ok (.getfield 41, 3) := by decide +kernel
theorem dX6_putsBy_121 : decode cX6_putsBy 121 = .ok (.bipush 67, 2) := by decide +kernel
theorem dX6_putsBy_123 : decode cX6_putsBy 123 = .ok (.iload_n 1, 1) := by decide +kernel
theorem dX6_putsBy_124 : decode cX6_putsBy 124 = .ok (.iadd, 1) := by decide +kernel
theorem dX6_putsBy_125 : decode cX6_putsBy 125 = .ok (.aload_n 0, 1) := by decide +kernel
theorem dX6_putsBy_126 : decode cX6_putsBy 126 = .ok (.getfield 32, 3) := by decide +kernel
theorem dX6_putsBy_129 : decode cX6_putsBy 129 = .ok (.iload_n 1, 1) := by decide +kernel
theorem dX6_putsBy_130 : decode cX6_putsBy 130 = .ok (.iaload, 1) := by decide +kernel
theorem dX6_putsBy_131 : decode cX6_putsBy 131 = .ok (.iastore, 1) := by decide +kernel
theorem dX6_putsBy_132 : decode cX6_putsBy 132 = .ok (.iinc 1 1, 3) := by decide +kernel
theorem dX6_putsBy_135 : decode cX6_putsBy 135 = .ok (.goto (-24), 3) := by decide +kernel
theorem dX6_putsBy_138 : decode cX6_putsBy 138 = .ok (.return_, 1) := by decide +kernel
theorem dX6_putsBack_0 : decode cX6_putsBack 0 = .ok (.aload_n 0, 1) := by decide +kernel
theorem dX6_putsBack_1 : decode cX6_putsBack 1 = .ok (.aload_n 0, 1) := by decide +kernel
theorem dX6_putsBack_2 : decode cX6_putsBack 2 = .ok (.getfield 41, 3) := by decide +kernel
theorem dX6_putsBack_5 : decode cX6_putsBack 5 = .ok (.iconst 0, 1) := by decide +kernel
theorem dX6_putsBack_6 : decode cX6_putsBack 6 = .ok (.iaload, 1) := by decide +kernel
theorem dX6_putsBack_7 : decode cX6_putsBack 7 = .ok (.putfield 13, 3) := by decide +kernel
theorem dX6_putsBack_10 : decode cX6_putsBack 10 = .ok (.aload_n 0, 1) := by decide +kernel
theorem dX6_putsBack_11 : decode cX6_putsBack 11 = .ok (.aload_n 0, 1) := by decide +kernel
theorem dX6_putsBack_12 : decode cX6_putsBack 12 = .ok (.getfield 41, 3) := by decide +kernel
theorem dX6_putsBack_15 : decode cX6_putsBack 15 = .ok (.iconst 1, 1) := by decide +kernel
theorem dX6_putsBack_16 : decode cX6_putsBack 16 = .ok (.iaload, 1) := by decide +kernel
theorem dX6_putsBack_17 : decode cX6_putsBack 17 = .ok (.putfield 17, 3) := by decide +kernel
theorem dX6_putsBack_20 : decode cX6_putsBack 20 = .ok (.aload_n 0, 1) := by decide +kernel
theorem dX6_putsBack_21 : decode cX6_putsBack 21 = .ok (.aload_n 0, 1) := by decide +kernel
theorem dX6_putsBack_22 : decode cX6_putsBack 22 = .ok (.getfield 41, 3) := by decide +kernel
theorem dX6_putsBack_25 : decode cX6_putsBack 25 = .ok (.iconst 2, 1) := by decide +kernel
theorem dX6_putsBack_26 : decode cX6_putsBack 26 = .ok (.iaload, 1) := by decide +kernel
theorem dX6_putsBack_27 : decode cX6_putsBack 27 = .ok (.putfield 87, 3) := by decide +kernel
theorem dX6_putsBack_30 : decode cX6_putsBack 30 = .ok (.iconst 0, 1) := by decide +kernel
theorem dX6_putsBack_31 : decode cX6_putsBack 31 = .ok (.istore_n 1, 1) := by decide +kernel
theorem dX6_putsBack_32 : decode cX6_putsBack 32 = .ok (.iload_n 1, 1) := by decide +kernel
theorem dX6_putsBack_33 : decode cX6_putsBack 33 = .ok (.bipush 16, 2) := by decide +kernel
theorem dX6_putsBack_35 : decode cX6_putsBack 35 = .ok (.if_icmp .ge 74, 3) := by decide +kernel
theorem dX6_putsBack_38 : decode cX6_putsBack 38 = .ok (.aload_n 0, 1) := by decide +kernel
theorem dX6_putsBack_39 : decode cX6_putsBack 39 = .ok (.getfield 20, 3) := by decide +kernel
theorem dX6_putsBack_42 : decode cX6_putsBack 42 = .ok (.iload_n 1, 1) := by decide +kernel
theorem dX6_putsBack_43 : decode cX6_putsBack 43 = .ok (.aload_n 0, 1) := by decide +kernel
theorem dX6_putsBack_44 : decode cX6_putsBack 44 = .ok (.getfield 41, 3) := by decide +kernel
theorem dX6_putsBack_47 : decode cX6_putsBack 47 = .ok (.iconst 3, 1) := by decide +kernel
theorem dX6_putsBack_48 : decode cX6_putsBack 48 = .ok (.iconst 4, 1) := by decide +kernel
theorem dX6_putsBack_49 : decode cX6_putsBack 49 = .ok (.iload_n 1, 1) := by decide +kernel
theorem dX6_putsBack_50 : decode cX6_putsBack 50 = .ok (.imul, 1) := by decide +kernel
theorem dX6_putsBack_51 : decode cX6_putsBack 51 = .ok (.iadd, 1) := by decide +kernel
