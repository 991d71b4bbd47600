theorem dX6_why_10 : decode cX6_why 10 = .ok (.ifCond .eq 20, 3) := by decide +kernel
theorem dX6_why_13 : decode cX6_why 13 = .ok (.aload_n 0, 1) := by decide +kernel
theorem dX6_why_14 : decode cX6_why 14 = .ok (.iload_n 2, 1) := by decide +kernel
theorem dX6_why_15 : decode cX6_why 15 = .ok (.invokevirtual 196, 3) := by decide +kernel
theorem dX6_why_18 : decode cX6_why 18 = .ok (.ifCond .eq 12, 3) := by decide +kernel
theorem dX6_why_21 : decode cX6_why 21 = .ok (.aload_n 0, 1) := by decide +kernel
theorem dX6_why_22 : decode cX6_why 22 = .ok (.iload_n 1, 1) := by decide +kernel
theorem dX6_why_23 : decode cX6_why 23 = .ok (.iload_n 2, 1) := by decide +kernel
theorem dX6_why_24 : decode cX6_why 24 = .ok (.invokevirtual 97, 3) := by decide +kernel
theorem dX6_why_27 : decode cX6_why 27 = .ok (.goto 4, 3) := by decide +kernel
theorem dX6_why_30 : decode cX6_why 30 = .ok (.iconst (-1), 1) := by decide +kernel
theorem dX6_why_31 : decode cX6_why 31 = .ok (.ireturn, 1) := by decide +kernel
set_option maxRecDepth 20000 in
theorem ggX6_fits_X6_fitting : GoodIn wsX6_fits wsX6_fitting := goodIn_r _ [6, 7, 8, 9, 10, 11, 5, 12, 13, 14, 15, 16, 17, 18, 19, 20, 21, 22, 23, 24, 25, 45, 46, 47, 48, 49, 50, 51, 52, 53, 54, 55, 56, 57, 58, 59, 60, 61, 62, 63, 64, 65, 66, 67, 68, 69, 70, 71, 72, 73] (by decide +kernel) (by decide +kernel)
set_option maxRecDepth 20000 in
theorem gX6_fits_X6_fitting : GoodIn wsX6_fits (wsV RX6 199 RX6 yX6_fitting wsX6_fitting) := goodIn_app (goodIn_of _ (by decide +kernel)) ggX6_fits_X6_fitting
set_option maxRecDepth 20000 in
theorem ggX6_fits_X6_notesOne : GoodIn wsX6_fits wsX6_notesOne := goodIn_r _ [29, 30, 31, 32, 33, 5, 34, 35, 45, 46, 47, 48, 49, 50, 51, 52, 53, 54, 55, 56, 57, 58, 59, 60, 61, 62, 63, 64, 65, 66, 67, 68, 69, 70, 71, 72, 73] (by decide +kernel) (by decide +kernel)
set_option maxRecDepth 20000 in
theorem gX6_fits_X6_notesOne : GoodIn wsX6_fits (wsV RX6 78 RX6 yX6_notesOne wsX6_notesOne) := goodIn_app (goodIn_of _ (by decide +kernel)) ggX6_fits_X6_notesOne
set_option maxRecDepth 20000 in
theorem ggX6_fits_X6_bits : GoodIn wsX6_fits wsX6_bits := goodIn_r _ [38, 39, 40, 23, 41, 42, 43, 44] (by decide +kernel) (by decide +kernel)
set_option maxRecDepth 20000 in
theorem gX6_fits_X6_bits : GoodIn wsX6_fits (va_wsS RX6 161 yX6_bits wsX6_bits) := goodIn_app (goodIn_of _ (by decide +kernel)) ggX6_fits_X6_bits
theorem dX6_fits_0 : decode cX6_fits 0 = .ok (.aload_n 0, 1) := by decide +kernel
theorem dX6_fits_1 : decode cX6_fits 1 = .ok (.iconst 0, 1) := by decide +kernel
theorem dX6_fits_2 : decode cX6_fits 2 = .ok (.putfield 62, 3) := by decide +kernel
theorem dX6_fits_5 : decode cX6_fits 5 = .ok (.aload_n 0, 1) := by decide +kernel
theorem dX6_fits_6 : decode cX6_fits 6 = .ok (.invokevirtual 199, 3) := by decide +kernel
theorem dX6_fits_9 : decode cX6_fits 9 = .ok (.istore_n 1, 1) := by decide +kernel
theorem dX6_fits_10 : decode cX6_fits 10 = .ok (.aload_n 0, 1) := by decide +kernel
theorem dX6_fits_11 : decode cX6_fits 11 = .ok (.iload_n 1, 1) := by decide +kernel
theorem dX6_fits_12 : decode cX6_fits 12 = .ok (.invokevirtual 78, 3) := by decide +kernel
theorem dX6_fits_15 : decode cX6_fits 15 = .ok (.iload_n 1, 1) := by decide +kernel
theorem dX6_fits_16 : decode cX6_fits 16 = .ok (.invokestatic 161, 3) := by decide +kernel
theorem dX6_fits_19 : decode cX6_fits 19 = .ok (.ireturn, 1) := by decide +kernel
set_option maxRecDepth 20000 in
theorem ggX6_findsFirst_J6_numberOfTrailingZeros_0f7a4 : GoodIn wsX6_findsFirst wsJ6_numberOfTrailingZeros_0f7a4 := goodIn_r _ [7, 8] (by decide +kernel) (by decide +kernel)
set_option maxRecDepth 20000 in
theorem gX6_findsFirst_J6_numberOfTrailingZeros_0f7a4 : GoodIn wsX6_findsFirst (va_wsS RX6 173 yJ6_numberOfTrailingZeros_0f7a4 wsJ6_numberOfTrailingZeros_0f7a4) := goodIn_app (goodIn_of _ (by decide +kernel)) ggX6_findsFirst_J6_numberOfTrailingZeros_0f7a4
set_option maxRecDepth 20000 in
theorem ggX6_findsFirst_X6_has : GoodIn wsX6_findsFirst wsX6_has := goodIn_r _ [12] (by decide +kernel) (by decide +kernel)
set_option maxRecDepth 20000 in
theorem gX6_findsFirst_X6_has : GoodIn wsX6_findsFirst (va_wsS RX6 93 yX6_has wsX6_has) := goodIn_app (goodIn_of _ (by decide +kernel)) ggX6_findsFirst_X6_has
set_option maxRecDepth 20000 in
theorem ggX6_findsFirst_X6_findsFirst : GoodIn wsX6_findsFirst wsX6_findsFirst := goodIn_r _ [0, 1, 2, 3, 4, 5, 6, 7, 8, 9, 10, 11, 12, 13, 14, 15, 16, 17, 18, 19, 20, 21, 22, 23, 24, 25, 26, 27, 28, 29, 30, 31, 32, 33, 34, 35, 36, 37, 38, 39, 40, 41, 42, 43, 44] (by decide +kernel) (by decide +kernel)
set_option maxRecDepth 20000 in
theorem gX6_findsFirst_X6_findsFirst : GoodIn wsX6_findsFirst (wsV RX6 240 RX6 yX6_findsFirst wsX6_findsFirst) := goodIn_app (goodIn_of _ (by decide +kernel)) ggX6_findsFirst_X6_findsFirst
theorem dX6_findsFirst_0 : decode cX6_findsFirst 0 = .ok (.iload_n 1, 1) := by decide +kernel
theorem dX6_findsFirst_1 : decode cX6_findsFirst 1 = .ok (.ifCond .ne 5, 3) := by decide +kernel
theorem dX6_findsFirst_4 : decode cX6_findsFirst 4 = .ok (.iconst 1, 1) := by decide +kernel
theorem dX6_findsFirst_5 : decode cX6_findsFirst 5 = .ok (.ireturn, 1) := by decide +kernel
theorem dX6_findsFirst_6 : decode cX6_findsFirst 6 = .ok (.iload_n 1, 1) := by decide +kernel
theorem dX6_findsFirst_7 : decode cX6_findsFirst 7 = .ok (.invokestatic 173, 3) := by decide +kernel
theorem dX6_findsFirst_10 : decode cX6_findsFirst 10 = .ok (.istore_n 3, 1) := by decide +kernel
theorem dX6_findsFirst_11 : decode cX6_findsFirst 11 = .ok (.iconst 0, 1) := by decide +kernel
theorem dX6_findsFirst_12 : decode cX6_findsFirst 12 = .ok (.istore 4, 2) := by decide +kernel
theorem dX6_findsFirst_14 : decode cX6_findsFirst 14 = .ok (.iload 4, 2) := by decide +kernel
theorem dX6_findsFirst_16 : decode cX6_findsFirst 16 = .ok (.aload_n 0, 1) := by decide +kernel
theorem dX6_findsFirst_17 : decode cX6_findsFirst 17 = .ok (.getfield 13, 3) := by decide +kernel
theorem dX6_findsFirst_20 : decode cX6_findsFirst 20 = .ok (.if_icmp .ge 58, 3) := by decide +kernel
theorem dX6_findsFirst_23 : decode cX6_findsFirst 23 = .ok (.aload_n 0, 1) := by decide +kernel
theorem dX6_findsFirst_24 : decode cX6_findsFirst 24 = .ok (.getfield 47, 3) := by decide +kernel
theorem dX6_findsFirst_27 : decode cX6_findsFirst 27 = .ok (.iload_n 3, 1) := by decide +kernel
theorem dX6_findsFirst_28 : decode cX6_findsFirst 28 = .ok (.iaload, 1) := by decide +kernel
theorem dX6_findsFirst_29 : decode cX6_findsFirst 29 = .ok (.iload_n 2, 1) := by decide +kernel
theorem dX6_findsFirst_30 : decode cX6_findsFirst 30 = .ok (.iconst (-1), 1) := by decide +kernel
theorem dX6_findsFirst_31 : decode cX6_findsFirst 31 = .ok (.ixor, 1) := by decide +kernel
theorem dX6_findsFirst_32 : decode cX6_findsFirst 32 = .ok (.iand, 1) := by decide +kernel
theorem dX6_findsFirst_33 : decode cX6_findsFirst 33 = .ok (.iload 4, 2) := by decide +kernel
theorem dX6_findsFirst_35 : decode cX6_findsFirst 35 = .ok (.invokestatic 93, 3) := by decide +kernel
theorem dX6_findsFirst_38 : decode cX6_findsFirst 38 = .ok (.ifCond .ne 6, 3) := by decide +kernel
theorem dX6_findsFirst_41 : decode cX6_findsFirst 41 = .ok (.goto 31, 3) := by decide +kernel
theorem dX6_findsFirst_44 : decode cX6_findsFirst 44 = .ok (.aload_n 0, 1) := by decide +kernel
theorem dX6_findsFirst_45 : decode cX6_findsFirst 45 = .ok (.getfield 50, 3) := by decide +kernel
theorem dX6_findsFirst_48 : decode cX6_findsFirst 48 = .ok (.iload_n 3, 1) := by decide +kernel
theorem dX6_findsFirst_49 : decode cX6_findsFirst 49 = .ok (.iload 4, 2) := by decide +kernel
theorem dX6_findsFirst_51 : decode cX6_findsFirst 51 = .ok (.iastore, 1) := by decide +kernel
theorem dX6_findsFirst_52 : decode cX6_findsFirst 52 = .ok (.aload_n 0, 1) := by decide +kernel
theorem dX6_findsFirst_53 : decode cX6_findsFirst 53 = .ok (.iload_n 1, 1) := by decide +kernel
theorem dX6_findsFirst_54 : decode cX6_findsFirst 54 = .ok (.iload_n 1, 1) := by decide +kernel
theorem dX6_findsFirst_55 : decode cX6_findsFirst 55 = .ok (.iconst 1, 1) := by decide +kernel
theorem dX6_findsFirst_56 : decode cX6_findsFirst 56 = .ok (.isub, 1) := by decide +kernel
theorem dX6_findsFirst_57 : decode cX6_findsFirst 57 = .ok (.iand, 1) := by decide +kernel
theorem dX6_findsFirst_58 : decode cX6_findsFirst 58 = .ok (.iload_n 2, 1) := by decide +kernel
theorem dX6_findsFirst_59 : decode cX6_findsFirst 59 = .ok (.iconst 1, 1) := by decide +kernel
theorem dX6_findsFirst_60 : decode cX6_findsFirst 60 = .ok (.iload 4, 2) := by decide +kernel
theorem dX6_findsFirst_62 : decode cX6_findsFirst 62 = .ok (.ishl, 1) := by decide +kernel
theorem dX6_findsFirst_63 : decode cX6_findsFirst 63 = .ok (.ior, 1) := by decide +kernel
theorem dX6_findsFirst_64 : decode cX6_findsFirst 64 = .ok (.invokevirtual 240, 3) := by decide +kernel
theorem dX6_findsFirst_67 : decode cX6_findsFirst 67 = .ok (.ifCond .eq 5, 3) := by decide +kernel
theorem dX6_findsFirst_70 : decode cX6_findsFirst 70 = .ok (.iconst 1, 1) := by decide +kernel
theorem dX6_findsFirst_71 : decode cX6_findsFirst 71 = .ok (.ireturn, 1) := by decide +kernel
theorem dX6_findsFirst_72 : decode cX6_findsFirst 72 = .ok (.iinc 4 1, 3) := by decide +kernel
theorem dX6_findsFirst_75 : decode cX6_findsFirst 75 = .ok (.goto (-61), 3) := by decide +kernel
theorem dX6_findsFirst_78 : decode cX6_findsFirst 78 = .ok (.iconst 0, 1) := by decide +kernel
theorem dX6_findsFirst_79 : decode cX6_findsFirst 79 = .ok (.ireturn, 1) := by decide +kernel
set_option maxRecDepth 20000 in
theorem ggX6_ways_X6_isPupil : GoodIn wsX6_ways wsX6_isPupil := goodIn_r _ [9, 10, 11, 12, 8, 13, 44, 45, 46, 47, 48, 49, 50, 51, 52, 53, 54, 55, 56, 57, 58, 59, 60, 61, 62, 63, 64, 65, 66, 67, 68, 69, 70, 71, 72] (by decide +kernel) (by decide +kernel)
set_option maxRecDepth 20000 in
theorem gX6_ways_X6_isPupil : GoodIn wsX6_ways (wsV RX6 216 RX6 yX6_isPupil wsX6_isPupil) := goodIn_app (goodIn_of _ (by decide +kernel)) ggX6_ways_X6_isPupil
set_option maxRecDepth 20000 in
theorem ggX6_ways_X6_laysOpen : GoodIn wsX6_ways wsX6_laysOpen := goodIn_r _ [17, 18, 19, 20, 21, 44, 45, 46, 47, 48, 49, 50, 51, 52, 53, 54, 55, 56, 57, 58, 59, 60, 61, 62, 63, 64, 65, 66, 67, 68, 69, 70, 71, 72] (by decide +kernel) (by decide +kernel)
set_option maxRecDepth 20000 in
theorem gX6_ways_X6_laysOpen : GoodIn wsX6_ways (wsV RX6 182 RX6 yX6_laysOpen wsX6_laysOpen) := goodIn_app (goodIn_of _ (by decide +kernel)) ggX6_ways_X6_laysOpen
set_option maxRecDepth 20000 in
theorem ggX6_ways_X6_findsFirst : GoodIn wsX6_ways wsX6_findsFirst := goodIn_r _ [25, 26, 18, 4, 27, 28, 29, 30, 31, 32, 33, 8, 34, 22, 23, 24, 44, 45, 46, 47, 48, 49, 50, 51, 52, 53, 54, 55, 56, 57, 58, 59, 60, 61, 62, 63, 64, 65, 66, 67, 68, 69, 70, 71, 72] (by decide +kernel) (by decide +kernel)
set_option maxRecDepth 20000 in
theorem gX6_ways_X6_findsFirst : GoodIn wsX6_ways (wsV RX6 240 RX6 yX6_findsFirst wsX6_findsFirst) := goodIn_app (goodIn_of _ (by decide +kernel)) ggX6_ways_X6_findsFirst
set_option maxRecDepth 20000 in
theorem ggX6_ways_X6_has : GoodIn wsX6_ways wsX6_has := goodIn_r _ [34] (by decide +kernel) (by decide +kernel)
set_option maxRecDepth 20000 in
theorem gX6_ways_X6_has : GoodIn wsX6_ways (va_wsS RX6 93 yX6_has wsX6_has) := goodIn_app (goodIn_of _ (by decide +kernel)) ggX6_ways_X6_has
set_option maxRecDepth 20000 in
theorem ggX6_ways_X6_notes : GoodIn wsX6_ways wsX6_notes := goodIn_r _ [38, 39, 3, 44, 45, 46, 47, 48, 49, 50, 51, 52, 53, 54, 55, 56, 57, 58, 59, 60, 61, 62, 63, 64, 65, 66, 67, 68, 69, 70, 71, 72] (by decide +kernel) (by decide +kernel)
set_option maxRecDepth 20000 in
theorem gX6_ways_X6_notes : GoodIn wsX6_ways (wsV RX6 74 RX6 yX6_notes wsX6_notes) := goodIn_app (goodIn_of _ (by decide +kernel)) ggX6_ways_X6_notes
set_option maxRecDepth 20000 in
theorem ggX6_ways_X6_waysOf : GoodIn wsX6_ways wsX6_waysOf := goodIn_r _ [43, 18, 27, 28, 29, 30, 31, 40, 41, 42, 8, 44, 45, 46, 47, 48, 49, 50, 51, 52, 53, 54, 55, 56, 57, 58, 59, 60, 61, 62, 63, 64, 65, 66, 67, 68, 69, 70, 71, 72] (by decide +kernel) (by decide +kernel)
set_option maxRecDepth 20000 in
theorem gX6_ways_X6_waysOf : GoodIn wsX6_ways (wsV RX6 179 RX6 yX6_waysOf wsX6_waysOf) := goodIn_app (goodIn_of _ (by decide +kernel)) ggX6_ways_X6_waysOf
theorem dX6_ways_0 : decode cX6_ways 0 = .ok (.aload_n 0, 1) := by decide +kernel
theorem dX6_ways_1 : decode cX6_ways 1 = .ok (.iconst 0, 1) := by decide +kernel
theorem dX6_ways_2 : decode cX6_ways 2 = .ok (.putfield 62, 3) := by decide +kernel
theorem dX6_ways_5 : decode cX6_ways 5 = .ok (.aload_n 0, 1) := by decide +kernel
theorem dX6_ways_6 : decode cX6_ways 6 = .ok (.iload_n 1, 1) := by decide +kernel
theorem dX6_ways_7 : decode cX6_ways 7 = .ok (.invokevirtual 216, 3) := by decide +kernel
theorem dX6_ways_10 : decode cX6_ways 10 = .ok (.ifCond .ne 5, 3) := by decide +kernel
theorem dX6_ways_13 : decode cX6_ways 13 = .ok (.iconst (-1), 1) := by decide +kernel
theorem dX6_ways_14 : decode cX6_ways 14 = .ok (.ireturn, 1) := by decide +kernel
theorem dX6_ways_15 : decode cX6_ways 15 = .ok (.aload_n 0, 1) := by decide +kernel
theorem dX6_ways_16 : decode cX6_ways 16 = .ok (.invokevirtual 182, 3) := by decide +kernel
theorem dX6_ways_19 : decode cX6_ways 19 = .ok (.aload_n 0, 1) := by decide +kernel
theorem dX6_ways_20 : decode cX6_ways 20 = .ok (.aload_n 0, 1) := by decide +kernel
theorem dX6_ways_21 : decode cX6_ways 21 = .ok (.getfield 35, 3) := by decide +kernel
theorem dX6_ways_24 : decode cX6_ways 24 = .ok (.iload_n 1, 1) := by decide +kernel
theorem dX6_ways_25 : decode cX6_ways 25 = .ok (.iaload, 1) := by decide +kernel
theorem dX6_ways_26 : decode cX6_ways 26 = .ok (.iconst 0, 1) := by decide +kernel
theorem dX6_ways_27 : decode cX6_ways 27 = .ok (.invokevirtual 240, 3) := by decide +kernel
theorem dX6_ways_30 : decode cX6_ways 30 = .ok (.istore_n 2, 1) := by decide +kernel
theorem dX6_ways_31 : decode cX6_ways 31 = .ok (.aload_n 0, 1) := by decide +kernel
theorem dX6_ways_32 : decode cX6_ways 32 = .ok (.iconst 0, 1) := by decide +kernel
theorem dX6_ways_33 : decode cX6_ways 33 = .ok (.putfield 71, 3) := by decide +kernel
theorem dX6_ways_36 : decode cX6_ways 36 = .ok (.iconst 0, 1) := by decide +kernel
theorem dX6_ways_37 : decode cX6_ways 37 = .ok (.istore_n 3, 1) := by decide +kernel
theorem dX6_ways_38 : decode cX6_ways 38 = .ok (.iload_n 3, 1) := by decide +kernel
theorem dX6_ways_39 : decode cX6_ways 39 = .ok (.bipush 10, 2) := by decide +kernel
theorem dX6_ways_41 : decode cX6_ways 41 = .ok (.if_icmp .ge 36, 3) := by decide +kernel
theorem dX6_ways_44 : decode cX6_ways 44 = .ok (.iload_n 2, 1) := by decide +kernel
theorem dX6_ways_45 : decode cX6_ways 45 = .ok (.ifCond .eq 32, 3) := by decide +kernel
theorem dX6_ways_48 : decode cX6_ways 48 = .ok (.aload_n 0, 1) := by decide +kernel
theorem dX6_ways_49 : decode cX6_ways 49 = .ok (.getfield 35, 3) := by decide +kernel
theorem dX6_ways_52 : decode cX6_ways 52 = .ok (.iload_n 1, 1) := by decide +kernel
theorem dX6_ways_53 : decode cX6_ways 53 = .ok (.iaload, 1) := by decide +kernel
theorem dX6_ways_54 : decode cX6_ways 54 = .ok (.iload_n 3, 1) := by decide +kernel
theorem dX6_ways_55 : decode cX6_ways 55 = .ok (.invokestatic 93, 3) := by decide +kernel
theorem dX6_ways_58 : decode cX6_ways 58 = .ok (.ifCond .eq 13, 3) := by decide +kernel
theorem dX6_ways_61 : decode cX6_ways 61 = .ok (.aload_n 0, 1) := by decide +kernel
theorem dX6_ways_62 : decode cX6_ways 62 = .ok (.aload_n 0, 1) := by decide +kernel
theorem dX6_ways_63 : decode cX6_ways 63 = .ok (.getfield 50, 3) := by decide +kernel
theorem dX6_ways_66 : decode cX6_ways 66 = .ok (.iload_n 3, 1) := by decide +kernel
theorem dX6_ways_67 : decode cX6_ways 67 = .ok (.iaload, 1) := by decide +kernel
theorem dX6_ways_68 : decode cX6_ways 68 = .ok (.invokevirtual 74, 3) := by decide +kernel
theorem dX6_ways_71 : decode cX6_ways 71 = .ok (.iinc 3 1, 3) := by decide +kernel
theorem dX6_ways_74 : decode cX6_ways 74 = .ok (.goto (-36), 3) := by decide +kernel
theorem dX6_ways_77 : decode cX6_ways 77 = .ok (.aload_n 0, 1) := by decide +kernel
theorem dX6_ways_78 : decode cX6_ways 78 = .ok (.aload_n 0, 1) := by decide +kernel
theorem dX6_ways_79 : decode cX6_ways 79 = .ok (.getfield 35, 3) := by decide +kernel
theorem dX6_ways_82 : decode cX6_ways 82 = .ok (.iload_n 1, 1) := by decide +kernel
theorem dX6_ways_83 : decode cX6_ways 83 = .ok (.iaload, 1) := by decide +kernel
theorem dX6_ways_84 : decode cX6_ways 84 = .ok (.iconst 0, 1) := by decide +kernel
theorem dX6_ways_85 : decode cX6_ways 85 = .ok (.invokevirtual 179, 3) := by decide +kernel
theorem dX6_ways_88 : decode cX6_ways 88 = .ok (.ireturn, 1) := by decide +kernel
set_option maxRecDepth 20000 in
theorem ggX6_openTo_X6_has : GoodIn wsX6_openTo wsX6_has := goodIn_r _ [5] (by decide +kernel) (by decide +kernel)
set_option maxRecDepth 20000 in
theorem gX6_openTo_X6_has : GoodIn wsX6_openTo (va_wsS RX6 93 yX6_has wsX6_has) := goodIn_app (goodIn_of _ (by decide +kernel)) ggX6_openTo_X6_has
theorem dX6_openTo_0 : decode cX6_openTo 0 = .ok (.iconst 0, 1) := by decide +kernel
theorem dX6_openTo_1 : decode cX6_openTo 1 = .ok (.istore_n 2, 1) := by decide +kernel
theorem dX6_openTo_2 : decode cX6_openTo 2 = .ok (.iconst 0, 1) := by decide +kernel
theorem dX6_openTo_3 : decode cX6_openTo 3 = .ok (.istore_n 3, 1) := by decide +kernel
theorem dX6_openTo_4 : decode cX6_openTo 4 = .ok (.iload_n 3, 1) := by decide +kernel
theorem dX6_openTo_5 : decode cX6_openTo 5 = .ok (.bipush 10, 2) := by decide +kernel
theorem dX6_openTo_7 : decode cX6_openTo 7 = .ok (.if_icmp .ge 30, 3) := by decide +kernel
theorem dX6_openTo_10 : decode cX6_openTo 10 = .ok (.iload_n 2, 1) := by decide +kernel
theorem dX6_openTo_11 : decode cX6_openTo 11 = .ok (.iload_n 1, 1) := by decide +kernel
theorem dX6_openTo_12 : decode cX6_openTo 12 = .ok (.iload_n 3, 1) := by decide +kernel
theorem dX6_openTo_13 : decode cX6_openTo 13 = .ok (.invokestatic 93, 3) := by decide +kernel
theorem dX6_openTo_16 : decode cX6_openTo 16 = .ok (.ifCond .eq 12, 3) := by decide +kernel
theorem dX6_openTo_19 : decode cX6_openTo 19 = .ok (.aload_n 0, 1) := by decide +kernel
theorem dX6_openTo_20 : decode cX6_openTo 20 = .ok (.getfield 47, 3) := by decide +kernel
theorem dX6_openTo_23 : decode cX6_openTo 23 = .ok (.iload_n 3, 1) := by decide +kernel
theorem dX6_openTo_24 : decode cX6_openTo 24 = .ok (.iaload, 1) := by decide +kernel
theorem dX6_openTo_25 : decode cX6_openTo 25 = .ok (.goto 4, 3) := by decide +kernel
theorem dX6_openTo_28 : decode cX6_openTo 28 = .ok (.iconst 0, 1) := by decide +kernel
theorem dX6_openTo_29 : decode cX6_openTo 29 = .ok (.ior, 1) := by decide +kernel
theorem dX6_openTo_30 : decode cX6_openTo 30 = .ok (.istore_n 2, 1) := by decide +kernel
theorem dX6_openTo_31 : decode cX6_openTo 31 = .ok (.iinc 3 1, 3) := by decide +kernel
theorem dX6_openTo_34 : decode cX6_openTo 34 = .ok (.goto (-30), 3) := by decide +kernel
theorem dX6_openTo_37 : decode cX6_openTo 37 = .ok (.iload_n 2, 1) := by decide +kernel
theorem dX6_openTo_38 : decode cX6_openTo 38 = .ok (.ireturn, 1) := by decide +kernel
set_option maxRecDepth 20000 in
theorem ggX6_crowd_X6_isPupil : GoodIn wsX6_crowd wsX6_isPupil := goodIn_r _ [7, 8, 9, 10, 6, 11, 63, 64, 65, 66, 67, 68, 69, 70, 71, 72, 73, 74, 75, 76, 77, 78, 79, 80, 81, 82, 83, 84, 85, 86, 87, 88, 89, 90, 91] (by decide +kernel) (by decide +kernel)
set_option maxRecDepth 20000 in
theorem gX6_crowd_X6_isPupil : GoodIn wsX6_crowd (wsV RX6 216 RX6 yX6_isPupil wsX6_isPupil) := goodIn_app (goodIn_of _ (by decide +kernel)) ggX6_crowd_X6_isPupil
set_option maxRecDepth 20000 in
theorem ggX6_crowd_X6_doesFit : GoodIn wsX6_crowd wsX6_doesFit := goodIn_r _ [15, 2, 16, 17, 18, 6, 19, 20, 21, 22, 23, 24, 25, 26, 27, 28, 29, 30, 31, 32, 63, 64, 65, 66, 67, 68, 69, 70, 71, 72, 73, 74, 75, 76, 77, 78, 79, 80, 81, 82, 83, 84, 85, 86, 87, 88, 89, 90, 91] (by decide +kernel) (by decide +kernel)
set_option maxRecDepth 20000 in
theorem gX6_crowd_X6_doesFit : GoodIn wsX6_crowd (wsV RX6 234 RX6 yX6_doesFit wsX6_doesFit) := goodIn_app (goodIn_of _ (by decide +kernel)) ggX6_crowd_X6_doesFit
set_option maxRecDepth 20000 in
theorem ggX6_crowd_X6_openTo : GoodIn wsX6_crowd wsX6_openTo := goodIn_r _ [36, 20, 37, 38, 6, 39, 63, 64, 65, 66, 67, 68, 69, 70, 71, 72, 73, 74, 75, 76, 77, 78, 79, 80, 81, 82, 83, 84, 85, 86, 87, 88, 89, 90, 91] (by decide +kernel) (by decide +kernel)
set_option maxRecDepth 20000 in
theorem gX6_crowd_X6_openTo : GoodIn wsX6_crowd (wsV RX6 243 RX6 yX6_openTo wsX6_openTo) := goodIn_app (goodIn_of _ (by decide +kernel)) ggX6_crowd_X6_openTo
set_option maxRecDepth 20000 in
theorem ggX6_crowd_X6_bits : GoodIn wsX6_crowd wsX6_bits := goodIn_r _ [42, 43, 44, 30, 45, 46, 47, 48] (by decide +kernel) (by decide +kernel)
set_option maxRecDepth 20000 in
theorem gX6_crowd_X6_bits : GoodIn wsX6_crowd (va_wsS RX6 161 yX6_bits wsX6_bits) := goodIn_app (goodIn_of _ (by decide +kernel)) ggX6_crowd_X6_bits
set_option maxRecDepth 20000 in
theorem ggX6_crowd_X6_notesTwo : GoodIn wsX6_crowd wsX6_notesTwo := goodIn_r _ [52, 53, 54, 55, 6, 56, 57, 58, 59, 60, 61, 62, 63, 64, 65, 66, 67, 68, 69, 70, 71, 72, 73, 74, 75, 76, 77, 78, 79, 80, 81, 82, 83, 84, 85, 86, 87, 88, 89, 90, 91] (by decide +kernel) (by decide +kernel)
set_option maxRecDepth 20000 in
theorem gX6_crowd_X6_notesTwo : GoodIn wsX6_crowd (wsV RX6 221 RX6 yX6_notesTwo wsX6_notesTwo) := goodIn_app (goodIn_of _ (by decide +kernel)) ggX6_crowd_X6_notesTwo
theorem dX6_crowd_0 : decode cX6_crowd 0 = .ok (.aload_n 0, 1) := by decide +kernel
theorem dX6_crowd_1 : decode cX6_crowd 1 = .ok (.iconst 0, 1) := by decide +kernel
theorem dX6_crowd_2 : decode cX6_crowd 2 = .ok (.putfield 62, 3) := by decide +kernel
theorem dX6_crowd_5 : decode cX6_crowd 5 = .ok (.aload_n 0, 1) := by decide +kernel
theorem dX6_crowd_6 : decode cX6_crowd 6 = .ok (.iload_n 1, 1) := by decide +kernel
theorem dX6_crowd_7 : decode cX6_crowd 7 = .ok (.invokevirtual 216, 3) := by decide +kernel
theorem dX6_crowd_10 : decode cX6_crowd 10 = .ok (.ifCond .ne 5, 3) := by decide +kernel
theorem dX6_crowd_13 : decode cX6_crowd 13 = .ok (.iconst (-1), 1) := by decide +kernel
theorem dX6_crowd_14 : decode cX6_crowd 14 = .ok (.ireturn, 1) := by decide +kernel
theorem dX6_crowd_15 : decode cX6_crowd 15 = .ok (.aload_n 0, 1) := by decide +kernel
theorem dX6_crowd_16 : decode cX6_crowd 16 = .ok (.iload_n 1, 1) := by decide +kernel
theorem dX6_crowd_17 : decode cX6_crowd 17 = .ok (.invokevirtual 234, 3) := by decide +kernel
theorem dX6_crowd_20 : decode cX6_crowd 20 = .ok (.ifCond .eq 6, 3) := by decide +kernel
theorem dX6_crowd_23 : decode cX6_crowd 23 = .ok (.bipush (-2), 2) := by decide +kernel
theorem dX6_crowd_25 : decode cX6_crowd 25 = .ok (.ireturn, 1) := by decide +kernel
theorem dX6_crowd_26 : decode cX6_crowd 26 = .ok (.aload_n 0, 1) := by decide +kernel
theorem dX6_crowd_27 : decode cX6_crowd 27 = .ok (.getfield 35, 3) := by decide +kernel
theorem dX6_crowd_30 : decode cX6_crowd 30 = .ok (.iload_n 1, 1) := by decide +kernel
theorem dX6_crowd_31 : decode cX6_crowd 31 = .ok (.iaload, 1) := by decide +kernel
theorem dX6_crowd_32 : decode cX6_crowd 32 = .ok (.istore_n 2, 1) := by decide +kernel
theorem dX6_crowd_33 : decode cX6_crowd 33 = .ok (.aload_n 0, 1) := by decide +kernel
theorem dX6_crowd_34 : decode cX6_crowd 34 = .ok (.getfield 35, 3) := by decide +kernel
theorem dX6_crowd_37 : decode cX6_crowd 37 = .ok (.iload_n 1, 1) := by decide +kernel
theorem dX6_crowd_38 : decode cX6_crowd 38 = .ok (.iaload, 1) := by decide +kernel
theorem dX6_crowd_39 : decode cX6_crowd 39 = .ok (.iconst 1, 1) := by decide +kernel
theorem dX6_crowd_40 : decode cX6_crowd 40 = .ok (.isub, 1) := by decide +kernel
theorem dX6_crowd_41 : decode cX6_crowd 41 = .ok (.aload_n 0, 1) := by decide +kernel
theorem dX6_crowd_42 : decode cX6_crowd 42 = .ok (.getfield 35, 3) := by decide +kernel
theorem dX6_crowd_45 : decode cX6_crowd 45 = .ok (.iload_n 1, 1) := by decide +kernel
theorem dX6_crowd_46 : decode cX6_crowd 46 = .ok (.iaload, 1) := by decide +kernel
theorem dX6_crowd_47 : decode cX6_crowd 47 = .ok (.iand, 1) := by decide +kernel
theorem dX6_crowd_48 : decode cX6_crowd 48 = .ok (.istore_n 3, 1) := by decide +kernel
theorem dX6_crowd_49 : decode cX6_crowd 49 = .ok (.iload_n 3, 1) := by decide +kernel
theorem dX6_crowd_50 : decode cX6_crowd 50 = .ok (.ifCond .le 45, 3) := by decide +kernel
theorem dX6_crowd_53 : decode cX6_crowd 53 = .ok (.aload_n 0, 1) := by decide +kernel
theorem dX6_crowd_54 : decode cX6_crowd 54 = .ok (.iload_n 3, 1) := by decide +kernel
theorem dX6_crowd_55 : decode cX6_crowd 55 = .ok (.invokevirtual 243, 3) := by decide +kernel
theorem dX6_crowd_58 : decode cX6_crowd 58 = .ok (.invokestatic 161, 3) := by decide +kernel
theorem dX6_crowd_61 : decode cX6_crowd 61 = .ok (.iload_n 3, 1) := by decide +kernel
theorem dX6_crowd_62 : decode cX6_crowd 62 = .ok (.invokestatic 161, 3) := by decide +kernel
theorem dX6_crowd_65 : decode cX6_crowd 65 = .ok (.if_icmp .ge 16, 3) := by decide +kernel
theorem dX6_crowd_68 : decode cX6_crowd 68 = .ok (.iload_n 3, 1) := by decide +kernel
theorem dX6_crowd_69 : decode cX6_crowd 69 = .ok (.invokestatic 161, 3) := by decide +kernel
theorem dX6_crowd_72 : decode cX6_crowd 72 = .ok (.iload_n 2, 1) := by decide +kernel
theorem dX6_crowd_73 : decode cX6_crowd 73 = .ok (.invokestatic 161, 3) := by decide +kernel
theorem dX6_crowd_76 : decode cX6_crowd 76 = .ok (.if_icmp .gt 5, 3) := by decide +kernel
theorem dX6_crowd_79 : decode cX6_crowd 79 = .ok (.iload_n 3, 1) := by decide +kernel
theorem dX6_crowd_80 : decode cX6_crowd 80 = .ok (.istore_n 2, 1) := by decide +kernel
theorem dX6_crowd_81 : decode cX6_crowd 81 = .ok (.iload_n 3, 1) := by decide +kernel
theorem dX6_crowd_82 : decode cX6_crowd 82 = .ok (.iconst 1, 1) := by decide +kernel
theorem dX6_crowd_83 : decode cX6_crowd 83 = .ok (.isub, 1) := by decide +kernel
theorem dX6_crowd_84 : decode cX6_crowd 84 = .ok (.aload_n 0, 1) := by decide +kernel
theorem dX6_crowd_85 : decode cX6_crowd 85 = .ok (.getfield 35, 3) := by decide +kernel
theorem dX6_crowd_88 : decode cX6_crowd 88 = .ok (.iload_n 1, 1) := by decide +kernel
theorem dX6_crowd_89 : decode cX6_crowd 89 = .ok (.iaload, 1) := by decide +kernel
theorem dX6_crowd_90 : decode cX6_crowd 90 = .ok (.iand, 1) := by decide +kernel
theorem dX6_crowd_91 : decode cX6_crowd 91 = .ok (.istore_n 3, 1) := by decide +kernel
theorem dX6_crowd_92 : decode cX6_crowd 92 = .ok (.goto (-43), 3) := by decide +kernel
theorem dX6_crowd_95 : decode cX6_crowd 95 = .ok (.aload_n 0, 1) := by decide +kernel
theorem dX6_crowd_96 : decode cX6_crowd 96 = .ok (.iload_n 2, 1) := by decide +kernel
theorem dX6_crowd_97 : decode cX6_crowd 97 = .ok (.invokestatic 161, 3) := by decide +kernel
theorem dX6_crowd_100 : decode cX6_crowd 100 = .ok (.aload_n 0, 1) := by decide +kernel
theorem dX6_crowd_101 : decode cX6_crowd 101 = .ok (.iload_n 2, 1) := by decide +kernel
theorem dX6_crowd_102 : decode cX6_crowd 102 = .ok (.invokevirtual 243, 3) := by decide +kernel
theorem dX6_crowd_105 : decode cX6_crowd 105 = .ok (.invokevirtual 221, 3) := by decide +kernel
theorem dX6_crowd_108 : decode cX6_crowd 108 = .ok (.iload_n 2, 1) := by decide +kernel
theorem dX6_crowd_109 : decode cX6_crowd 109 = .ok (.ireturn, 1) := by decide +kernel
set_option maxRecDepth 20000 in
theorem ggX6_sets_X6_in : GoodIn wsX6_sets wsX6_in := goodIn_r _ [6] (by decide +kernel) (by decide +kernel)
set_option maxRecDepth 20000 in
theorem gX6_sets_X6_in : GoodIn wsX6_sets (va_wsS RX6 81 yX6_in wsX6_in) := goodIn_app (goodIn_of _ (by decide +kernel)) ggX6_sets_X6_in
set_option maxRecDepth 20000 in
theorem ggX6_sets_X6_laysOpen : GoodIn wsX6_sets wsX6_laysOpen := goodIn_r _ [10, 11, 12, 13, 14, 50, 51, 52, 53, 54, 55, 56, 57, 58, 59, 60, 61, 62, 63, 64, 65, 66, 67, 68, 69, 70, 71, 72, 73, 74, 75, 76, 77, 78] (by decide +kernel) (by decide +kernel)
set_option maxRecDepth 20000 in
theorem gX6_sets_X6_laysOpen : GoodIn wsX6_sets (wsV RX6 182 RX6 yX6_laysOpen wsX6_laysOpen) := goodIn_app (goodIn_of _ (by decide +kernel)) ggX6_sets_X6_laysOpen
set_option maxRecDepth 20000 in
theorem ggX6_sets_X6_bits : GoodIn wsX6_sets wsX6_bits := goodIn_r _ [17, 18, 19, 20, 21, 22, 23, 24] (by decide +kernel) (by decide +kernel)
set_option maxRecDepth 20000 in
theorem gX6_sets_X6_bits : GoodIn wsX6_sets (va_wsS RX6 161 yX6_bits wsX6_bits) := goodIn_app (goodIn_of _ (by decide +kernel)) ggX6_sets_X6_bits
set_option maxRecDepth 20000 in
theorem ggX6_sets_X6_hasWay : GoodIn wsX6_sets wsX6_hasWay := goodIn_r _ [28, 11, 29, 30, 20, 31, 32, 25, 26, 27, 5, 50, 51, 52, 53, 54, 55, 56, 57, 58, 59, 60, 61, 62, 63, 64, 65, 66, 67, 68, 69, 70, 71, 72, 73, 74, 75, 76, 77, 78] (by decide +kernel) (by decide +kernel)
set_option maxRecDepth 20000 in
theorem gX6_sets_X6_hasWay : GoodIn wsX6_sets (wsV RX6 176 RX6 yX6_hasWay wsX6_hasWay) := goodIn_app (goodIn_of _ (by decide +kernel)) ggX6_sets_X6_hasWay
set_option maxRecDepth 20000 in
theorem ggX6_sets_X6_flag : GoodIn wsX6_sets wsX6_flag := goodIn_r _ [35] (by decide +kernel) (by decide +kernel)
set_option maxRecDepth 20000 in
theorem gX6_sets_X6_flag : GoodIn wsX6_sets (va_wsS RX6 224 yX6_flag wsX6_flag) := goodIn_app (goodIn_of _ (by decide +kernel)) ggX6_sets_X6_flag
set_option maxRecDepth 20000 in
theorem ggX6_sets_X6_notesTwo : GoodIn wsX6_sets wsX6_notesTwo := goodIn_r _ [39, 40, 41, 42, 5, 43, 44, 45, 46, 47, 48, 49, 50, 51, 52, 53, 54, 55, 56, 57, 58, 59, 60, 61, 62, 63, 64, 65, 66, 67, 68, 69, 70, 71, 72, 73, 74, 75, 76, 77, 78] (by decide +kernel) (by decide +kernel)
set_option maxRecDepth 20000 in
theorem gX6_sets_X6_notesTwo : GoodIn wsX6_sets (wsV RX6 221 RX6 yX6_notesTwo wsX6_notesTwo) := goodIn_app (goodIn_of _ (by decide +kernel)) ggX6_sets_X6_notesTwo
theorem dX6_sets_0 : decode cX6_sets 0 = .ok (.aload_n 0, 1) := by decide +kernel
theorem dX6_sets_1 : decode cX6_sets 1 = .ok (.iconst 0, 1) := by decide +kernel
theorem dX6_sets_2 : decode cX6_sets 2 = .ok (.putfield 62, 3) := by decide +kernel
theorem dX6_sets_5 : decode cX6_sets 5 = .ok (.iload_n 1, 1) := by decide +kernel
theorem dX6_sets_6 : decode cX6_sets 6 = .ok (.i2l, 1) := by decide +kernel
theorem dX6_sets_7 : decode cX6_sets 7 = .ok (.lconst 1, 1) := by decide +kernel
theorem dX6_sets_8 : decode cX6_sets 8 = .ok (.ldc2_w 219, 3) := by decide +kernel
theorem dX6_sets_11 : decode cX6_sets 11 = .ok (.invokestatic 81, 3) := by decide +kernel
theorem dX6_sets_14 : decode cX6_sets 14 = .ok (.ifCond .ne 5, 3) := by decide +kernel
theorem dX6_sets_17 : decode cX6_sets 17 = .ok (.iconst (-1), 1) := by decide +kernel
theorem dX6_sets_18 : decode cX6_sets 18 = .ok (.ireturn, 1) := by decide +kernel
theorem dX6_sets_19 : decode cX6_sets 19 = .ok (.aload_n 0, 1) := by decide +kernel
theorem dX6_sets_20 : decode cX6_sets 20 = .ok (.invokevirtual 182, 3) := by decide +kernel
theorem dX6_sets_23 : decode cX6_sets 23 = .ok (.iconst 0, 1) := by decide +kernel
theorem dX6_sets_24 : decode cX6_sets 24 = .ok (.istore_n 2, 1) := by decide +kernel
theorem dX6_sets_25 : decode cX6_sets 25 = .ok (.iconst 0, 1) := by decide +kernel
theorem dX6_sets_26 : decode cX6_sets 26 = .ok (.istore_n 3, 1) := by decide +kernel
theorem dX6_sets_27 : decode cX6_sets 27 = .ok (.iconst (-1), 1) := by decide +kernel
theorem dX6_sets_28 : decode cX6_sets 28 = .ok (.istore 4, 2) := by decide +kernel
theorem dX6_sets_30 : decode cX6_sets 30 = .ok (.iconst 0, 1) := by decide +kernel
theorem dX6_sets_31 : decode cX6_sets 31 = .ok (.istore 5, 2) := by decide +kernel
theorem dX6_sets_33 : decode cX6_sets 33 = .ok (.iload 5, 2) := by decide +kernel
theorem dX6_sets_35 : decode cX6_sets 35 = .ok (.sipush 1024, 3) := by decide +kernel
theorem dX6_sets_38 : decode cX6_sets 38 = .ok (.if_icmp .ge 61, 3) := by decide +kernel
theorem dX6_sets_41 : decode cX6_sets 41 = .ok (.iload 5, 2) := by decide +kernel
theorem dX6_sets_43 : decode cX6_sets 43 = .ok (.invokestatic 161, 3) := by decide +kernel
theorem dX6_sets_46 : decode cX6_sets 46 = .ok (.iload_n 1, 1) := by decide +kernel
theorem dX6_sets_47 : decode cX6_sets 47 = .ok (.if_icmp .eq 6, 3) := by decide +kernel
theorem dX6_sets_50 : decode cX6_sets 50 = .ok (.goto 43, 3) := by decide +kernel
theorem dX6_sets_53 : decode cX6_sets 53 = .ok (.aload_n 0, 1) := by decide +kernel
theorem dX6_sets_54 : decode cX6_sets 54 = .ok (.iload 5, 2) := by decide +kernel
theorem dX6_sets_56 : decode cX6_sets 56 = .ok (.iconst 0, 1) := by decide +kernel
theorem dX6_sets_57 : decode cX6_sets 57 = .ok (.invokevirtual 176, 3) := by decide +kernel
theorem dX6_sets_60 : decode cX6_sets 60 = .ok (.istore 6, 2) := by decide +kernel
theorem dX6_sets_62 : decode cX6_sets 62 = .ok (.iinc 2 1, 3) := by decide +kernel
theorem dX6_sets_65 : decode cX6_sets 65 = .ok (.iload_n 3, 1) := by decide +kernel
theorem dX6_sets_66 : decode cX6_sets 66 = .ok (.iload 6, 2) := by decide +kernel
theorem dX6_sets_68 : decode cX6_sets 68 = .ok (.invokestatic 224, 3) := by decide +kernel
theorem dX6_sets_71 : decode cX6_sets 71 = .ok (.iadd, 1) := by decide +kernel
theorem dX6_sets_72 : decode cX6_sets 72 = .ok (.istore_n 3, 1) := by decide +kernel
theorem dX6_sets_73 : decode cX6_sets 73 = .ok (.iload 6, 2) := by decide +kernel
theorem dX6_sets_75 : decode cX6_sets 75 = .ok (.ifCond .ne 14, 3) := by decide +kernel
theorem dX6_sets_78 : decode cX6_sets 78 = .ok (.iload 4, 2) := by decide +kernel
theorem dX6_sets_80 : decode cX6_sets 80 = .ok (.iconst (-1), 1) := by decide +kernel
theorem dX6_sets_81 : decode cX6_sets 81 = .ok (.if_icmp .ne 8, 3) := by decide +kernel
theorem dX6_sets_84 : decode cX6_sets 84 = .ok (.iload 5, 2) := by decide +kernel
theorem dX6_sets_86 : decode cX6_sets 86 = .ok (.goto 5, 3) := by decide +kernel
theorem dX6_sets_89 : decode cX6_sets 89 = .ok (.iload 4, 2) := by decide +kernel
theorem dX6_sets_91 : decode cX6_sets 91 = .ok (.istore 4, 2) := by decide +kernel
theorem dX6_sets_93 : decode cX6_sets 93 = .ok (.iinc 5 1, 3) := by decide +kernel
theorem dX6_sets_96 : decode cX6_sets 96 = .ok (.goto (-63), 3) := by decide +kernel
theorem dX6_sets_99 : decode cX6_sets 99 = .ok (.aload_n 0, 1) := by decide +kernel
theorem dX6_sets_100 : decode cX6_sets 100 = .ok (.iload_n 2, 1) := by decide +kernel
theorem dX6_sets_101 : decode cX6_sets 101 = .ok (.iload 4, 2) := by decide +kernel
theorem dX6_sets_103 : decode cX6_sets 103 = .ok (.invokevirtual 221, 3) := by decide +kernel
theorem dX6_sets_106 : decode cX6_sets 106 = .ok (.iload_n 3, 1) := by decide +kernel
theorem dX6_sets_107 : decode cX6_sets 107 = .ok (.ireturn, 1) := by decide +kernel
set_option maxRecDepth 20000 in
theorem ggX6_both_X6_isSubject : GoodIn wsX6_both wsX6_isSubject := goodIn_r _ [5, 6, 7, 8, 4, 9] (by decide +kernel) (by decide +kernel)
set_option maxRecDepth 20000 in
theorem gX6_both_X6_isSubject : GoodIn wsX6_both (va_wsS RX6 185 yX6_isSubject wsX6_isSubject) := goodIn_app (goodIn_of _ (by decide +kernel)) ggX6_both_X6_isSubject
set_option maxRecDepth 20000 in
theorem ggX6_both_X6_chose : GoodIn wsX6_both wsX6_chose := goodIn_r _ [13, 14, 15, 16, 17, 4, 18, 63, 64, 65, 66, 67, 68, 69, 70, 71, 72, 73, 74, 75, 76, 77, 78, 79, 80, 81, 82, 83, 84, 85, 86, 87, 88, 89, 90, 91] (by decide +kernel) (by decide +kernel)
set_option maxRecDepth 20000 in
theorem gX6_both_X6_chose : GoodIn wsX6_both (wsV RX6 228 RX6 yX6_chose wsX6_chose) := goodIn_app (goodIn_of _ (by decide +kernel)) ggX6_both_X6_chose
set_option maxRecDepth 20000 in
theorem ggX6_both_X6_bits : GoodIn wsX6_both wsX6_bits := goodIn_r _ [21, 22, 23, 24, 25, 26, 27, 28] (by decide +kernel) (by decide +kernel)
set_option maxRecDepth 20000 in
theorem gX6_both_X6_bits : GoodIn wsX6_both (va_wsS RX6 161 yX6_bits wsX6_bits) := goodIn_app (goodIn_of _ (by decide +kernel)) ggX6_both_X6_bits
set_option maxRecDepth 20000 in
theorem ggX6_both_X6_fitting : GoodIn wsX6_both wsX6_fitting := goodIn_r _ [32, 14, 15, 33, 34, 35, 4, 36, 37, 38, 39, 40, 41, 42, 43, 44, 45, 46, 24, 47, 48, 63, 64, 65, 66, 67, 68, 69, 70, 71, 72, 73, 74, 75, 76, 77, 78, 79, 80, 81, 82, 83, 84, 85, 86, 87, 88, 89, 90, 91] (by decide +kernel) (by decide +kernel)
set_option maxRecDepth 20000 in
theorem gX6_both_X6_fitting : GoodIn wsX6_both (wsV RX6 199 RX6 yX6_fitting wsX6_fitting) := goodIn_app (goodIn_of _ (by decide +kernel)) ggX6_both_X6_fitting
set_option maxRecDepth 20000 in
theorem ggX6_both_X6_notesTwo : GoodIn wsX6_both wsX6_notesTwo := goodIn_r _ [52, 53, 54, 55, 4, 56, 57, 58, 59, 60, 61, 62, 63, 64, 65, 66, 67, 68, 69, 70, 71, 72, 73, 74, 75, 76, 77, 78, 79, 80, 81, 82, 83, 84, 85, 86, 87, 88, 89, 90, 91] (by decide +kernel) (by decide +kernel)
set_option maxRecDepth 20000 in
theorem gX6_both_X6_notesTwo : GoodIn wsX6_both (wsV RX6 221 RX6 yX6_notesTwo wsX6_notesTwo) := goodIn_app (goodIn_of _ (by decide +kernel)) ggX6_both_X6_notesTwo
theorem dX6_both_0 : decode cX6_both 0 = .ok (.aload_n 0, 1) := by decide +kernel
theorem dX6_both_1 : decode cX6_both 1 = .ok (.iconst 0, 1) := by decide +kernel
theorem dX6_both_2 : decode cX6_both 2 = .ok (.putfield 62, 3) := by decide +kernel
theorem dX6_both_5 : decode cX6_both 5 = .ok (.iload_n 1, 1) := by decide +kernel
theorem dX6_both_6 : decode cX6_both 6 = .ok (.invokestatic 185, 3) := by decide +kernel
theorem dX6_both_9 : decode cX6_both 9 = .ok (.ifCond .eq 15, 3) := by decide +kernel
theorem dX6_both_12 : decode cX6_both 12 = .ok (.iload_n 2, 1) := by decide +kernel
theorem dX6_both_13 : decode cX6_both 13 = .ok (.invokestatic 185, 3) := by decide +kernel
theorem dX6_both_16 : decode cX6_both 16 = .ok (.ifCond .eq 8, 3) := by decide +kernel
theorem dX6_both_19 : decode cX6_both 19 = .ok (.iload_n 1, 1) := by decide +kernel
theorem dX6_both_20 : decode cX6_both 20 = .ok (.iload_n 2, 1) := by decide +kernel
theorem dX6_both_21 : decode cX6_both 21 = .ok (.if_icmp .ne 5, 3) := by decide +kernel
theorem dX6_both_24 : decode cX6_both 24 = .ok (.iconst (-1), 1) := by decide +kernel
theorem dX6_both_25 : decode cX6_both 25 = .ok (.ireturn, 1) := by decide +kernel
theorem dX6_both_26 : decode cX6_both 26 = .ok (.aload_n 0, 1) := by decide +kernel
theorem dX6_both_27 : decode cX6_both 27 = .ok (.iload_n 1, 1) := by decide +kernel
theorem dX6_both_28 : decode cX6_both 28 = .ok (.invokevirtual 228, 3) := by decide +kernel
theorem dX6_both_31 : decode cX6_both 31 = .ok (.aload_n 0, 1) := by decide +kernel
theorem dX6_both_32 : decode cX6_both 32 = .ok (.iload_n 2, 1) := by decide +kernel
theorem dX6_both_33 : decode cX6_both 33 = .ok (.invokevirtual 228, 3) := by decide +kernel
theorem dX6_both_36 : decode cX6_both 36 = .ok (.iand, 1) := by decide +kernel
theorem dX6_both_37 : decode cX6_both 37 = .ok (.istore_n 3, 1) := by decide +kernel
theorem dX6_both_38 : decode cX6_both 38 = .ok (.aload_n 0, 1) := by decide +kernel
theorem dX6_both_39 : decode cX6_both 39 = .ok (.iload_n 3, 1) := by decide +kernel
theorem dX6_both_40 : decode cX6_both 40 = .ok (.invokestatic 161, 3) := by decide +kernel
theorem dX6_both_43 : decode cX6_both 43 = .ok (.iload_n 3, 1) := by decide +kernel
theorem dX6_both_44 : decode cX6_both 44 = .ok (.aload_n 0, 1) := by decide +kernel
theorem dX6_both_45 : decode cX6_both 45 = .ok (.invokevirtual 199, 3) := by decide +kernel
theorem dX6_both_48 : decode cX6_both 48 = .ok (.iconst (-1), 1) := by decide +kernel
theorem dX6_both_49 : decode cX6_both 49 = .ok (.ixor, 1) := by decide +kernel
theorem dX6_both_50 : decode cX6_both 50 = .ok (.iand, 1) := by decide +kernel
theorem dX6_both_51 : decode cX6_both 51 = .ok (.invokestatic 161, 3) := by decide +kernel
theorem dX6_both_54 : decode cX6_both 54 = .ok (.invokevirtual 221, 3) := by decide +kernel
theorem dX6_both_57 : decode cX6_both 57 = .ok (.iload_n 3, 1) := by decide +kernel
theorem dX6_both_58 : decode cX6_both 58 = .ok (.ireturn, 1) := by decide +kernel
set_option maxRecDepth 20000 in
theorem ggX6_clash_X6_laysOpen : GoodIn wsX6_clash wsX6_laysOpen := goodIn_r _ [7, 2, 8, 9, 10, 48, 49, 50, 51, 52, 53, 54, 55, 56, 57, 58, 59, 60, 61, 62, 63, 64, 65, 66, 67, 68, 69, 70, 71, 72, 73, 74, 75, 76] (by decide +kernel) (by decide +kernel)
set_option maxRecDepth 20000 in
theorem gX6_clash_X6_laysOpen : GoodIn wsX6_clash (wsV RX6 182 RX6 yX6_laysOpen wsX6_laysOpen) := goodIn_app (goodIn_of _ (by decide +kernel)) ggX6_clash_X6_laysOpen
set_option maxRecDepth 20000 in
theorem ggX6_clash_X6_chose : GoodIn wsX6_clash wsX6_chose := goodIn_r _ [14, 15, 16, 17, 18, 6, 19, 48, 49, 50, 51, 52, 53, 54, 55, 56, 57, 58, 59, 60, 61, 62, 63, 64, 65, 66, 67, 68, 69, 70, 71, 72, 73, 74, 75, 76] (by decide +kernel) (by decide +kernel)
set_option maxRecDepth 20000 in
theorem gX6_clash_X6_chose : GoodIn wsX6_clash (wsV RX6 228 RX6 yX6_chose wsX6_chose) := goodIn_app (goodIn_of _ (by decide +kernel)) ggX6_clash_X6_chose
set_option maxRecDepth 20000 in
theorem ggX6_clash_X6_bits : GoodIn wsX6_clash wsX6_bits := goodIn_r _ [22, 23, 24, 25, 26, 27, 28, 29] (by decide +kernel) (by decide +kernel)
set_option maxRecDepth 20000 in
theorem gX6_clash_X6_bits : GoodIn wsX6_clash (va_wsS RX6 161 yX6_bits wsX6_bits) := goodIn_app (goodIn_of _ (by decide +kernel)) ggX6_clash_X6_bits
set_option maxRecDepth 20000 in
theorem ggX6_clash_J6_numberOfTrailingZeros_0f7a4 : GoodIn wsX6_clash wsJ6_numberOfTrailingZeros_0f7a4 := goodIn_r _ [32, 33] (by decide +kernel) (by decide +kernel)
set_option maxRecDepth 20000 in
theorem gX6_clash_J6_numberOfTrailingZeros_0f7a4 : GoodIn wsX6_clash (va_wsS RX6 173 yJ6_numberOfTrailingZeros_0f7a4 wsJ6_numberOfTrailingZeros_0f7a4) := goodIn_app (goodIn_of _ (by decide +kernel)) ggX6_clash_J6_numberOfTrailingZeros_0f7a4
set_option maxRecDepth 20000 in
theorem ggX6_clash_X6_notesTwo : GoodIn wsX6_clash wsX6_notesTwo := goodIn_r _ [37, 38, 39, 40, 6, 41, 42, 43, 44, 45, 46, 47, 48, 49, 50, 51, 52, 53, 54, 55, 56, 57, 58, 59, 60, 61, 62, 63, 64, 65, 66, 67, 68, 69, 70, 71, 72, 73, 74, 75, 76] (by decide +kernel) (by decide +kernel)
set_option maxRecDepth 20000 in
theorem gX6_clash_X6_notesTwo : GoodIn wsX6_clash (wsV RX6 221 RX6 yX6_notesTwo wsX6_notesTwo) := goodIn_app (goodIn_of _ (by decide +kernel)) ggX6_clash_X6_notesTwo
theorem dX6_clash_0 : decode cX6_clash 0 = .ok (.aload_n 0, 1) := by decide +kernel
theorem dX6_clash_1 : decode cX6_clash 1 = .ok (.iconst 0, 1) := by decide +kernel
theorem dX6_clash_2 : decode cX6_clash 2 = .ok (.putfield 62, 3) := by decide +kernel
theorem dX6_clash_5 : decode cX6_clash 5 = .ok (.aload_n 0, 1) := by decide +kernel
theorem dX6_clash_6 : decode cX6_clash 6 = .ok (.invokevirtual 182, 3) := by decide +kernel
theorem dX6_clash_9 : decode cX6_clash 9 = .ok (.bipush (-2), 2) := by decide +kernel
theorem dX6_clash_11 : decode cX6_clash 11 = .ok (.istore_n 1, 1) := by decide +kernel
theorem dX6_clash_12 : decode cX6_clash 12 = .ok (.iconst 0, 1) := by decide +kernel
theorem dX6_clash_13 : decode cX6_clash 13 = .ok (.istore_n 2, 1) := by decide +kernel
theorem dX6_clash_14 : decode cX6_clash 14 = .ok (.iconst 0, 1) := by decide +kernel
theorem dX6_clash_15 : decode cX6_clash 15 = .ok (.istore_n 3, 1) := by decide +kernel
theorem dX6_clash_16 : decode cX6_clash 16 = .ok (.iconst 0, 1) := by decide +kernel
theorem dX6_clash_17 : decode cX6_clash 17 = .ok (.istore 4, 2) := by decide +kernel
theorem dX6_clash_19 : decode cX6_clash 19 = .ok (.iload 4, 2) := by decide +kernel
theorem dX6_clash_21 : decode cX6_clash 21 = .ok (.bipush 10, 2) := by decide +kernel
theorem dX6_clash_23 : decode cX6_clash 23 = .ok (.if_icmp .ge 109, 3) := by decide +kernel
theorem dX6_clash_26 : decode cX6_clash 26 = .ok (.iload 4, 2) := by decide +kernel
theorem dX6_clash_28 : decode cX6_clash 28 = .ok (.iconst 1, 1) := by decide +kernel
theorem dX6_clash_29 : decode cX6_clash 29 = .ok (.iadd, 1) := by decide +kernel
theorem dX6_clash_30 : decode cX6_clash 30 = .ok (.istore 5, 2) := by decide +kernel
theorem dX6_clash_32 : decode cX6_clash 32 = .ok (.iload 5, 2) := by decide +kernel
theorem dX6_clash_34 : decode cX6_clash 34 = .ok (.bipush 10, 2) := by decide +kernel
theorem dX6_clash_36 : decode cX6_clash 36 = .ok (.if_icmp .ge 90, 3) := by decide +kernel
theorem dX6_clash_39 : decode cX6_clash 39 = .ok (.aload_n 0, 1) := by decide +kernel
theorem dX6_clash_40 : decode cX6_clash 40 = .ok (.iload 4, 2) := by decide +kernel
theorem dX6_clash_42 : decode cX6_clash 42 = .ok (.invokevirtual 228, 3) := by decide +kernel
theorem dX6_clash_45 : decode cX6_clash 45 = .ok (.aload_n 0, 1) := by decide +kernel
theorem dX6_clash_46 : decode cX6_clash 46 = .ok (.iload 5, 2) := by decide +kernel
theorem dX6_clash_48 : decode cX6_clash 48 = .ok (.invokevirtual 228, 3) := by decide +kernel
theorem dX6_clash_51 : decode cX6_clash 51 = .ok (.iand, 1) := by decide +kernel
theorem dX6_clash_52 : decode cX6_clash 52 = .ok (.invokestatic 161, 3) := by decide +kernel
theorem dX6_clash_55 : decode cX6_clash 55 = .ok (.istore 6, 2) := by decide +kernel
theorem dX6_clash_57 : decode cX6_clash 57 = .ok (.aload_n 0, 1) := by decide +kernel
theorem dX6_clash_58 : decode cX6_clash 58 = .ok (.getfield 47, 3) := by decide +kernel
theorem dX6_clash_61 : decode cX6_clash 61 = .ok (.iload 4, 2) := by decide +kernel
theorem dX6_clash_63 : decode cX6_clash 63 = .ok (.iaload, 1) := by decide +kernel
theorem dX6_clash_64 : decode cX6_clash 64 = .ok (.aload_n 0, 1) := by decide +kernel
theorem dX6_clash_65 : decode cX6_clash 65 = .ok (.getfield 47, 3) := by decide +kernel
theorem dX6_clash_68 : decode cX6_clash 68 = .ok (.iload 5, 2) := by decide +kernel
theorem dX6_clash_70 : decode cX6_clash 70 = .ok (.iaload, 1) := by decide +kernel
theorem dX6_clash_71 : decode cX6_clash 71 = .ok (.if_icmp .ne 49, 3) := by decide +kernel
theorem dX6_clash_74 : decode cX6_clash 74 = .ok (.aload_n 0, 1) := by decide +kernel
theorem dX6_clash_75 : decode cX6_clash 75 = .ok (.getfield 47, 3) := by decide +kernel
theorem dX6_clash_78 : decode cX6_clash 78 = .ok (.iload 4, 2) := by decide +kernel
theorem dX6_clash_80 : decode cX6_clash 80 = .ok (.iaload, 1) := by decide +kernel
theorem dX6_clash_81 : decode cX6_clash 81 = .ok (.invokestatic 161, 3) := by decide +kernel
theorem dX6_clash_84 : decode cX6_clash 84 = .ok (.iconst 1, 1) := by decide +kernel
theorem dX6_clash_85 : decode cX6_clash 85 = .ok (.if_icmp .ne 35, 3) := by decide +kernel
theorem dX6_clash_88 : decode cX6_clash 88 = .ok (.iload 6, 2) := by decide +kernel
theorem dX6_clash_90 : decode cX6_clash 90 = .ok (.iload_n 2, 1) := by decide +kernel
theorem dX6_clash_91 : decode cX6_clash 91 = .ok (.if_icmp .gt 6, 3) := by decide +kernel
theorem dX6_clash_94 : decode cX6_clash 94 = .ok (.goto 26, 3) := by decide +kernel
theorem dX6_clash_97 : decode cX6_clash 97 = .ok (.iload 6, 2) := by decide +kernel
theorem dX6_clash_99 : decode cX6_clash 99 = .ok (.istore_n 2, 1) := by decide +kernel
theorem dX6_clash_100 : decode cX6_clash 100 = .ok (.bipush 10, 2) := by decide +kernel
theorem dX6_clash_102 : decode cX6_clash 102 = .ok (.iload 4, 2) := by decide +kernel
theorem dX6_clash_104 : decode cX6_clash 104 = .ok (.imul, 1) := by decide +kernel
theorem dX6_clash_105 : decode cX6_clash 105 = .ok (.iload 5, 2) := by decide +kernel
theorem dX6_clash_107 : decode cX6_clash 107 = .ok (.iadd, 1) := by decide +kernel
theorem dX6_clash_108 : decode cX6_clash 108 = .ok (.istore_n 1, 1) := by decide +kernel
theorem dX6_clash_109 : decode cX6_clash 109 = .ok (.aload_n 0, 1) := by decide +kernel
theorem dX6_clash_110 : decode cX6_clash 110 = .ok (.getfield 47, 3) := by decide +kernel
theorem dX6_clash_113 : decode cX6_clash 113 = .ok (.iload 4, 2) := by decide +kernel
theorem dX6_clash_115 : decode cX6_clash 115 = .ok (.iaload, 1) := by decide +kernel
theorem dX6_clash_116 : decode cX6_clash 116 = .ok (.invokestatic 173, 3) := by decide +kernel
theorem dX6_clash_119 : decode cX6_clash 119 = .ok (.istore_n 3, 1) := by decide +kernel
theorem dX6_clash_120 : decode cX6_clash 120 = .ok (.iinc 5 1, 3) := by decide +kernel
theorem dX6_clash_123 : decode cX6_clash 123 = .ok (.goto (-91), 3) := by decide +kernel
theorem dX6_clash_126 : decode cX6_clash 126 = .ok (.iinc 4 1, 3) := by decide +kernel
theorem dX6_clash_129 : decode cX6_clash 129 = .ok (.goto (-110), 3) := by decide +kernel
theorem dX6_clash_132 : decode cX6_clash 132 = .ok (.iload_n 1, 1) := by decide +kernel
theorem dX6_clash_133 : decode cX6_clash 133 = .ok (.ifCond .lt 9, 3) := by decide +kernel
theorem dX6_clash_136 : decode cX6_clash 136 = .ok (.aload_n 0, 1) := by decide +kernel
theorem dX6_clash_137 : decode cX6_clash 137 = .ok (.iload_n 2, 1) := by decide +kernel
theorem dX6_clash_138 : decode cX6_clash 138 = .ok (.iload_n 3, 1) := by decide +kernel
theorem dX6_clash_139 : decode cX6_clash 139 = .ok (.invokevirtual 221, 3) := by decide +kernel
theorem dX6_clash_142 : decode cX6_clash 142 = .ok (.iload_n 1, 1) := by decide +kernel
theorem dX6_clash_143 : decode cX6_clash 143 = .ok (.ireturn, 1) := by decide +kernel
set_option maxRecDepth 20000 in
theorem ggX6_fittingBy_X6_fitting : GoodIn wsX6_fittingBy wsX6_fitting := goodIn_r _ [6, 7, 8, 9, 10, 11, 5, 12, 13, 14, 15, 1, 16, 17, 18, 19, 20, 21, 22, 23, 24, 25, 26, 27, 28, 29, 30, 31, 32, 33, 34, 35, 36, 37, 38, 39, 40, 41, 42, 43, 44, 45, 46, 47, 48, 49, 50, 51, 52, 53] (by decide +kernel) (by decide +kernel)
set_option maxRecDepth 20000 in
theorem gX6_fittingBy_X6_fitting : GoodIn wsX6_fittingBy (wsV RX6 199 RX6 yX6_fitting wsX6_fitting) := goodIn_app (goodIn_of _ (by decide +kernel)) ggX6_fittingBy_X6_fitting
theorem dX6_fittingBy_0 : decode cX6_fittingBy 0 = .ok (.aload_n 0, 1) := by decide +kernel
theorem dX6_fittingBy_1 : decode cX6_fittingBy 1 = .ok (.getfield 29, 3) := by decide +kernel
theorem dX6_fittingBy_4 : decode cX6_fittingBy 4 = .ok (.iload_n 1, 1) := by decide +kernel
theorem dX6_fittingBy_5 : decode cX6_fittingBy 5 = .ok (.iaload, 1) := by decide +kernel
theorem dX6_fittingBy_6 : decode cX6_fittingBy 6 = .ok (.istore_n 3, 1) := by decide +kernel
theorem dX6_fittingBy_7 : decode cX6_fittingBy 7 = .ok (.aload_n 0, 1) := by decide +kernel
theorem dX6_fittingBy_8 : decode cX6_fittingBy 8 = .ok (.getfield 29, 3) := by decide +kernel
theorem dX6_fittingBy_11 : decode cX6_fittingBy 11 = .ok (.iload_n 1, 1) := by decide +kernel
theorem dX6_fittingBy_12 : decode cX6_fittingBy 12 = .ok (.iload_n 2, 1) := by decide +kernel
theorem dX6_fittingBy_13 : decode cX6_fittingBy 13 = .ok (.iastore, 1) := by decide +kernel
theorem dX6_fittingBy_14 : decode cX6_fittingBy 14 = .ok (.aload_n 0, 1) := by decide +kernel
theorem dX6_fittingBy_15 : decode cX6_fittingBy 15 = .ok (.invokevirtual 199, 3) := by decide +kernel
theorem dX6_fittingBy_18 : decode cX6_fittingBy 18 = .ok (.istore 4, 2) := by decide +kernel
theorem dX6_fittingBy_20 : decode cX6_fittingBy 20 = .ok (.aload_n 0, 1) := by decide +kernel
theorem dX6_fittingBy_21 : decode cX6_fittingBy 21 = .ok (.getfield 29, 3) := by decide +kernel
theorem dX6_fittingBy_24 : decode cX6_fittingBy 24 = .ok (.iload_n 1, 1) := by decide +kernel
theorem dX6_fittingBy_25 : decode cX6_fittingBy 25 = .ok (.iload_n 3, 1) := by decide +kernel
theorem dX6_fittingBy_26 : decode cX6_fittingBy 26 = .ok (.iastore, 1) := by decide +kernel
theorem dX6_fittingBy_27 : decode cX6_fittingBy 27 = .ok (.iload 4, 2) := by decide +kernel
theorem dX6_fittingBy_29 : decode cX6_fittingBy 29 = .ok (.ireturn, 1) := by decide +kernel
set_option maxRecDepth 20000 in
theorem ggX6_gain_X6_isSection : GoodIn wsX6_gain wsX6_isSection := goodIn_r _ [7, 8, 9, 10, 6, 11, 79, 80, 81, 82, 83, 84, 85, 86, 87, 88, 89, 90, 91, 92, 93, 94, 95, 96, 97, 98, 99, 100, 101, 102, 103, 104, 105, 106, 107] (by decide +kernel) (by decide +kernel)
set_option maxRecDepth 20000 in
theorem gX6_gain_X6_isSection : GoodIn wsX6_gain (wsV RX6 193 RX6 yX6_isSection wsX6_isSection) := goodIn_app (goodIn_of _ (by decide +kernel)) ggX6_gain_X6_isSection
set_option maxRecDepth 20000 in
theorem ggX6_gain_X6_isColumn : GoodIn wsX6_gain wsX6_isColumn := goodIn_r _ [15, 16, 9, 10, 6, 11, 79, 80, 81, 82, 83, 84, 85, 86, 87, 88, 89, 90, 91, 92, 93, 94, 95, 96, 97, 98, 99, 100, 101, 102, 103, 104, 105, 106, 107] (by decide +kernel) (by decide +kernel)
set_option maxRecDepth 20000 in
theorem gX6_gain_X6_isColumn : GoodIn wsX6_gain (wsV RX6 196 RX6 yX6_isColumn wsX6_isColumn) := goodIn_app (goodIn_of _ (by decide +kernel)) ggX6_gain_X6_isColumn
set_option maxRecDepth 20000 in
theorem ggX6_gain_X6_isLegal : GoodIn wsX6_gain wsX6_isLegal := goodIn_r _ [20, 21, 22, 23, 6, 24, 8, 2, 25, 26, 27, 28, 29, 30, 79, 80, 81, 82, 83, 84, 85, 86, 87, 88, 89, 90, 91, 92, 93, 94, 95, 96, 97, 98, 99, 100, 101, 102, 103, 104, 105, 106, 107] (by decide +kernel) (by decide +kernel)
set_option maxRecDepth 20000 in
theorem gX6_gain_X6_isLegal : GoodIn wsX6_gain (wsV RX6 137 RX6 yX6_isLegal wsX6_isLegal) := goodIn_app (goodIn_of _ (by decide +kernel)) ggX6_gain_X6_isLegal
set_option maxRecDepth 20000 in
theorem ggX6_gain_X6_fitting : GoodIn wsX6_gain wsX6_fitting := goodIn_r _ [34, 35, 36, 37, 38, 39, 6, 40, 41, 8, 42, 2, 43, 44, 45, 46, 47, 48, 49, 50, 51, 79, 80, 81, 82, 83, 84, 85, 86, 87, 88, 89, 90, 91, 92, 93, 94, 95, 96, 97, 98, 99, 100, 101, 102, 103, 104, 105, 106, 107] (by decide +kernel) (by decide +kernel)
set_option maxRecDepth 20000 in
theorem gX6_gain_X6_fitting : GoodIn wsX6_gain (wsV RX6 199 RX6 yX6_fitting wsX6_fitting) := goodIn_app (goodIn_of _ (by decide +kernel)) ggX6_gain_X6_fitting
set_option maxRecDepth 20000 in
theorem ggX6_gain_X6_fittingBy : GoodIn wsX6_gain wsX6_fittingBy := goodIn_r _ [55, 2, 31, 32, 33, 6, 34, 35, 36, 37, 38, 39, 40, 41, 8, 42, 43, 44, 45, 46, 47, 48, 49, 50, 51, 79, 80, 81, 82, 83, 84, 85, 86, 87, 88, 89, 90, 91, 92, 93, 94, 95, 96, 97, 98, 99, 100, 101, 102, 103, 104, 105, 106, 107] (by decide +kernel) (by decide +kernel)
set_option maxRecDepth 20000 in
theorem gX6_gain_X6_fittingBy : GoodIn wsX6_gain (wsV RX6 246 RX6 yX6_fittingBy wsX6_fittingBy) := goodIn_app (goodIn_of _ (by decide +kernel)) ggX6_gain_X6_fittingBy
set_option maxRecDepth 20000 in
theorem ggX6_gain_X6_notesTwo : GoodIn wsX6_gain wsX6_notesTwo := goodIn_r _ [59, 60, 61, 62, 6, 63, 64, 65, 66, 67, 68, 69, 79, 80, 81, 82, 83, 84, 85, 86, 87, 88, 89, 90, 91, 92, 93, 94, 95, 96, 97, 98, 99, 100, 101, 102, 103, 104, 105, 106, 107] (by decide +kernel) (by decide +kernel)
set_option maxRecDepth 20000 in
theorem gX6_gain_X6_notesTwo : GoodIn wsX6_gain (wsV RX6 221 RX6 yX6_notesTwo wsX6_notesTwo) := goodIn_app (goodIn_of _ (by decide +kernel)) ggX6_gain_X6_notesTwo
set_option maxRecDepth 20000 in
theorem ggX6_gain_X6_bits : GoodIn wsX6_gain wsX6_bits := goodIn_r _ [72, 73, 74, 49, 75, 76, 77, 78] (by decide +kernel) (by decide +kernel)
set_option maxRecDepth 20000 in
theorem gX6_gain_X6_bits : GoodIn wsX6_gain (va_wsS RX6 161 yX6_bits wsX6_bits) := goodIn_app (goodIn_of _ (by decide +kernel)) ggX6_gain_X6_bits
theorem dX6_gain_0 : decode cX6_gain 0 = .ok (.aload_n 0, 1) := by decide +kernel
theorem dX6_gain_1 : decode cX6_gain 1 = .ok (.iconst 0, 1) := by decide +kernel
theorem dX6_gain_2 : decode cX6_gain 2 = .ok (.putfield 62, 3) := by decide +kernel
theorem dX6_gain_5 : decode cX6_gain 5 = .ok (.aload_n 0, 1) := by decide +kernel
theorem dX6_gain_6 : decode cX6_gain 6 = .ok (.iload_n 1, 1) := by decide +kernel
theorem dX6_gain_7 : decode cX6_gain 7 = .ok (.invokevirtual 193, 3) := by decide +kernel
theorem dX6_gain_10 : decode cX6_gain 10 = .ok (.ifCond .eq 11, 3) := by decide +kernel
theorem dX6_gain_13 : decode cX6_gain 13 = .ok (.aload_n 0, 1) := by decide +kernel
theorem dX6_gain_14 : decode cX6_gain 14 = .ok (.iload_n 2, 1) := by decide +kernel
theorem dX6_gain_15 : decode cX6_gain 15 = .ok (.invokevirtual 196, 3) := by decide +kernel
theorem dX6_gain_18 : decode cX6_gain 18 = .ok (.ifCond .ne 5, 3) := by decide +kernel
theorem dX6_gain_21 : decode cX6_gain 21 = .ok (.iconst (-1), 1) := by decide +kernel
theorem dX6_gain_22 : decode cX6_gain 22 = .ok (.ireturn, 1) := by decide +kernel
theorem dX6_gain_23 : decode cX6_gain 23 = .ok (.aload_n 0, 1) := by decide +kernel
theorem dX6_gain_24 : decode cX6_gain 24 = .ok (.getfield 29, 3) := by decide +kernel
theorem dX6_gain_27 : decode cX6_gain 27 = .ok (.iload_n 1, 1) := by decide +kernel
theorem dX6_gain_28 : decode cX6_gain 28 = .ok (.iaload, 1) := by decide +kernel
theorem dX6_gain_29 : decode cX6_gain 29 = .ok (.iload_n 2, 1) := by decide +kernel
theorem dX6_gain_30 : decode cX6_gain 30 = .ok (.if_icmp .eq 12, 3) := by decide +kernel
theorem dX6_gain_33 : decode cX6_gain 33 = .ok (.aload_n 0, 1) := by decide +kernel
theorem dX6_gain_34 : decode cX6_gain 34 = .ok (.iload_n 1, 1) := by decide +kernel
theorem dX6_gain_35 : decode cX6_gain 35 = .ok (.iload_n 2, 1) := by decide +kernel
theorem dX6_gain_36 : decode cX6_gain 36 = .ok (.invokevirtual 137, 3) := by decide +kernel
theorem dX6_gain_39 : decode cX6_gain 39 = .ok (.ifCond .ne 7, 3) := by decide +kernel
theorem dX6_gain_42 : decode cX6_gain 42 = .ok (.sipush (-1000), 3) := by decide +kernel
theorem dX6_gain_45 : decode cX6_gain 45 = .ok (.ireturn, 1) := by decide +kernel
theorem dX6_gain_46 : decode cX6_gain 46 = .ok (.aload_n 0, 1) := by decide +kernel
theorem dX6_gain_47 : decode cX6_gain 47 = .ok (.invokevirtual 199, 3) := by decide +kernel
theorem dX6_gain_50 : decode cX6_gain 50 = .ok (.istore_n 3, 1) := by decide +kernel
theorem dX6_gain_51 : decode cX6_gain 51 = .ok (.aload_n 0, 1) := by decide +kernel
theorem dX6_gain_52 : decode cX6_gain 52 = .ok (.iload_n 1, 1) := by decide +kernel
theorem dX6_gain_53 : decode cX6_gain 53 = .ok (.iload_n 2, 1) := by decide +kernel
theorem dX6_gain_54 : decode cX6_gain 54 = .ok (.invokevirtual 246, 3) := by decide +kernel
theorem dX6_gain_57 : decode cX6_gain 57 = .ok (.istore 4, 2) := by decide +kernel
theorem dX6_gain_59 : decode cX6_gain 59 = .ok (.aload_n 0, 1) := by decide +kernel
theorem dX6_gain_60 : decode cX6_gain 60 = .ok (.iload 4, 2) := by decide +kernel
theorem dX6_gain_62 : decode cX6_gain 62 = .ok (.iload_n 3, 1) := by decide +kernel
theorem dX6_gain_63 : decode cX6_gain 63 = .ok (.iconst (-1), 1) := by decide +kernel
theorem dX6_gain_64 : decode cX6_gain 64 = .ok (.ixor, 1) := by decide +kernel
theorem dX6_gain_65 : decode cX6_gain 65 = .ok (.iand, 1) := by decide +kernel
theorem dX6_gain_66 : decode cX6_gain 66 = .ok (.iload_n 3, 1) := by decide +kernel
theorem dX6_gain_67 : decode cX6_gain 67 = .ok (.iload 4, 2) := by decide +kernel
theorem dX6_gain_69 : decode cX6_gain 69 = .ok (.iconst (-1), 1) := by decide +kernel
theorem dX6_gain_70 : decode cX6_gain 70 = .ok (.ixor, 1) := by decide +kernel
theorem dX6_gain_71 : decode cX6_gain 71 = .ok (.iand, 1) := by decide +kernel
theorem dX6_gain_72 : decode cX6_gain 72 = .ok (.invokevirtual 221, 3) := by decide +kernel
theorem dX6_gain_75 : decode cX6_gain 75 = .ok (.iload 4, 2) := by decide +kernel
theorem dX6_gain_77 : decode cX6_gain 77 = .ok (.invokestatic 161, 3) := by decide +kernel
theorem dX6_gain_80 : decode cX6_gain 80 = .ok (.iload_n 3, 1) := by decide +kernel
theorem dX6_gain_81 : decode cX6_gain 81 = .ok (.invokestatic 161, 3) := by decide +kernel
theorem dX6_gain_84 : decode cX6_gain 84 = .ok (.isub, 1) := by decide +kernel
theorem dX6_gain_85 : decode cX6_gain 85 = .ok (.ireturn, 1) := by decide +kernel
theorem dX6_isHeld_0 : decode cX6_isHeld 0 = .ok (.aload_n 0, 1) := by decide +kernel
theorem dX6_isHeld_1 : decode cX6_isHeld 1 = .ok (.getfield 158, 3) := by decide +kernel
theorem dX6_isHeld_4 : decode cX6_isHeld 4 = .ok (.iload_n 1, 1) := by decide +kernel
theorem dX6_isHeld_5 : decode cX6_isHeld 5 = .ok (.iand, 1) := by decide +kernel
theorem dX6_isHeld_6 : decode cX6_isHeld 6 = .ok (.iload_n 2, 1) := by decide +kernel
theorem dX6_isHeld_7 : decode cX6_isHeld 7 = .ok (.iconst (-1), 1) := by decide +kernel
theorem dX6_isHeld_8 : decode cX6_isHeld 8 = .ok (.ixor, 1) := by decide +kernel
theorem dX6_isHeld_9 : decode cX6_isHeld 9 = .ok (.iand, 1) := by decide +kernel
theorem dX6_isHeld_10 : decode cX6_isHeld 10 = .ok (.ifCond .ne 7, 3) := by decide +kernel
theorem dX6_isHeld_13 : decode cX6_isHeld 13 = .ok (.iconst 1, 1) := by decide +kernel
theorem dX6_isHeld_14 : decode cX6_isHeld 14 = .ok (.goto 4, 3) := by decide +kernel
theorem dX6_isHeld_17 : decode cX6_isHeld 17 = .ok (.iconst 0, 1) := by decide +kernel
theorem dX6_isHeld_18 : decode cX6_isHeld 18 = .ok (.ireturn, 1) := by decide +kernel
set_option maxRecDepth 20000 in
theorem ggX6_bestMove_X6_fitting : GoodIn wsX6_bestMove wsX6_fitting := goodIn_r _ [9, 10, 11, 12, 13, 14, 8, 15, 16, 2, 17, 4, 18, 19, 20, 21, 22, 23, 24, 25, 26, 59, 60, 61, 62, 63, 64, 65, 66, 67, 68, 69, 70, 71, 72, 73, 74, 75, 76, 77, 78, 79, 80, 81, 82, 83, 84, 85, 86, 87] (by decide +kernel) (by decide +kernel)
set_option maxRecDepth 20000 in
theorem gX6_bestMove_X6_fitting : GoodIn wsX6_bestMove (wsV RX6 199 RX6 yX6_fitting wsX6_fitting) := goodIn_app (goodIn_of _ (by decide +kernel)) ggX6_bestMove_X6_fitting
set_option maxRecDepth 20000 in
theorem ggX6_bestMove_X6_bits : GoodIn wsX6_bestMove wsX6_bits := goodIn_r _ [29, 30, 31, 24, 32, 33, 34, 35] (by decide +kernel) (by decide +kernel)
set_option maxRecDepth 20000 in
theorem gX6_bestMove_X6_bits : GoodIn wsX6_bestMove (va_wsS RX6 161 yX6_bits wsX6_bits) := goodIn_app (goodIn_of _ (by decide +kernel)) ggX6_bestMove_X6_bits
set_option maxRecDepth 20000 in
theorem ggX6_bestMove_X6_isLegal : GoodIn wsX6_bestMove wsX6_isLegal := goodIn_r _ [39, 40, 41, 42, 8, 43, 2, 4, 44, 45, 46, 47, 48, 49, 59, 60, 61, 62, 63, 64, 65, 66, 67, 68, 69, 70, 71, 72, 73, 74, 75, 76, 77, 78, 79, 80, 81, 82, 83, 84, 85, 86, 87] (by decide +kernel) (by decide +kernel)
set_option maxRecDepth 20000 in
theorem gX6_bestMove_X6_isLegal : GoodIn wsX6_bestMove (wsV RX6 137 RX6 yX6_isLegal wsX6_isLegal) := goodIn_app (goodIn_of _ (by decide +kernel)) ggX6_bestMove_X6_isLegal
set_option maxRecDepth 20000 in
theorem ggX6_bestMove_X6_fittingBy : GoodIn wsX6_bestMove wsX6_fittingBy := goodIn_r _ [53, 4, 5, 6, 7, 8, 9, 10, 11, 12, 13, 14, 15, 16, 2, 17, 18, 19, 20, 21, 22, 23, 24, 25, 26, 59, 60, 61, 62, 63, 64, 65, 66, 67, 68, 69, 70, 71, 72, 73, 74, 75, 76, 77, 78, 79, 80, 81, 82, 83, 84, 85, 86, 87] (by decide +kernel) (by decide +kernel)
set_option maxRecDepth 20000 in
theorem gX6_bestMove_X6_fittingBy : GoodIn wsX6_bestMove (wsV RX6 246 RX6 yX6_fittingBy wsX6_fittingBy) := goodIn_app (goodIn_of _ (by decide +kernel)) ggX6_bestMove_X6_fittingBy
set_option maxRecDepth 20000 in
theorem ggX6_bestMove_X6_isHeld : GoodIn wsX6_bestMove wsX6_isHeld := goodIn_r _ [57, 58, 59, 60, 61, 62, 63, 64, 65, 66, 67, 68, 69, 70, 71, 72, 73, 74, 75, 76, 77, 78, 79, 80, 81, 82, 83, 84, 85, 86, 87] (by decide +kernel) (by decide +kernel)
set_option maxRecDepth 20000 in
theorem gX6_bestMove_X6_isHeld : GoodIn wsX6_bestMove (wsV RX6 252 RX6 yX6_isHeld wsX6_isHeld) := goodIn_app (goodIn_of _ (by decide +kernel)) ggX6_bestMove_X6_isHeld
theorem dX6_bestMove_0 : decode cX6_bestMove 0 = .ok (.aload_n 0, 1) := by decide +kernel
theorem dX6_bestMove_1 : decode cX6_bestMove 1 = .ok (.invokevirtual 199, 3) := by decide +kernel
theorem dX6_bestMove_4 : decode cX6_bestMove 4 = .ok (.istore_n 1, 1) := by decide +kernel
theorem dX6_bestMove_5 : decode cX6_bestMove 5 = .ok (.bipush (-2), 2) := by decide +kernel
theorem dX6_bestMove_7 : decode cX6_bestMove 7 = .ok (.istore_n 2, 1) := by decide +kernel
theorem dX6_bestMove_8 : decode cX6_bestMove 8 = .ok (.aload_n 0, 1) := by decide +kernel
theorem dX6_bestMove_9 : decode cX6_bestMove 9 = .ok (.iload_n 1, 1) := by decide +kernel
theorem dX6_bestMove_10 : decode cX6_bestMove 10 = .ok (.invokestatic 161, 3) := by decide +kernel
theorem dX6_bestMove_13 : decode cX6_bestMove 13 = .ok (.putfield 249, 3) := by decide +kernel
theorem dX6_bestMove_16 : decode cX6_bestMove 16 = .ok (.iconst 0, 1) := by decide +kernel
theorem dX6_bestMove_17 : decode cX6_bestMove 17 = .ok (.istore_n 3, 1) := by decide +kernel
theorem dX6_bestMove_18 : decode cX6_bestMove 18 = .ok (.iload_n 3, 1) := by decide +kernel
theorem dX6_bestMove_19 : decode cX6_bestMove 19 = .ok (.aload_n 0, 1) := by decide +kernel
theorem dX6_bestMove_20 : decode cX6_bestMove 20 = .ok (.getfield 87, 3) := by decide +kernel
theorem dX6_bestMove_23 : decode cX6_bestMove 23 = .ok (.if_icmp .ge 102, 3) := by decide +kernel
theorem dX6_bestMove_26 : decode cX6_bestMove 26 = .ok (.iconst 0, 1) := by decide +kernel
theorem dX6_bestMove_27 : decode cX6_bestMove 27 = .ok (.istore 4, 2) := by decide +kernel
theorem dX6_bestMove_29 : decode cX6_bestMove 29 = .ok (.iload 4, 2) := by decide +kernel
theorem dX6_bestMove_31 : decode cX6_bestMove 31 = .ok (.aload_n 0, 1) := by decide +kernel
theorem dX6_bestMove_32 : decode cX6_bestMove 32 = .ok (.getfield 13, 3) := by decide +kernel
theorem dX6_bestMove_35 : decode cX6_bestMove 35 = .ok (.if_icmp .ge 84, 3) := by decide +kernel
theorem dX6_bestMove_38 : decode cX6_bestMove 38 = .ok (.aload_n 0, 1) := by decide +kernel
theorem dX6_bestMove_39 : decode cX6_bestMove 39 = .ok (.getfield 29, 3) := by decide +kernel
theorem dX6_bestMove_42 : decode cX6_bestMove 42 = .ok (.iload_n 3, 1) := by decide +kernel
theorem dX6_bestMove_43 : decode cX6_bestMove 43 = .ok (.iaload, 1) := by decide +kernel
theorem dX6_bestMove_44 : decode cX6_bestMove 44 = .ok (.iload 4, 2) := by decide +kernel
theorem dX6_bestMove_46 : decode cX6_bestMove 46 = .ok (.if_icmp .eq 67, 3) := by decide +kernel
theorem dX6_bestMove_49 : decode cX6_bestMove 49 = .ok (.aload_n 0, 1) := by decide +kernel
theorem dX6_bestMove_50 : decode cX6_bestMove 50 = .ok (.iload_n 3, 1) := by decide +kernel
theorem dX6_bestMove_51 : decode cX6_bestMove 51 = .ok (.iload 4, 2) := by decide +kernel
theorem dX6_bestMove_53 : decode cX6_bestMove 53 = .ok (.invokevirtual 137, 3) := by decide +kernel
theorem dX6_bestMove_56 : decode cX6_bestMove 56 = .ok (.ifCond .ne 6, 3) := by decide +kernel
theorem dX6_bestMove_59 : decode cX6_bestMove 59 = .ok (.goto 54, 3) := by decide +kernel
theorem dX6_bestMove_62 : decode cX6_bestMove 62 = .ok (.aload_n 0, 1) := by decide +kernel
theorem dX6_bestMove_63 : decode cX6_bestMove 63 = .ok (.iload_n 3, 1) := by decide +kernel
theorem dX6_bestMove_64 : decode cX6_bestMove 64 = .ok (.iload 4, 2) := by decide +kernel
theorem dX6_bestMove_66 : decode cX6_bestMove 66 = .ok (.invokevirtual 246, 3) := by decide +kernel
theorem dX6_bestMove_69 : decode cX6_bestMove 69 = .ok (.istore 5, 2) := by decide +kernel
theorem dX6_bestMove_71 : decode cX6_bestMove 71 = .ok (.aload_n 0, 1) := by decide +kernel
theorem dX6_bestMove_72 : decode cX6_bestMove 72 = .ok (.iload_n 1, 1) := by decide +kernel
theorem dX6_bestMove_73 : decode cX6_bestMove 73 = .ok (.iload 5, 2) := by decide +kernel
theorem dX6_bestMove_75 : decode cX6_bestMove 75 = .ok (.invokevirtual 252, 3) := by decide +kernel
theorem dX6_bestMove_78 : decode cX6_bestMove 78 = .ok (.ifCond .eq 35, 3) := by decide +kernel
theorem dX6_bestMove_81 : decode cX6_bestMove 81 = .ok (.iload 5, 2) := by decide +kernel
theorem dX6_bestMove_83 : decode cX6_bestMove 83 = .ok (.invokestatic 161, 3) := by decide +kernel
theorem dX6_bestMove_86 : decode cX6_bestMove 86 = .ok (.aload_n 0, 1) := by decide +kernel
theorem dX6_bestMove_87 : decode cX6_bestMove 87 = .ok (.getfield 249, 3) := by decide +kernel
theorem dX6_bestMove_90 : decode cX6_bestMove 90 = .ok (.if_icmp .gt 6, 3) := by decide +kernel
theorem dX6_bestMove_93 : decode cX6_bestMove 93 = .ok (.goto 20, 3) := by decide +kernel
theorem dX6_bestMove_96 : decode cX6_bestMove 96 = .ok (.aload_n 0, 1) := by decide +kernel
theorem dX6_bestMove_97 : decode cX6_bestMove 97 = .ok (.iload 5, 2) := by decide +kernel
theorem dX6_bestMove_99 : decode cX6_bestMove 99 = .ok (.invokestatic 161, 3) := by decide +kernel
theorem dX6_bestMove_102 : decode cX6_bestMove 102 = .ok (.putfield 249, 3) := by decide +kernel
theorem dX6_bestMove_105 : decode cX6_bestMove 105 = .ok (.bipush 100, 2) := by decide +kernel
theorem dX6_bestMove_107 : decode cX6_bestMove 107 = .ok (.iload_n 3, 1) := by decide +kernel
theorem dX6_bestMove_108 : decode cX6_bestMove 108 = .ok (.imul, 1) := by decide +kernel
theorem dX6_bestMove_109 : decode cX6_bestMove 109 = .ok (.iload 4, 2) := by decide +kernel
theorem dX6_bestMove_111 : decode cX6_bestMove 111 = .ok (.iadd, 1) := by decide +kernel
theorem dX6_bestMove_112 : decode cX6_bestMove 112 = .ok (.istore_n 2, 1) := by decide +kernel
theorem dX6_bestMove_113 : decode cX6_bestMove 113 = .ok (.iinc 4 1, 3) := by decide +kernel
theorem dX6_bestMove_116 : decode cX6_bestMove 116 = .ok (.goto (-87), 3) := by decide +kernel
theorem dX6_bestMove_119 : decode cX6_bestMove 119 = .ok (.iinc 3 1, 3) := by decide +kernel
theorem dX6_bestMove_122 : decode cX6_bestMove 122 = .ok (.goto (-104), 3) := by decide +kernel
theorem dX6_bestMove_125 : decode cX6_bestMove 125 = .ok (.iload_n 2, 1) := by decide +kernel
theorem dX6_bestMove_126 : decode cX6_bestMove 126 = .ok (.ireturn, 1) := by decide +kernel
set_option maxRecDepth 20000 in
theorem ggX6_best_X6_bestMove : GoodIn wsX6_best wsX6_bestMove := goodIn_r _ [7, 2, 8, 9, 10, 11, 12, 13, 6, 14, 15, 16, 17, 18, 19, 20, 21, 22, 23, 24, 25, 26, 27, 28, 29, 30, 31, 32, 33, 34, 35, 36, 37, 38, 39, 40, 41, 42, 43, 44, 45, 46, 47, 48, 49, 50, 51, 52, 53, 54, 55, 56, 57, 58, 59, 60, 61, 62, 63, 74, 75, 76, 77, 78, 79, 80, 81, 82, 83, 84, 85, 86, 87, 88, 89, 90, 91, 92, 93, 94, 95, 96, 97, 98, 99, 100, 101, 102] (by decide +kernel) (by decide +kernel)
set_option maxRecDepth 20000 in
theorem gX6_best_X6_bestMove : GoodIn wsX6_best (wsV RX6 255 RX6 yX6_bestMove wsX6_bestMove) := goodIn_app (goodIn_of _ (by decide +kernel)) ggX6_best_X6_bestMove
set_option maxRecDepth 20000 in
theorem ggX6_best_X6_notesOne : GoodIn wsX6_best wsX6_notesOne := goodIn_r _ [67, 68, 69, 70, 71, 6, 72, 73, 74, 75, 76, 77, 78, 79, 80, 81, 82, 83, 84, 85, 86, 87, 88, 89, 90, 91, 92, 93, 94, 95, 96, 97, 98, 99, 100, 101, 102] (by decide +kernel) (by decide +kernel)
set_option maxRecDepth 20000 in
theorem gX6_best_X6_notesOne : GoodIn wsX6_best (wsV RX6 78 RX6 yX6_notesOne wsX6_notesOne) := goodIn_app (goodIn_of _ (by decide +kernel)) ggX6_best_X6_notesOne
theorem dX6_best_0 : decode cX6_best 0 = .ok (.aload_n 0, 1) := by decide +kernel
theorem dX6_best_1 : decode cX6_best 1 = .ok (.iconst 0, 1) := by decide +kernel
theorem dX6_best_2 : decode cX6_best 2 = .ok (.putfield 62, 3) := by decide +kernel
theorem dX6_best_5 : decode cX6_best 5 = .ok (.aload_n 0, 1) := by decide +kernel
theorem dX6_best_6 : decode cX6_best 6 = .ok (.invokevirtual 255, 3) := by decide +kernel
theorem dX6_best_9 : decode cX6_best 9 = .ok (.istore_n 1, 1) := by decide +kernel
theorem dX6_best_10 : decode cX6_best 10 = .ok (.iload_n 1, 1) := by decide +kernel
theorem dX6_best_11 : decode cX6_best 11 = .ok (.ifCond .lt 11, 3) := by decide +kernel
theorem dX6_best_14 : decode cX6_best 14 = .ok (.aload_n 0, 1) := by decide +kernel
theorem dX6_best_15 : decode cX6_best 15 = .ok (.aload_n 0, 1) := by decide +kernel
theorem dX6_best_16 : decode cX6_best 16 = .ok (.getfield 249, 3) := by decide +kernel
theorem dX6_best_19 : decode cX6_best 19 = .ok (.invokevirtual 78, 3) := by decide +kernel
theorem dX6_best_22 : decode cX6_best 22 = .ok (.iload_n 1, 1) := by decide +kernel
theorem dX6_best_23 : decode cX6_best 23 = .ok (.ireturn, 1) := by decide +kernel
set_option maxRecDepth 20000 in
theorem ggX6_climbs_X6_in : GoodIn wsX6_climbs wsX6_in := goodIn_r _ [7] (by decide +kernel) (by decide +kernel)
set_option maxRecDepth 20000 in
theorem gX6_climbs_X6_in : GoodIn wsX6_climbs (va_wsS RX6 81 yX6_in wsX6_in) := goodIn_app (goodIn_of _ (by decide +kernel)) ggX6_climbs_X6_in
set_option maxRecDepth 20000 in
theorem ggX6_climbs_X6_bestMove : GoodIn wsX6_climbs wsX6_bestMove := goodIn_r _ [11, 12, 13, 14, 3, 15, 16, 17, 6, 18, 19, 20, 21, 22, 23, 24, 25, 26, 27, 28, 29, 30, 31, 32, 33, 34, 35, 36, 37, 38, 39, 40, 41, 42, 43, 44, 45, 46, 47, 48, 49, 50, 51, 52, 53, 54, 55, 56, 57, 58, 59, 60, 61, 62, 63, 64, 65, 66, 67, 78, 79, 80, 81, 82, 83, 84, 85, 86, 87, 88, 89, 90, 91, 92, 93, 94, 95, 96, 97, 98, 99, 100, 101, 102, 103, 104, 105, 106] (by decide +kernel) (by decide +kernel)
set_option maxRecDepth 20000 in
theorem gX6_climbs_X6_bestMove : GoodIn wsX6_climbs (wsV RX6 255 RX6 yX6_bestMove wsX6_bestMove) := goodIn_app (goodIn_of _ (by decide +kernel)) ggX6_climbs_X6_bestMove
set_option maxRecDepth 20000 in
theorem ggX6_climbs_X6_fitting : GoodIn wsX6_climbs wsX6_fitting := goodIn_r _ [18, 19, 20, 21, 22, 23, 6, 24, 25, 13, 26, 3, 27, 28, 29, 30, 31, 32, 33, 34, 35, 78, 79, 80, 81, 82, 83, 84, 85, 86, 87, 88, 89, 90, 91, 92, 93, 94, 95, 96, 97, 98, 99, 100, 101, 102, 103, 104, 105, 106] (by decide +kernel) (by decide +kernel)
set_option maxRecDepth 20000 in
theorem gX6_climbs_X6_fitting : GoodIn wsX6_climbs (wsV RX6 199 RX6 yX6_fitting wsX6_fitting) := goodIn_app (goodIn_of _ (by decide +kernel)) ggX6_climbs_X6_fitting
set_option maxRecDepth 20000 in
theorem ggX6_climbs_X6_bits : GoodIn wsX6_climbs wsX6_bits := goodIn_r _ [38, 39, 40, 33, 41, 42, 43, 44] (by decide +kernel) (by decide +kernel)
set_option maxRecDepth 20000 in
theorem gX6_climbs_X6_bits : GoodIn wsX6_climbs (va_wsS RX6 161 yX6_bits wsX6_bits) := goodIn_app (goodIn_of _ (by decide +kernel)) ggX6_climbs_X6_bits
set_option maxRecDepth 20000 in
theorem ggX6_climbs_X6_notesOne : GoodIn wsX6_climbs wsX6_notesOne := goodIn_r _ [71, 72, 73, 74, 75, 6, 76, 77, 78, 79, 80, 81, 82, 83, 84, 85, 86, 87, 88, 89, 90, 91, 92, 93, 94, 95, 96, 97, 98, 99, 100, 101, 102, 103, 104, 105, 106] (by decide +kernel) (by decide +kernel)
set_option maxRecDepth 20000 in
theorem gX6_climbs_X6_notesOne : GoodIn wsX6_climbs (wsV RX6 78 RX6 yX6_notesOne wsX6_notesOne) := goodIn_app (goodIn_of _ (by decide +kernel)) ggX6_climbs_X6_notesOne
theorem dX6_climbs_0 : decode cX6_climbs 0 = .ok (.aload_n 0, 1) := by decide +kernel
theorem dX6_climbs_1 : decode cX6_climbs 1 = .ok (.iconst 0, 1) := by decide +kernel
theorem dX6_climbs_2 : decode cX6_climbs 2 = .ok (.putfield 62, 3) := by decide +kernel
theorem dX6_climbs_5 : decode cX6_climbs 5 = .ok (.iload_n 1, 1) := by decide +kernel
theorem dX6_climbs_6 : decode cX6_climbs 6 = .ok (.i2l, 1) := by decide +kernel
theorem dX6_climbs_7 : decode cX6_climbs 7 = .ok (.lconst 1, 1) := by decide +kernel
theorem dX6_climbs_8 : decode cX6_climbs 8 = .ok (.ldc2_w 191, 3) := by decide +kernel
theorem dX6_climbs_11 : decode cX6_climbs 11 = .ok (.invokestatic 81, 3) := by decide +kernel
theorem dX6_climbs_14 : decode cX6_climbs 14 = .ok (.ifCond .ne 5, 3) := by decide +kernel
theorem dX6_climbs_17 : decode cX6_climbs 17 = .ok (.iconst (-1), 1) := by decide +kernel
theorem dX6_climbs_18 : decode cX6_climbs 18 = .ok (.ireturn, 1) := by decide +kernel
theorem dX6_climbs_19 : decode cX6_climbs 19 = .ok (.iconst 0, 1) := by decide +kernel
theorem dX6_climbs_20 : decode cX6_climbs 20 = .ok (.istore_n 2, 1) := by decide +kernel
theorem dX6_climbs_21 : decode cX6_climbs 21 = .ok (.iconst 1, 1) := by decide +kernel
theorem dX6_climbs_22 : decode cX6_climbs 22 = .ok (.istore_n 3, 1) := by decide +kernel
theorem dX6_climbs_23 : decode cX6_climbs 23 = .ok (.iload_n 2, 1) := by decide +kernel
theorem dX6_climbs_24 : decode cX6_climbs 24 = .ok (.iload_n 1, 1) := by decide +kernel
theorem dX6_climbs_25 : decode cX6_climbs 25 = .ok (.if_icmp .ge 49, 3) := by decide +kernel
theorem dX6_climbs_28 : decode cX6_climbs 28 = .ok (.iload_n 3, 1) := by decide +kernel
theorem dX6_climbs_29 : decode cX6_climbs 29 = .ok (.ifCond .eq 45, 3) := by decide +kernel
theorem dX6_climbs_32 : decode cX6_climbs 32 = .ok (.aload_n 0, 1) := by decide +kernel
theorem dX6_climbs_33 : decode cX6_climbs 33 = .ok (.invokevirtual 255, 3) := by decide +kernel
theorem dX6_climbs_36 : decode cX6_climbs 36 = .ok (.istore 4, 2) := by decide +kernel
theorem dX6_climbs_38 : decode cX6_climbs 38 = .ok (.iload 4, 2) := by decide +kernel
theorem dX6_climbs_40 : decode cX6_climbs 40 = .ok (.ifCond .lt 7, 3) := by decide +kernel
theorem dX6_climbs_43 : decode cX6_climbs 43 = .ok (.iconst 1, 1) := by decide +kernel
theorem dX6_climbs_44 : decode cX6_climbs 44 = .ok (.goto 4, 3) := by decide +kernel
theorem dX6_climbs_47 : decode cX6_climbs 47 = .ok (.iconst 0, 1) := by decide +kernel
theorem dX6_climbs_48 : decode cX6_climbs 48 = .ok (.istore_n 3, 1) := by decide +kernel
theorem dX6_climbs_49 : decode cX6_climbs 49 = .ok (.iload_n 3, 1) := by decide +kernel
theorem dX6_climbs_50 : decode cX6_climbs 50 = .ok (.ifCond .eq 21, 3) := by decide +kernel
theorem dX6_climbs_53 : decode cX6_climbs 53 = .ok (.aload_n 0, 1) := by decide +kernel
theorem dX6_climbs_54 : decode cX6_climbs 54 = .ok (.getfield 29, 3) := by decide +kernel
theorem dX6_climbs_57 : decode cX6_climbs 57 = .ok (.iload 4, 2) := by decide +kernel
theorem dX6_climbs_59 : decode cX6_climbs 59 = .ok (.bipush 100, 2) := by decide +kernel
theorem dX6_climbs_61 : decode cX6_climbs 61 = .ok (.idiv, 1) := by decide +kernel
theorem dX6_climbs_62 : decode cX6_climbs 62 = .ok (.iload 4, 2) := by decide +kernel
theorem dX6_climbs_64 : decode cX6_climbs 64 = .ok (.bipush 100, 2) := by decide +kernel
theorem dX6_climbs_66 : decode cX6_climbs 66 = .ok (.irem, 1) := by decide +kernel
theorem dX6_climbs_67 : decode cX6_climbs 67 = .ok (.iastore, 1) := by decide +kernel
theorem dX6_climbs_68 : decode cX6_climbs 68 = .ok (.iinc 2 1, 3) := by decide +kernel
theorem dX6_climbs_71 : decode cX6_climbs 71 = .ok (.goto (-48), 3) := by decide +kernel
theorem dX6_climbs_74 : decode cX6_climbs 74 = .ok (.aload_n 0, 1) := by decide +kernel
theorem dX6_climbs_75 : decode cX6_climbs 75 = .ok (.aload_n 0, 1) := by decide +kernel
theorem dX6_climbs_76 : decode cX6_climbs 76 = .ok (.invokevirtual 199, 3) := by decide +kernel
theorem dX6_climbs_79 : decode cX6_climbs 79 = .ok (.invokestatic 161, 3) := by decide +kernel
theorem dX6_climbs_82 : decode cX6_climbs 82 = .ok (.invokevirtual 78, 3) := by decide +kernel
theorem dX6_climbs_85 : decode cX6_climbs 85 = .ok (.iload_n 2, 1) := by decide +kernel
theorem dX6_climbs_86 : decode cX6_climbs 86 = .ok (.ireturn, 1) := by decide +kernel
set_option maxRecDepth 20000 in
theorem ggX6_exchange_X6_fitting : GoodIn wsX6_exchange wsX6_fitting := goodIn_r _ [8, 9, 10, 11, 12, 13, 7, 14, 15, 2, 16, 3, 17, 18, 19, 20, 21, 22, 23, 24, 25, 76, 77, 78, 79, 80, 81, 82, 83, 84, 85, 86, 87, 88, 89, 90, 91, 92, 93, 94, 95, 96, 97, 98, 99, 100, 101, 102, 103, 104] (by decide +kernel) (by decide +kernel)
set_option maxRecDepth 20000 in
theorem gX6_exchange_X6_fitting : GoodIn wsX6_exchange (wsV RX6 199 RX6 yX6_fitting wsX6_fitting) := goodIn_app (goodIn_of _ (by decide +kernel)) ggX6_exchange_X6_fitting
set_option maxRecDepth 20000 in
theorem ggX6_exchange_X6_bits : GoodIn wsX6_exchange wsX6_bits := goodIn_r _ [28, 29, 30, 23, 31, 32, 33, 34] (by decide +kernel) (by decide +kernel)
set_option maxRecDepth 20000 in
theorem gX6_exchange_X6_bits : GoodIn wsX6_exchange (va_wsS RX6 161 yX6_bits wsX6_bits) := goodIn_app (goodIn_of _ (by decide +kernel)) ggX6_exchange_X6_bits
set_option maxRecDepth 20000 in
theorem ggX6_exchange_X6_swap : GoodIn wsX6_exchange wsX6_swap := goodIn_r _ [38, 39, 40, 41, 7, 42, 3, 43, 44, 45, 46, 47, 48, 49, 50, 51, 52, 53, 54, 2, 55, 56, 57, 58, 59, 60, 76, 77, 78, 79, 80, 81, 82, 83, 84, 85, 86, 87, 88, 89, 90, 91, 92, 93, 94, 95, 96, 97, 98, 99, 100, 101, 102, 103, 104] (by decide +kernel) (by decide +kernel)
set_option maxRecDepth 20000 in
theorem gX6_exchange_X6_swap : GoodIn wsX6_exchange (wsV RX6 210 RX6 yX6_swap wsX6_swap) := goodIn_app (goodIn_of _ (by decide +kernel)) ggX6_exchange_X6_swap
set_option maxRecDepth 20000 in
theorem ggX6_exchange_X6_changes : GoodIn wsX6_exchange wsX6_changes := goodIn_r _ [42, 3, 76, 77, 78, 79, 80, 81, 82, 83, 84, 85, 86, 87, 88, 89, 90, 91, 92, 93, 94, 95, 96, 97, 98, 99, 100, 101, 102, 103, 104] (by decide +kernel) (by decide +kernel)
set_option maxRecDepth 20000 in
theorem gX6_exchange_X6_changes : GoodIn wsX6_exchange (wsV RX6 203 RX6 yX6_changes wsX6_changes) := goodIn_app (goodIn_of _ (by decide +kernel)) ggX6_exchange_X6_changes
set_option maxRecDepth 20000 in
theorem ggX6_exchange_X6_isHeld : GoodIn wsX6_exchange wsX6_isHeld := goodIn_r _ [64, 65, 76, 77, 78, 79, 80, 81, 82, 83, 84, 85, 86, 87, 88, 89, 90, 91, 92, 93, 94, 95, 96, 97, 98, 99, 100, 101, 102, 103, 104] (by decide +kernel) (by decide +kernel)
set_option maxRecDepth 20000 in
theorem gX6_exchange_X6_isHeld : GoodIn wsX6_exchange (wsV RX6 252 RX6 yX6_isHeld wsX6_isHeld) := goodIn_app (goodIn_of _ (by decide +kernel)) ggX6_exchange_X6_isHeld
set_option maxRecDepth 20000 in
theorem ggX6_exchange_X6_notesOne : GoodIn wsX6_exchange wsX6_notesOne := goodIn_r _ [69, 70, 71, 72, 73, 7, 74, 75, 76, 77, 78, 79, 80, 81, 82, 83, 84, 85, 86, 87, 88, 89, 90, 91, 92, 93, 94, 95, 96, 97, 98, 99, 100, 101, 102, 103, 104] (by decide +kernel) (by decide +kernel)
set_option maxRecDepth 20000 in
theorem gX6_exchange_X6_notesOne : GoodIn wsX6_exchange (wsV RX6 78 RX6 yX6_notesOne wsX6_notesOne) := goodIn_app (goodIn_of _ (by decide +kernel)) ggX6_exchange_X6_notesOne
theorem dX6_exchange_0 : decode cX6_exchange 0 = .ok (.aload_n 0, 1) := by decide +kernel
theorem dX6_exchange_1 : decode cX6_exchange 1 = .ok (.iconst 0, 1) := by decide +kernel
theorem dX6_exchange_2 : decode cX6_exchange 2 = .ok (.putfield 62, 3) := by decide +kernel
theorem dX6_exchange_5 : decode cX6_exchange 5 = .ok (.aload_n 0, 1) := by decide +kernel
theorem dX6_exchange_6 : decode cX6_exchange 6 = .ok (.invokevirtual 199, 3) := by decide +kernel
theorem dX6_exchange_9 : decode cX6_exchange 9 = .ok (.istore_n 1, 1) := by decide +kernel
theorem dX6_exchange_10 : decode cX6_exchange 10 = .ok (.bipush (-2), 2) := by decide +kernel
theorem dX6_exchange_12 : decode cX6_exchange 12 = .ok (.istore_n 2, 1) := by decide +kernel
theorem dX6_exchange_13 : decode cX6_exchange 13 = .ok (.iload_n 1, 1) := by decide +kernel
theorem dX6_exchange_14 : decode cX6_exchange 14 = .ok (.invokestatic 161, 3) := by decide +kernel
theorem dX6_exchange_17 : decode cX6_exchange 17 = .ok (.istore_n 3, 1) := by decide +kernel
theorem dX6_exchange_18 : decode cX6_exchange 18 = .ok (.iconst 0, 1) := by decide +kernel
theorem dX6_exchange_19 : decode cX6_exchange 19 = .ok (.istore 4, 2) := by decide +kernel
theorem dX6_exchange_21 : decode cX6_exchange 21 = .ok (.iload 4, 2) := by decide +kernel
theorem dX6_exchange_23 : decode cX6_exchange 23 = .ok (.aload_n 0, 1) := by decide +kernel
theorem dX6_exchange_24 : decode cX6_exchange 24 = .ok (.getfield 87, 3) := by decide +kernel
theorem dX6_exchange_27 : decode cX6_exchange 27 = .ok (.if_icmp .ge 136, 3) := by decide +kernel
theorem dX6_exchange_30 : decode cX6_exchange 30 = .ok (.iload 4, 2) := by decide +kernel
theorem dX6_exchange_32 : decode cX6_exchange 32 = .ok (.iconst 1, 1) := by decide +kernel
theorem dX6_exchange_33 : decode cX6_exchange 33 = .ok (.iadd, 1) := by decide +kernel
theorem dX6_exchange_34 : decode cX6_exchange 34 = .ok (.istore 5, 2) := by decide +kernel
theorem dX6_exchange_36 : decode cX6_exchange 36 = .ok (.iload 5, 2) := by decide +kernel
theorem dX6_exchange_38 : decode cX6_exchange 38 = .ok (.aload_n 0, 1) := by decide +kernel
theorem dX6_exchange_39 : decode cX6_exchange 39 = .ok (.getfield 87, 3) := by decide +kernel
theorem dX6_exchange_42 : decode cX6_exchange 42 = .ok (.if_icmp .ge 115, 3) := by decide +kernel
theorem dX6_exchange_45 : decode cX6_exchange 45 = .ok (.aload_n 0, 1) := by decide +kernel
theorem dX6_exchange_46 : decode cX6_exchange 46 = .ok (.getfield 29, 3) := by decide +kernel
theorem dX6_exchange_49 : decode cX6_exchange 49 = .ok (.iload 4, 2) := by decide +kernel
theorem dX6_exchange_51 : decode cX6_exchange 51 = .ok (.iaload, 1) := by decide +kernel
theorem dX6_exchange_52 : decode cX6_exchange 52 = .ok (.bipush (-2), 2) := by decide +kernel
theorem dX6_exchange_54 : decode cX6_exchange 54 = .ok (.if_icmp .eq 97, 3) := by decide +kernel
theorem dX6_exchange_57 : decode cX6_exchange 57 = .ok (.aload_n 0, 1) := by decide +kernel
theorem dX6_exchange_58 : decode cX6_exchange 58 = .ok (.getfield 29, 3) := by decide +kernel
theorem dX6_exchange_61 : decode cX6_exchange 61 = .ok (.iload 5, 2) := by decide +kernel
theorem dX6_exchange_63 : decode cX6_exchange 63 = .ok (.iaload, 1) := by decide +kernel
theorem dX6_exchange_64 : decode cX6_exchange 64 = .ok (.bipush (-2), 2) := by decide +kernel
theorem dX6_exchange_66 : decode cX6_exchange 66 = .ok (.if_icmp .eq 85, 3) := by decide +kernel
theorem dX6_exchange_69 : decode cX6_exchange 69 = .ok (.aload_n 0, 1) := by decide +kernel
theorem dX6_exchange_70 : decode cX6_exchange 70 = .ok (.getfield 29, 3) := by decide +kernel
theorem dX6_exchange_73 : decode cX6_exchange 73 = .ok (.iload 4, 2) := by decide +kernel
theorem dX6_exchange_75 : decode cX6_exchange 75 = .ok (.iaload, 1) := by decide +kernel
theorem dX6_exchange_76 : decode cX6_exchange 76 = .ok (.aload_n 0, 1) := by decide +kernel
theorem dX6_exchange_77 : decode cX6_exchange 77 = .ok (.getfield 29, 3) := by decide +kernel
theorem dX6_exchange_80 : decode cX6_exchange 80 = .ok (.iload 5, 2) := by decide +kernel
theorem dX6_exchange_82 : decode cX6_exchange 82 = .ok (.iaload, 1) := by decide +kernel
theorem dX6_exchange_83 : decode cX6_exchange 83 = .ok (.if_icmp .eq 68, 3) := by decide +kernel
theorem dX6_exchange_86 : decode cX6_exchange 86 = .ok (.aload_n 0, 1) := by decide +kernel
theorem dX6_exchange_87 : decode cX6_exchange 87 = .ok (.iload 4, 2) := by decide +kernel
theorem dX6_exchange_89 : decode cX6_exchange 89 = .ok (.iload 5, 2) := by decide +kernel
theorem dX6_exchange_91 : decode cX6_exchange 91 = .ok (.invokevirtual 210, 3) := by decide +kernel
theorem dX6_exchange_94 : decode cX6_exchange 94 = .ok (.ifCond .ne 6, 3) := by decide +kernel
theorem dX6_exchange_97 : decode cX6_exchange 97 = .ok (.goto 54, 3) := by decide +kernel
theorem dX6_exchange_100 : decode cX6_exchange 100 = .ok (.aload_n 0, 1) := by decide +kernel
theorem dX6_exchange_101 : decode cX6_exchange 101 = .ok (.invokevirtual 199, 3) := by decide +kernel
theorem dX6_exchange_104 : decode cX6_exchange 104 = .ok (.istore 6, 2) := by decide +kernel
theorem dX6_exchange_106 : decode cX6_exchange 106 = .ok (.aload_n 0, 1) := by decide +kernel
theorem dX6_exchange_107 : decode cX6_exchange 107 = .ok (.iload 4, 2) := by decide +kernel
theorem dX6_exchange_109 : decode cX6_exchange 109 = .ok (.iload 5, 2) := by decide +kernel
theorem dX6_exchange_111 : decode cX6_exchange 111 = .ok (.invokevirtual 203, 3) := by decide +kernel
theorem dX6_exchange_114 : decode cX6_exchange 114 = .ok (.aload_n 0, 1) := by decide +kernel
theorem dX6_exchange_115 : decode cX6_exchange 115 = .ok (.iload_n 1, 1) := by decide +kernel
theorem dX6_exchange_116 : decode cX6_exchange 116 = .ok (.iload 6, 2) := by decide +kernel
theorem dX6_exchange_118 : decode cX6_exchange 118 = .ok (.invokevirtual 252, 3) := by decide +kernel
theorem dX6_exchange_121 : decode cX6_exchange 121 = .ok (.ifCond .eq 30, 3) := by decide +kernel
theorem dX6_exchange_124 : decode cX6_exchange 124 = .ok (.iload 6, 2) := by decide +kernel
theorem dX6_exchange_126 : decode cX6_exchange 126 = .ok (.invokestatic 161, 3) := by decide +kernel
theorem dX6_exchange_129 : decode cX6_exchange 129 = .ok (.iload_n 3, 1) := by decide +kernel
theorem dX6_exchange_130 : decode cX6_exchange 130 = .ok (.if_icmp .gt 6, 3) := by decide +kernel
theorem dX6_exchange_133 : decode cX6_exchange 133 = .ok (.goto 18, 3) := by decide +kernel
theorem dX6_exchange_136 : decode cX6_exchange 136 = .ok (.iload 6, 2) := by decide +kernel
theorem dX6_exchange_138 : decode cX6_exchange 138 = .ok (.invokestatic 161, 3) := by decide +kernel
theorem dX6_exchange_141 : decode cX6_exchange 141 = .ok (.istore_n 3, 1) := by decide +kernel
theorem dX6_exchange_142 : decode cX6_exchange 142 = .ok (.bipush 100, 2) := by decide +kernel
theorem dX6_exchange_144 : decode cX6_exchange 144 = .ok (.iload 4, 2) := by decide +kernel
theorem dX6_exchange_146 : decode cX6_exchange 146 = .ok (.imul, 1) := by decide +kernel
theorem dX6_exchange_147 : decode cX6_exchange 147 = .ok (.iload 5, 2) := by decide +kernel
theorem dX6_exchange_149 : decode cX6_exchange 149 = .ok (.iadd, 1) := by decide +kernel
theorem dX6_exchange_150 : decode cX6_exchange 150 = .ok (.istore_n 2, 1) := by decide +kernel
theorem dX6_exchange_151 : decode cX6_exchange 151 = .ok (.iinc 5 1, 3) := by decide +kernel
theorem dX6_exchange_154 : decode cX6_exchange 154 = .ok (.goto (-118), 3) := by decide +kernel
theorem dX6_exchange_157 : decode cX6_exchange 157 = .ok (.iinc 4 1, 3) := by decide +kernel
theorem dX6_exchange_160 : decode cX6_exchange 160 = .ok (.goto (-139), 3) := by decide +kernel
theorem dX6_exchange_163 : decode cX6_exchange 163 = .ok (.iload_n 2, 1) := by decide +kernel
theorem dX6_exchange_164 : decode cX6_exchange 164 = .ok (.ifCond .lt 8, 3) := by decide +kernel
theorem dX6_exchange_167 : decode cX6_exchange 167 = .ok (.aload_n 0, 1) := by decide +kernel
theorem dX6_exchange_168 : decode cX6_exchange 168 = .ok (.iload_n 3, 1) := by decide +kernel
theorem dX6_exchange_169 : decode cX6_exchange 169 = .ok (.invokevirtual 78, 3) := by decide +kernel
theorem dX6_exchange_172 : decode cX6_exchange 172 = .ok (.iload_n 2, 1) := by decide +kernel
theorem dX6_exchange_173 : decode cX6_exchange 173 = .ok (.ireturn, 1) := by decide +kernel
set_option maxRecDepth 20000 in
theorem ggX6_splits_X6_isSubject : GoodIn wsX6_splits wsX6_isSubject := goodIn_r _ [10, 11, 12, 13, 9, 14] (by decide +kernel) (by decide +kernel)
set_option maxRecDepth 20000 in
theorem gX6_splits_X6_isSubject : GoodIn wsX6_splits (va_wsS RX6 185 yX6_isSubject wsX6_isSubject) := goodIn_app (goodIn_of _ (by decide +kernel)) ggX6_splits_X6_isSubject
set_option maxRecDepth 20000 in
theorem ggX6_splits_X6_isTeacher : GoodIn wsX6_splits wsX6_isTeacher := goodIn_r _ [17, 11, 12, 13, 9, 14] (by decide +kernel) (by decide +kernel)
set_option maxRecDepth 20000 in
theorem gX6_splits_X6_isTeacher : GoodIn wsX6_splits (va_wsS RX6 188 yX6_isTeacher wsX6_isTeacher) := goodIn_app (goodIn_of _ (by decide +kernel)) ggX6_splits_X6_isTeacher
set_option maxRecDepth 20000 in
theorem ggX6_splits_X6_isLegal : GoodIn wsX6_splits wsX6_isLegal := goodIn_r _ [21, 22, 23, 24, 9, 25, 2, 5, 4, 26, 27, 28, 29, 30, 74, 75, 76, 77, 78, 79, 80, 81, 82, 83, 84, 85, 86, 87, 88, 89, 90, 91, 92, 93, 94, 95, 96, 97, 98, 99, 100, 101, 102] (by decide +kernel) (by decide +kernel)
set_option maxRecDepth 20000 in
theorem gX6_splits_X6_isLegal : GoodIn wsX6_splits (wsV RX6 137 RX6 yX6_isLegal wsX6_isLegal) := goodIn_app (goodIn_of _ (by decide +kernel)) ggX6_splits_X6_isLegal
set_option maxRecDepth 20000 in
theorem ggX6_splits_X6_fittingBy : GoodIn wsX6_splits wsX6_fittingBy := goodIn_r _ [34, 5, 35, 36, 37, 9, 38, 39, 40, 41, 42, 43, 44, 45, 2, 3, 46, 47, 48, 49, 50, 51, 52, 53, 54, 74, 75, 76, 77, 78, 79, 80, 81, 82, 83, 84, 85, 86, 87, 88, 89, 90, 91, 92, 93, 94, 95, 96, 97, 98, 99, 100, 101, 102] (by decide +kernel) (by decide +kernel)
set_option maxRecDepth 20000 in
theorem gX6_splits_X6_fittingBy : GoodIn wsX6_splits (wsV RX6 246 RX6 yX6_fittingBy wsX6_fittingBy) := goodIn_app (goodIn_of _ (by decide +kernel)) ggX6_splits_X6_fittingBy
set_option maxRecDepth 20000 in
theorem ggX6_splits_X6_bits : GoodIn wsX6_splits wsX6_bits := goodIn_r _ [57, 58, 59, 52, 60, 61, 62, 63] (by decide +kernel) (by decide +kernel)
set_option maxRecDepth 20000 in
theorem gX6_splits_X6_bits : GoodIn wsX6_splits (va_wsS RX6 161 yX6_bits wsX6_bits) := goodIn_app (goodIn_of _ (by decide +kernel)) ggX6_splits_X6_bits
set_option maxRecDepth 20000 in
theorem ggX6_splits_X6_notesOne : GoodIn wsX6_splits wsX6_notesOne := goodIn_r _ [67, 68, 69, 70, 71, 9, 72, 73, 74, 75, 76, 77, 78, 79, 80, 81, 82, 83, 84, 85, 86, 87, 88, 89, 90, 91, 92, 93, 94, 95, 96, 97, 98, 99, 100, 101, 102] (by decide +kernel) (by decide +kernel)
set_option maxRecDepth 20000 in
theorem gX6_splits_X6_notesOne : GoodIn wsX6_splits (wsV RX6 78 RX6 yX6_notesOne wsX6_notesOne) := goodIn_app (goodIn_of _ (by decide +kernel)) ggX6_splits_X6_notesOne
theorem dX6_splits_0 : decode cX6_splits 0 = .ok (.aload_n 0, 1) := by decide +kernel
theorem dX6_splits_1 : decode cX6_splits 1 = .ok (.iconst 0, 1) := by decide +kernel
theorem dX6_splits_2 : decode cX6_splits 2 = .ok (.putfield 62, 3) := by decide +kernel
theorem dX6_splits_5 : decode cX6_splits 5 = .ok (.iload_n 1, 1) := by decide +kernel
theorem dX6_splits_6 : decode cX6_splits 6 = .ok (.invokestatic 185, 3) := by decide +kernel
theorem dX6_splits_9 : decode cX6_splits 9 = .ok (.ifCond .eq 10, 3) := by decide +kernel
theorem dX6_splits_12 : decode cX6_splits 12 = .ok (.iload_n 2, 1) := by decide +kernel
theorem dX6_splits_13 : decode cX6_splits 13 = .ok (.invokestatic 188, 3) := by decide +kernel
theorem dX6_splits_16 : decode cX6_splits 16 = .ok (.ifCond .ne 5, 3) := by decide +kernel
theorem dX6_splits_19 : decode cX6_splits 19 = .ok (.iconst (-1), 1) := by decide +kernel
theorem dX6_splits_20 : decode cX6_splits 20 = .ok (.ireturn, 1) := by decide +kernel
theorem dX6_splits_21 : decode cX6_splits 21 = .ok (.aload_n 0, 1) := by decide +kernel
theorem dX6_splits_22 : decode cX6_splits 22 = .ok (.getfield 87, 3) := by decide +kernel
theorem dX6_splits_25 : decode cX6_splits 25 = .ok (.istore_n 3, 1) := by decide +kernel
theorem dX6_splits_26 : decode cX6_splits 26 = .ok (.aload_n 0, 1) := by decide +kernel
theorem dX6_splits_27 : decode cX6_splits 27 = .ok (.getfield 20, 3) := by decide +kernel
theorem dX6_splits_30 : decode cX6_splits 30 = .ok (.iload_n 3, 1) := by decide +kernel
theorem dX6_splits_31 : decode cX6_splits 31 = .ok (.iload_n 1, 1) := by decide +kernel
theorem dX6_splits_32 : decode cX6_splits 32 = .ok (.iastore, 1) := by decide +kernel
theorem dX6_splits_33 : decode cX6_splits 33 = .ok (.aload_n 0, 1) := by decide +kernel
theorem dX6_splits_34 : decode cX6_splits 34 = .ok (.getfield 23, 3) := by decide +kernel
theorem dX6_splits_37 : decode cX6_splits 37 = .ok (.iload_n 3, 1) := by decide +kernel
theorem dX6_splits_38 : decode cX6_splits 38 = .ok (.iload_n 2, 1) := by decide +kernel
theorem dX6_splits_39 : decode cX6_splits 39 = .ok (.iastore, 1) := by decide +kernel
theorem dX6_splits_40 : decode cX6_splits 40 = .ok (.aload_n 0, 1) := by decide +kernel
theorem dX6_splits_41 : decode cX6_splits 41 = .ok (.getfield 29, 3) := by decide +kernel
theorem dX6_splits_44 : decode cX6_splits 44 = .ok (.iload_n 3, 1) := by decide +kernel
theorem dX6_splits_45 : decode cX6_splits 45 = .ok (.bipush (-2), 2) := by decide +kernel
theorem dX6_splits_47 : decode cX6_splits 47 = .ok (.iastore, 1) := by decide +kernel
theorem dX6_splits_48 : decode cX6_splits 48 = .ok (.aload_n 0, 1) := by decide +kernel
theorem dX6_splits_49 : decode cX6_splits 49 = .ok (.dup, 1) := by decide +kernel
theorem dX6_splits_50 : decode cX6_splits 50 = .ok (.getfield 87, 3) := by decide +kernel
theorem dX6_splits_53 : decode cX6_splits 53 = .ok (.iconst 1, 1) := by decide +kernel
theorem dX6_splits_54 : decode cX6_splits 54 = .ok (.iadd, 1) := by decide +kernel
theorem dX6_splits_55 : decode cX6_splits 55 = .ok (.putfield 87, 3) := by decide +kernel
theorem dX6_splits_58 : decode cX6_splits 58 = .ok (.bipush (-2), 2) := by decide +kernel
theorem dX6_splits_60 : decode cX6_splits 60 = .ok (.istore 4, 2) := by decide +kernel
theorem dX6_splits_62 : decode cX6_splits 62 = .ok (.iconst (-1), 1) := by decide +kernel
theorem dX6_splits_63 : decode cX6_splits 63 = .ok (.istore 5, 2) := by decide +kernel
theorem dX6_splits_65 : decode cX6_splits 65 = .ok (.iconst 0, 1) := by decide +kernel
theorem dX6_splits_66 : decode cX6_splits 66 = .ok (.istore 6, 2) := by decide +kernel
theorem dX6_splits_68 : decode cX6_splits 68 = .ok (.iload 6, 2) := by decide +kernel
theorem dX6_splits_70 : decode cX6_splits 70 = .ok (.aload_n 0, 1) := by decide +kernel
theorem dX6_splits_71 : decode cX6_splits 71 = .ok (.getfield 13, 3) := by decide +kernel
theorem dX6_splits_74 : decode cX6_splits 74 = .ok (.if_icmp .ge 53, 3) := by decide +kernel
theorem dX6_splits_77 : decode cX6_splits 77 = .ok (.aload_n 0, 1) := by decide +kernel
theorem dX6_splits_78 : decode cX6_splits 78 = .ok (.iload_n 3, 1) := by decide +kernel
theorem dX6_splits_79 : decode cX6_splits 79 = .ok (.iload 6, 2) := by decide +kernel
theorem dX6_splits_81 : decode cX6_splits 81 = .ok (.invokevirtual 137, 3) := by decide +kernel
theorem dX6_splits_84 : decode cX6_splits 84 = .ok (.ifCond .eq 16, 3) := by decide +kernel
theorem dX6_splits_87 : decode cX6_splits 87 = .ok (.aload_n 0, 1) := by decide +kernel
theorem dX6_splits_88 : decode cX6_splits 88 = .ok (.iload_n 3, 1) := by decide +kernel
theorem dX6_splits_89 : decode cX6_splits 89 = .ok (.iload 6, 2) := by decide +kernel
theorem dX6_splits_91 : decode cX6_splits 91 = .ok (.invokevirtual 246, 3) := by decide +kernel
theorem dX6_splits_94 : decode cX6_splits 94 = .ok (.invokestatic 161, 3) := by decide +kernel
theorem dX6_splits_97 : decode cX6_splits 97 = .ok (.goto 4, 3) := by decide +kernel
theorem dX6_splits_100 : decode cX6_splits 100 = .ok (.iconst (-1), 1) := by decide +kernel
theorem dX6_splits_101 : decode cX6_splits 101 = .ok (.istore 7, 2) := by decide +kernel
theorem dX6_splits_103 : decode cX6_splits 103 = .ok (.iload 7, 2) := by decide +kernel
theorem dX6_splits_105 : decode cX6_splits 105 = .ok (.iload 5, 2) := by decide +kernel
theorem dX6_splits_107 : decode cX6_splits 107 = .ok (.if_icmp .gt 6, 3) := by decide +kernel
theorem dX6_splits_110 : decode cX6_splits 110 = .ok (.goto 11, 3) := by decide +kernel
theorem dX6_splits_113 : decode cX6_splits 113 = .ok (.iload 6, 2) := by decide +kernel
theorem dX6_splits_115 : decode cX6_splits 115 = .ok (.istore 4, 2) := by decide +kernel
theorem dX6_splits_117 : decode cX6_splits 117 = .ok (.iload 7, 2) := by decide +kernel
theorem dX6_splits_119 : decode cX6_splits 119 = .ok (.istore 5, 2) := by decide +kernel
theorem dX6_splits_121 : decode cX6_splits 121 = .ok (.iinc 6 1, 3) := by decide +kernel
theorem dX6_splits_124 : decode cX6_splits 124 = .ok (.goto (-56), 3) := by decide +kernel
theorem dX6_splits_127 : decode cX6_splits 127 = .ok (.aload_n 0, 1) := by decide +kernel
theorem dX6_splits_128 : decode cX6_splits 128 = .ok (.dup, 1) := by decide +kernel
theorem dX6_splits_129 : decode cX6_splits 129 = .ok (.getfield 87, 3) := by decide +kernel
theorem dX6_splits_132 : decode cX6_splits 132 = .ok (.iconst 1, 1) := by decide +kernel
theorem dX6_splits_133 : decode cX6_splits 133 = .ok (.isub, 1) := by decide +kernel
theorem dX6_splits_134 : decode cX6_splits 134 = .ok (.putfield 87, 3) := by decide +kernel
theorem dX6_splits_137 : decode cX6_splits 137 = .ok (.iload 4, 2) := by decide +kernel
theorem dX6_splits_139 : decode cX6_splits 139 = .ok (.ifCond .lt 9, 3) := by decide +kernel
theorem dX6_splits_142 : decode cX6_splits 142 = .ok (.aload_n 0, 1) := by decide +kernel
theorem dX6_splits_143 : decode cX6_splits 143 = .ok (.iload 5, 2) := by decide +kernel
theorem dX6_splits_145 : decode cX6_splits 145 = .ok (.invokevirtual 78, 3) := by decide +kernel
theorem dX6_splits_148 : decode cX6_splits 148 = .ok (.iload 4, 2) := by decide +kernel
theorem dX6_splits_150 : decode cX6_splits 150 = .ok (.ireturn, 1) := by decide +kernel
set_option maxRecDepth 20000 in
theorem ggX6_curesBy_X6_fitting : GoodIn wsX6_curesBy wsX6_fitting := goodIn_r _ [9, 10, 11, 12, 13, 14, 8, 15, 16, 1, 17, 2, 18, 19, 20, 21, 22, 23, 24, 25, 26, 49, 50, 51, 52, 53, 54, 55, 56, 57, 58, 59, 60, 61, 62, 63, 64, 65, 66, 67, 68, 69, 70, 71, 72, 73, 74, 75, 76, 77] (by decide +kernel) (by decide +kernel)
set_option maxRecDepth 20000 in
theorem gX6_curesBy_X6_fitting : GoodIn wsX6_curesBy (wsV RX6 199 RX6 yX6_fitting wsX6_fitting) := goodIn_app (goodIn_of _ (by decide +kernel)) ggX6_curesBy_X6_fitting
set_option maxRecDepth 20000 in
theorem ggX6_curesBy_X6_has : GoodIn wsX6_curesBy wsX6_has := goodIn_r _ [29] (by decide +kernel) (by decide +kernel)
set_option maxRecDepth 20000 in
theorem gX6_curesBy_X6_has : GoodIn wsX6_curesBy (va_wsS RX6 93 yX6_has wsX6_has) := goodIn_app (goodIn_of _ (by decide +kernel)) ggX6_curesBy_X6_has
set_option maxRecDepth 20000 in
theorem ggX6_curesBy_X6_isHeld : GoodIn wsX6_curesBy wsX6_isHeld := goodIn_r _ [33, 34, 49, 50, 51, 52, 53, 54, 55, 56, 57, 58, 59, 60, 61, 62, 63, 64, 65, 66, 67, 68, 69, 70, 71, 72, 73, 74, 75, 76, 77] (by decide +kernel) (by decide +kernel)
set_option maxRecDepth 20000 in
theorem gX6_curesBy_X6_isHeld : GoodIn wsX6_curesBy (wsV RX6 252 RX6 yX6_isHeld wsX6_isHeld) := goodIn_app (goodIn_of _ (by decide +kernel)) ggX6_curesBy_X6_isHeld
set_option maxRecDepth 20000 in
theorem ggX6_curesBy_X6_isLegal : GoodIn wsX6_curesBy wsX6_isLegal := goodIn_r _ [38, 39, 40, 41, 8, 42, 1, 2, 43, 44, 45, 27, 28, 29, 49, 50, 51, 52, 53, 54, 55, 56, 57, 58, 59, 60, 61, 62, 63, 64, 65, 66, 67, 68, 69, 70, 71, 72, 73, 74, 75, 76, 77] (by decide +kernel) (by decide +kernel)
set_option maxRecDepth 20000 in
theorem gX6_curesBy_X6_isLegal : GoodIn wsX6_curesBy (wsV RX6 137 RX6 yX6_isLegal wsX6_isLegal) := goodIn_app (goodIn_of _ (by decide +kernel)) ggX6_curesBy_X6_isLegal
set_option maxRecDepth 20000 in
theorem ggX6_curesBy_X6_curesBy : GoodIn wsX6_curesBy wsX6_curesBy := goodIn_r _ [0, 1, 2, 3, 4, 5, 6, 7, 8, 9, 10, 11, 12, 13, 14, 15, 16, 17, 18, 19, 20, 21, 22, 23, 24, 25, 26, 27, 28, 29, 30, 31, 32, 33, 34, 35, 36, 37, 38, 39, 40, 41, 42, 43, 44, 45, 46, 47, 48, 49, 50, 51, 52, 53, 54, 55, 56, 57, 58, 59, 60, 61, 62, 63, 64, 65, 66, 67, 68, 69, 70, 71, 72, 73, 74, 75, 76, 77] (by decide +kernel) (by decide +kernel)
set_option maxRecDepth 20000 in
theorem gX6_curesBy_X6_curesBy : GoodIn wsX6_curesBy (wsV RX6 258 RX6 yX6_curesBy wsX6_curesBy) := goodIn_app (goodIn_of _ (by decide +kernel)) ggX6_curesBy_X6_curesBy
theorem dX6_curesBy_0 : decode cX6_curesBy 0 = .ok (.iload_n 3, 1) := by decide +kernel
theorem dX6_curesBy_1 : decode cX6_curesBy 1 = .ok (.iload 4, 2) := by decide +kernel
theorem dX6_curesBy_3 : decode cX6_curesBy 3 = .ok (.if_icmp .ne 34, 3) := by decide +kernel
theorem dX6_curesBy_6 : decode cX6_curesBy 6 = .ok (.aload_n 0, 1) := by decide +kernel
theorem dX6_curesBy_7 : decode cX6_curesBy 7 = .ok (.invokevirtual 199, 3) := by decide +kernel
theorem dX6_curesBy_10 : decode cX6_curesBy 10 = .ok (.istore 5, 2) := by decide +kernel
theorem dX6_curesBy_12 : decode cX6_curesBy 12 = .ok (.iload 5, 2) := by decide +kernel
theorem dX6_curesBy_14 : decode cX6_curesBy 14 = .ok (.iload_n 1, 1) := by decide +kernel
theorem dX6_curesBy_15 : decode cX6_curesBy 15 = .ok (.invokestatic 93, 3) := by decide +kernel
theorem dX6_curesBy_18 : decode cX6_curesBy 18 = .ok (.ifCond .eq 17, 3) := by decide +kernel
theorem dX6_curesBy_21 : decode cX6_curesBy 21 = .ok (.aload_n 0, 1) := by decide +kernel
theorem dX6_curesBy_22 : decode cX6_curesBy 22 = .ok (.iload_n 2, 1) := by decide +kernel
theorem dX6_curesBy_23 : decode cX6_curesBy 23 = .ok (.iload 5, 2) := by decide +kernel
theorem dX6_curesBy_25 : decode cX6_curesBy 25 = .ok (.invokevirtual 252, 3) := by decide +kernel
theorem dX6_curesBy_28 : decode cX6_curesBy 28 = .ok (.ifCond .eq 7, 3) := by decide +kernel
theorem dX6_curesBy_31 : decode cX6_curesBy 31 = .ok (.iconst 1, 1) := by decide +kernel
theorem dX6_curesBy_32 : decode cX6_curesBy 32 = .ok (.goto 4, 3) := by decide +kernel
theorem dX6_curesBy_35 : decode cX6_curesBy 35 = .ok (.iconst 0, 1) := by decide +kernel
theorem dX6_curesBy_36 : decode cX6_curesBy 36 = .ok (.ireturn, 1) := by decide +kernel
theorem dX6_curesBy_37 : decode cX6_curesBy 37 = .ok (.iconst 0, 1) := by decide +kernel
theorem dX6_curesBy_38 : decode cX6_curesBy 38 = .ok (.istore 5, 2) := by decide +kernel
theorem dX6_curesBy_40 : decode cX6_curesBy 40 = .ok (.iload 5, 2) := by decide +kernel
theorem dX6_curesBy_42 : decode cX6_curesBy 42 = .ok (.aload_n 0, 1) := by decide +kernel
theorem dX6_curesBy_43 : decode cX6_curesBy 43 = .ok (.getfield 87, 3) := by decide +kernel
theorem dX6_curesBy_46 : decode cX6_curesBy 46 = .ok (.if_icmp .ge 118, 3) := by decide +kernel
theorem dX6_curesBy_49 : decode cX6_curesBy 49 = .ok (.aload_n 0, 1) := by decide +kernel
theorem dX6_curesBy_50 : decode cX6_curesBy 50 = .ok (.getfield 29, 3) := by decide +kernel
theorem dX6_curesBy_53 : decode cX6_curesBy 53 = .ok (.iload 5, 2) := by decide +kernel
theorem dX6_curesBy_55 : decode cX6_curesBy 55 = .ok (.iaload, 1) := by decide +kernel
theorem dX6_curesBy_56 : decode cX6_curesBy 56 = .ok (.istore 6, 2) := by decide +kernel
theorem dX6_curesBy_58 : decode cX6_curesBy 58 = .ok (.iconst 0, 1) := by decide +kernel
theorem dX6_curesBy_59 : decode cX6_curesBy 59 = .ok (.istore 7, 2) := by decide +kernel
theorem dX6_curesBy_61 : decode cX6_curesBy 61 = .ok (.iload 7, 2) := by decide +kernel
theorem dX6_curesBy_63 : decode cX6_curesBy 63 = .ok (.aload_n 0, 1) := by decide +kernel
theorem dX6_curesBy_64 : decode cX6_curesBy 64 = .ok (.getfield 13, 3) := by decide +kernel
theorem dX6_curesBy_67 : decode cX6_curesBy 67 = .ok (.if_icmp .ge 91, 3) := by decide +kernel
theorem dX6_curesBy_70 : decode cX6_curesBy 70 = .ok (.aload_n 0, 1) := by decide +kernel
theorem dX6_curesBy_71 : decode cX6_curesBy 71 = .ok (.getfield 29, 3) := by decide +kernel
theorem dX6_curesBy_74 : decode cX6_curesBy 74 = .ok (.iload 5, 2) := by decide +kernel
theorem dX6_curesBy_76 : decode cX6_curesBy 76 = .ok (.iload 6, 2) := by decide +kernel
theorem dX6_curesBy_78 : decode cX6_curesBy 78 = .ok (.iastore, 1) := by decide +kernel
theorem dX6_curesBy_79 : decode cX6_curesBy 79 = .ok (.iload 6, 2) := by decide +kernel
theorem dX6_curesBy_81 : decode cX6_curesBy 81 = .ok (.iload 7, 2) := by decide +kernel
theorem dX6_curesBy_83 : decode cX6_curesBy 83 = .ok (.if_icmp .eq 69, 3) := by decide +kernel
theorem dX6_curesBy_86 : decode cX6_curesBy 86 = .ok (.aload_n 0, 1) := by decide +kernel
theorem dX6_curesBy_87 : decode cX6_curesBy 87 = .ok (.iload 5, 2) := by decide +kernel
theorem dX6_curesBy_89 : decode cX6_curesBy 89 = .ok (.iload 7, 2) := by decide +kernel
theorem dX6_curesBy_91 : decode cX6_curesBy 91 = .ok (.invokevirtual 137, 3) := by decide +kernel
theorem dX6_curesBy_94 : decode cX6_curesBy 94 = .ok (.ifCond .ne 6, 3) := by decide +kernel
theorem dX6_curesBy_97 : decode cX6_curesBy 97 = .ok (.goto 55, 3) := by decide +kernel
theorem dX6_curesBy_100 : decode cX6_curesBy 100 = .ok (.aload_n 0, 1) := by decide +kernel
theorem dX6_curesBy_101 : decode cX6_curesBy 101 = .ok (.getfield 29, 3) := by decide +kernel
theorem dX6_curesBy_104 : decode cX6_curesBy 104 = .ok (.iload 5, 2) := by decide +kernel
theorem dX6_curesBy_106 : decode cX6_curesBy 106 = .ok (.iload 7, 2) := by decide +kernel
theorem dX6_curesBy_108 : decode cX6_curesBy 108 = .ok (.iastore, 1) := by decide +kernel
theorem dX6_curesBy_109 : decode cX6_curesBy 109 = .ok (.aload_n 0, 1) := by decide +kernel
theorem dX6_curesBy_110 : decode cX6_curesBy 110 = .ok (.getfield 53, 3) := by decide +kernel
theorem dX6_curesBy_113 : decode cX6_curesBy 113 = .ok (.iload_n 3, 1) := by decide +kernel
theorem dX6_curesBy_114 : decode cX6_curesBy 114 = .ok (.bipush 100, 2) := by decide +kernel
theorem dX6_curesBy_116 : decode cX6_curesBy 116 = .ok (.iload 5, 2) := by decide +kernel
theorem dX6_curesBy_118 : decode cX6_curesBy 118 = .ok (.imul, 1) := by decide +kernel
theorem dX6_curesBy_119 : decode cX6_curesBy 119 = .ok (.iload 7, 2) := by decide +kernel
theorem dX6_curesBy_121 : decode cX6_curesBy 121 = .ok (.iadd, 1) := by decide +kernel
theorem dX6_curesBy_122 : decode cX6_curesBy 122 = .ok (.iastore, 1) := by decide +kernel
theorem dX6_curesBy_123 : decode cX6_curesBy 123 = .ok (.aload_n 0, 1) := by decide +kernel
theorem dX6_curesBy_124 : decode cX6_curesBy 124 = .ok (.iload_n 1, 1) := by decide +kernel
theorem dX6_curesBy_125 : decode cX6_curesBy 125 = .ok (.iload_n 2, 1) := by decide +kernel
theorem dX6_curesBy_126 : decode cX6_curesBy 126 = .ok (.iload_n 3, 1) := by decide +kernel
theorem dX6_curesBy_127 : decode cX6_curesBy 127 = .ok (.iconst 1, 1) := by decide +kernel
theorem dX6_curesBy_128 : decode cX6_curesBy 128 = .ok (.iadd, 1) := by decide +kernel
theorem dX6_curesBy_129 : decode cX6_curesBy 129 = .ok (.iload 4, 2) := by decide +kernel
theorem dX6_curesBy_131 : decode cX6_curesBy 131 = .ok (.invokevirtual 258, 3) := by decide +kernel
theorem dX6_curesBy_134 : decode cX6_curesBy 134 = .ok (.istore 8, 2) := by decide +kernel
theorem dX6_curesBy_136 : decode cX6_curesBy 136 = .ok (.aload_n 0, 1) := by decide +kernel
theorem dX6_curesBy_137 : decode cX6_curesBy 137 = .ok (.getfield 29, 3) := by decide +kernel
theorem dX6_curesBy_140 : decode cX6_curesBy 140 = .ok (.iload 5, 2) := by decide +kernel
theorem dX6_curesBy_142 : decode cX6_curesBy 142 = .ok (.iload 6, 2) := by decide +kernel
theorem dX6_curesBy_144 : decode cX6_curesBy 144 = .ok (.iastore, 1) := by decide +kernel
theorem dX6_curesBy_145 : decode cX6_curesBy 145 = .ok (.iload 8, 2) := by decide +kernel
theorem dX6_curesBy_147 : decode cX6_curesBy 147 = .ok (.ifCond .eq 5, 3) := by decide +kernel
theorem dX6_curesBy_150 : decode cX6_curesBy 150 = .ok (.iconst 1, 1) := by decide +kernel
theorem dX6_curesBy_151 : decode cX6_curesBy 151 = .ok (.ireturn, 1) := by decide +kernel
theorem dX6_curesBy_152 : decode cX6_curesBy 152 = .ok (.iinc 7 1, 3) := by decide +kernel
theorem dX6_curesBy_155 : decode cX6_curesBy 155 = .ok (.goto (-94), 3) := by decide +kernel
theorem dX6_curesBy_158 : decode cX6_curesBy 158 = .ok (.iinc 5 1, 3) := by decide +kernel
theorem dX6_curesBy_161 : decode cX6_curesBy 161 = .ok (.goto (-121), 3) := by decide +kernel
theorem dX6_curesBy_164 : decode cX6_curesBy 164 = .ok (.iconst 0, 1) := by decide +kernel
theorem dX6_curesBy_165 : decode cX6_curesBy 165 = .ok (.ireturn, 1) := by decide +kernel
set_option maxRecDepth 20000 in
theorem ggX6_cures_X6_isPupil : GoodIn wsX6_cures wsX6_isPupil := goodIn_r _ [8, 9, 10, 11, 7, 12, 64, 65, 66, 67, 68, 69, 70, 71, 72, 73, 74, 75, 76, 77, 78, 79, 80, 81, 82, 83, 84, 85, 86, 87, 88, 89, 90, 91, 92] (by decide +kernel) (by decide +kernel)
set_option maxRecDepth 20000 in
theorem gX6_cures_X6_isPupil : GoodIn wsX6_cures (wsV RX6 216 RX6 yX6_isPupil wsX6_isPupil) := goodIn_app (goodIn_of _ (by decide +kernel)) ggX6_cures_X6_isPupil
set_option maxRecDepth 20000 in
theorem ggX6_cures_X6_fitting : GoodIn wsX6_cures wsX6_fitting := goodIn_r _ [16, 9, 17, 18, 19, 20, 7, 21, 22, 23, 24, 25, 26, 27, 28, 29, 30, 31, 32, 33, 34, 64, 65, 66, 67, 68, 69, 70, 71, 72, 73, 74, 75, 76, 77, 78, 79, 80, 81, 82, 83, 84, 85, 86, 87, 88, 89, 90, 91, 92] (by decide +kernel) (by decide +kernel)
set_option maxRecDepth 20000 in
theorem gX6_cures_X6_fitting : GoodIn wsX6_cures (wsV RX6 199 RX6 yX6_fitting wsX6_fitting) := goodIn_app (goodIn_of _ (by decide +kernel)) ggX6_cures_X6_fitting
set_option maxRecDepth 20000 in
theorem ggX6_cures_X6_curesBy : GoodIn wsX6_cures wsX6_curesBy := goodIn_r _ [38, 23, 25, 39, 3, 13, 14, 15, 7, 16, 9, 17, 18, 19, 20, 21, 22, 24, 26, 27, 28, 29, 30, 31, 32, 33, 34, 40, 41, 42, 43, 44, 45, 46, 47, 48, 49, 50, 51, 52, 53, 54, 55, 56, 57, 58, 35, 36, 37, 64, 65, 66, 67, 68, 69, 70, 71, 72, 73, 74, 75, 76, 77, 78, 79, 80, 81, 82, 83, 84, 85, 86, 87, 88, 89, 90, 91, 92] (by decide +kernel) (by decide +kernel)
set_option maxRecDepth 20000 in
theorem gX6_cures_X6_curesBy : GoodIn wsX6_cures (wsV RX6 258 RX6 yX6_curesBy wsX6_curesBy) := goodIn_app (goodIn_of _ (by decide +kernel)) ggX6_cures_X6_curesBy
set_option maxRecDepth 20000 in
theorem ggX6_cures_X6_notes : GoodIn wsX6_cures wsX6_notes := goodIn_r _ [62, 63, 2, 64, 65, 66, 67, 68, 69, 70, 71, 72, 73, 74, 75, 76, 77, 78, 79, 80, 81, 82, 83, 84, 85, 86, 87, 88, 89, 90, 91, 92] (by decide +kernel) (by decide +kernel)
set_option maxRecDepth 20000 in
theorem gX6_cures_X6_notes : GoodIn wsX6_cures (wsV RX6 74 RX6 yX6_notes wsX6_notes) := goodIn_app (goodIn_of _ (by decide +kernel)) ggX6_cures_X6_notes
theorem dX6_cures_0 : decode cX6_cures 0 = .ok (.aload_n 0, 1) := by decide +kernel
theorem dX6_cures_1 : decode cX6_cures 1 = .ok (.iconst 0, 1) := by decide +kernel
theorem dX6_cures_2 : decode cX6_cures 2 = .ok (.putfield 62, 3) := by decide +kernel
theorem dX6_cures_5 : decode cX6_cures 5 = .ok (.aload_n 0, 1) := by decide +kernel
theorem dX6_cures_6 : decode cX6_cures 6 = .ok (.iload_n 1, 1) := by decide +kernel
theorem dX6_cures_7 : decode cX6_cures 7 = .ok (.invokevirtual 216, 3) := by decide +kernel
theorem dX6_cures_10 : decode cX6_cures 10 = .ok (.ifCond .ne 5, 3) := by decide +kernel
theorem dX6_cures_13 : decode cX6_cures 13 = .ok (.iconst (-1), 1) := by decide +kernel
theorem dX6_cures_14 : decode cX6_cures 14 = .ok (.ireturn, 1) := by decide +kernel
theorem dX6_cures_15 : decode cX6_cures 15 = .ok (.aload_n 0, 1) := by decide +kernel
theorem dX6_cures_16 : decode cX6_cures 16 = .ok (.invokevirtual 199, 3) := by decide +kernel
theorem dX6_cures_19 : decode cX6_cures 19 = .ok (.istore_n 2, 1) := by decide +kernel
theorem dX6_cures_20 : decode cX6_cures 20 = .ok (.iconst 0, 1) := by decide +kernel
theorem dX6_cures_21 : decode cX6_cures 21 = .ok (.istore_n 3, 1) := by decide +kernel
theorem dX6_cures_22 : decode cX6_cures 22 = .ok (.iload_n 3, 1) := by decide +kernel
theorem dX6_cures_23 : decode cX6_cures 23 = .ok (.iconst 3, 1) := by decide +kernel
theorem dX6_cures_24 : decode cX6_cures 24 = .ok (.if_icmp .ge 56, 3) := by decide +kernel
theorem dX6_cures_27 : decode cX6_cures 27 = .ok (.aload_n 0, 1) := by decide +kernel
theorem dX6_cures_28 : decode cX6_cures 28 = .ok (.iload_n 1, 1) := by decide +kernel
theorem dX6_cures_29 : decode cX6_cures 29 = .ok (.iload_n 2, 1) := by decide +kernel
theorem dX6_cures_30 : decode cX6_cures 30 = .ok (.iconst 0, 1) := by decide +kernel
theorem dX6_cures_31 : decode cX6_cures 31 = .ok (.iload_n 3, 1) := by decide +kernel
theorem dX6_cures_32 : decode cX6_cures 32 = .ok (.invokevirtual 258, 3) := by decide +kernel
theorem dX6_cures_35 : decode cX6_cures 35 = .ok (.ifCond .ne 6, 3) := by decide +kernel
theorem dX6_cures_38 : decode cX6_cures 38 = .ok (.goto 36, 3) := by decide +kernel
theorem dX6_cures_41 : decode cX6_cures 41 = .ok (.aload_n 0, 1) := by decide +kernel
theorem dX6_cures_42 : decode cX6_cures 42 = .ok (.iconst 0, 1) := by decide +kernel
theorem dX6_cures_43 : decode cX6_cures 43 = .ok (.putfield 71, 3) := by decide +kernel
theorem dX6_cures_46 : decode cX6_cures 46 = .ok (.iconst 0, 1) := by decide +kernel
theorem dX6_cures_47 : decode cX6_cures 47 = .ok (.istore 4, 2) := by decide +kernel
theorem dX6_cures_49 : decode cX6_cures 49 = .ok (.iload 4, 2) := by decide +kernel
theorem dX6_cures_51 : decode cX6_cures 51 = .ok (.iload_n 3, 1) := by decide +kernel
theorem dX6_cures_52 : decode cX6_cures 52 = .ok (.if_icmp .ge 20, 3) := by decide +kernel
theorem dX6_cures_55 : decode cX6_cures 55 = .ok (.aload_n 0, 1) := by decide +kernel
theorem dX6_cures_56 : decode cX6_cures 56 = .ok (.aload_n 0, 1) := by decide +kernel
theorem dX6_cures_57 : decode cX6_cures 57 = .ok (.getfield 53, 3) := by decide +kernel
theorem dX6_cures_60 : decode cX6_cures 60 = .ok (.iload 4, 2) := by decide +kernel
theorem dX6_cures_62 : decode cX6_cures 62 = .ok (.iaload, 1) := by decide +kernel
theorem dX6_cures_63 : decode cX6_cures 63 = .ok (.invokevirtual 74, 3) := by decide +kernel
theorem dX6_cures_66 : decode cX6_cures 66 = .ok (.iinc 4 1, 3) := by decide +kernel
theorem dX6_cures_69 : decode cX6_cures 69 = .ok (.goto (-20), 3) := by decide +kernel
theorem dX6_cures_72 : decode cX6_cures 72 = .ok (.iload_n 3, 1) := by decide +kernel
theorem dX6_cures_73 : decode cX6_cures 73 = .ok (.ireturn, 1) := by decide +kernel
theorem dX6_cures_74 : decode cX6_cures 74 = .ok (.iinc 3 1, 3) := by decide +kernel
theorem dX6_cures_77 : decode cX6_cures 77 = .ok (.goto (-55), 3) := by decide +kernel
theorem dX6_cures_80 : decode cX6_cures 80 = .ok (.bipush (-2), 2) := by decide +kernel
theorem dX6_cures_82 : decode cX6_cures 82 = .ok (.ireturn, 1) := by decide +kernel
set_option maxRecDepth 20000 in
theorem ggX6_instead_X6_isPupil : GoodIn wsX6_instead wsX6_isPupil := goodIn_r _ [7, 8, 9, 10, 6, 11, 46, 47, 48, 49, 50, 51, 52, 53, 54, 55, 56, 57, 58, 59, 60, 61, 62, 63, 64, 65, 66, 67, 68, 69, 70, 71, 72, 73, 74] (by decide +kernel) (by decide +kernel)
set_option maxRecDepth 20000 in
theorem gX6_instead_X6_isPupil : GoodIn wsX6_instead (wsV RX6 216 RX6 yX6_isPupil wsX6_isPupil) := goodIn_app (goodIn_of _ (by decide +kernel)) ggX6_instead_X6_isPupil
set_option maxRecDepth 20000 in
theorem ggX6_instead_X6_doesFit : GoodIn wsX6_instead wsX6_doesFit := goodIn_r _ [15, 2, 16, 17, 18, 6, 19, 20, 21, 22, 23, 24, 25, 26, 27, 28, 29, 30, 31, 32, 46, 47, 48, 49, 50, 51, 52, 53, 54, 55, 56, 57, 58, 59, 60, 61, 62, 63, 64, 65, 66, 67, 68, 69, 70, 71, 72, 73, 74] (by decide +kernel) (by decide +kernel)
set_option maxRecDepth 20000 in
theorem gX6_instead_X6_doesFit : GoodIn wsX6_instead (wsV RX6 234 RX6 yX6_doesFit wsX6_doesFit) := goodIn_app (goodIn_of _ (by decide +kernel)) ggX6_instead_X6_doesFit
set_option maxRecDepth 20000 in
theorem ggX6_instead_X6_has : GoodIn wsX6_instead wsX6_has := goodIn_r _ [35] (by decide +kernel) (by decide +kernel)
set_option maxRecDepth 20000 in
theorem gX6_instead_X6_has : GoodIn wsX6_instead (va_wsS RX6 93 yX6_has wsX6_has) := goodIn_app (goodIn_of _ (by decide +kernel)) ggX6_instead_X6_has
set_option maxRecDepth 20000 in
theorem ggX6_instead_X6_hasWay : GoodIn wsX6_instead wsX6_hasWay := goodIn_r _ [27, 20, 28, 29, 30, 31, 32, 24, 25, 26, 6, 46, 47, 48, 49, 50, 51, 52, 53, 54, 55, 56, 57, 58, 59, 60, 61, 62, 63, 64, 65, 66, 67, 68, 69, 70, 71, 72, 73, 74] (by decide +kernel) (by decide +kernel)
set_option maxRecDepth 20000 in
theorem gX6_instead_X6_hasWay : GoodIn wsX6_instead (wsV RX6 176 RX6 yX6_hasWay wsX6_hasWay) := goodIn_app (goodIn_of _ (by decide +kernel)) ggX6_instead_X6_hasWay
set_option maxRecDepth 20000 in
theorem ggX6_instead_X6_notesOne : GoodIn wsX6_instead wsX6_notesOne := goodIn_r _ [39, 40, 41, 42, 43, 6, 44, 45, 46, 47, 48, 49, 50, 51, 52, 53, 54, 55, 56, 57, 58, 59, 60, 61, 62, 63, 64, 65, 66, 67, 68, 69, 70, 71, 72, 73, 74] (by decide +kernel) (by decide +kernel)
set_option maxRecDepth 20000 in
theorem gX6_instead_X6_notesOne : GoodIn wsX6_instead (wsV RX6 78 RX6 yX6_notesOne wsX6_notesOne) := goodIn_app (goodIn_of _ (by decide +kernel)) ggX6_instead_X6_notesOne
theorem dX6_instead_0 : decode cX6_instead 0 = .ok (.aload_n 0, 1) := by decide +kernel
theorem dX6_instead_1 : decode cX6_instead 1 = .ok (.iconst 0, 1) := by decide +kernel
theorem dX6_instead_2 : decode cX6_instead 2 = .ok (.putfield 62, 3) := by decide +kernel
theorem dX6_instead_5 : decode cX6_instead 5 = .ok (.aload_n 0, 1) := by decide +kernel
theorem dX6_instead_6 : decode cX6_instead 6 = .ok (.iload_n 1, 1) := by decide +kernel
theorem dX6_instead_7 : decode cX6_instead 7 = .ok (.invokevirtual 216, 3) := by decide +kernel
theorem dX6_instead_10 : decode cX6_instead 10 = .ok (.ifCond .ne 5, 3) := by decide +kernel
theorem dX6_instead_13 : decode cX6_instead 13 = .ok (.iconst (-1), 1) := by decide +kernel
theorem dX6_instead_14 : decode cX6_instead 14 = .ok (.ireturn, 1) := by decide +kernel
theorem dX6_instead_15 : decode cX6_instead 15 = .ok (.aload_n 0, 1) := by decide +kernel
theorem dX6_instead_16 : decode cX6_instead 16 = .ok (.iload_n 1, 1) := by decide +kernel
theorem dX6_instead_17 : decode cX6_instead 17 = .ok (.invokevirtual 234, 3) := by decide +kernel
theorem dX6_instead_20 : decode cX6_instead 20 = .ok (.ifCond .eq 6, 3) := by decide +kernel
theorem dX6_instead_23 : decode cX6_instead 23 = .ok (.bipush (-2), 2) := by decide +kernel
theorem dX6_instead_25 : decode cX6_instead 25 = .ok (.ireturn, 1) := by decide +kernel
theorem dX6_instead_26 : decode cX6_instead 26 = .ok (.iconst 0, 1) := by decide +kernel
theorem dX6_instead_27 : decode cX6_instead 27 = .ok (.istore_n 2, 1) := by decide +kernel
theorem dX6_instead_28 : decode cX6_instead 28 = .ok (.iconst (-1), 1) := by decide +kernel
theorem dX6_instead_29 : decode cX6_instead 29 = .ok (.istore_n 3, 1) := by decide +kernel
theorem dX6_instead_30 : decode cX6_instead 30 = .ok (.iconst 0, 1) := by decide +kernel
theorem dX6_instead_31 : decode cX6_instead 31 = .ok (.istore 4, 2) := by decide +kernel
theorem dX6_instead_33 : decode cX6_instead 33 = .ok (.iload 4, 2) := by decide +kernel
theorem dX6_instead_35 : decode cX6_instead 35 = .ok (.bipush 10, 2) := by decide +kernel
theorem dX6_instead_37 : decode cX6_instead 37 = .ok (.if_icmp .ge 100, 3) := by decide +kernel
theorem dX6_instead_40 : decode cX6_instead 40 = .ok (.iconst 0, 1) := by decide +kernel
theorem dX6_instead_41 : decode cX6_instead 41 = .ok (.istore 5, 2) := by decide +kernel
theorem dX6_instead_43 : decode cX6_instead 43 = .ok (.iload 5, 2) := by decide +kernel
theorem dX6_instead_45 : decode cX6_instead 45 = .ok (.bipush 10, 2) := by decide +kernel
theorem dX6_instead_47 : decode cX6_instead 47 = .ok (.if_icmp .ge 84, 3) := by decide +kernel
theorem dX6_instead_50 : decode cX6_instead 50 = .ok (.aload_n 0, 1) := by decide +kernel
theorem dX6_instead_51 : decode cX6_instead 51 = .ok (.getfield 35, 3) := by decide +kernel
theorem dX6_instead_54 : decode cX6_instead 54 = .ok (.iload_n 1, 1) := by decide +kernel
theorem dX6_instead_55 : decode cX6_instead 55 = .ok (.iaload, 1) := by decide +kernel
theorem dX6_instead_56 : decode cX6_instead 56 = .ok (.iload 4, 2) := by decide +kernel
theorem dX6_instead_58 : decode cX6_instead 58 = .ok (.invokestatic 93, 3) := by decide +kernel
theorem dX6_instead_61 : decode cX6_instead 61 = .ok (.ifCond .eq 64, 3) := by decide +kernel
theorem dX6_instead_64 : decode cX6_instead 64 = .ok (.aload_n 0, 1) := by decide +kernel
theorem dX6_instead_65 : decode cX6_instead 65 = .ok (.getfield 35, 3) := by decide +kernel
theorem dX6_instead_68 : decode cX6_instead 68 = .ok (.iload_n 1, 1) := by decide +kernel
theorem dX6_instead_69 : decode cX6_instead 69 = .ok (.iaload, 1) := by decide +kernel
theorem dX6_instead_70 : decode cX6_instead 70 = .ok (.iload 5, 2) := by decide +kernel
theorem dX6_instead_72 : decode cX6_instead 72 = .ok (.invokestatic 93, 3) := by decide +kernel
theorem dX6_instead_75 : decode cX6_instead 75 = .ok (.ifCond .ne 50, 3) := by decide +kernel
theorem dX6_instead_78 : decode cX6_instead 78 = .ok (.aload_n 0, 1) := by decide +kernel
theorem dX6_instead_79 : decode cX6_instead 79 = .ok (.aload_n 0, 1) := by decide +kernel
theorem dX6_instead_80 : decode cX6_instead 80 = .ok (.getfield 35, 3) := by decide +kernel
theorem dX6_instead_83 : decode cX6_instead 83 = .ok (.iload_n 1, 1) := by decide +kernel
theorem dX6_instead_84 : decode cX6_instead 84 = .ok (.iaload, 1) := by decide +kernel
theorem dX6_instead_85 : decode cX6_instead 85 = .ok (.iconst 1, 1) := by decide +kernel
theorem dX6_instead_86 : decode cX6_instead 86 = .ok (.iload 4, 2) := by decide +kernel
theorem dX6_instead_88 : decode cX6_instead 88 = .ok (.ishl, 1) := by decide +kernel
theorem dX6_instead_89 : decode cX6_instead 89 = .ok (.ixor, 1) := by decide +kernel
theorem dX6_instead_90 : decode cX6_instead 90 = .ok (.iconst 1, 1) := by decide +kernel
theorem dX6_instead_91 : decode cX6_instead 91 = .ok (.iload 5, 2) := by decide +kernel
theorem dX6_instead_93 : decode cX6_instead 93 = .ok (.ishl, 1) := by decide +kernel
theorem dX6_instead_94 : decode cX6_instead 94 = .ok (.ixor, 1) := by decide +kernel
theorem dX6_instead_95 : decode cX6_instead 95 = .ok (.iconst 0, 1) := by decide +kernel
theorem dX6_instead_96 : decode cX6_instead 96 = .ok (.invokevirtual 176, 3) := by decide +kernel
theorem dX6_instead_99 : decode cX6_instead 99 = .ok (.ifCond .ne 6, 3) := by decide +kernel
theorem dX6_instead_102 : decode cX6_instead 102 = .ok (.goto 23, 3) := by decide +kernel
theorem dX6_instead_105 : decode cX6_instead 105 = .ok (.iload_n 2, 1) := by decide +kernel
theorem dX6_instead_106 : decode cX6_instead 106 = .ok (.ifCond .ne 14, 3) := by decide +kernel
theorem dX6_instead_109 : decode cX6_instead 109 = .ok (.bipush 10, 2) := by decide +kernel
theorem dX6_instead_111 : decode cX6_instead 111 = .ok (.iload 4, 2) := by decide +kernel
theorem dX6_instead_113 : decode cX6_instead 113 = .ok (.imul, 1) := by decide +kernel
theorem dX6_instead_114 : decode cX6_instead 114 = .ok (.iload 5, 2) := by decide +kernel
theorem dX6_instead_116 : decode cX6_instead 116 = .ok (.iadd, 1) := by decide +kernel
theorem dX6_instead_117 : decode cX6_instead 117 = .ok (.goto 4, 3) := by decide +kernel
theorem dX6_instead_120 : decode cX6_instead 120 = .ok (.iload_n 3, 1) := by decide +kernel
theorem dX6_instead_121 : decode cX6_instead 121 = .ok (.istore_n 3, 1) := by decide +kernel
theorem dX6_instead_122 : decode cX6_instead 122 = .ok (.iinc 2 1, 3) := by decide +kernel
theorem dX6_instead_125 : decode cX6_instead 125 = .ok (.iinc 5 1, 3) := by decide +kernel
theorem dX6_instead_128 : decode cX6_instead 128 = .ok (.goto (-85), 3) := by decide +kernel
theorem dX6_instead_131 : decode cX6_instead 131 = .ok (.iinc 4 1, 3) := by decide +kernel
theorem dX6_instead_134 : decode cX6_instead 134 = .ok (.goto (-101), 3) := by decide +kernel
theorem dX6_instead_137 : decode cX6_instead 137 = .ok (.aload_n 0, 1) := by decide +kernel
theorem dX6_instead_138 : decode cX6_instead 138 = .ok (.iload_n 3, 1) := by decide +kernel
theorem dX6_instead_139 : decode cX6_instead 139 = .ok (.invokevirtual 78, 3) := by decide +kernel
theorem dX6_instead_142 : decode cX6_instead 142 = .ok (.iload_n 2, 1) := by decide +kernel
theorem dX6_instead_143 : decode cX6_instead 143 = .ok (.ireturn, 1) := by decide +kernel
set_option maxRecDepth 20000 in
theorem ggX6_spare_X6_fitting : GoodIn wsX6_spare wsX6_fitting := goodIn_r _ [8, 9, 10, 11, 12, 13, 7, 14, 15, 2, 16, 3, 17, 18, 19, 20, 21, 22, 23, 24, 25, 52, 53, 54, 55, 56, 57, 58, 59, 60, 61, 62, 63, 64, 65, 66, 67, 68, 69, 70, 71, 72, 73, 74, 75, 76, 77, 78, 79, 80] (by decide +kernel) (by decide +kernel)
set_option maxRecDepth 20000 in
theorem gX6_spare_X6_fitting : GoodIn wsX6_spare (wsV RX6 199 RX6 yX6_fitting wsX6_fitting) := goodIn_app (goodIn_of _ (by decide +kernel)) ggX6_spare_X6_fitting
set_option maxRecDepth 20000 in
theorem ggX6_spare_X6_bits : GoodIn wsX6_spare wsX6_bits := goodIn_r _ [28, 29, 30, 23, 31, 32, 33, 34] (by decide +kernel) (by decide +kernel)
set_option maxRecDepth 20000 in
theorem gX6_spare_X6_bits : GoodIn wsX6_spare (va_wsS RX6 161 yX6_bits wsX6_bits) := goodIn_app (goodIn_of _ (by decide +kernel)) ggX6_spare_X6_bits
set_option maxRecDepth 20000 in
theorem ggX6_spare_X6_fittingBy : GoodIn wsX6_spare wsX6_fittingBy := goodIn_r _ [38, 3, 4, 5, 6, 7, 8, 9, 10, 11, 12, 13, 14, 15, 2, 16, 17, 18, 19, 20, 21, 22, 23, 24, 25, 52, 53, 54, 55, 56, 57, 58, 59, 60, 61, 62, 63, 64, 65, 66, 67, 68, 69, 70, 71, 72, 73, 74, 75, 76, 77, 78, 79, 80] (by decide +kernel) (by decide +kernel)
set_option maxRecDepth 20000 in
theorem gX6_spare_X6_fittingBy : GoodIn wsX6_spare (wsV RX6 246 RX6 yX6_fittingBy wsX6_fittingBy) := goodIn_app (goodIn_of _ (by decide +kernel)) ggX6_spare_X6_fittingBy
set_option maxRecDepth 20000 in
theorem ggX6_spare_X6_flag : GoodIn wsX6_spare wsX6_flag := goodIn_r _ [41] (by decide +kernel) (by decide +kernel)
set_option maxRecDepth 20000 in
theorem gX6_spare_X6_flag : GoodIn wsX6_spare (va_wsS RX6 224 yX6_flag wsX6_flag) := goodIn_app (goodIn_of _ (by decide +kernel)) ggX6_spare_X6_flag
set_option maxRecDepth 20000 in
theorem ggX6_spare_X6_notesOne : GoodIn wsX6_spare wsX6_notesOne := goodIn_r _ [45, 46, 47, 48, 49, 7, 50, 51, 52, 53, 54, 55, 56, 57, 58, 59, 60, 61, 62, 63, 64, 65, 66, 67, 68, 69, 70, 71, 72, 73, 74, 75, 76, 77, 78, 79, 80] (by decide +kernel) (by decide +kernel)
set_option maxRecDepth 20000 in
theorem gX6_spare_X6_notesOne : GoodIn wsX6_spare (wsV RX6 78 RX6 yX6_notesOne wsX6_notesOne) := goodIn_app (goodIn_of _ (by decide +kernel)) ggX6_spare_X6_notesOne
theorem dX6_spare_0 : decode cX6_spare 0 = .ok (.aload_n 0, 1) := by decide +kernel
theorem dX6_spare_1 : decode cX6_spare 1 = .ok (.iconst 0, 1) := by decide +kernel
theorem dX6_spare_2 : decode cX6_spare 2 = .ok (.putfield 62, 3) := by decide +kernel
theorem dX6_spare_5 : decode cX6_spare 5 = .ok (.aload_n 0, 1) := by decide +kernel
theorem dX6_spare_6 : decode cX6_spare 6 = .ok (.invokevirtual 199, 3) := by decide +kernel
theorem dX6_spare_9 : decode cX6_spare 9 = .ok (.invokestatic 161, 3) := by decide +kernel
theorem dX6_spare_12 : decode cX6_spare 12 = .ok (.istore_n 1, 1) := by decide +kernel
theorem dX6_spare_13 : decode cX6_spare 13 = .ok (.iconst 0, 1) := by decide +kernel
theorem dX6_spare_14 : decode cX6_spare 14 = .ok (.istore_n 2, 1) := by decide +kernel
theorem dX6_spare_15 : decode cX6_spare 15 = .ok (.iconst 0, 1) := by decide +kernel
theorem dX6_spare_16 : decode cX6_spare 16 = .ok (.istore_n 3, 1) := by decide +kernel
theorem dX6_spare_17 : decode cX6_spare 17 = .ok (.iconst 0, 1) := by decide +kernel
theorem dX6_spare_18 : decode cX6_spare 18 = .ok (.istore 4, 2) := by decide +kernel
theorem dX6_spare_20 : decode cX6_spare 20 = .ok (.iload 4, 2) := by decide +kernel
theorem dX6_spare_22 : decode cX6_spare 22 = .ok (.aload_n 0, 1) := by decide +kernel
theorem dX6_spare_23 : decode cX6_spare 23 = .ok (.getfield 87, 3) := by decide +kernel
theorem dX6_spare_26 : decode cX6_spare 26 = .ok (.if_icmp .ge 57, 3) := by decide +kernel
theorem dX6_spare_29 : decode cX6_spare 29 = .ok (.aload_n 0, 1) := by decide +kernel
theorem dX6_spare_30 : decode cX6_spare 30 = .ok (.iload 4, 2) := by decide +kernel
theorem dX6_spare_32 : decode cX6_spare 32 = .ok (.bipush (-2), 2) := by decide +kernel
theorem dX6_spare_34 : decode cX6_spare 34 = .ok (.invokevirtual 246, 3) := by decide +kernel
theorem dX6_spare_37 : decode cX6_spare 37 = .ok (.invokestatic 161, 3) := by decide +kernel
theorem dX6_spare_40 : decode cX6_spare 40 = .ok (.iload_n 1, 1) := by decide +kernel
theorem dX6_spare_41 : decode cX6_spare 41 = .ok (.if_icmp .eq 6, 3) := by decide +kernel
theorem dX6_spare_44 : decode cX6_spare 44 = .ok (.goto 33, 3) := by decide +kernel
theorem dX6_spare_47 : decode cX6_spare 47 = .ok (.iload_n 2, 1) := by decide +kernel
theorem dX6_spare_48 : decode cX6_spare 48 = .ok (.iconst 1, 1) := by decide +kernel
theorem dX6_spare_49 : decode cX6_spare 49 = .ok (.iload 4, 2) := by decide +kernel
theorem dX6_spare_51 : decode cX6_spare 51 = .ok (.ishl, 1) := by decide +kernel
theorem dX6_spare_52 : decode cX6_spare 52 = .ok (.ior, 1) := by decide +kernel
theorem dX6_spare_53 : decode cX6_spare 53 = .ok (.istore_n 2, 1) := by decide +kernel
theorem dX6_spare_54 : decode cX6_spare 54 = .ok (.iload_n 3, 1) := by decide +kernel
theorem dX6_spare_55 : decode cX6_spare 55 = .ok (.aload_n 0, 1) := by decide +kernel
theorem dX6_spare_56 : decode cX6_spare 56 = .ok (.getfield 29, 3) := by decide +kernel
theorem dX6_spare_59 : decode cX6_spare 59 = .ok (.iload 4, 2) := by decide +kernel
theorem dX6_spare_61 : decode cX6_spare 61 = .ok (.iaload, 1) := by decide +kernel
theorem dX6_spare_62 : decode cX6_spare 62 = .ok (.bipush (-2), 2) := by decide +kernel
theorem dX6_spare_64 : decode cX6_spare 64 = .ok (.if_icmp .ne 7, 3) := by decide +kernel
theorem dX6_spare_67 : decode cX6_spare 67 = .ok (.iconst 1, 1) := by decide +kernel
theorem dX6_spare_68 : decode cX6_spare 68 = .ok (.goto 4, 3) := by decide +kernel
theorem dX6_spare_71 : decode cX6_spare 71 = .ok (.iconst 0, 1) := by decide +kernel
theorem dX6_spare_72 : decode cX6_spare 72 = .ok (.invokestatic 224, 3) := by decide +kernel
theorem dX6_spare_75 : decode cX6_spare 75 = .ok (.iadd, 1) := by decide +kernel
theorem dX6_spare_76 : decode cX6_spare 76 = .ok (.istore_n 3, 1) := by decide +kernel
theorem dX6_spare_77 : decode cX6_spare 77 = .ok (.iinc 4 1, 3) := by decide +kernel
theorem dX6_spare_80 : decode cX6_spare 80 = .ok (.goto (-60), 3) := by decide +kernel
theorem dX6_spare_83 : decode cX6_spare 83 = .ok (.aload_n 0, 1) := by decide +kernel
theorem dX6_spare_84 : decode cX6_spare 84 = .ok (.iload_n 3, 1) := by decide +kernel
theorem dX6_spare_85 : decode cX6_spare 85 = .ok (.invokevirtual 78, 3) := by decide +kernel
theorem dX6_spare_88 : decode cX6_spare 88 = .ok (.iload_n 2, 1) := by decide +kernel
theorem dX6_spare_89 : decode cX6_spare 89 = .ok (.ireturn, 1) := by decide +kernel
set_option maxRecDepth 20000 in
theorem ggX6_nextToLay_X6_has : GoodIn wsX6_nextToLay wsX6_has := goodIn_r _ [6] (by decide +kernel) (by decide +kernel)
set_option maxRecDepth 20000 in
theorem gX6_nextToLay_X6_has : GoodIn wsX6_nextToLay (va_wsS RX6 93 yX6_has wsX6_has) := goodIn_app (goodIn_of _ (by decide +kernel)) ggX6_nextToLay_X6_has
set_option maxRecDepth 20000 in
theorem ggX6_nextToLay_X6_chose : GoodIn wsX6_nextToLay wsX6_chose := goodIn_r _ [10, 11, 12, 3, 4, 5, 6, 23, 24, 25, 26, 27, 28, 29, 30, 31, 32, 33, 34, 35, 36, 37, 38, 39, 40, 41, 42, 43, 44, 45, 46, 47, 48, 49, 50, 51] (by decide +kernel) (by decide +kernel)
set_option maxRecDepth 20000 in
theorem gX6_nextToLay_X6_chose : GoodIn wsX6_nextToLay (wsV RX6 228 RX6 yX6_chose wsX6_chose) := goodIn_app (goodIn_of _ (by decide +kernel)) ggX6_nextToLay_X6_chose
set_option maxRecDepth 20000 in
theorem ggX6_nextToLay_X6_bits : GoodIn wsX6_nextToLay wsX6_bits := goodIn_r _ [15, 16, 17, 18, 19, 20, 21, 22] (by decide +kernel) (by decide +kernel)
set_option maxRecDepth 20000 in
theorem gX6_nextToLay_X6_bits : GoodIn wsX6_nextToLay (va_wsS RX6 161 yX6_bits wsX6_bits) := goodIn_app (goodIn_of _ (by decide +kernel)) ggX6_nextToLay_X6_bits
theorem dX6_nextToLay_0 : decode cX6_nextToLay 0 = .ok (.iconst (-1), 1) := by decide +kernel
theorem dX6_nextToLay_1 : decode cX6_nextToLay 1 = .ok (.istore_n 2, 1) := by decide +kernel
theorem dX6_nextToLay_2 : decode cX6_nextToLay 2 = .ok (.iconst 0, 1) := by decide +kernel
theorem dX6_nextToLay_3 : decode cX6_nextToLay 3 = .ok (.istore_n 3, 1) := by decide +kernel
theorem dX6_nextToLay_4 : decode cX6_nextToLay 4 = .ok (.iload_n 3, 1) := by decide +kernel
theorem dX6_nextToLay_5 : decode cX6_nextToLay 5 = .ok (.aload_n 0, 1) := by decide +kernel
theorem dX6_nextToLay_6 : decode cX6_nextToLay 6 = .ok (.getfield 87, 3) := by decide +kernel
theorem dX6_nextToLay_9 : decode cX6_nextToLay 9 = .ok (.if_icmp .ge 53, 3) := by decide +kernel
theorem dX6_nextToLay_12 : decode cX6_nextToLay 12 = .ok (.iload_n 1, 1) := by decide +kernel
theorem dX6_nextToLay_13 : decode cX6_nextToLay 13 = .ok (.iload_n 3, 1) := by decide +kernel
theorem dX6_nextToLay_14 : decode cX6_nextToLay 14 = .ok (.invokestatic 93, 3) := by decide +kernel
theorem dX6_nextToLay_17 : decode cX6_nextToLay 17 = .ok (.ifCond .eq 39, 3) := by decide +kernel
theorem dX6_nextToLay_20 : decode cX6_nextToLay 20 = .ok (.iload_n 2, 1) := by decide +kernel
theorem dX6_nextToLay_21 : decode cX6_nextToLay 21 = .ok (.iconst (-1), 1) := by decide +kernel
theorem dX6_nextToLay_22 : decode cX6_nextToLay 22 = .ok (.if_icmp .eq 32, 3) := by decide +kernel
theorem dX6_nextToLay_25 : decode cX6_nextToLay 25 = .ok (.aload_n 0, 1) := by decide +kernel
theorem dX6_nextToLay_26 : decode cX6_nextToLay 26 = .ok (.aload_n 0, 1) := by decide +kernel
theorem dX6_nextToLay_27 : decode cX6_nextToLay 27 = .ok (.getfield 20, 3) := by decide +kernel
theorem dX6_nextToLay_30 : decode cX6_nextToLay 30 = .ok (.iload_n 3, 1) := by decide +kernel
theorem dX6_nextToLay_31 : decode cX6_nextToLay 31 = .ok (.iaload, 1) := by decide +kernel
theorem dX6_nextToLay_32 : decode cX6_nextToLay 32 = .ok (.invokevirtual 228, 3) := by decide +kernel
theorem dX6_nextToLay_35 : decode cX6_nextToLay 35 = .ok (.invokestatic 161, 3) := by decide +kernel
theorem dX6_nextToLay_38 : decode cX6_nextToLay 38 = .ok (.aload_n 0, 1) := by decide +kernel
theorem dX6_nextToLay_39 : decode cX6_nextToLay 39 = .ok (.aload_n 0, 1) := by decide +kernel
theorem dX6_nextToLay_40 : decode cX6_nextToLay 40 = .ok (.getfield 20, 3) := by decide +kernel
theorem dX6_nextToLay_43 : decode cX6_nextToLay 43 = .ok (.iload_n 2, 1) := by decide +kernel
theorem dX6_nextToLay_44 : decode cX6_nextToLay 44 = .ok (.iaload, 1) := by decide +kernel
theorem dX6_nextToLay_45 : decode cX6_nextToLay 45 = .ok (.invokevirtual 228, 3) := by decide +kernel
theorem dX6_nextToLay_48 : decode cX6_nextToLay 48 = .ok (.invokestatic 161, 3) := by decide +kernel
theorem dX6_nextToLay_51 : decode cX6_nextToLay 51 = .ok (.if_icmp .le 5, 3) := by decide +kernel
theorem dX6_nextToLay_54 : decode cX6_nextToLay 54 = .ok (.iload_n 3, 1) := by decide +kernel
theorem dX6_nextToLay_55 : decode cX6_nextToLay 55 = .ok (.istore_n 2, 1) := by decide +kernel
theorem dX6_nextToLay_56 : decode cX6_nextToLay 56 = .ok (.iinc 3 1, 3) := by decide +kernel
theorem dX6_nextToLay_59 : decode cX6_nextToLay 59 = .ok (.goto (-55), 3) := by decide +kernel
theorem dX6_nextToLay_62 : decode cX6_nextToLay 62 = .ok (.iload_n 2, 1) := by decide +kernel
theorem dX6_nextToLay_63 : decode cX6_nextToLay 63 = .ok (.ireturn, 1) := by decide +kernel
set_option maxRecDepth 20000 in
theorem ggX6_laysOne_X6_isLegal : GoodIn wsX6_laysOne wsX6_isLegal := goodIn_r _ [7, 8, 9, 10, 6, 11, 12, 2, 13, 14, 15, 16, 17, 18, 53, 54, 55, 56, 57, 58, 59, 60, 61, 62, 63, 64, 65, 66, 67, 68, 69, 70, 71, 72, 73, 74, 75, 76, 77, 78, 79, 80, 81] (by decide +kernel) (by decide +kernel)
set_option maxRecDepth 20000 in
theorem gX6_laysOne_X6_isLegal : GoodIn wsX6_laysOne (wsV RX6 137 RX6 yX6_isLegal wsX6_isLegal) := goodIn_app (goodIn_of _ (by decide +kernel)) ggX6_laysOne_X6_isLegal
set_option maxRecDepth 20000 in
theorem ggX6_laysOne_X6_fittingBy : GoodIn wsX6_laysOne wsX6_fittingBy := goodIn_r _ [22, 2, 23, 24, 25, 6, 26, 27, 28, 29, 30, 31, 32, 33, 12, 34, 35, 36, 37, 38, 39, 40, 41, 42, 43, 53, 54, 55, 56, 57, 58, 59, 60, 61, 62, 63, 64, 65, 66, 67, 68, 69, 70, 71, 72, 73, 74, 75, 76, 77, 78, 79, 80, 81] (by decide +kernel) (by decide +kernel)
set_option maxRecDepth 20000 in
theorem gX6_laysOne_X6_fittingBy : GoodIn wsX6_laysOne (wsV RX6 246 RX6 yX6_fittingBy wsX6_fittingBy) := goodIn_app (goodIn_of _ (by decide +kernel)) ggX6_laysOne_X6_fittingBy
set_option maxRecDepth 20000 in
theorem ggX6_laysOne_X6_bits : GoodIn wsX6_laysOne wsX6_bits := goodIn_r _ [46, 47, 48, 41, 49, 50, 51, 52] (by decide +kernel) (by decide +kernel)
set_option maxRecDepth 20000 in
theorem gX6_laysOne_X6_bits : GoodIn wsX6_laysOne (va_wsS RX6 161 yX6_bits wsX6_bits) := goodIn_app (goodIn_of _ (by decide +kernel)) ggX6_laysOne_X6_bits
theorem dX6_laysOne_0 : decode cX6_laysOne 0 = .ok (.bipush (-2), 2) := by decide +kernel
theorem dX6_laysOne_2 : decode cX6_laysOne 2 = .ok (.istore_n 2, 1) := by decide +kernel
theorem dX6_laysOne_3 : decode cX6_laysOne 3 = .ok (.iconst (-1), 1) := by decide +kernel
theorem dX6_laysOne_4 : decode cX6_laysOne 4 = .ok (.istore_n 3, 1) := by decide +kernel
theorem dX6_laysOne_5 : decode cX6_laysOne 5 = .ok (.iconst 0, 1) := by decide +kernel
theorem dX6_laysOne_6 : decode cX6_laysOne 6 = .ok (.istore 4, 2) := by decide +kernel
theorem dX6_laysOne_8 : decode cX6_laysOne 8 = .ok (.iload 4, 2) := by decide +kernel
theorem dX6_laysOne_10 : decode cX6_laysOne 10 = .ok (.aload_n 0, 1) := by decide +kernel
theorem dX6_laysOne_11 : decode cX6_laysOne 11 = .ok (.getfield 13, 3) := by decide +kernel
theorem dX6_laysOne_14 : decode cX6_laysOne 14 = .ok (.if_icmp .ge 50, 3) := by decide +kernel
theorem dX6_laysOne_17 : decode cX6_laysOne 17 = .ok (.aload_n 0, 1) := by decide +kernel
theorem dX6_laysOne_18 : decode cX6_laysOne 18 = .ok (.iload_n 1, 1) := by decide +kernel
theorem dX6_laysOne_19 : decode cX6_laysOne 19 = .ok (.iload 4, 2) := by decide +kernel
theorem dX6_laysOne_21 : decode cX6_laysOne 21 = .ok (.invokevirtual 137, 3) := by decide +kernel
theorem dX6_laysOne_24 : decode cX6_laysOne 24 = .ok (.ifCond .eq 16, 3) := by decide +kernel
theorem dX6_laysOne_27 : decode cX6_laysOne 27 = .ok (.aload_n 0, 1) := by decide +kernel
theorem dX6_laysOne_28 : decode cX6_laysOne 28 = .ok (.iload_n 1, 1) := by decide +kernel
theorem dX6_laysOne_29 : decode cX6_laysOne 29 = .ok (.iload 4, 2) := by decide +kernel
theorem dX6_laysOne_31 : decode cX6_laysOne 31 = .ok (.invokevirtual 246, 3) := by decide +kernel
theorem dX6_laysOne_34 : decode cX6_laysOne 34 = .ok (.invokestatic 161, 3) := by decide +kernel
theorem dX6_laysOne_37 : decode cX6_laysOne 37 = .ok (.goto 4, 3) := by decide +kernel
theorem dX6_laysOne_40 : decode cX6_laysOne 40 = .ok (.iconst (-1), 1) := by decide +kernel
theorem dX6_laysOne_41 : decode cX6_laysOne 41 = .ok (.istore 5, 2) := by decide +kernel
theorem dX6_laysOne_43 : decode cX6_laysOne 43 = .ok (.iload 5, 2) := by decide +kernel
theorem dX6_laysOne_45 : decode cX6_laysOne 45 = .ok (.iload_n 3, 1) := by decide +kernel
theorem dX6_laysOne_46 : decode cX6_laysOne 46 = .ok (.if_icmp .gt 6, 3) := by decide +kernel
theorem dX6_laysOne_49 : decode cX6_laysOne 49 = .ok (.goto 9, 3) := by decide +kernel
theorem dX6_laysOne_52 : decode cX6_laysOne 52 = .ok (.iload 4, 2) := by decide +kernel
theorem dX6_laysOne_54 : decode cX6_laysOne 54 = .ok (.istore_n 2, 1) := by decide +kernel
theorem dX6_laysOne_55 : decode cX6_laysOne 55 = .ok (.iload 5, 2) := by decide +kernel
theorem dX6_laysOne_57 : decode cX6_laysOne 57 = .ok (.istore_n 3, 1) := by decide +kernel
theorem dX6_laysOne_58 : decode cX6_laysOne 58 = .ok (.iinc 4 1, 3) := by decide +kernel
theorem dX6_laysOne_61 : decode cX6_laysOne 61 = .ok (.goto (-53), 3) := by decide +kernel
theorem dX6_laysOne_64 : decode cX6_laysOne 64 = .ok (.aload_n 0, 1) := by decide +kernel
theorem dX6_laysOne_65 : decode cX6_laysOne 65 = .ok (.getfield 29, 3) := by decide +kernel
theorem dX6_laysOne_68 : decode cX6_laysOne 68 = .ok (.iload_n 1, 1) := by decide +kernel
theorem dX6_laysOne_69 : decode cX6_laysOne 69 = .ok (.iload_n 2, 1) := by decide +kernel
theorem dX6_laysOne_70 : decode cX6_laysOne 70 = .ok (.iastore, 1) := by decide +kernel
theorem dX6_laysOne_71 : decode cX6_laysOne 71 = .ok (.return_, 1) := by decide +kernel
set_option maxRecDepth 20000 in
theorem ggX6_lays_X6_nextToLay : GoodIn wsX6_lays wsX6_nextToLay := goodIn_r _ [8, 2, 9, 10, 11, 7, 12, 13, 14, 15, 16, 17, 18, 19, 20, 21, 22, 23, 24, 25, 26, 27, 28, 79, 80, 81, 82, 83, 84, 85, 86, 87, 88, 89, 90, 91, 92, 93, 94, 95, 96, 97, 98, 99, 100, 101, 102, 103, 104, 105, 106, 107] (by decide +kernel) (by decide +kernel)
set_option maxRecDepth 20000 in
theorem gX6_lays_X6_nextToLay : GoodIn wsX6_lays (wsV RX6 262 RX6 yX6_nextToLay wsX6_nextToLay) := goodIn_app (goodIn_of _ (by decide +kernel)) ggX6_lays_X6_nextToLay
set_option maxRecDepth 20000 in
theorem ggX6_lays_X6_laysOne : GoodIn wsX6_lays wsX6_laysOne := goodIn_r _ [32, 33, 3, 34, 35, 36, 7, 37, 38, 39, 40, 41, 2, 42, 43, 44, 10, 11, 12, 45, 46, 47, 48, 49, 50, 51, 52, 17, 18, 53, 54, 55, 56, 57, 9, 58, 59, 60, 61, 62, 63, 24, 64, 65, 19, 20, 21, 22, 23, 25, 26, 27, 28, 79, 80, 81, 82, 83, 84, 85, 86, 87, 88, 89, 90, 91, 92, 93, 94, 95, 96, 97, 98, 99, 100, 101, 102, 103, 104, 105, 106, 107] (by decide +kernel) (by decide +kernel)
set_option maxRecDepth 20000 in
theorem gX6_lays_X6_laysOne : GoodIn wsX6_lays (wsV RX6 265 RX6 yX6_laysOne wsX6_laysOne) := goodIn_app (goodIn_of _ (by decide +kernel)) ggX6_lays_X6_laysOne
set_option maxRecDepth 20000 in
theorem ggX6_lays_X6_flag : GoodIn wsX6_lays wsX6_flag := goodIn_r _ [68] (by decide +kernel) (by decide +kernel)
set_option maxRecDepth 20000 in
theorem gX6_lays_X6_flag : GoodIn wsX6_lays (va_wsS RX6 224 yX6_flag wsX6_flag) := goodIn_app (goodIn_of _ (by decide +kernel)) ggX6_lays_X6_flag
set_option maxRecDepth 20000 in
theorem ggX6_lays_X6_fitting : GoodIn wsX6_lays wsX6_fitting := goodIn_r _ [52, 17, 18, 53, 54, 55, 7, 56, 57, 2, 9, 3, 58, 59, 60, 61, 62, 63, 24, 64, 65, 79, 80, 81, 82, 83, 84, 85, 86, 87, 88, 89, 90, 91, 92, 93, 94, 95, 96, 97, 98, 99, 100, 101, 102, 103, 104, 105, 106, 107] (by decide +kernel) (by decide +kernel)
set_option maxRecDepth 20000 in
theorem gX6_lays_X6_fitting : GoodIn wsX6_lays (wsV RX6 199 RX6 yX6_fitting wsX6_fitting) := goodIn_app (goodIn_of _ (by decide +kernel)) ggX6_lays_X6_fitting
set_option maxRecDepth 20000 in
theorem ggX6_lays_X6_bits : GoodIn wsX6_lays wsX6_bits := goodIn_r _ [21, 22, 23, 24, 25, 26, 27, 28] (by decide +kernel) (by decide +kernel)
set_option maxRecDepth 20000 in
theorem gX6_lays_X6_bits : GoodIn wsX6_lays (va_wsS RX6 161 yX6_bits wsX6_bits) := goodIn_app (goodIn_of _ (by decide +kernel)) ggX6_lays_X6_bits
set_option maxRecDepth 20000 in
theorem ggX6_lays_X6_notesOne : GoodIn wsX6_lays wsX6_notesOne := goodIn_r _ [72, 73, 74, 75, 76, 7, 77, 78, 79, 80, 81, 82, 83, 84, 85, 86, 87, 88, 89, 90, 91, 92, 93, 94, 95, 96, 97, 98, 99, 100, 101, 102, 103, 104, 105, 106, 107] (by decide +kernel) (by decide +kernel)
set_option maxRecDepth 20000 in
theorem gX6_lays_X6_notesOne : GoodIn wsX6_lays (wsV RX6 78 RX6 yX6_notesOne wsX6_notesOne) := goodIn_app (goodIn_of _ (by decide +kernel)) ggX6_lays_X6_notesOne
theorem dX6_lays_0 : decode cX6_lays 0 = .ok (.aload_n 0, 1) := by decide +kernel
theorem dX6_lays_1 : decode cX6_lays 1 = .ok (.iconst 0, 1) := by decide +kernel
