theorem dX5_pupil_22 : decode cX5_pupil 22 = .ok (.istore_n 2, 1) := by decide +kernel
theorem dX5_pupil_23 : decode cX5_pupil 23 = .ok (.aload_n 0, 1) := by decide +kernel
theorem dX5_pupil_24 : decode cX5_pupil 24 = .ok (.aload_n 0, 1) := by decide +kernel
theorem dX5_pupil_25 : decode cX5_pupil 25 = .ok (.getfield 19, 3) := by decide +kernel
theorem dX5_pupil_28 : decode cX5_pupil 28 = .ok (.iload_n 2, 1) := by decide +kernel
theorem dX5_pupil_29 : decode cX5_pupil 29 = .ok (.invokevirtual 195, 3) := by decide +kernel
theorem dX5_pupil_32 : decode cX5_pupil 32 = .ok (.ifCond .eq 7, 3) := by decide +kernel
theorem dX5_pupil_35 : decode cX5_pupil 35 = .ok (.iconst 1, 1) := by decide +kernel
theorem dX5_pupil_36 : decode cX5_pupil 36 = .ok (.goto 4, 3) := by decide +kernel
theorem dX5_pupil_39 : decode cX5_pupil 39 = .ok (.iconst 0, 1) := by decide +kernel
theorem dX5_pupil_40 : decode cX5_pupil 40 = .ok (.aload_n 0, 1) := by decide +kernel
theorem dX5_pupil_41 : decode cX5_pupil 41 = .ok (.getfield 29, 3) := by decide +kernel
theorem dX5_pupil_44 : decode cX5_pupil 44 = .ok (.getfield 171, 3) := by decide +kernel
theorem dX5_pupil_47 : decode cX5_pupil 47 = .ok (.iload_n 1, 1) := by decide +kernel
theorem dX5_pupil_48 : decode cX5_pupil 48 = .ok (.invokestatic 152, 3) := by decide +kernel
theorem dX5_pupil_51 : decode cX5_pupil 51 = .ok (.ifCond .eq 7, 3) := by decide +kernel
theorem dX5_pupil_54 : decode cX5_pupil 54 = .ok (.iconst 1, 1) := by decide +kernel
theorem dX5_pupil_55 : decode cX5_pupil 55 = .ok (.goto 4, 3) := by decide +kernel
theorem dX5_pupil_58 : decode cX5_pupil 58 = .ok (.iconst 0, 1) := by decide +kernel
theorem dX5_pupil_59 : decode cX5_pupil 59 = .ok (.invokevirtual 183, 3) := by decide +kernel
theorem dX5_pupil_62 : decode cX5_pupil 62 = .ok (.iload_n 2, 1) := by decide +kernel
theorem dX5_pupil_63 : decode cX5_pupil 63 = .ok (.ireturn, 1) := by decide +kernel
set_option maxRecDepth 20000 in
theorem ggX5_legal_X0_has : GoodIn wsX5_legal wsX0_has := goodIn_r _ [6, 7, 47, 48, 49, 50, 51, 52, 53, 54, 55] (by decide +kernel) (by decide +kernel)
set_option maxRecDepth 20000 in
theorem gX5_legal_X0_has : GoodIn wsX5_legal (wsV RX5 109 RX0 yX0_has wsX0_has) := goodIn_app (goodIn_of _ (by decide +kernel)) ggX5_legal_X0_has
set_option maxRecDepth 20000 in
theorem ggX5_legal_X0_lawfulColumns : GoodIn wsX5_legal wsX0_lawfulColumns := goodIn_r _ [11, 12, 13, 14, 15, 5, 16, 7, 17, 18, 19, 20, 21, 22, 23, 47, 48, 49, 50, 51, 52, 53, 54, 55] (by decide +kernel) (by decide +kernel)
set_option maxRecDepth 20000 in
theorem gX5_legal_X0_lawfulColumns : GoodIn wsX5_legal (wsV RX5 198 RX0 yX0_lawfulColumns wsX0_lawfulColumns) := goodIn_app (goodIn_of _ (by decide +kernel)) ggX5_legal_X0_lawfulColumns
set_option maxRecDepth 20000 in
theorem ggX5_legal_J6_bitCount_0f7a4 : GoodIn wsX5_legal wsJ6_bitCount_0f7a4 := goodIn_r _ [27, 28, 29, 30] (by decide +kernel) (by decide +kernel)
set_option maxRecDepth 20000 in
theorem gX5_legal_J6_bitCount_0f7a4 : GoodIn wsX5_legal (va_wsS RX5 137 yJ6_bitCount_0f7a4 wsJ6_bitCount_0f7a4) := goodIn_app (goodIn_of _ (by decide +kernel)) ggX5_legal_J6_bitCount_0f7a4
set_option maxRecDepth 20000 in
theorem ggX5_legal_X5_tell : GoodIn wsX5_legal wsX5_tell := goodIn_r _ [34, 35, 36, 37, 38, 39, 40, 41, 42, 43, 44, 45, 46] (by decide +kernel) (by decide +kernel)
set_option maxRecDepth 20000 in
theorem gX5_legal_X5_tell : GoodIn wsX5_legal (wsV RX5 202 RX5 yX5_tell wsX5_tell) := goodIn_app (goodIn_of _ (by decide +kernel)) ggX5_legal_X5_tell
theorem dX5_legal_0 : decode cX5_legal 0 = .ok (.aload_n 0, 1) := by decide +kernel
theorem dX5_legal_1 : decode cX5_legal 1 = .ok (.getfield 19, 3) := by decide +kernel
theorem dX5_legal_4 : decode cX5_legal 4 = .ok (.iload_n 1, 1) := by decide +kernel
theorem dX5_legal_5 : decode cX5_legal 5 = .ok (.invokevirtual 109, 3) := by decide +kernel
theorem dX5_legal_8 : decode cX5_legal 8 = .ok (.ifCond .ne 5, 3) := by decide +kernel
theorem dX5_legal_11 : decode cX5_legal 11 = .ok (.iconst (-1), 1) := by decide +kernel
theorem dX5_legal_12 : decode cX5_legal 12 = .ok (.ireturn, 1) := by decide +kernel
theorem dX5_legal_13 : decode cX5_legal 13 = .ok (.aload_n 0, 1) := by decide +kernel
theorem dX5_legal_14 : decode cX5_legal 14 = .ok (.getfield 19, 3) := by decide +kernel
theorem dX5_legal_17 : decode cX5_legal 17 = .ok (.iload_n 1, 1) := by decide +kernel
theorem dX5_legal_18 : decode cX5_legal 18 = .ok (.aload_n 0, 1) := by decide +kernel
theorem dX5_legal_19 : decode cX5_legal 19 = .ok (.getfield 19, 3) := by decide +kernel
theorem dX5_legal_22 : decode cX5_legal 22 = .ok (.getfield 177, 3) := by decide +kernel
theorem dX5_legal_25 : decode cX5_legal 25 = .ok (.iload_n 1, 1) := by decide +kernel
theorem dX5_legal_26 : decode cX5_legal 26 = .ok (.iaload, 1) := by decide +kernel
theorem dX5_legal_27 : decode cX5_legal 27 = .ok (.invokevirtual 198, 3) := by decide +kernel
theorem dX5_legal_30 : decode cX5_legal 30 = .ok (.istore_n 2, 1) := by decide +kernel
theorem dX5_legal_31 : decode cX5_legal 31 = .ok (.aload_n 0, 1) := by decide +kernel
theorem dX5_legal_32 : decode cX5_legal 32 = .ok (.iload_n 2, 1) := by decide +kernel
theorem dX5_legal_33 : decode cX5_legal 33 = .ok (.invokestatic 137, 3) := by decide +kernel
theorem dX5_legal_36 : decode cX5_legal 36 = .ok (.invokevirtual 202, 3) := by decide +kernel
theorem dX5_legal_39 : decode cX5_legal 39 = .ok (.iload_n 2, 1) := by decide +kernel
theorem dX5_legal_40 : decode cX5_legal 40 = .ok (.ireturn, 1) := by decide +kernel
set_option maxRecDepth 20000 in
theorem ggX5_why_X0_has : GoodIn wsX5_why wsX0_has := goodIn_r _ [6, 7, 34, 35, 36, 37, 38, 39, 40, 41, 42] (by decide +kernel) (by decide +kernel)
set_option maxRecDepth 20000 in
theorem gX5_why_X0_has : GoodIn wsX5_why (wsV RX5 109 RX0 yX0_has wsX0_has) := goodIn_app (goodIn_of _ (by decide +kernel)) ggX5_why_X0_has
set_option maxRecDepth 20000 in
theorem ggX5_why_X0_hasColumn : GoodIn wsX5_why wsX0_hasColumn := goodIn_r _ [11, 12, 34, 35, 36, 37, 38, 39, 40, 41, 42] (by decide +kernel) (by decide +kernel)
set_option maxRecDepth 20000 in
theorem gX5_why_X0_hasColumn : GoodIn wsX5_why (wsV RX5 119 RX0 yX0_hasColumn wsX0_hasColumn) := goodIn_app (goodIn_of _ (by decide +kernel)) ggX5_why_X0_hasColumn
set_option maxRecDepth 20000 in
theorem ggX5_why_X0_obstacle : GoodIn wsX5_why wsX0_obstacle := goodIn_r _ [16, 7, 17, 18, 19, 20, 21, 22, 23, 34, 35, 36, 37, 38, 39, 40, 41, 42] (by decide +kernel) (by decide +kernel)
set_option maxRecDepth 20000 in
theorem gX5_why_X0_obstacle : GoodIn wsX5_why (wsV RX5 204 RX0 yX0_obstacle wsX0_obstacle) := goodIn_app (goodIn_of _ (by decide +kernel)) ggX5_why_X0_obstacle
theorem dX5_why_0 : decode cX5_why 0 = .ok (.aload_n 0, 1) := by decide +kernel
theorem dX5_why_1 : decode cX5_why 1 = .ok (.getfield 19, 3) := by decide +kernel
theorem dX5_why_4 : decode cX5_why 4 = .ok (.iload_n 1, 1) := by decide +kernel
theorem dX5_why_5 : decode cX5_why 5 = .ok (.invokevirtual 109, 3) := by decide +kernel
theorem dX5_why_8 : decode cX5_why 8 = .ok (.ifCond .eq 14, 3) := by decide +kernel
theorem dX5_why_11 : decode cX5_why 11 = .ok (.aload_n 0, 1) := by decide +kernel
theorem dX5_why_12 : decode cX5_why 12 = .ok (.getfield 19, 3) := by decide +kernel
theorem dX5_why_15 : decode cX5_why 15 = .ok (.iload_n 2, 1) := by decide +kernel
theorem dX5_why_16 : decode cX5_why 16 = .ok (.invokevirtual 119, 3) := by decide +kernel
theorem dX5_why_19 : decode cX5_why 19 = .ok (.ifCond .ne 5, 3) := by decide +kernel
theorem dX5_why_22 : decode cX5_why 22 = .ok (.iconst (-1), 1) := by decide +kernel
theorem dX5_why_23 : decode cX5_why 23 = .ok (.ireturn, 1) := by decide +kernel
theorem dX5_why_24 : decode cX5_why 24 = .ok (.aload_n 0, 1) := by decide +kernel
theorem dX5_why_25 : decode cX5_why 25 = .ok (.getfield 19, 3) := by decide +kernel
theorem dX5_why_28 : decode cX5_why 28 = .ok (.iload_n 1, 1) := by decide +kernel
theorem dX5_why_29 : decode cX5_why 29 = .ok (.aload_n 0, 1) := by decide +kernel
theorem dX5_why_30 : decode cX5_why 30 = .ok (.getfield 19, 3) := by decide +kernel
theorem dX5_why_33 : decode cX5_why 33 = .ok (.getfield 177, 3) := by decide +kernel
theorem dX5_why_36 : decode cX5_why 36 = .ok (.iload_n 1, 1) := by decide +kernel
theorem dX5_why_37 : decode cX5_why 37 = .ok (.iaload, 1) := by decide +kernel
theorem dX5_why_38 : decode cX5_why 38 = .ok (.iload_n 2, 1) := by decide +kernel
theorem dX5_why_39 : decode cX5_why 39 = .ok (.invokevirtual 204, 3) := by decide +kernel
theorem dX5_why_42 : decode cX5_why 42 = .ok (.ireturn, 1) := by decide +kernel
set_option maxRecDepth 20000 in
theorem ggX5_fits_X5_fitting : GoodIn wsX5_fits wsX5_fitting := goodIn_r _ [5, 6, 7, 8, 4, 9, 10, 11, 12, 13, 14, 15, 16, 17, 18, 19, 20, 21, 22, 23, 24, 25, 26, 27, 28, 29, 30, 31, 32, 46, 47, 48, 49, 50, 51, 52, 53, 54, 55, 56, 57, 58, 59, 60, 61, 62, 63, 64, 65, 66, 67] (by decide +kernel) (by decide +kernel)
set_option maxRecDepth 20000 in
theorem gX5_fits_X5_fitting : GoodIn wsX5_fits (wsV RX5 133 RX5 yX5_fitting wsX5_fitting) := goodIn_app (goodIn_of _ (by decide +kernel)) ggX5_fits_X5_fitting
set_option maxRecDepth 20000 in
theorem ggX5_fits_X5_tell : GoodIn wsX5_fits wsX5_tell := goodIn_r _ [36, 37, 38, 46, 47, 48, 49, 50, 51, 52, 53, 54, 55] (by decide +kernel) (by decide +kernel)
set_option maxRecDepth 20000 in
theorem gX5_fits_X5_tell : GoodIn wsX5_fits (wsV RX5 202 RX5 yX5_tell wsX5_tell) := goodIn_app (goodIn_of _ (by decide +kernel)) ggX5_fits_X5_tell
set_option maxRecDepth 20000 in
theorem ggX5_fits_J6_bitCount_0f7a4 : GoodIn wsX5_fits wsJ6_bitCount_0f7a4 := goodIn_r _ [42, 43, 44, 45] (by decide +kernel) (by decide +kernel)
set_option maxRecDepth 20000 in
theorem gX5_fits_J6_bitCount_0f7a4 : GoodIn wsX5_fits (va_wsS RX5 137 yJ6_bitCount_0f7a4 wsJ6_bitCount_0f7a4) := goodIn_app (goodIn_of _ (by decide +kernel)) ggX5_fits_J6_bitCount_0f7a4
theorem dX5_fits_0 : decode cX5_fits 0 = .ok (.aload_n 0, 1) := by decide +kernel
theorem dX5_fits_1 : decode cX5_fits 1 = .ok (.invokevirtual 133, 3) := by decide +kernel
theorem dX5_fits_4 : decode cX5_fits 4 = .ok (.istore_n 1, 1) := by decide +kernel
theorem dX5_fits_5 : decode cX5_fits 5 = .ok (.aload_n 0, 1) := by decide +kernel
theorem dX5_fits_6 : decode cX5_fits 6 = .ok (.iload_n 1, 1) := by decide +kernel
theorem dX5_fits_7 : decode cX5_fits 7 = .ok (.invokevirtual 202, 3) := by decide +kernel
theorem dX5_fits_10 : decode cX5_fits 10 = .ok (.iload_n 1, 1) := by decide +kernel
theorem dX5_fits_11 : decode cX5_fits 11 = .ok (.invokestatic 137, 3) := by decide +kernel
theorem dX5_fits_14 : decode cX5_fits 14 = .ok (.ireturn, 1) := by decide +kernel
set_option maxRecDepth 20000 in
theorem ggX5_ways_X1_has : GoodIn wsX5_ways wsX1_has := goodIn_r _ [9, 10, 68, 69, 70] (by decide +kernel) (by decide +kernel)
set_option maxRecDepth 20000 in
theorem gX5_ways_X1_has : GoodIn wsX5_ways (wsV RX5 167 RX1 yX1_has wsX1_has) := goodIn_app (goodIn_of _ (by decide +kernel)) ggX5_ways_X1_has
set_option maxRecDepth 20000 in
theorem ggX5_ways_X4_findFirst : GoodIn wsX5_ways wsX4_findFirst := goodIn_r _ [15, 16, 17, 18, 19, 20, 21, 22, 23, 14, 24, 25, 26, 27, 28, 29, 30, 31, 80, 81, 82] (by decide +kernel) (by decide +kernel)
set_option maxRecDepth 20000 in
theorem gX5_ways_X4_findFirst : GoodIn wsX5_ways (wsV RX5 208 RX4 yX4_findFirst wsX4_findFirst) := goodIn_app (goodIn_of _ (by decide +kernel)) ggX5_ways_X4_findFirst
set_option maxRecDepth 20000 in
theorem ggX5_ways_J6_bitCount_0f7a4 : GoodIn wsX5_ways wsJ6_bitCount_0f7a4 := goodIn_r _ [35, 36, 37, 38] (by decide +kernel) (by decide +kernel)
set_option maxRecDepth 20000 in
theorem gX5_ways_J6_bitCount_0f7a4 : GoodIn wsX5_ways (va_wsS RX5 137 yJ6_bitCount_0f7a4 wsJ6_bitCount_0f7a4) := goodIn_app (goodIn_of _ (by decide +kernel)) ggX5_ways_J6_bitCount_0f7a4
set_option maxRecDepth 20000 in
theorem ggX5_ways_X5_tellFirstWay : GoodIn wsX5_ways wsX5_tellFirstWay := goodIn_r _ [42, 43, 44, 45, 46, 47, 3, 2, 58, 59, 60, 61, 62, 63, 64, 65, 66, 67, 80, 81, 82] (by decide +kernel) (by decide +kernel)
set_option maxRecDepth 20000 in
theorem gX5_ways_X5_tellFirstWay : GoodIn wsX5_ways (wsV RX5 212 RX5 yX5_tellFirstWay wsX5_tellFirstWay) := goodIn_app (goodIn_of _ (by decide +kernel)) ggX5_ways_X5_tellFirstWay
set_option maxRecDepth 20000 in
theorem ggX5_ways_X4_numberOf : GoodIn wsX5_ways wsX4_numberOf := goodIn_r _ [51, 52, 19, 20, 21, 53, 54, 55, 14, 56, 57, 33, 34, 35, 36, 37, 38, 80, 81, 82] (by decide +kernel) (by decide +kernel)
set_option maxRecDepth 20000 in
theorem gX5_ways_X4_numberOf : GoodIn wsX5_ways (wsV RX5 215 RX4 yX4_numberOf wsX4_numberOf) := goodIn_app (goodIn_of _ (by decide +kernel)) ggX5_ways_X4_numberOf
theorem dX5_ways_0 : decode cX5_ways 0 = .ok (.aload_n 0, 1) := by decide +kernel
theorem dX5_ways_1 : decode cX5_ways 1 = .ok (.getfield 29, 3) := by decide +kernel
theorem dX5_ways_4 : decode cX5_ways 4 = .ok (.iload_n 1, 1) := by decide +kernel
theorem dX5_ways_5 : decode cX5_ways 5 = .ok (.invokevirtual 167, 3) := by decide +kernel
theorem dX5_ways_8 : decode cX5_ways 8 = .ok (.ifCond .ne 5, 3) := by decide +kernel
theorem dX5_ways_11 : decode cX5_ways 11 = .ok (.iconst (-1), 1) := by decide +kernel
theorem dX5_ways_12 : decode cX5_ways 12 = .ok (.ireturn, 1) := by decide +kernel
theorem dX5_ways_13 : decode cX5_ways 13 = .ok (.aload_n 0, 1) := by decide +kernel
theorem dX5_ways_14 : decode cX5_ways 14 = .ok (.getfield 29, 3) := by decide +kernel
theorem dX5_ways_17 : decode cX5_ways 17 = .ok (.getfield 168, 3) := by decide +kernel
theorem dX5_ways_20 : decode cX5_ways 20 = .ok (.iload_n 1, 1) := by decide +kernel
theorem dX5_ways_21 : decode cX5_ways 21 = .ok (.iaload, 1) := by decide +kernel
theorem dX5_ways_22 : decode cX5_ways 22 = .ok (.istore_n 2, 1) := by decide +kernel
theorem dX5_ways_23 : decode cX5_ways 23 = .ok (.aload_n 0, 1) := by decide +kernel
theorem dX5_ways_24 : decode cX5_ways 24 = .ok (.iconst 0, 1) := by decide +kernel
theorem dX5_ways_25 : decode cX5_ways 25 = .ok (.putfield 58, 3) := by decide +kernel
theorem dX5_ways_28 : decode cX5_ways 28 = .ok (.aload_n 0, 1) := by decide +kernel
theorem dX5_ways_29 : decode cX5_ways 29 = .ok (.getfield 39, 3) := by decide +kernel
theorem dX5_ways_32 : decode cX5_ways 32 = .ok (.aload_n 0, 1) := by decide +kernel
theorem dX5_ways_33 : decode cX5_ways 33 = .ok (.getfield 19, 3) := by decide +kernel
theorem dX5_ways_36 : decode cX5_ways 36 = .ok (.getfield 192, 3) := by decide +kernel
theorem dX5_ways_39 : decode cX5_ways 39 = .ok (.iload_n 2, 1) := by decide +kernel
theorem dX5_ways_40 : decode cX5_ways 40 = .ok (.invokevirtual 208, 3) := by decide +kernel
theorem dX5_ways_43 : decode cX5_ways 43 = .ok (.ifCond .eq 11, 3) := by decide +kernel
theorem dX5_ways_46 : decode cX5_ways 46 = .ok (.aload_n 0, 1) := by decide +kernel
theorem dX5_ways_47 : decode cX5_ways 47 = .ok (.iload_n 2, 1) := by decide +kernel
theorem dX5_ways_48 : decode cX5_ways 48 = .ok (.invokestatic 137, 3) := by decide +kernel
theorem dX5_ways_51 : decode cX5_ways 51 = .ok (.invokevirtual 212, 3) := by decide +kernel
theorem dX5_ways_54 : decode cX5_ways 54 = .ok (.aload_n 0, 1) := by decide +kernel
theorem dX5_ways_55 : decode cX5_ways 55 = .ok (.getfield 39, 3) := by decide +kernel
theorem dX5_ways_58 : decode cX5_ways 58 = .ok (.aload_n 0, 1) := by decide +kernel
theorem dX5_ways_59 : decode cX5_ways 59 = .ok (.getfield 19, 3) := by decide +kernel
theorem dX5_ways_62 : decode cX5_ways 62 = .ok (.getfield 192, 3) := by decide +kernel
theorem dX5_ways_65 : decode cX5_ways 65 = .ok (.iload_n 2, 1) := by decide +kernel
theorem dX5_ways_66 : decode cX5_ways 66 = .ok (.invokevirtual 215, 3) := by decide +kernel
theorem dX5_ways_69 : decode cX5_ways 69 = .ok (.ireturn, 1) := by decide +kernel
set_option maxRecDepth 20000 in
theorem ggX5_crowd_X1_has : GoodIn wsX5_crowd wsX1_has := goodIn_r _ [7, 8, 63, 64, 65] (by decide +kernel) (by decide +kernel)
set_option maxRecDepth 20000 in
theorem gX5_crowd_X1_has : GoodIn wsX5_crowd (wsV RX5 167 RX1 yX1_has wsX1_has) := goodIn_app (goodIn_of _ (by decide +kernel)) ggX5_crowd_X1_has
set_option maxRecDepth 20000 in
theorem ggX5_crowd_X0_hasWay : GoodIn wsX5_crowd wsX0_hasWay := goodIn_r _ [13, 14, 15, 16, 17, 18, 19, 20, 21, 22, 23, 24, 25, 26, 27, 28, 29, 66, 67, 68, 69, 70, 71, 72, 73, 74] (by decide +kernel) (by decide +kernel)
set_option maxRecDepth 20000 in
theorem gX5_crowd_X0_hasWay : GoodIn wsX5_crowd (wsV RX5 195 RX0 yX0_hasWay wsX0_hasWay) := goodIn_app (goodIn_of _ (by decide +kernel)) ggX5_crowd_X0_hasWay
set_option maxRecDepth 20000 in
theorem ggX5_crowd_J6_bitCount_0f7a4 : GoodIn wsX5_crowd wsJ6_bitCount_0f7a4 := goodIn_r _ [33, 34, 35, 36] (by decide +kernel) (by decide +kernel)
set_option maxRecDepth 20000 in
theorem gX5_crowd_J6_bitCount_0f7a4 : GoodIn wsX5_crowd (va_wsS RX5 137 yJ6_bitCount_0f7a4 wsJ6_bitCount_0f7a4) := goodIn_app (goodIn_of _ (by decide +kernel)) ggX5_crowd_J6_bitCount_0f7a4
set_option maxRecDepth 20000 in
theorem ggX5_crowd_X0_isCrowded : GoodIn wsX5_crowd wsX0_isCrowded := goodIn_r _ [40, 41, 42, 43, 12, 44, 14, 20, 21, 22, 45, 31, 32, 33, 34, 35, 36, 66, 67, 68, 69, 70, 71, 72, 73, 74] (by decide +kernel) (by decide +kernel)
set_option maxRecDepth 20000 in
theorem gX5_crowd_X0_isCrowded : GoodIn wsX5_crowd (wsV RX5 219 RX0 yX0_isCrowded wsX0_isCrowded) := goodIn_app (goodIn_of _ (by decide +kernel)) ggX5_crowd_X0_isCrowded
set_option maxRecDepth 20000 in
theorem ggX5_crowd_X0_columnsOfAny : GoodIn wsX5_crowd wsX0_columnsOfAny := goodIn_r _ [44, 14, 20, 21, 22, 66, 67, 68, 69, 70, 71, 72, 73, 74] (by decide +kernel) (by decide +kernel)
set_option maxRecDepth 20000 in
theorem gX5_crowd_X0_columnsOfAny : GoodIn wsX5_crowd (wsV RX5 222 RX0 yX0_columnsOfAny wsX0_columnsOfAny) := goodIn_app (goodIn_of _ (by decide +kernel)) ggX5_crowd_X0_columnsOfAny
set_option maxRecDepth 20000 in
theorem ggX5_crowd_X5_tell_ : GoodIn wsX5_crowd wsX5_tell_ := goodIn_r _ [50, 51, 52, 53, 54, 55, 56, 57, 58, 59, 60, 61, 62] (by decide +kernel) (by decide +kernel)
set_option maxRecDepth 20000 in
theorem gX5_crowd_X5_tell_ : GoodIn wsX5_crowd (wsV RX5 183 RX5 yX5_tell_ wsX5_tell_) := goodIn_app (goodIn_of _ (by decide +kernel)) ggX5_crowd_X5_tell_
theorem dX5_crowd_0 : decode cX5_crowd 0 = .ok (.aload_n 0, 1) := by decide +kernel
theorem dX5_crowd_1 : decode cX5_crowd 1 = .ok (.getfield 29, 3) := by decide +kernel
theorem dX5_crowd_4 : decode cX5_crowd 4 = .ok (.iload_n 1, 1) := by decide +kernel
theorem dX5_crowd_5 : decode cX5_crowd 5 = .ok (.invokevirtual 167, 3) := by decide +kernel
theorem dX5_crowd_8 : decode cX5_crowd 8 = .ok (.ifCond .ne 5, 3) := by decide +kernel
theorem dX5_crowd_11 : decode cX5_crowd 11 = .ok (.iconst (-1), 1) := by decide +kernel
theorem dX5_crowd_12 : decode cX5_crowd 12 = .ok (.ireturn, 1) := by decide +kernel
theorem dX5_crowd_13 : decode cX5_crowd 13 = .ok (.aload_n 0, 1) := by decide +kernel
theorem dX5_crowd_14 : decode cX5_crowd 14 = .ok (.getfield 29, 3) := by decide +kernel
theorem dX5_crowd_17 : decode cX5_crowd 17 = .ok (.getfield 168, 3) := by decide +kernel
theorem dX5_crowd_20 : decode cX5_crowd 20 = .ok (.iload_n 1, 1) := by decide +kernel
theorem dX5_crowd_21 : decode cX5_crowd 21 = .ok (.iaload, 1) := by decide +kernel
theorem dX5_crowd_22 : decode cX5_crowd 22 = .ok (.istore_n 2, 1) := by decide +kernel
theorem dX5_crowd_23 : decode cX5_crowd 23 = .ok (.aload_n 0, 1) := by decide +kernel
theorem dX5_crowd_24 : decode cX5_crowd 24 = .ok (.getfield 19, 3) := by decide +kernel
theorem dX5_crowd_27 : decode cX5_crowd 27 = .ok (.iload_n 2, 1) := by decide +kernel
theorem dX5_crowd_28 : decode cX5_crowd 28 = .ok (.invokevirtual 195, 3) := by decide +kernel
theorem dX5_crowd_31 : decode cX5_crowd 31 = .ok (.ifCond .eq 6, 3) := by decide +kernel
theorem dX5_crowd_34 : decode cX5_crowd 34 = .ok (.bipush (-2), 2) := by decide +kernel
theorem dX5_crowd_36 : decode cX5_crowd 36 = .ok (.ireturn, 1) := by decide +kernel
theorem dX5_crowd_37 : decode cX5_crowd 37 = .ok (.iconst 0, 1) := by decide +kernel
theorem dX5_crowd_38 : decode cX5_crowd 38 = .ok (.istore_n 3, 1) := by decide +kernel
theorem dX5_crowd_39 : decode cX5_crowd 39 = .ok (.iconst 1, 1) := by decide +kernel
theorem dX5_crowd_40 : decode cX5_crowd 40 = .ok (.istore 4, 2) := by decide +kernel
theorem dX5_crowd_42 : decode cX5_crowd 42 = .ok (.iload 4, 2) := by decide +kernel
theorem dX5_crowd_44 : decode cX5_crowd 44 = .ok (.sipush 1023, 3) := by decide +kernel
theorem dX5_crowd_47 : decode cX5_crowd 47 = .ok (.if_icmp .gt 61, 3) := by decide +kernel
theorem dX5_crowd_50 : decode cX5_crowd 50 = .ok (.iload_n 3, 1) := by decide +kernel
theorem dX5_crowd_51 : decode cX5_crowd 51 = .ok (.ifCond .eq 15, 3) := by decide +kernel
theorem dX5_crowd_54 : decode cX5_crowd 54 = .ok (.iload 4, 2) := by decide +kernel
theorem dX5_crowd_56 : decode cX5_crowd 56 = .ok (.invokestatic 137, 3) := by decide +kernel
theorem dX5_crowd_59 : decode cX5_crowd 59 = .ok (.iload_n 3, 1) := by decide +kernel
theorem dX5_crowd_60 : decode cX5_crowd 60 = .ok (.invokestatic 137, 3) := by decide +kernel
theorem dX5_crowd_63 : decode cX5_crowd 63 = .ok (.if_icmp .ge 7, 3) := by decide +kernel
theorem dX5_crowd_66 : decode cX5_crowd 66 = .ok (.iconst 1, 1) := by decide +kernel
theorem dX5_crowd_67 : decode cX5_crowd 67 = .ok (.goto 4, 3) := by decide +kernel
theorem dX5_crowd_70 : decode cX5_crowd 70 = .ok (.iconst 0, 1) := by decide +kernel
theorem dX5_crowd_71 : decode cX5_crowd 71 = .ok (.istore 5, 2) := by decide +kernel
theorem dX5_crowd_73 : decode cX5_crowd 73 = .ok (.iload 5, 2) := by decide +kernel
theorem dX5_crowd_75 : decode cX5_crowd 75 = .ok (.ifCond .eq 27, 3) := by decide +kernel
theorem dX5_crowd_78 : decode cX5_crowd 78 = .ok (.iload 4, 2) := by decide +kernel
theorem dX5_crowd_80 : decode cX5_crowd 80 = .ok (.iload_n 2, 1) := by decide +kernel
theorem dX5_crowd_81 : decode cX5_crowd 81 = .ok (.iconst (-1), 1) := by decide +kernel
theorem dX5_crowd_82 : decode cX5_crowd 82 = .ok (.ixor, 1) := by decide +kernel
theorem dX5_crowd_83 : decode cX5_crowd 83 = .ok (.iand, 1) := by decide +kernel
theorem dX5_crowd_84 : decode cX5_crowd 84 = .ok (.ifCond .ne 18, 3) := by decide +kernel
theorem dX5_crowd_87 : decode cX5_crowd 87 = .ok (.aload_n 0, 1) := by decide +kernel
theorem dX5_crowd_88 : decode cX5_crowd 88 = .ok (.getfield 19, 3) := by decide +kernel
theorem dX5_crowd_91 : decode cX5_crowd 91 = .ok (.iload 4, 2) := by decide +kernel
theorem dX5_crowd_93 : decode cX5_crowd 93 = .ok (.invokevirtual 219, 3) := by decide +kernel
theorem dX5_crowd_96 : decode cX5_crowd 96 = .ok (.ifCond .eq 6, 3) := by decide +kernel
theorem dX5_crowd_99 : decode cX5_crowd 99 = .ok (.iload 4, 2) := by decide +kernel
theorem dX5_crowd_101 : decode cX5_crowd 101 = .ok (.istore_n 3, 1) := by decide +kernel
theorem dX5_crowd_102 : decode cX5_crowd 102 = .ok (.iinc 4 1, 3) := by decide +kernel
theorem dX5_crowd_105 : decode cX5_crowd 105 = .ok (.goto (-63), 3) := by decide +kernel
theorem dX5_crowd_108 : decode cX5_crowd 108 = .ok (.aload_n 0, 1) := by decide +kernel
theorem dX5_crowd_109 : decode cX5_crowd 109 = .ok (.iload_n 3, 1) := by decide +kernel
theorem dX5_crowd_110 : decode cX5_crowd 110 = .ok (.invokestatic 137, 3) := by decide +kernel
theorem dX5_crowd_113 : decode cX5_crowd 113 = .ok (.aload_n 0, 1) := by decide +kernel
theorem dX5_crowd_114 : decode cX5_crowd 114 = .ok (.getfield 19, 3) := by decide +kernel
theorem dX5_crowd_117 : decode cX5_crowd 117 = .ok (.iload_n 3, 1) := by decide +kernel
theorem dX5_crowd_118 : decode cX5_crowd 118 = .ok (.invokevirtual 222, 3) := by decide +kernel
theorem dX5_crowd_121 : decode cX5_crowd 121 = .ok (.invokevirtual 183, 3) := by decide +kernel
theorem dX5_crowd_124 : decode cX5_crowd 124 = .ok (.iload_n 3, 1) := by decide +kernel
theorem dX5_crowd_125 : decode cX5_crowd 125 = .ok (.ireturn, 1) := by decide +kernel
set_option maxRecDepth 20000 in
theorem ggX5_sets_J6_bitCount_0f7a4 : GoodIn wsX5_sets wsJ6_bitCount_0f7a4 := goodIn_r _ [5, 6, 7, 8] (by decide +kernel) (by decide +kernel)
set_option maxRecDepth 20000 in
theorem gX5_sets_J6_bitCount_0f7a4 : GoodIn wsX5_sets (va_wsS RX5 137 yJ6_bitCount_0f7a4 wsJ6_bitCount_0f7a4) := goodIn_app (goodIn_of _ (by decide +kernel)) ggX5_sets_J6_bitCount_0f7a4
set_option maxRecDepth 20000 in
theorem ggX5_sets_X0_hasWay : GoodIn wsX5_sets wsX0_hasWay := goodIn_r _ [13, 14, 15, 16, 17, 18, 19, 20, 21, 22, 23, 24, 25, 26, 27, 28, 29, 46, 47, 48, 49, 50, 51, 52, 53, 54] (by decide +kernel) (by decide +kernel)
set_option maxRecDepth 20000 in
theorem gX5_sets_X0_hasWay : GoodIn wsX5_sets (wsV RX5 195 RX0 yX0_hasWay wsX0_hasWay) := goodIn_app (goodIn_of _ (by decide +kernel)) ggX5_sets_X0_hasWay
set_option maxRecDepth 20000 in
theorem ggX5_sets_X5_tell_ : GoodIn wsX5_sets wsX5_tell_ := goodIn_r _ [33, 34, 35, 36, 37, 38, 39, 40, 41, 42, 43, 44, 45] (by decide +kernel) (by decide +kernel)
set_option maxRecDepth 20000 in
theorem gX5_sets_X5_tell_ : GoodIn wsX5_sets (wsV RX5 183 RX5 yX5_tell_ wsX5_tell_) := goodIn_app (goodIn_of _ (by decide +kernel)) ggX5_sets_X5_tell_
theorem dX5_sets_0 : decode cX5_sets 0 = .ok (.iload_n 1, 1) := by decide +kernel
theorem dX5_sets_1 : decode cX5_sets 1 = .ok (.iconst 1, 1) := by decide +kernel
theorem dX5_sets_2 : decode cX5_sets 2 = .ok (.if_icmp .lt 9, 3) := by decide +kernel
theorem dX5_sets_5 : decode cX5_sets 5 = .ok (.iload_n 1, 1) := by decide +kernel
theorem dX5_sets_6 : decode cX5_sets 6 = .ok (.bipush 6, 2) := by decide +kernel
theorem dX5_sets_8 : decode cX5_sets 8 = .ok (.if_icmp .le 5, 3) := by decide +kernel
theorem dX5_sets_11 : decode cX5_sets 11 = .ok (.iconst (-1), 1) := by decide +kernel
theorem dX5_sets_12 : decode cX5_sets 12 = .ok (.ireturn, 1) := by decide +kernel
theorem dX5_sets_13 : decode cX5_sets 13 = .ok (.iconst 0, 1) := by decide +kernel
theorem dX5_sets_14 : decode cX5_sets 14 = .ok (.istore_n 2, 1) := by decide +kernel
theorem dX5_sets_15 : decode cX5_sets 15 = .ok (.iconst 0, 1) := by decide +kernel
theorem dX5_sets_16 : decode cX5_sets 16 = .ok (.istore_n 3, 1) := by decide +kernel
theorem dX5_sets_17 : decode cX5_sets 17 = .ok (.iconst (-1), 1) := by decide +kernel
theorem dX5_sets_18 : decode cX5_sets 18 = .ok (.istore 4, 2) := by decide +kernel
theorem dX5_sets_20 : decode cX5_sets 20 = .ok (.iconst 1, 1) := by decide +kernel
theorem dX5_sets_21 : decode cX5_sets 21 = .ok (.istore 5, 2) := by decide +kernel
theorem dX5_sets_23 : decode cX5_sets 23 = .ok (.iload 5, 2) := by decide +kernel
theorem dX5_sets_25 : decode cX5_sets 25 = .ok (.sipush 1023, 3) := by decide +kernel
theorem dX5_sets_28 : decode cX5_sets 28 = .ok (.if_icmp .gt 49, 3) := by decide +kernel
theorem dX5_sets_31 : decode cX5_sets 31 = .ok (.iload 5, 2) := by decide +kernel
theorem dX5_sets_33 : decode cX5_sets 33 = .ok (.invokestatic 137, 3) := by decide +kernel
theorem dX5_sets_36 : decode cX5_sets 36 = .ok (.iload_n 1, 1) := by decide +kernel
theorem dX5_sets_37 : decode cX5_sets 37 = .ok (.if_icmp .ne 34, 3) := by decide +kernel
theorem dX5_sets_40 : decode cX5_sets 40 = .ok (.iinc 2 1, 3) := by decide +kernel
theorem dX5_sets_43 : decode cX5_sets 43 = .ok (.aload_n 0, 1) := by decide +kernel
theorem dX5_sets_44 : decode cX5_sets 44 = .ok (.getfield 19, 3) := by decide +kernel
theorem dX5_sets_47 : decode cX5_sets 47 = .ok (.iload 5, 2) := by decide +kernel
theorem dX5_sets_49 : decode cX5_sets 49 = .ok (.invokevirtual 195, 3) := by decide +kernel
theorem dX5_sets_52 : decode cX5_sets 52 = .ok (.ifCond .eq 9, 3) := by decide +kernel
theorem dX5_sets_55 : decode cX5_sets 55 = .ok (.iinc 3 1, 3) := by decide +kernel
theorem dX5_sets_58 : decode cX5_sets 58 = .ok (.goto 13, 3) := by decide +kernel
theorem dX5_sets_61 : decode cX5_sets 61 = .ok (.iload 4, 2) := by decide +kernel
theorem dX5_sets_63 : decode cX5_sets 63 = .ok (.iconst (-1), 1) := by decide +kernel
theorem dX5_sets_64 : decode cX5_sets 64 = .ok (.if_icmp .ne 7, 3) := by decide +kernel
theorem dX5_sets_67 : decode cX5_sets 67 = .ok (.iload 5, 2) := by decide +kernel
theorem dX5_sets_69 : decode cX5_sets 69 = .ok (.istore 4, 2) := by decide +kernel
theorem dX5_sets_71 : decode cX5_sets 71 = .ok (.iinc 5 1, 3) := by decide +kernel
theorem dX5_sets_74 : decode cX5_sets 74 = .ok (.goto (-51), 3) := by decide +kernel
theorem dX5_sets_77 : decode cX5_sets 77 = .ok (.aload_n 0, 1) := by decide +kernel
theorem dX5_sets_78 : decode cX5_sets 78 = .ok (.iload_n 2, 1) := by decide +kernel
theorem dX5_sets_79 : decode cX5_sets 79 = .ok (.iload 4, 2) := by decide +kernel
theorem dX5_sets_81 : decode cX5_sets 81 = .ok (.invokevirtual 183, 3) := by decide +kernel
theorem dX5_sets_84 : decode cX5_sets 84 = .ok (.iload_n 3, 1) := by decide +kernel
theorem dX5_sets_85 : decode cX5_sets 85 = .ok (.ireturn, 1) := by decide +kernel
set_option maxRecDepth 20000 in
theorem ggX5_both_X5_isSubject : GoodIn wsX5_both wsX5_isSubject := goodIn_r _ [5] (by decide +kernel) (by decide +kernel)
set_option maxRecDepth 20000 in
theorem gX5_both_X5_isSubject : GoodIn wsX5_both (va_wsS RX5 96 yX5_isSubject wsX5_isSubject) := goodIn_app (goodIn_of _ (by decide +kernel)) ggX5_both_X5_isSubject
set_option maxRecDepth 20000 in
theorem ggX5_both_X1_choosersOf : GoodIn wsX5_both wsX1_choosersOf := goodIn_r _ [10, 11, 12, 66, 67, 68] (by decide +kernel) (by decide +kernel)
set_option maxRecDepth 20000 in
theorem gX5_both_X1_choosersOf : GoodIn wsX5_both (wsV RX5 186 RX1 yX1_choosersOf wsX1_choosersOf) := goodIn_app (goodIn_of _ (by decide +kernel)) ggX5_both_X1_choosersOf
set_option maxRecDepth 20000 in
theorem ggX5_both_J6_bitCount_0f7a4 : GoodIn wsX5_both wsJ6_bitCount_0f7a4 := goodIn_r _ [16, 17, 18, 19] (by decide +kernel) (by decide +kernel)
set_option maxRecDepth 20000 in
theorem gX5_both_J6_bitCount_0f7a4 : GoodIn wsX5_both (va_wsS RX5 137 yJ6_bitCount_0f7a4 wsJ6_bitCount_0f7a4) := goodIn_app (goodIn_of _ (by decide +kernel)) ggX5_both_J6_bitCount_0f7a4
set_option maxRecDepth 20000 in
theorem ggX5_both_X5_fitting : GoodIn wsX5_both wsX5_fitting := goodIn_r _ [23, 24, 25, 26, 4, 27, 1, 28, 29, 30, 31, 32, 33, 34, 35, 36, 37, 38, 39, 40, 41, 42, 43, 44, 45, 46, 47, 48, 49, 56, 57, 58, 59, 60, 61, 62, 63, 64, 65, 66, 67, 68, 69, 70, 71, 72, 73, 74, 75, 76, 77] (by decide +kernel) (by decide +kernel)
set_option maxRecDepth 20000 in
theorem gX5_both_X5_fitting : GoodIn wsX5_both (wsV RX5 133 RX5 yX5_fitting wsX5_fitting) := goodIn_app (goodIn_of _ (by decide +kernel)) ggX5_both_X5_fitting
set_option maxRecDepth 20000 in
theorem ggX5_both_X5_tell_ : GoodIn wsX5_both wsX5_tell_ := goodIn_r _ [53, 54, 55, 56, 57, 58, 59, 60, 61, 62, 63, 64, 65] (by decide +kernel) (by decide +kernel)
set_option maxRecDepth 20000 in
theorem gX5_both_X5_tell_ : GoodIn wsX5_both (wsV RX5 183 RX5 yX5_tell_ wsX5_tell_) := goodIn_app (goodIn_of _ (by decide +kernel)) ggX5_both_X5_tell_
theorem dX5_both_0 : decode cX5_both 0 = .ok (.iload_n 1, 1) := by decide +kernel
theorem dX5_both_1 : decode cX5_both 1 = .ok (.invokestatic 96, 3) := by decide +kernel
theorem dX5_both_4 : decode cX5_both 4 = .ok (.ifCond .eq 15, 3) := by decide +kernel
theorem dX5_both_7 : decode cX5_both 7 = .ok (.iload_n 2, 1) := by decide +kernel
theorem dX5_both_8 : decode cX5_both 8 = .ok (.invokestatic 96, 3) := by decide +kernel
theorem dX5_both_11 : decode cX5_both 11 = .ok (.ifCond .eq 8, 3) := by decide +kernel
theorem dX5_both_14 : decode cX5_both 14 = .ok (.iload_n 1, 1) := by decide +kernel
theorem dX5_both_15 : decode cX5_both 15 = .ok (.iload_n 2, 1) := by decide +kernel
theorem dX5_both_16 : decode cX5_both 16 = .ok (.if_icmp .ne 5, 3) := by decide +kernel
theorem dX5_both_19 : decode cX5_both 19 = .ok (.iconst (-1), 1) := by decide +kernel
theorem dX5_both_20 : decode cX5_both 20 = .ok (.ireturn, 1) := by decide +kernel
theorem dX5_both_21 : decode cX5_both 21 = .ok (.aload_n 0, 1) := by decide +kernel
theorem dX5_both_22 : decode cX5_both 22 = .ok (.getfield 29, 3) := by decide +kernel
theorem dX5_both_25 : decode cX5_both 25 = .ok (.iconst 1, 1) := by decide +kernel
theorem dX5_both_26 : decode cX5_both 26 = .ok (.iload_n 1, 1) := by decide +kernel
theorem dX5_both_27 : decode cX5_both 27 = .ok (.ishl, 1) := by decide +kernel
theorem dX5_both_28 : decode cX5_both 28 = .ok (.iconst 1, 1) := by decide +kernel
theorem dX5_both_29 : decode cX5_both 29 = .ok (.iload_n 2, 1) := by decide +kernel
theorem dX5_both_30 : decode cX5_both 30 = .ok (.ishl, 1) := by decide +kernel
theorem dX5_both_31 : decode cX5_both 31 = .ok (.ior, 1) := by decide +kernel
theorem dX5_both_32 : decode cX5_both 32 = .ok (.invokevirtual 186, 3) := by decide +kernel
theorem dX5_both_35 : decode cX5_both 35 = .ok (.istore_n 3, 1) := by decide +kernel
theorem dX5_both_36 : decode cX5_both 36 = .ok (.aload_n 0, 1) := by decide +kernel
theorem dX5_both_37 : decode cX5_both 37 = .ok (.iload_n 3, 1) := by decide +kernel
theorem dX5_both_38 : decode cX5_both 38 = .ok (.invokestatic 137, 3) := by decide +kernel
theorem dX5_both_41 : decode cX5_both 41 = .ok (.iload_n 3, 1) := by decide +kernel
theorem dX5_both_42 : decode cX5_both 42 = .ok (.aload_n 0, 1) := by decide +kernel
theorem dX5_both_43 : decode cX5_both 43 = .ok (.invokevirtual 133, 3) := by decide +kernel
theorem dX5_both_46 : decode cX5_both 46 = .ok (.iconst (-1), 1) := by decide +kernel
theorem dX5_both_47 : decode cX5_both 47 = .ok (.ixor, 1) := by decide +kernel
theorem dX5_both_48 : decode cX5_both 48 = .ok (.iand, 1) := by decide +kernel
theorem dX5_both_49 : decode cX5_both 49 = .ok (.invokestatic 137, 3) := by decide +kernel
theorem dX5_both_52 : decode cX5_both 52 = .ok (.invokevirtual 183, 3) := by decide +kernel
theorem dX5_both_55 : decode cX5_both 55 = .ok (.iload_n 3, 1) := by decide +kernel
theorem dX5_both_56 : decode cX5_both 56 = .ok (.ireturn, 1) := by decide +kernel
set_option maxRecDepth 20000 in
theorem ggX5_clash_X0_shareTheirOnlyColumn : GoodIn wsX5_clash wsX0_shareTheirOnlyColumn := goodIn_r _ [7, 8, 9, 10, 11, 12, 13, 14, 15, 47, 48, 49, 50, 51, 52, 53, 54, 55] (by decide +kernel) (by decide +kernel)
set_option maxRecDepth 20000 in
theorem gX5_clash_X0_shareTheirOnlyColumn : GoodIn wsX5_clash (wsV RX5 225 RX0 yX0_shareTheirOnlyColumn wsX0_shareTheirOnlyColumn) := goodIn_app (goodIn_of _ (by decide +kernel)) ggX5_clash_X0_shareTheirOnlyColumn
set_option maxRecDepth 20000 in
theorem ggX5_clash_X1_choosersOf : GoodIn wsX5_clash wsX1_choosersOf := goodIn_r _ [20, 21, 22, 56, 57, 58] (by decide +kernel) (by decide +kernel)
set_option maxRecDepth 20000 in
theorem gX5_clash_X1_choosersOf : GoodIn wsX5_clash (wsV RX5 186 RX1 yX1_choosersOf wsX1_choosersOf) := goodIn_app (goodIn_of _ (by decide +kernel)) ggX5_clash_X1_choosersOf
set_option maxRecDepth 20000 in
theorem ggX5_clash_J6_bitCount_0f7a4 : GoodIn wsX5_clash wsJ6_bitCount_0f7a4 := goodIn_r _ [12, 13, 14, 15] (by decide +kernel) (by decide +kernel)
set_option maxRecDepth 20000 in
theorem gX5_clash_J6_bitCount_0f7a4 : GoodIn wsX5_clash (va_wsS RX5 137 yJ6_bitCount_0f7a4 wsJ6_bitCount_0f7a4) := goodIn_app (goodIn_of _ (by decide +kernel)) ggX5_clash_J6_bitCount_0f7a4
set_option maxRecDepth 20000 in
theorem ggX5_clash_X5_leastBit : GoodIn wsX5_clash wsX5_leastBit := goodIn_r _ [27, 28, 29, 26, 30] (by decide +kernel) (by decide +kernel)
set_option maxRecDepth 20000 in
theorem gX5_clash_X5_leastBit : GoodIn wsX5_clash (va_wsS RX5 228 yX5_leastBit wsX5_leastBit) := goodIn_app (goodIn_of _ (by decide +kernel)) ggX5_clash_X5_leastBit
set_option maxRecDepth 20000 in
theorem ggX5_clash_X5_tell_ : GoodIn wsX5_clash wsX5_tell_ := goodIn_r _ [34, 35, 36, 37, 38, 39, 40, 41, 42, 43, 44, 45, 46] (by decide +kernel) (by decide +kernel)
set_option maxRecDepth 20000 in
theorem gX5_clash_X5_tell_ : GoodIn wsX5_clash (wsV RX5 183 RX5 yX5_tell_ wsX5_tell_) := goodIn_app (goodIn_of _ (by decide +kernel)) ggX5_clash_X5_tell_
theorem dX5_clash_0 : decode cX5_clash 0 = .ok (.iconst 0, 1) := by decide +kernel
theorem dX5_clash_1 : decode cX5_clash 1 = .ok (.istore_n 1, 1) := by decide +kernel
theorem dX5_clash_2 : decode cX5_clash 2 = .ok (.bipush (-2), 2) := by decide +kernel
theorem dX5_clash_4 : decode cX5_clash 4 = .ok (.istore_n 2, 1) := by decide +kernel
theorem dX5_clash_5 : decode cX5_clash 5 = .ok (.iconst (-1), 1) := by decide +kernel
theorem dX5_clash_6 : decode cX5_clash 6 = .ok (.istore_n 3, 1) := by decide +kernel
theorem dX5_clash_7 : decode cX5_clash 7 = .ok (.iconst 0, 1) := by decide +kernel
theorem dX5_clash_8 : decode cX5_clash 8 = .ok (.istore 4, 2) := by decide +kernel
theorem dX5_clash_10 : decode cX5_clash 10 = .ok (.iload 4, 2) := by decide +kernel
theorem dX5_clash_12 : decode cX5_clash 12 = .ok (.bipush 10, 2) := by decide +kernel
theorem dX5_clash_14 : decode cX5_clash 14 = .ok (.if_icmp .ge 99, 3) := by decide +kernel
theorem dX5_clash_17 : decode cX5_clash 17 = .ok (.iload 4, 2) := by decide +kernel
theorem dX5_clash_19 : decode cX5_clash 19 = .ok (.iconst 1, 1) := by decide +kernel
theorem dX5_clash_20 : decode cX5_clash 20 = .ok (.iadd, 1) := by decide +kernel
theorem dX5_clash_21 : decode cX5_clash 21 = .ok (.istore 5, 2) := by decide +kernel
theorem dX5_clash_23 : decode cX5_clash 23 = .ok (.iload 5, 2) := by decide +kernel
theorem dX5_clash_25 : decode cX5_clash 25 = .ok (.bipush 10, 2) := by decide +kernel
theorem dX5_clash_27 : decode cX5_clash 27 = .ok (.if_icmp .ge 80, 3) := by decide +kernel
theorem dX5_clash_30 : decode cX5_clash 30 = .ok (.aload_n 0, 1) := by decide +kernel
theorem dX5_clash_31 : decode cX5_clash 31 = .ok (.getfield 19, 3) := by decide +kernel
theorem dX5_clash_34 : decode cX5_clash 34 = .ok (.iload 4, 2) := by decide +kernel
theorem dX5_clash_36 : decode cX5_clash 36 = .ok (.iload 5, 2) := by decide +kernel
theorem dX5_clash_38 : decode cX5_clash 38 = .ok (.invokevirtual 225, 3) := by decide +kernel
theorem dX5_clash_41 : decode cX5_clash 41 = .ok (.ifCond .eq 25, 3) := by decide +kernel
theorem dX5_clash_44 : decode cX5_clash 44 = .ok (.aload_n 0, 1) := by decide +kernel
theorem dX5_clash_45 : decode cX5_clash 45 = .ok (.getfield 29, 3) := by decide +kernel
theorem dX5_clash_48 : decode cX5_clash 48 = .ok (.iconst 1, 1) := by decide +kernel
theorem dX5_clash_49 : decode cX5_clash 49 = .ok (.iload 4, 2) := by decide +kernel
theorem dX5_clash_51 : decode cX5_clash 51 = .ok (.ishl, 1) := by decide +kernel
theorem dX5_clash_52 : decode cX5_clash 52 = .ok (.iconst 1, 1) := by decide +kernel
theorem dX5_clash_53 : decode cX5_clash 53 = .ok (.iload 5, 2) := by decide +kernel
theorem dX5_clash_55 : decode cX5_clash 55 = .ok (.ishl, 1) := by decide +kernel
theorem dX5_clash_56 : decode cX5_clash 56 = .ok (.ior, 1) := by decide +kernel
theorem dX5_clash_57 : decode cX5_clash 57 = .ok (.invokevirtual 186, 3) := by decide +kernel
theorem dX5_clash_60 : decode cX5_clash 60 = .ok (.invokestatic 137, 3) := by decide +kernel
theorem dX5_clash_63 : decode cX5_clash 63 = .ok (.goto 4, 3) := by decide +kernel
theorem dX5_clash_66 : decode cX5_clash 66 = .ok (.iconst 0, 1) := by decide +kernel
theorem dX5_clash_67 : decode cX5_clash 67 = .ok (.istore 6, 2) := by decide +kernel
theorem dX5_clash_69 : decode cX5_clash 69 = .ok (.iload 6, 2) := by decide +kernel
theorem dX5_clash_71 : decode cX5_clash 71 = .ok (.iload_n 1, 1) := by decide +kernel
theorem dX5_clash_72 : decode cX5_clash 72 = .ok (.if_icmp .le 29, 3) := by decide +kernel
theorem dX5_clash_75 : decode cX5_clash 75 = .ok (.iload 6, 2) := by decide +kernel
theorem dX5_clash_77 : decode cX5_clash 77 = .ok (.istore_n 1, 1) := by decide +kernel
theorem dX5_clash_78 : decode cX5_clash 78 = .ok (.bipush 10, 2) := by decide +kernel
theorem dX5_clash_80 : decode cX5_clash 80 = .ok (.iload 4, 2) := by decide +kernel
theorem dX5_clash_82 : decode cX5_clash 82 = .ok (.imul, 1) := by decide +kernel
theorem dX5_clash_83 : decode cX5_clash 83 = .ok (.iload 5, 2) := by decide +kernel
theorem dX5_clash_85 : decode cX5_clash 85 = .ok (.iadd, 1) := by decide +kernel
theorem dX5_clash_86 : decode cX5_clash 86 = .ok (.istore_n 2, 1) := by decide +kernel
theorem dX5_clash_87 : decode cX5_clash 87 = .ok (.aload_n 0, 1) := by decide +kernel
theorem dX5_clash_88 : decode cX5_clash 88 = .ok (.getfield 19, 3) := by decide +kernel
theorem dX5_clash_91 : decode cX5_clash 91 = .ok (.getfield 192, 3) := by decide +kernel
theorem dX5_clash_94 : decode cX5_clash 94 = .ok (.iload 4, 2) := by decide +kernel
theorem dX5_clash_96 : decode cX5_clash 96 = .ok (.iaload, 1) := by decide +kernel
theorem dX5_clash_97 : decode cX5_clash 97 = .ok (.invokestatic 228, 3) := by decide +kernel
theorem dX5_clash_100 : decode cX5_clash 100 = .ok (.istore_n 3, 1) := by decide +kernel
theorem dX5_clash_101 : decode cX5_clash 101 = .ok (.iinc 5 1, 3) := by decide +kernel
theorem dX5_clash_104 : decode cX5_clash 104 = .ok (.goto (-81), 3) := by decide +kernel
theorem dX5_clash_107 : decode cX5_clash 107 = .ok (.iinc 4 1, 3) := by decide +kernel
theorem dX5_clash_110 : decode cX5_clash 110 = .ok (.goto (-100), 3) := by decide +kernel
theorem dX5_clash_113 : decode cX5_clash 113 = .ok (.iload_n 2, 1) := by decide +kernel
theorem dX5_clash_114 : decode cX5_clash 114 = .ok (.bipush (-2), 2) := by decide +kernel
theorem dX5_clash_116 : decode cX5_clash 116 = .ok (.if_icmp .eq 9, 3) := by decide +kernel
theorem dX5_clash_119 : decode cX5_clash 119 = .ok (.aload_n 0, 1) := by decide +kernel
theorem dX5_clash_120 : decode cX5_clash 120 = .ok (.iload_n 1, 1) := by decide +kernel
theorem dX5_clash_121 : decode cX5_clash 121 = .ok (.iload_n 3, 1) := by decide +kernel
theorem dX5_clash_122 : decode cX5_clash 122 = .ok (.invokevirtual 183, 3) := by decide +kernel
theorem dX5_clash_125 : decode cX5_clash 125 = .ok (.iload_n 2, 1) := by decide +kernel
theorem dX5_clash_126 : decode cX5_clash 126 = .ok (.ireturn, 1) := by decide +kernel
set_option maxRecDepth 20000 in
theorem ggX5_gain_X0_has : GoodIn wsX5_gain wsX0_has := goodIn_r _ [6, 7, 95, 96, 97, 98, 99, 100, 101, 102, 103] (by decide +kernel) (by decide +kernel)
set_option maxRecDepth 20000 in
theorem gX5_gain_X0_has : GoodIn wsX5_gain (wsV RX5 109 RX0 yX0_has wsX0_has) := goodIn_app (goodIn_of _ (by decide +kernel)) ggX5_gain_X0_has
set_option maxRecDepth 20000 in
theorem ggX5_gain_X0_hasColumn : GoodIn wsX5_gain wsX0_hasColumn := goodIn_r _ [11, 12, 95, 96, 97, 98, 99, 100, 101, 102, 103] (by decide +kernel) (by decide +kernel)
set_option maxRecDepth 20000 in
theorem gX5_gain_X0_hasColumn : GoodIn wsX5_gain (wsV RX5 119 RX0 yX0_hasColumn wsX0_hasColumn) := goodIn_app (goodIn_of _ (by decide +kernel)) ggX5_gain_X0_hasColumn
set_option maxRecDepth 20000 in
theorem ggX5_gain_X0_mayMove : GoodIn wsX5_gain wsX0_mayMove := goodIn_r _ [16, 17, 18, 19, 20, 21, 5, 22, 7, 23, 24, 25, 26, 27, 95, 96, 97, 98, 99, 100, 101, 102, 103] (by decide +kernel) (by decide +kernel)
set_option maxRecDepth 20000 in
theorem gX5_gain_X0_mayMove : GoodIn wsX5_gain (wsV RX5 125 RX0 yX0_mayMove wsX0_mayMove) := goodIn_app (goodIn_of _ (by decide +kernel)) ggX5_gain_X0_mayMove
set_option maxRecDepth 20000 in
theorem ggX5_gain_X5_fitting : GoodIn wsX5_gain wsX5_fitting := goodIn_r _ [31, 32, 33, 34, 26, 35, 36, 1, 37, 25, 27, 38, 39, 40, 5, 41, 42, 43, 44, 45, 46, 47, 48, 49, 50, 51, 52, 53, 54, 85, 86, 87, 88, 89, 90, 91, 92, 93, 94, 104, 105, 106, 95, 96, 97, 98, 99, 100, 101, 102, 103] (by decide +kernel) (by decide +kernel)
set_option maxRecDepth 20000 in
theorem gX5_gain_X5_fitting : GoodIn wsX5_gain (wsV RX5 133 RX5 yX5_fitting wsX5_fitting) := goodIn_app (goodIn_of _ (by decide +kernel)) ggX5_gain_X5_fitting
set_option maxRecDepth 20000 in
theorem ggX5_gain_X5_fittingMoved : GoodIn wsX5_gain wsX5_fittingMoved := goodIn_r _ [58, 1, 59, 60, 61, 5, 62, 17, 63, 64, 65, 66, 67, 42, 68, 69, 70, 71, 7, 32, 33, 34, 26, 35, 36, 37, 25, 27, 38, 39, 40, 41, 43, 44, 45, 46, 47, 48, 49, 50, 51, 52, 53, 54, 85, 86, 87, 88, 89, 90, 91, 92, 93, 94, 95, 96, 97, 98, 99, 100, 101, 102, 103, 104, 105, 106] (by decide +kernel) (by decide +kernel)
set_option maxRecDepth 20000 in
theorem gX5_gain_X5_fittingMoved : GoodIn wsX5_gain (wsV RX5 231 RX5 yX5_fittingMoved wsX5_fittingMoved) := goodIn_app (goodIn_of _ (by decide +kernel)) ggX5_gain_X5_fittingMoved
set_option maxRecDepth 20000 in
theorem ggX5_gain_X5_tell_ : GoodIn wsX5_gain wsX5_tell_ := goodIn_r _ [75, 76, 77, 85, 86, 87, 88, 89, 90, 91, 92, 93, 94] (by decide +kernel) (by decide +kernel)
set_option maxRecDepth 20000 in
theorem gX5_gain_X5_tell_ : GoodIn wsX5_gain (wsV RX5 183 RX5 yX5_tell_ wsX5_tell_) := goodIn_app (goodIn_of _ (by decide +kernel)) ggX5_gain_X5_tell_
set_option maxRecDepth 20000 in
theorem ggX5_gain_J6_bitCount_0f7a4 : GoodIn wsX5_gain wsJ6_bitCount_0f7a4 := goodIn_r _ [81, 82, 83, 84] (by decide +kernel) (by decide +kernel)
set_option maxRecDepth 20000 in
theorem gX5_gain_J6_bitCount_0f7a4 : GoodIn wsX5_gain (va_wsS RX5 137 yJ6_bitCount_0f7a4 wsJ6_bitCount_0f7a4) := goodIn_app (goodIn_of _ (by decide +kernel)) ggX5_gain_J6_bitCount_0f7a4
theorem dX5_gain_0 : decode cX5_gain 0 = .ok (.aload_n 0, 1) := by decide +kernel
theorem dX5_gain_1 : decode cX5_gain 1 = .ok (.getfield 19, 3) := by decide +kernel
theorem dX5_gain_4 : decode cX5_gain 4 = .ok (.iload_n 1, 1) := by decide +kernel
theorem dX5_gain_5 : decode cX5_gain 5 = .ok (.invokevirtual 109, 3) := by decide +kernel
theorem dX5_gain_8 : decode cX5_gain 8 = .ok (.ifCond .eq 14, 3) := by decide +kernel
theorem dX5_gain_11 : decode cX5_gain 11 = .ok (.aload_n 0, 1) := by decide +kernel
theorem dX5_gain_12 : decode cX5_gain 12 = .ok (.getfield 19, 3) := by decide +kernel
theorem dX5_gain_15 : decode cX5_gain 15 = .ok (.iload_n 2, 1) := by decide +kernel
theorem dX5_gain_16 : decode cX5_gain 16 = .ok (.invokevirtual 119, 3) := by decide +kernel
theorem dX5_gain_19 : decode cX5_gain 19 = .ok (.ifCond .ne 5, 3) := by decide +kernel
theorem dX5_gain_22 : decode cX5_gain 22 = .ok (.iconst (-1), 1) := by decide +kernel
theorem dX5_gain_23 : decode cX5_gain 23 = .ok (.ireturn, 1) := by decide +kernel
theorem dX5_gain_24 : decode cX5_gain 24 = .ok (.aload_n 0, 1) := by decide +kernel
theorem dX5_gain_25 : decode cX5_gain 25 = .ok (.getfield 19, 3) := by decide +kernel
theorem dX5_gain_28 : decode cX5_gain 28 = .ok (.iload_n 1, 1) := by decide +kernel
theorem dX5_gain_29 : decode cX5_gain 29 = .ok (.iload_n 2, 1) := by decide +kernel
theorem dX5_gain_30 : decode cX5_gain 30 = .ok (.invokevirtual 125, 3) := by decide +kernel
theorem dX5_gain_33 : decode cX5_gain 33 = .ok (.ifCond .ne 7, 3) := by decide +kernel
theorem dX5_gain_36 : decode cX5_gain 36 = .ok (.sipush (-1000), 3) := by decide +kernel
theorem dX5_gain_39 : decode cX5_gain 39 = .ok (.ireturn, 1) := by decide +kernel
theorem dX5_gain_40 : decode cX5_gain 40 = .ok (.aload_n 0, 1) := by decide +kernel
theorem dX5_gain_41 : decode cX5_gain 41 = .ok (.invokevirtual 133, 3) := by decide +kernel
theorem dX5_gain_44 : decode cX5_gain 44 = .ok (.istore_n 3, 1) := by decide +kernel
theorem dX5_gain_45 : decode cX5_gain 45 = .ok (.aload_n 0, 1) := by decide +kernel
theorem dX5_gain_46 : decode cX5_gain 46 = .ok (.iload_n 3, 1) := by decide +kernel
theorem dX5_gain_47 : decode cX5_gain 47 = .ok (.iload_n 1, 1) := by decide +kernel
theorem dX5_gain_48 : decode cX5_gain 48 = .ok (.iload_n 2, 1) := by decide +kernel
theorem dX5_gain_49 : decode cX5_gain 49 = .ok (.invokevirtual 231, 3) := by decide +kernel
theorem dX5_gain_52 : decode cX5_gain 52 = .ok (.istore 4, 2) := by decide +kernel
theorem dX5_gain_54 : decode cX5_gain 54 = .ok (.aload_n 0, 1) := by decide +kernel
theorem dX5_gain_55 : decode cX5_gain 55 = .ok (.iload 4, 2) := by decide +kernel
theorem dX5_gain_57 : decode cX5_gain 57 = .ok (.iload_n 3, 1) := by decide +kernel
theorem dX5_gain_58 : decode cX5_gain 58 = .ok (.iconst (-1), 1) := by decide +kernel
theorem dX5_gain_59 : decode cX5_gain 59 = .ok (.ixor, 1) := by decide +kernel
theorem dX5_gain_60 : decode cX5_gain 60 = .ok (.iand, 1) := by decide +kernel
theorem dX5_gain_61 : decode cX5_gain 61 = .ok (.iload_n 3, 1) := by decide +kernel
theorem dX5_gain_62 : decode cX5_gain 62 = .ok (.iload 4, 2) := by decide +kernel
theorem dX5_gain_64 : decode cX5_gain 64 = .ok (.iconst (-1), 1) := by decide +kernel
theorem dX5_gain_65 : decode cX5_gain 65 = .ok (.ixor, 1) := by decide +kernel
theorem dX5_gain_66 : decode cX5_gain 66 = .ok (.iand, 1) := by decide +kernel
theorem dX5_gain_67 : decode cX5_gain 67 = .ok (.invokevirtual 183, 3) := by decide +kernel
theorem dX5_gain_70 : decode cX5_gain 70 = .ok (.iload 4, 2) := by decide +kernel
theorem dX5_gain_72 : decode cX5_gain 72 = .ok (.invokestatic 137, 3) := by decide +kernel
theorem dX5_gain_75 : decode cX5_gain 75 = .ok (.iload_n 3, 1) := by decide +kernel
theorem dX5_gain_76 : decode cX5_gain 76 = .ok (.invokestatic 137, 3) := by decide +kernel
theorem dX5_gain_79 : decode cX5_gain 79 = .ok (.isub, 1) := by decide +kernel
theorem dX5_gain_80 : decode cX5_gain 80 = .ok (.ireturn, 1) := by decide +kernel
set_option maxRecDepth 20000 in
theorem ggX5_best_X5_fitting : GoodIn wsX5_best wsX5_fitting := goodIn_r _ [5, 6, 7, 8, 4, 9, 10, 11, 12, 13, 14, 15, 16, 17, 18, 19, 20, 21, 22, 23, 24, 25, 26, 27, 28, 29, 30, 31, 32, 84, 85, 86, 87, 88, 89, 90, 91, 92, 93, 94, 95, 96, 97, 98, 99, 100, 101, 102, 103, 104, 105] (by decide +kernel) (by decide +kernel)
set_option maxRecDepth 20000 in
theorem gX5_best_X5_fitting : GoodIn wsX5_best (wsV RX5 133 RX5 yX5_fitting wsX5_fitting) := goodIn_app (goodIn_of _ (by decide +kernel)) ggX5_best_X5_fitting
set_option maxRecDepth 20000 in
theorem ggX5_best_X5_bestMove : GoodIn wsX5_best wsX5_bestMove := goodIn_r _ [36, 11, 37, 38, 39, 40, 41, 42, 43, 44, 45, 46, 18, 47, 48, 49, 50, 51, 52, 53, 54, 55, 56, 13, 4, 14, 57, 58, 59, 60, 61, 62, 63, 64, 65, 66, 67, 68, 69, 20, 70, 71, 72, 73, 6, 7, 8, 9, 10, 12, 15, 16, 17, 19, 21, 22, 23, 24, 25, 26, 27, 28, 29, 30, 31, 32, 74, 75, 76, 77, 84, 85, 86, 87, 88, 89, 90, 91, 92, 93, 97, 98, 99, 100, 101, 102, 103, 104, 105, 94, 95, 96] (by decide +kernel) (by decide +kernel)
set_option maxRecDepth 20000 in
theorem gX5_best_X5_bestMove : GoodIn wsX5_best (wsV RX5 234 RX5 yX5_bestMove wsX5_bestMove) := goodIn_app (goodIn_of _ (by decide +kernel)) ggX5_best_X5_bestMove
set_option maxRecDepth 20000 in
theorem ggX5_best_X5_fittingMoved : GoodIn wsX5_best wsX5_fittingMoved := goodIn_r _ [60, 11, 61, 62, 63, 18, 64, 48, 65, 66, 67, 68, 69, 20, 70, 71, 72, 73, 54, 6, 7, 8, 4, 9, 10, 12, 13, 14, 15, 16, 17, 19, 21, 22, 23, 24, 25, 26, 27, 28, 29, 30, 31, 32, 84, 85, 86, 87, 88, 89, 90, 91, 92, 93, 97, 98, 99, 100, 101, 102, 103, 104, 105, 94, 95, 96] (by decide +kernel) (by decide +kernel)
set_option maxRecDepth 20000 in
theorem gX5_best_X5_fittingMoved : GoodIn wsX5_best (wsV RX5 231 RX5 yX5_fittingMoved wsX5_fittingMoved) := goodIn_app (goodIn_of _ (by decide +kernel)) ggX5_best_X5_fittingMoved
set_option maxRecDepth 20000 in
theorem ggX5_best_J6_bitCount_0f7a4 : GoodIn wsX5_best wsJ6_bitCount_0f7a4 := goodIn_r _ [40, 41, 42, 43] (by decide +kernel) (by decide +kernel)
set_option maxRecDepth 20000 in
theorem gX5_best_J6_bitCount_0f7a4 : GoodIn wsX5_best (va_wsS RX5 137 yJ6_bitCount_0f7a4 wsJ6_bitCount_0f7a4) := goodIn_app (goodIn_of _ (by decide +kernel)) ggX5_best_J6_bitCount_0f7a4
set_option maxRecDepth 20000 in
theorem ggX5_best_X5_tell : GoodIn wsX5_best wsX5_tell := goodIn_r _ [81, 82, 83, 84, 85, 86, 87, 88, 89, 90, 91, 92, 93] (by decide +kernel) (by decide +kernel)
set_option maxRecDepth 20000 in
theorem gX5_best_X5_tell : GoodIn wsX5_best (wsV RX5 202 RX5 yX5_tell wsX5_tell) := goodIn_app (goodIn_of _ (by decide +kernel)) ggX5_best_X5_tell
theorem dX5_best_0 : decode cX5_best 0 = .ok (.aload_n 0, 1) := by decide +kernel
theorem dX5_best_1 : decode cX5_best 1 = .ok (.invokevirtual 133, 3) := by decide +kernel
theorem dX5_best_4 : decode cX5_best 4 = .ok (.istore_n 1, 1) := by decide +kernel
theorem dX5_best_5 : decode cX5_best 5 = .ok (.aload_n 0, 1) := by decide +kernel
theorem dX5_best_6 : decode cX5_best 6 = .ok (.iload_n 1, 1) := by decide +kernel
theorem dX5_best_7 : decode cX5_best 7 = .ok (.invokevirtual 234, 3) := by decide +kernel
theorem dX5_best_10 : decode cX5_best 10 = .ok (.istore_n 2, 1) := by decide +kernel
theorem dX5_best_11 : decode cX5_best 11 = .ok (.iload_n 2, 1) := by decide +kernel
theorem dX5_best_12 : decode cX5_best 12 = .ok (.bipush (-2), 2) := by decide +kernel
theorem dX5_best_14 : decode cX5_best 14 = .ok (.if_icmp .eq 23, 3) := by decide +kernel
theorem dX5_best_17 : decode cX5_best 17 = .ok (.aload_n 0, 1) := by decide +kernel
theorem dX5_best_18 : decode cX5_best 18 = .ok (.aload_n 0, 1) := by decide +kernel
theorem dX5_best_19 : decode cX5_best 19 = .ok (.iload_n 1, 1) := by decide +kernel
theorem dX5_best_20 : decode cX5_best 20 = .ok (.iload_n 2, 1) := by decide +kernel
theorem dX5_best_21 : decode cX5_best 21 = .ok (.bipush 100, 2) := by decide +kernel
theorem dX5_best_23 : decode cX5_best 23 = .ok (.idiv, 1) := by decide +kernel
theorem dX5_best_24 : decode cX5_best 24 = .ok (.iload_n 2, 1) := by decide +kernel
theorem dX5_best_25 : decode cX5_best 25 = .ok (.bipush 100, 2) := by decide +kernel
theorem dX5_best_27 : decode cX5_best 27 = .ok (.irem, 1) := by decide +kernel
theorem dX5_best_28 : decode cX5_best 28 = .ok (.invokevirtual 231, 3) := by decide +kernel
theorem dX5_best_31 : decode cX5_best 31 = .ok (.invokestatic 137, 3) := by decide +kernel
theorem dX5_best_34 : decode cX5_best 34 = .ok (.invokevirtual 202, 3) := by decide +kernel
theorem dX5_best_37 : decode cX5_best 37 = .ok (.iload_n 2, 1) := by decide +kernel
theorem dX5_best_38 : decode cX5_best 38 = .ok (.ireturn, 1) := by decide +kernel
set_option maxRecDepth 20000 in
theorem ggX5_climbs_X5_fitting : GoodIn wsX5_climbs wsX5_fitting := goodIn_r _ [6, 7, 8, 9, 5, 10, 11, 1, 12, 13, 14, 15, 16, 17, 18, 19, 20, 21, 22, 23, 24, 25, 26, 27, 28, 29, 30, 31, 32, 84, 85, 86, 87, 88, 89, 90, 91, 92, 93, 94, 95, 96, 97, 98, 99, 100, 101, 102, 103, 104, 105] (by decide +kernel) (by decide +kernel)
set_option maxRecDepth 20000 in
theorem gX5_climbs_X5_fitting : GoodIn wsX5_climbs (wsV RX5 133 RX5 yX5_fitting wsX5_fitting) := goodIn_app (goodIn_of _ (by decide +kernel)) ggX5_climbs_X5_fitting
set_option maxRecDepth 20000 in
theorem ggX5_climbs_X5_bestMove : GoodIn wsX5_climbs wsX5_bestMove := goodIn_r _ [36, 1, 37, 38, 39, 40, 41, 42, 43, 44, 45, 46, 18, 47, 48, 49, 50, 51, 52, 53, 54, 55, 56, 13, 5, 14, 57, 58, 59, 60, 61, 62, 63, 64, 65, 66, 67, 68, 69, 20, 70, 71, 72, 73, 7, 8, 9, 10, 11, 12, 15, 16, 17, 19, 21, 22, 23, 24, 25, 26, 27, 28, 29, 30, 31, 32, 74, 75, 76, 77, 84, 85, 86, 87, 88, 89, 90, 91, 92, 93, 97, 98, 99, 100, 101, 102, 103, 104, 105, 94, 95, 96] (by decide +kernel) (by decide +kernel)
set_option maxRecDepth 20000 in
theorem gX5_climbs_X5_bestMove : GoodIn wsX5_climbs (wsV RX5 234 RX5 yX5_bestMove wsX5_bestMove) := goodIn_app (goodIn_of _ (by decide +kernel)) ggX5_climbs_X5_bestMove
set_option maxRecDepth 20000 in
theorem ggX5_climbs_X0_place : GoodIn wsX5_climbs wsX0_place := goodIn_r _ [64, 48, 65, 66, 67, 68, 18, 69, 20, 70, 71, 72, 73, 54, 97, 98, 99, 100, 101, 102, 103, 104, 105] (by decide +kernel) (by decide +kernel)
set_option maxRecDepth 20000 in
theorem gX5_climbs_X0_place : GoodIn wsX5_climbs (wsV RX5 129 RX0 yX0_place wsX0_place) := goodIn_app (goodIn_of _ (by decide +kernel)) ggX5_climbs_X0_place
set_option maxRecDepth 20000 in
theorem ggX5_climbs_J6_bitCount_0f7a4 : GoodIn wsX5_climbs wsJ6_bitCount_0f7a4 := goodIn_r _ [40, 41, 42, 43] (by decide +kernel) (by decide +kernel)
set_option maxRecDepth 20000 in
theorem gX5_climbs_J6_bitCount_0f7a4 : GoodIn wsX5_climbs (va_wsS RX5 137 yJ6_bitCount_0f7a4 wsJ6_bitCount_0f7a4) := goodIn_app (goodIn_of _ (by decide +kernel)) ggX5_climbs_J6_bitCount_0f7a4
set_option maxRecDepth 20000 in
theorem ggX5_climbs_X5_tell : GoodIn wsX5_climbs wsX5_tell := goodIn_r _ [81, 82, 83, 84, 85, 86, 87, 88, 89, 90, 91, 92, 93] (by decide +kernel) (by decide +kernel)
set_option maxRecDepth 20000 in
theorem gX5_climbs_X5_tell : GoodIn wsX5_climbs (wsV RX5 202 RX5 yX5_tell wsX5_tell) := goodIn_app (goodIn_of _ (by decide +kernel)) ggX5_climbs_X5_tell
theorem dX5_climbs_0 : decode cX5_climbs 0 = .ok (.iload_n 1, 1) := by decide +kernel
theorem dX5_climbs_1 : decode cX5_climbs 1 = .ok (.iconst 1, 1) := by decide +kernel
theorem dX5_climbs_2 : decode cX5_climbs 2 = .ok (.if_icmp .lt 9, 3) := by decide +kernel
theorem dX5_climbs_5 : decode cX5_climbs 5 = .ok (.iload_n 1, 1) := by decide +kernel
theorem dX5_climbs_6 : decode cX5_climbs 6 = .ok (.bipush 30, 2) := by decide +kernel
theorem dX5_climbs_8 : decode cX5_climbs 8 = .ok (.if_icmp .le 5, 3) := by decide +kernel
theorem dX5_climbs_11 : decode cX5_climbs 11 = .ok (.iconst (-1), 1) := by decide +kernel
theorem dX5_climbs_12 : decode cX5_climbs 12 = .ok (.ireturn, 1) := by decide +kernel
theorem dX5_climbs_13 : decode cX5_climbs 13 = .ok (.aload_n 0, 1) := by decide +kernel
theorem dX5_climbs_14 : decode cX5_climbs 14 = .ok (.invokevirtual 133, 3) := by decide +kernel
theorem dX5_climbs_17 : decode cX5_climbs 17 = .ok (.istore_n 2, 1) := by decide +kernel
theorem dX5_climbs_18 : decode cX5_climbs 18 = .ok (.iconst 0, 1) := by decide +kernel
theorem dX5_climbs_19 : decode cX5_climbs 19 = .ok (.istore_n 3, 1) := by decide +kernel
theorem dX5_climbs_20 : decode cX5_climbs 20 = .ok (.iload_n 3, 1) := by decide +kernel
theorem dX5_climbs_21 : decode cX5_climbs 21 = .ok (.iload_n 1, 1) := by decide +kernel
theorem dX5_climbs_22 : decode cX5_climbs 22 = .ok (.if_icmp .ge 48, 3) := by decide +kernel
theorem dX5_climbs_25 : decode cX5_climbs 25 = .ok (.aload_n 0, 1) := by decide +kernel
theorem dX5_climbs_26 : decode cX5_climbs 26 = .ok (.iload_n 2, 1) := by decide +kernel
theorem dX5_climbs_27 : decode cX5_climbs 27 = .ok (.invokevirtual 234, 3) := by decide +kernel
theorem dX5_climbs_30 : decode cX5_climbs 30 = .ok (.istore 4, 2) := by decide +kernel
theorem dX5_climbs_32 : decode cX5_climbs 32 = .ok (.iload 4, 2) := by decide +kernel
theorem dX5_climbs_34 : decode cX5_climbs 34 = .ok (.bipush (-2), 2) := by decide +kernel
theorem dX5_climbs_36 : decode cX5_climbs 36 = .ok (.if_icmp .ne 6, 3) := by decide +kernel
theorem dX5_climbs_39 : decode cX5_climbs 39 = .ok (.goto 31, 3) := by decide +kernel
theorem dX5_climbs_42 : decode cX5_climbs 42 = .ok (.aload_n 0, 1) := by decide +kernel
theorem dX5_climbs_43 : decode cX5_climbs 43 = .ok (.getfield 19, 3) := by decide +kernel
theorem dX5_climbs_46 : decode cX5_climbs 46 = .ok (.iload 4, 2) := by decide +kernel
theorem dX5_climbs_48 : decode cX5_climbs 48 = .ok (.bipush 100, 2) := by decide +kernel
theorem dX5_climbs_50 : decode cX5_climbs 50 = .ok (.idiv, 1) := by decide +kernel
theorem dX5_climbs_51 : decode cX5_climbs 51 = .ok (.iload 4, 2) := by decide +kernel
theorem dX5_climbs_53 : decode cX5_climbs 53 = .ok (.bipush 100, 2) := by decide +kernel
theorem dX5_climbs_55 : decode cX5_climbs 55 = .ok (.irem, 1) := by decide +kernel
theorem dX5_climbs_56 : decode cX5_climbs 56 = .ok (.invokevirtual 129, 3) := by decide +kernel
theorem dX5_climbs_59 : decode cX5_climbs 59 = .ok (.aload_n 0, 1) := by decide +kernel
theorem dX5_climbs_60 : decode cX5_climbs 60 = .ok (.invokevirtual 133, 3) := by decide +kernel
theorem dX5_climbs_63 : decode cX5_climbs 63 = .ok (.istore_n 2, 1) := by decide +kernel
theorem dX5_climbs_64 : decode cX5_climbs 64 = .ok (.iinc 3 1, 3) := by decide +kernel
theorem dX5_climbs_67 : decode cX5_climbs 67 = .ok (.goto (-47), 3) := by decide +kernel
theorem dX5_climbs_70 : decode cX5_climbs 70 = .ok (.aload_n 0, 1) := by decide +kernel
theorem dX5_climbs_71 : decode cX5_climbs 71 = .ok (.iload_n 2, 1) := by decide +kernel
theorem dX5_climbs_72 : decode cX5_climbs 72 = .ok (.invokestatic 137, 3) := by decide +kernel
theorem dX5_climbs_75 : decode cX5_climbs 75 = .ok (.invokevirtual 202, 3) := by decide +kernel
theorem dX5_climbs_78 : decode cX5_climbs 78 = .ok (.iload_n 3, 1) := by decide +kernel
theorem dX5_climbs_79 : decode cX5_climbs 79 = .ok (.ireturn, 1) := by decide +kernel
set_option maxRecDepth 20000 in
theorem ggX5_exchange_X5_fitting : GoodIn wsX5_exchange wsX5_fitting := goodIn_r _ [6, 7, 8, 9, 5, 10, 11, 1, 12, 13, 14, 15, 16, 17, 18, 19, 20, 21, 22, 23, 24, 25, 26, 27, 28, 29, 30, 31, 32, 92, 93, 94, 95, 96, 97, 98, 99, 100, 101, 111, 112, 113, 102, 103, 104, 105, 106, 107, 108, 109, 110] (by decide +kernel) (by decide +kernel)
set_option maxRecDepth 20000 in
theorem gX5_exchange_X5_fitting : GoodIn wsX5_exchange (wsV RX5 133 RX5 yX5_fitting wsX5_fitting) := goodIn_app (goodIn_of _ (by decide +kernel)) ggX5_exchange_X5_fitting
set_option maxRecDepth 20000 in
theorem ggX5_exchange_J6_bitCount_0f7a4 : GoodIn wsX5_exchange wsJ6_bitCount_0f7a4 := goodIn_r _ [36, 37, 38, 39] (by decide +kernel) (by decide +kernel)
set_option maxRecDepth 20000 in
theorem gX5_exchange_J6_bitCount_0f7a4 : GoodIn wsX5_exchange (va_wsS RX5 137 yJ6_bitCount_0f7a4 wsJ6_bitCount_0f7a4) := goodIn_app (goodIn_of _ (by decide +kernel)) ggX5_exchange_J6_bitCount_0f7a4
set_option maxRecDepth 20000 in
theorem ggX5_exchange_X0_areApart : GoodIn wsX5_exchange wsX0_areApart := goodIn_r _ [43, 44, 102, 103, 104, 105, 106, 107, 108, 109, 110] (by decide +kernel) (by decide +kernel)
set_option maxRecDepth 20000 in
theorem gX5_exchange_X0_areApart : GoodIn wsX5_exchange (wsV RX5 237 RX0 yX0_areApart wsX0_areApart) := goodIn_app (goodIn_of _ (by decide +kernel)) ggX5_exchange_X0_areApart
set_option maxRecDepth 20000 in
theorem ggX5_exchange_X0_mayTrade : GoodIn wsX5_exchange wsX0_mayTrade := goodIn_r _ [48, 49, 50, 51, 18, 52, 44, 53, 54, 55, 56, 57, 58, 59, 60, 13, 5, 14, 102, 103, 104, 105, 106, 107, 108, 109, 110] (by decide +kernel) (by decide +kernel)
set_option maxRecDepth 20000 in
theorem gX5_exchange_X0_mayTrade : GoodIn wsX5_exchange (wsV RX5 143 RX0 yX0_mayTrade wsX0_mayTrade) := goodIn_app (goodIn_of _ (by decide +kernel)) ggX5_exchange_X0_mayTrade
set_option maxRecDepth 20000 in
theorem ggX5_exchange_X5_fittingTraded : GoodIn wsX5_exchange wsX5_fittingTraded := goodIn_r _ [64, 1, 65, 66, 67, 18, 68, 44, 69, 70, 71, 72, 73, 74, 75, 76, 77, 20, 78, 79, 80, 81, 58, 7, 8, 9, 5, 10, 11, 12, 13, 14, 15, 16, 17, 19, 21, 22, 23, 24, 25, 26, 27, 28, 29, 30, 31, 32, 92, 93, 94, 95, 96, 97, 98, 99, 100, 101, 102, 103, 104, 105, 106, 107, 108, 109, 110, 111, 112, 113] (by decide +kernel) (by decide +kernel)
set_option maxRecDepth 20000 in
theorem gX5_exchange_X5_fittingTraded : GoodIn wsX5_exchange (wsV RX5 240 RX5 yX5_fittingTraded wsX5_fittingTraded) := goodIn_app (goodIn_of _ (by decide +kernel)) ggX5_exchange_X5_fittingTraded
set_option maxRecDepth 20000 in
theorem ggX5_exchange_X5_isHeld : GoodIn wsX5_exchange wsX5_isHeld := goodIn_r _ [85, 11, 92, 93, 94, 95, 96, 97, 98, 99, 100, 101, 111, 112, 113] (by decide +kernel) (by decide +kernel)
set_option maxRecDepth 20000 in
theorem gX5_exchange_X5_isHeld : GoodIn wsX5_exchange (wsV RX5 243 RX5 yX5_isHeld wsX5_isHeld) := goodIn_app (goodIn_of _ (by decide +kernel)) ggX5_exchange_X5_isHeld
set_option maxRecDepth 20000 in
theorem ggX5_exchange_X5_tell : GoodIn wsX5_exchange wsX5_tell := goodIn_r _ [89, 90, 91, 92, 93, 94, 95, 96, 97, 98, 99, 100, 101] (by decide +kernel) (by decide +kernel)
set_option maxRecDepth 20000 in
theorem gX5_exchange_X5_tell : GoodIn wsX5_exchange (wsV RX5 202 RX5 yX5_tell wsX5_tell) := goodIn_app (goodIn_of _ (by decide +kernel)) ggX5_exchange_X5_tell
theorem dX5_exchange_0 : decode cX5_exchange 0 = .ok (.aload_n 0, 1) := by decide +kernel
theorem dX5_exchange_1 : decode cX5_exchange 1 = .ok (.invokevirtual 133, 3) := by decide +kernel
theorem dX5_exchange_4 : decode cX5_exchange 4 = .ok (.istore_n 1, 1) := by decide +kernel
theorem dX5_exchange_5 : decode cX5_exchange 5 = .ok (.iload_n 1, 1) := by decide +kernel
theorem dX5_exchange_6 : decode cX5_exchange 6 = .ok (.invokestatic 137, 3) := by decide +kernel
theorem dX5_exchange_9 : decode cX5_exchange 9 = .ok (.istore_n 2, 1) := by decide +kernel
theorem dX5_exchange_10 : decode cX5_exchange 10 = .ok (.bipush (-2), 2) := by decide +kernel
theorem dX5_exchange_12 : decode cX5_exchange 12 = .ok (.istore_n 3, 1) := by decide +kernel
theorem dX5_exchange_13 : decode cX5_exchange 13 = .ok (.iconst 0, 1) := by decide +kernel
theorem dX5_exchange_14 : decode cX5_exchange 14 = .ok (.istore 4, 2) := by decide +kernel
theorem dX5_exchange_16 : decode cX5_exchange 16 = .ok (.iload 4, 2) := by decide +kernel
theorem dX5_exchange_18 : decode cX5_exchange 18 = .ok (.aload_n 0, 1) := by decide +kernel
theorem dX5_exchange_19 : decode cX5_exchange 19 = .ok (.getfield 19, 3) := by decide +kernel
theorem dX5_exchange_22 : decode cX5_exchange 22 = .ok (.getfield 79, 3) := by decide +kernel
theorem dX5_exchange_25 : decode cX5_exchange 25 = .ok (.if_icmp .ge 106, 3) := by decide +kernel
theorem dX5_exchange_28 : decode cX5_exchange 28 = .ok (.iload 4, 2) := by decide +kernel
theorem dX5_exchange_30 : decode cX5_exchange 30 = .ok (.iconst 1, 1) := by decide +kernel
theorem dX5_exchange_31 : decode cX5_exchange 31 = .ok (.iadd, 1) := by decide +kernel
theorem dX5_exchange_32 : decode cX5_exchange 32 = .ok (.istore 5, 2) := by decide +kernel
theorem dX5_exchange_34 : decode cX5_exchange 34 = .ok (.iload 5, 2) := by decide +kernel
theorem dX5_exchange_36 : decode cX5_exchange 36 = .ok (.aload_n 0, 1) := by decide +kernel
theorem dX5_exchange_37 : decode cX5_exchange 37 = .ok (.getfield 19, 3) := by decide +kernel
theorem dX5_exchange_40 : decode cX5_exchange 40 = .ok (.getfield 79, 3) := by decide +kernel
theorem dX5_exchange_43 : decode cX5_exchange 43 = .ok (.if_icmp .ge 82, 3) := by decide +kernel
theorem dX5_exchange_46 : decode cX5_exchange 46 = .ok (.aload_n 0, 1) := by decide +kernel
theorem dX5_exchange_47 : decode cX5_exchange 47 = .ok (.getfield 19, 3) := by decide +kernel
theorem dX5_exchange_50 : decode cX5_exchange 50 = .ok (.iload 4, 2) := by decide +kernel
theorem dX5_exchange_52 : decode cX5_exchange 52 = .ok (.iload 5, 2) := by decide +kernel
theorem dX5_exchange_54 : decode cX5_exchange 54 = .ok (.invokevirtual 237, 3) := by decide +kernel
theorem dX5_exchange_57 : decode cX5_exchange 57 = .ok (.ifCond .eq 62, 3) := by decide +kernel
theorem dX5_exchange_60 : decode cX5_exchange 60 = .ok (.aload_n 0, 1) := by decide +kernel
theorem dX5_exchange_61 : decode cX5_exchange 61 = .ok (.getfield 19, 3) := by decide +kernel
theorem dX5_exchange_64 : decode cX5_exchange 64 = .ok (.iload 4, 2) := by decide +kernel
theorem dX5_exchange_66 : decode cX5_exchange 66 = .ok (.iload 5, 2) := by decide +kernel
theorem dX5_exchange_68 : decode cX5_exchange 68 = .ok (.invokevirtual 143, 3) := by decide +kernel
theorem dX5_exchange_71 : decode cX5_exchange 71 = .ok (.ifCond .eq 48, 3) := by decide +kernel
theorem dX5_exchange_74 : decode cX5_exchange 74 = .ok (.aload_n 0, 1) := by decide +kernel
theorem dX5_exchange_75 : decode cX5_exchange 75 = .ok (.iload_n 1, 1) := by decide +kernel
theorem dX5_exchange_76 : decode cX5_exchange 76 = .ok (.iload 4, 2) := by decide +kernel
theorem dX5_exchange_78 : decode cX5_exchange 78 = .ok (.iload 5, 2) := by decide +kernel
theorem dX5_exchange_80 : decode cX5_exchange 80 = .ok (.invokevirtual 240, 3) := by decide +kernel
theorem dX5_exchange_83 : decode cX5_exchange 83 = .ok (.istore 6, 2) := by decide +kernel
theorem dX5_exchange_85 : decode cX5_exchange 85 = .ok (.aload_n 0, 1) := by decide +kernel
theorem dX5_exchange_86 : decode cX5_exchange 86 = .ok (.iload_n 1, 1) := by decide +kernel
theorem dX5_exchange_87 : decode cX5_exchange 87 = .ok (.iload 6, 2) := by decide +kernel
theorem dX5_exchange_89 : decode cX5_exchange 89 = .ok (.invokevirtual 243, 3) := by decide +kernel
theorem dX5_exchange_92 : decode cX5_exchange 92 = .ok (.ifCond .eq 27, 3) := by decide +kernel
theorem dX5_exchange_95 : decode cX5_exchange 95 = .ok (.iload 6, 2) := by decide +kernel
theorem dX5_exchange_97 : decode cX5_exchange 97 = .ok (.invokestatic 137, 3) := by decide +kernel
theorem dX5_exchange_100 : decode cX5_exchange 100 = .ok (.iload_n 2, 1) := by decide +kernel
theorem dX5_exchange_101 : decode cX5_exchange 101 = .ok (.if_icmp .le 18, 3) := by decide +kernel
theorem dX5_exchange_104 : decode cX5_exchange 104 = .ok (.iload 6, 2) := by decide +kernel
theorem dX5_exchange_106 : decode cX5_exchange 106 = .ok (.invokestatic 137, 3) := by decide +kernel
theorem dX5_exchange_109 : decode cX5_exchange 109 = .ok (.istore_n 2, 1) := by decide +kernel
theorem dX5_exchange_110 : decode cX5_exchange 110 = .ok (.bipush 100, 2) := by decide +kernel
theorem dX5_exchange_112 : decode cX5_exchange 112 = .ok (.iload 4, 2) := by decide +kernel
theorem dX5_exchange_114 : decode cX5_exchange 114 = .ok (.imul, 1) := by decide +kernel
theorem dX5_exchange_115 : decode cX5_exchange 115 = .ok (.iload 5, 2) := by decide +kernel
theorem dX5_exchange_117 : decode cX5_exchange 117 = .ok (.iadd, 1) := by decide +kernel
theorem dX5_exchange_118 : decode cX5_exchange 118 = .ok (.istore_n 3, 1) := by decide +kernel
theorem dX5_exchange_119 : decode cX5_exchange 119 = .ok (.iinc 5 1, 3) := by decide +kernel
theorem dX5_exchange_122 : decode cX5_exchange 122 = .ok (.goto (-88), 3) := by decide +kernel
theorem dX5_exchange_125 : decode cX5_exchange 125 = .ok (.iinc 4 1, 3) := by decide +kernel
theorem dX5_exchange_128 : decode cX5_exchange 128 = .ok (.goto (-112), 3) := by decide +kernel
theorem dX5_exchange_131 : decode cX5_exchange 131 = .ok (.iload_n 3, 1) := by decide +kernel
theorem dX5_exchange_132 : decode cX5_exchange 132 = .ok (.bipush (-2), 2) := by decide +kernel
theorem dX5_exchange_134 : decode cX5_exchange 134 = .ok (.if_icmp .eq 8, 3) := by decide +kernel
theorem dX5_exchange_137 : decode cX5_exchange 137 = .ok (.aload_n 0, 1) := by decide +kernel
theorem dX5_exchange_138 : decode cX5_exchange 138 = .ok (.iload_n 2, 1) := by decide +kernel
theorem dX5_exchange_139 : decode cX5_exchange 139 = .ok (.invokevirtual 202, 3) := by decide +kernel
theorem dX5_exchange_142 : decode cX5_exchange 142 = .ok (.iload_n 3, 1) := by decide +kernel
theorem dX5_exchange_143 : decode cX5_exchange 143 = .ok (.ireturn, 1) := by decide +kernel
set_option maxRecDepth 20000 in
theorem ggX5_splits_X5_isSubject : GoodIn wsX5_splits wsX5_isSubject := goodIn_r _ [5] (by decide +kernel) (by decide +kernel)
set_option maxRecDepth 20000 in
theorem gX5_splits_X5_isSubject : GoodIn wsX5_splits (va_wsS RX5 96 yX5_isSubject wsX5_isSubject) := goodIn_app (goodIn_of _ (by decide +kernel)) ggX5_splits_X5_isSubject
set_option maxRecDepth 20000 in
theorem ggX5_splits_X5_isTeacher : GoodIn wsX5_splits wsX5_isTeacher := goodIn_r _ [8] (by decide +kernel) (by decide +kernel)
set_option maxRecDepth 20000 in
theorem gX5_splits_X5_isTeacher : GoodIn wsX5_splits (va_wsS RX5 99 yX5_isTeacher wsX5_isTeacher) := goodIn_app (goodIn_of _ (by decide +kernel)) ggX5_splits_X5_isTeacher
set_option maxRecDepth 20000 in
theorem ggX5_splits_X0_lawfulColumns : GoodIn wsX5_splits wsX0_lawfulColumns := goodIn_r _ [13, 14, 15, 16, 17, 12, 18, 19, 20, 21, 22, 23, 24, 4, 25, 76, 77, 78, 79, 80, 81, 82, 83, 84] (by decide +kernel) (by decide +kernel)
set_option maxRecDepth 20000 in
theorem gX5_splits_X0_lawfulColumns : GoodIn wsX5_splits (wsV RX5 198 RX0 yX0_lawfulColumns wsX0_lawfulColumns) := goodIn_app (goodIn_of _ (by decide +kernel)) ggX5_splits_X0_lawfulColumns
set_option maxRecDepth 20000 in
theorem ggX5_splits_X5_fitting : GoodIn wsX5_splits wsX5_fitting := goodIn_r _ [29, 30, 31, 32, 4, 33, 34, 1, 35, 24, 25, 36, 37, 38, 12, 39, 40, 41, 42, 43, 44, 45, 46, 47, 48, 49, 50, 51, 52, 66, 67, 68, 69, 70, 71, 72, 73, 74, 75, 85, 86, 87, 76, 77, 78, 79, 80, 81, 82, 83, 84] (by decide +kernel) (by decide +kernel)
set_option maxRecDepth 20000 in
theorem gX5_splits_X5_fitting : GoodIn wsX5_splits (wsV RX5 133 RX5 yX5_fitting wsX5_fitting) := goodIn_app (goodIn_of _ (by decide +kernel)) ggX5_splits_X5_fitting
set_option maxRecDepth 20000 in
theorem ggX5_splits_X5_hasBit : GoodIn wsX5_splits wsX5_hasBit := goodIn_r _ [25] (by decide +kernel) (by decide +kernel)
set_option maxRecDepth 20000 in
theorem gX5_splits_X5_hasBit : GoodIn wsX5_splits (va_wsS RX5 152 yX5_hasBit wsX5_hasBit) := goodIn_app (goodIn_of _ (by decide +kernel)) ggX5_splits_X5_hasBit
set_option maxRecDepth 20000 in
theorem ggX5_splits_X5_fittingAnew : GoodIn wsX5_splits wsX5_fittingAnew := goodIn_r _ [33, 34, 1, 35, 24, 4, 25, 36, 37, 38, 12, 39, 40, 41, 42, 43, 44, 45, 46, 47, 48, 49, 50, 51, 52, 66, 67, 68, 69, 70, 71, 72, 73, 74, 75, 85, 86, 87, 76, 77, 78, 79, 80, 81, 82, 83, 84] (by decide +kernel) (by decide +kernel)
set_option maxRecDepth 20000 in
theorem gX5_splits_X5_fittingAnew : GoodIn wsX5_splits (wsV RX5 246 RX5 yX5_fittingAnew wsX5_fittingAnew) := goodIn_app (goodIn_of _ (by decide +kernel)) ggX5_splits_X5_fittingAnew
set_option maxRecDepth 20000 in
theorem ggX5_splits_J6_bitCount_0f7a4 : GoodIn wsX5_splits wsJ6_bitCount_0f7a4 := goodIn_r _ [56, 57, 58, 59] (by decide +kernel) (by decide +kernel)
set_option maxRecDepth 20000 in
theorem gX5_splits_J6_bitCount_0f7a4 : GoodIn wsX5_splits (va_wsS RX5 137 yJ6_bitCount_0f7a4 wsJ6_bitCount_0f7a4) := goodIn_app (goodIn_of _ (by decide +kernel)) ggX5_splits_J6_bitCount_0f7a4
set_option maxRecDepth 20000 in
theorem ggX5_splits_X5_tell : GoodIn wsX5_splits wsX5_tell := goodIn_r _ [63, 64, 65, 66, 67, 68, 69, 70, 71, 72, 73, 74, 75] (by decide +kernel) (by decide +kernel)
set_option maxRecDepth 20000 in
theorem gX5_splits_X5_tell : GoodIn wsX5_splits (wsV RX5 202 RX5 yX5_tell wsX5_tell) := goodIn_app (goodIn_of _ (by decide +kernel)) ggX5_splits_X5_tell
theorem dX5_splits_0 : decode cX5_splits 0 = .ok (.iload_n 1, 1) := by decide +kernel
theorem dX5_splits_1 : decode cX5_splits 1 = .ok (.invokestatic 96, 3) := by decide +kernel
theorem dX5_splits_4 : decode cX5_splits 4 = .ok (.ifCond .eq 10, 3) := by decide +kernel
theorem dX5_splits_7 : decode cX5_splits 7 = .ok (.iload_n 2, 1) := by decide +kernel
theorem dX5_splits_8 : decode cX5_splits 8 = .ok (.invokestatic 99, 3) := by decide +kernel
theorem dX5_splits_11 : decode cX5_splits 11 = .ok (.ifCond .ne 5, 3) := by decide +kernel
theorem dX5_splits_14 : decode cX5_splits 14 = .ok (.iconst (-1), 1) := by decide +kernel
theorem dX5_splits_15 : decode cX5_splits 15 = .ok (.ireturn, 1) := by decide +kernel
theorem dX5_splits_16 : decode cX5_splits 16 = .ok (.aload_n 0, 1) := by decide +kernel
theorem dX5_splits_17 : decode cX5_splits 17 = .ok (.getfield 19, 3) := by decide +kernel
theorem dX5_splits_20 : decode cX5_splits 20 = .ok (.iconst (-1), 1) := by decide +kernel
theorem dX5_splits_21 : decode cX5_splits 21 = .ok (.iload_n 2, 1) := by decide +kernel
theorem dX5_splits_22 : decode cX5_splits 22 = .ok (.invokevirtual 198, 3) := by decide +kernel
theorem dX5_splits_25 : decode cX5_splits 25 = .ok (.istore_n 3, 1) := by decide +kernel
theorem dX5_splits_26 : decode cX5_splits 26 = .ok (.aload_n 0, 1) := by decide +kernel
theorem dX5_splits_27 : decode cX5_splits 27 = .ok (.invokevirtual 133, 3) := by decide +kernel
theorem dX5_splits_30 : decode cX5_splits 30 = .ok (.istore 4, 2) := by decide +kernel
theorem dX5_splits_32 : decode cX5_splits 32 = .ok (.aload_n 0, 1) := by decide +kernel
theorem dX5_splits_33 : decode cX5_splits 33 = .ok (.getfield 19, 3) := by decide +kernel
theorem dX5_splits_36 : decode cX5_splits 36 = .ok (.getfield 192, 3) := by decide +kernel
theorem dX5_splits_39 : decode cX5_splits 39 = .ok (.iload_n 1, 1) := by decide +kernel
theorem dX5_splits_40 : decode cX5_splits 40 = .ok (.iaload, 1) := by decide +kernel
theorem dX5_splits_41 : decode cX5_splits 41 = .ok (.istore 5, 2) := by decide +kernel
theorem dX5_splits_43 : decode cX5_splits 43 = .ok (.iconst (-1), 1) := by decide +kernel
theorem dX5_splits_44 : decode cX5_splits 44 = .ok (.istore 6, 2) := by decide +kernel
theorem dX5_splits_46 : decode cX5_splits 46 = .ok (.bipush (-2), 2) := by decide +kernel
theorem dX5_splits_48 : decode cX5_splits 48 = .ok (.istore 7, 2) := by decide +kernel
theorem dX5_splits_50 : decode cX5_splits 50 = .ok (.iconst 0, 1) := by decide +kernel
theorem dX5_splits_51 : decode cX5_splits 51 = .ok (.istore 8, 2) := by decide +kernel
theorem dX5_splits_53 : decode cX5_splits 53 = .ok (.iload 8, 2) := by decide +kernel
theorem dX5_splits_55 : decode cX5_splits 55 = .ok (.aload_n 0, 1) := by decide +kernel
theorem dX5_splits_56 : decode cX5_splits 56 = .ok (.getfield 19, 3) := by decide +kernel
theorem dX5_splits_59 : decode cX5_splits 59 = .ok (.getfield 158, 3) := by decide +kernel
theorem dX5_splits_62 : decode cX5_splits 62 = .ok (.if_icmp .ge 63, 3) := by decide +kernel
theorem dX5_splits_65 : decode cX5_splits 65 = .ok (.iload_n 3, 1) := by decide +kernel
theorem dX5_splits_66 : decode cX5_splits 66 = .ok (.iload 8, 2) := by decide +kernel
theorem dX5_splits_68 : decode cX5_splits 68 = .ok (.invokestatic 152, 3) := by decide +kernel
theorem dX5_splits_71 : decode cX5_splits 71 = .ok (.ifCond .eq 48, 3) := by decide +kernel
theorem dX5_splits_74 : decode cX5_splits 74 = .ok (.aload_n 0, 1) := by decide +kernel
theorem dX5_splits_75 : decode cX5_splits 75 = .ok (.getfield 19, 3) := by decide +kernel
theorem dX5_splits_78 : decode cX5_splits 78 = .ok (.getfield 192, 3) := by decide +kernel
theorem dX5_splits_81 : decode cX5_splits 81 = .ok (.iload_n 1, 1) := by decide +kernel
theorem dX5_splits_82 : decode cX5_splits 82 = .ok (.iload 5, 2) := by decide +kernel
theorem dX5_splits_84 : decode cX5_splits 84 = .ok (.iconst 1, 1) := by decide +kernel
theorem dX5_splits_85 : decode cX5_splits 85 = .ok (.iload 8, 2) := by decide +kernel
theorem dX5_splits_87 : decode cX5_splits 87 = .ok (.ishl, 1) := by decide +kernel
theorem dX5_splits_88 : decode cX5_splits 88 = .ok (.ior, 1) := by decide +kernel
theorem dX5_splits_89 : decode cX5_splits 89 = .ok (.iastore, 1) := by decide +kernel
theorem dX5_splits_90 : decode cX5_splits 90 = .ok (.aload_n 0, 1) := by decide +kernel
theorem dX5_splits_91 : decode cX5_splits 91 = .ok (.iload 4, 2) := by decide +kernel
theorem dX5_splits_93 : decode cX5_splits 93 = .ok (.iconst 1, 1) := by decide +kernel
theorem dX5_splits_94 : decode cX5_splits 94 = .ok (.iload_n 1, 1) := by decide +kernel
theorem dX5_splits_95 : decode cX5_splits 95 = .ok (.ishl, 1) := by decide +kernel
theorem dX5_splits_96 : decode cX5_splits 96 = .ok (.invokevirtual 246, 3) := by decide +kernel
theorem dX5_splits_99 : decode cX5_splits 99 = .ok (.invokestatic 137, 3) := by decide +kernel
theorem dX5_splits_102 : decode cX5_splits 102 = .ok (.istore 9, 2) := by decide +kernel
theorem dX5_splits_104 : decode cX5_splits 104 = .ok (.iload 9, 2) := by decide +kernel
theorem dX5_splits_106 : decode cX5_splits 106 = .ok (.iload 6, 2) := by decide +kernel
theorem dX5_splits_108 : decode cX5_splits 108 = .ok (.if_icmp .le 11, 3) := by decide +kernel
theorem dX5_splits_111 : decode cX5_splits 111 = .ok (.iload 9, 2) := by decide +kernel
theorem dX5_splits_113 : decode cX5_splits 113 = .ok (.istore 6, 2) := by decide +kernel
theorem dX5_splits_115 : decode cX5_splits 115 = .ok (.iload 8, 2) := by decide +kernel
theorem dX5_splits_117 : decode cX5_splits 117 = .ok (.istore 7, 2) := by decide +kernel
theorem dX5_splits_119 : decode cX5_splits 119 = .ok (.iinc 8 1, 3) := by decide +kernel
theorem dX5_splits_122 : decode cX5_splits 122 = .ok (.goto (-69), 3) := by decide +kernel
theorem dX5_splits_125 : decode cX5_splits 125 = .ok (.aload_n 0, 1) := by decide +kernel
theorem dX5_splits_126 : decode cX5_splits 126 = .ok (.getfield 19, 3) := by decide +kernel
theorem dX5_splits_129 : decode cX5_splits 129 = .ok (.getfield 192, 3) := by decide +kernel
theorem dX5_splits_132 : decode cX5_splits 132 = .ok (.iload_n 1, 1) := by decide +kernel
theorem dX5_splits_133 : decode cX5_splits 133 = .ok (.iload 5, 2) := by decide +kernel
theorem dX5_splits_135 : decode cX5_splits 135 = .ok (.iastore, 1) := by decide +kernel
theorem dX5_splits_136 : decode cX5_splits 136 = .ok (.iload 7, 2) := by decide +kernel
theorem dX5_splits_138 : decode cX5_splits 138 = .ok (.bipush (-2), 2) := by decide +kernel
theorem dX5_splits_140 : decode cX5_splits 140 = .ok (.if_icmp .eq 9, 3) := by decide +kernel
theorem dX5_splits_143 : decode cX5_splits 143 = .ok (.aload_n 0, 1) := by decide +kernel
theorem dX5_splits_144 : decode cX5_splits 144 = .ok (.iload 6, 2) := by decide +kernel
theorem dX5_splits_146 : decode cX5_splits 146 = .ok (.invokevirtual 202, 3) := by decide +kernel
theorem dX5_splits_149 : decode cX5_splits 149 = .ok (.iload 7, 2) := by decide +kernel
theorem dX5_splits_151 : decode cX5_splits 151 = .ok (.ireturn, 1) := by decide +kernel
set_option maxRecDepth 20000 in
theorem ggX5_cures_X1_has : GoodIn wsX5_cures wsX1_has := goodIn_r _ [8, 9, 103, 104, 105] (by decide +kernel) (by decide +kernel)
set_option maxRecDepth 20000 in
theorem gX5_cures_X1_has : GoodIn wsX5_cures (wsV RX5 167 RX1 yX1_has wsX1_has) := goodIn_app (goodIn_of _ (by decide +kernel)) ggX5_cures_X1_has
set_option maxRecDepth 20000 in
theorem ggX5_cures_X0_hasWay : GoodIn wsX5_cures wsX0_hasWay := goodIn_r _ [14, 15, 16, 17, 18, 19, 20, 21, 22, 23, 24, 25, 26, 27, 28, 29, 30, 106, 107, 108, 109, 110, 111, 112, 113, 114] (by decide +kernel) (by decide +kernel)
set_option maxRecDepth 20000 in
theorem gX5_cures_X0_hasWay : GoodIn wsX5_cures (wsV RX5 195 RX0 yX0_hasWay wsX0_hasWay) := goodIn_app (goodIn_of _ (by decide +kernel)) ggX5_cures_X0_hasWay
set_option maxRecDepth 20000 in
theorem ggX5_cures_X5_fitting : GoodIn wsX5_cures wsX5_fitting := goodIn_r _ [34, 35, 36, 37, 22, 38, 1, 2, 39, 21, 23, 10, 11, 12, 13, 14, 15, 16, 17, 18, 19, 20, 24, 25, 26, 27, 28, 29, 30, 93, 94, 95, 96, 97, 98, 99, 100, 101, 102, 103, 104, 105, 106, 107, 108, 109, 110, 111, 112, 113, 114] (by decide +kernel) (by decide +kernel)
set_option maxRecDepth 20000 in
theorem gX5_cures_X5_fitting : GoodIn wsX5_cures (wsV RX5 133 RX5 yX5_fitting wsX5_fitting) := goodIn_app (goodIn_of _ (by decide +kernel)) ggX5_cures_X5_fitting
set_option maxRecDepth 20000 in
theorem ggX5_cures_X5_lastMove : GoodIn wsX5_cures wsX5_lastMove := goodIn_r _ [43, 2, 44, 45, 46, 13, 47, 48, 15, 49, 21, 22, 23, 50, 11, 12, 14, 16, 17, 18, 19, 20, 24, 25, 26, 27, 28, 29, 30, 51, 52, 53, 54, 55, 56, 39, 57, 58, 59, 60, 61, 62, 63, 64, 65, 66, 67, 68, 69, 70, 71, 72, 73, 74, 75, 76, 77, 78, 79, 1, 10, 93, 94, 95, 96, 97, 98, 99, 100, 101, 102, 106, 107, 108, 109, 110, 111, 112, 113, 114, 103, 104, 105] (by decide +kernel) (by decide +kernel)
set_option maxRecDepth 20000 in
theorem gX5_cures_X5_lastMove : GoodIn wsX5_cures (wsV RX5 249 RX5 yX5_lastMove wsX5_lastMove) := goodIn_app (goodIn_of _ (by decide +kernel)) ggX5_cures_X5_lastMove
set_option maxRecDepth 20000 in
theorem ggX5_cures_X5_tell : GoodIn wsX5_cures wsX5_tell := goodIn_r _ [83, 84, 3, 93, 94, 95, 96, 97, 98, 99, 100, 101, 102] (by decide +kernel) (by decide +kernel)
set_option maxRecDepth 20000 in
theorem gX5_cures_X5_tell : GoodIn wsX5_cures (wsV RX5 202 RX5 yX5_tell wsX5_tell) := goodIn_app (goodIn_of _ (by decide +kernel)) ggX5_cures_X5_tell
set_option maxRecDepth 20000 in
theorem ggX5_cures_X5_tellTwoMoves : GoodIn wsX5_cures wsX5_tellTwoMoves := goodIn_r _ [88, 2, 57, 58, 59, 13, 60, 56, 61, 62, 63, 64, 65, 55, 66, 67, 21, 22, 23, 68, 69, 70, 71, 48, 72, 73, 74, 75, 15, 51, 52, 53, 54, 40, 41, 42, 43, 44, 45, 46, 47, 49, 50, 11, 12, 14, 16, 17, 18, 19, 20, 24, 25, 26, 27, 28, 29, 30, 39, 76, 77, 78, 79, 1, 10, 89, 90, 91, 92, 84, 3, 93, 94, 95, 96, 97, 98, 99, 100, 101, 102, 106, 107, 108, 109, 110, 111, 112, 113, 114, 103, 104, 105] (by decide +kernel) (by decide +kernel)
set_option maxRecDepth 20000 in
theorem gX5_cures_X5_tellTwoMoves : GoodIn wsX5_cures (wsV RX5 252 RX5 yX5_tellTwoMoves wsX5_tellTwoMoves) := goodIn_app (goodIn_of _ (by decide +kernel)) ggX5_cures_X5_tellTwoMoves
theorem dX5_cures_0 : decode cX5_cures 0 = .ok (.aload_n 0, 1) := by decide +kernel
theorem dX5_cures_1 : decode cX5_cures 1 = .ok (.getfield 29, 3) := by decide +kernel
theorem dX5_cures_4 : decode cX5_cures 4 = .ok (.iload_n 1, 1) := by decide +kernel
theorem dX5_cures_5 : decode cX5_cures 5 = .ok (.invokevirtual 167, 3) := by decide +kernel
theorem dX5_cures_8 : decode cX5_cures 8 = .ok (.ifCond .ne 5, 3) := by decide +kernel
theorem dX5_cures_11 : decode cX5_cures 11 = .ok (.iconst (-1), 1) := by decide +kernel
theorem dX5_cures_12 : decode cX5_cures 12 = .ok (.ireturn, 1) := by decide +kernel
theorem dX5_cures_13 : decode cX5_cures 13 = .ok (.aload_n 0, 1) := by decide +kernel
theorem dX5_cures_14 : decode cX5_cures 14 = .ok (.getfield 29, 3) := by decide +kernel
theorem dX5_cures_17 : decode cX5_cures 17 = .ok (.getfield 168, 3) := by decide +kernel
theorem dX5_cures_20 : decode cX5_cures 20 = .ok (.iload_n 1, 1) := by decide +kernel
theorem dX5_cures_21 : decode cX5_cures 21 = .ok (.iaload, 1) := by decide +kernel
theorem dX5_cures_22 : decode cX5_cures 22 = .ok (.istore_n 2, 1) := by decide +kernel
theorem dX5_cures_23 : decode cX5_cures 23 = .ok (.aload_n 0, 1) := by decide +kernel
theorem dX5_cures_24 : decode cX5_cures 24 = .ok (.getfield 19, 3) := by decide +kernel
theorem dX5_cures_27 : decode cX5_cures 27 = .ok (.iload_n 2, 1) := by decide +kernel
theorem dX5_cures_28 : decode cX5_cures 28 = .ok (.invokevirtual 195, 3) := by decide +kernel
theorem dX5_cures_31 : decode cX5_cures 31 = .ok (.ifCond .eq 10, 3) := by decide +kernel
theorem dX5_cures_34 : decode cX5_cures 34 = .ok (.aload_n 0, 1) := by decide +kernel
theorem dX5_cures_35 : decode cX5_cures 35 = .ok (.iconst 0, 1) := by decide +kernel
theorem dX5_cures_36 : decode cX5_cures 36 = .ok (.putfield 58, 3) := by decide +kernel
theorem dX5_cures_39 : decode cX5_cures 39 = .ok (.iconst 0, 1) := by decide +kernel
theorem dX5_cures_40 : decode cX5_cures 40 = .ok (.ireturn, 1) := by decide +kernel
theorem dX5_cures_41 : decode cX5_cures 41 = .ok (.aload_n 0, 1) := by decide +kernel
theorem dX5_cures_42 : decode cX5_cures 42 = .ok (.invokevirtual 133, 3) := by decide +kernel
theorem dX5_cures_45 : decode cX5_cures 45 = .ok (.aload_n 0, 1) := by decide +kernel
theorem dX5_cures_46 : decode cX5_cures 46 = .ok (.getfield 29, 3) := by decide +kernel
theorem dX5_cures_49 : decode cX5_cures 49 = .ok (.getfield 171, 3) := by decide +kernel
theorem dX5_cures_52 : decode cX5_cures 52 = .ok (.iand, 1) := by decide +kernel
theorem dX5_cures_53 : decode cX5_cures 53 = .ok (.istore_n 3, 1) := by decide +kernel
theorem dX5_cures_54 : decode cX5_cures 54 = .ok (.aload_n 0, 1) := by decide +kernel
theorem dX5_cures_55 : decode cX5_cures 55 = .ok (.iload_n 2, 1) := by decide +kernel
theorem dX5_cures_56 : decode cX5_cures 56 = .ok (.iload_n 3, 1) := by decide +kernel
theorem dX5_cures_57 : decode cX5_cures 57 = .ok (.invokevirtual 249, 3) := by decide +kernel
theorem dX5_cures_60 : decode cX5_cures 60 = .ok (.istore 4, 2) := by decide +kernel
theorem dX5_cures_62 : decode cX5_cures 62 = .ok (.iload 4, 2) := by decide +kernel
theorem dX5_cures_64 : decode cX5_cures 64 = .ok (.bipush (-2), 2) := by decide +kernel
theorem dX5_cures_66 : decode cX5_cures 66 = .ok (.if_icmp .eq 11, 3) := by decide +kernel
theorem dX5_cures_69 : decode cX5_cures 69 = .ok (.aload_n 0, 1) := by decide +kernel
theorem dX5_cures_70 : decode cX5_cures 70 = .ok (.iload 4, 2) := by decide +kernel
theorem dX5_cures_72 : decode cX5_cures 72 = .ok (.invokevirtual 202, 3) := by decide +kernel
theorem dX5_cures_75 : decode cX5_cures 75 = .ok (.iconst 1, 1) := by decide +kernel
theorem dX5_cures_76 : decode cX5_cures 76 = .ok (.ireturn, 1) := by decide +kernel
theorem dX5_cures_77 : decode cX5_cures 77 = .ok (.aload_n 0, 1) := by decide +kernel
theorem dX5_cures_78 : decode cX5_cures 78 = .ok (.iload_n 2, 1) := by decide +kernel
theorem dX5_cures_79 : decode cX5_cures 79 = .ok (.iload_n 3, 1) := by decide +kernel
theorem dX5_cures_80 : decode cX5_cures 80 = .ok (.invokevirtual 252, 3) := by decide +kernel
theorem dX5_cures_83 : decode cX5_cures 83 = .ok (.ifCond .eq 7, 3) := by decide +kernel
theorem dX5_cures_86 : decode cX5_cures 86 = .ok (.iconst 2, 1) := by decide +kernel
theorem dX5_cures_87 : decode cX5_cures 87 = .ok (.goto 5, 3) := by decide +kernel
theorem dX5_cures_90 : decode cX5_cures 90 = .ok (.bipush (-2), 2) := by decide +kernel
theorem dX5_cures_92 : decode cX5_cures 92 = .ok (.ireturn, 1) := by decide +kernel
set_option maxRecDepth 20000 in
theorem ggX5_instead_X1_has : GoodIn wsX5_instead wsX1_has := goodIn_r _ [7, 8, 47, 48, 49] (by decide +kernel) (by decide +kernel)
set_option maxRecDepth 20000 in
theorem gX5_instead_X1_has : GoodIn wsX5_instead (wsV RX5 167 RX1 yX1_has wsX1_has) := goodIn_app (goodIn_of _ (by decide +kernel)) ggX5_instead_X1_has
set_option maxRecDepth 20000 in
theorem ggX5_instead_X0_hasWay : GoodIn wsX5_instead wsX0_hasWay := goodIn_r _ [13, 14, 15, 16, 17, 18, 19, 20, 21, 22, 23, 24, 25, 26, 27, 28, 29, 50, 51, 52, 53, 54, 55, 56, 57, 58] (by decide +kernel) (by decide +kernel)
set_option maxRecDepth 20000 in
theorem gX5_instead_X0_hasWay : GoodIn wsX5_instead (wsV RX5 195 RX0 yX0_hasWay wsX0_hasWay) := goodIn_app (goodIn_of _ (by decide +kernel)) ggX5_instead_X0_hasWay
set_option maxRecDepth 20000 in
theorem ggX5_instead_X5_hasBit : GoodIn wsX5_instead wsX5_hasBit := goodIn_r _ [22] (by decide +kernel) (by decide +kernel)
set_option maxRecDepth 20000 in
theorem gX5_instead_X5_hasBit : GoodIn wsX5_instead (va_wsS RX5 152 yX5_hasBit wsX5_hasBit) := goodIn_app (goodIn_of _ (by decide +kernel)) ggX5_instead_X5_hasBit
set_option maxRecDepth 20000 in
theorem ggX5_instead_X5_tell : GoodIn wsX5_instead wsX5_tell := goodIn_r _ [34, 35, 36, 37, 38, 39, 40, 41, 42, 43, 44, 45, 46] (by decide +kernel) (by decide +kernel)
set_option maxRecDepth 20000 in
theorem gX5_instead_X5_tell : GoodIn wsX5_instead (wsV RX5 202 RX5 yX5_tell wsX5_tell) := goodIn_app (goodIn_of _ (by decide +kernel)) ggX5_instead_X5_tell
theorem dX5_instead_0 : decode cX5_instead 0 = .ok (.aload_n 0, 1) := by decide +kernel
theorem dX5_instead_1 : decode cX5_instead 1 = .ok (.getfield 29, 3) := by decide +kernel
theorem dX5_instead_4 : decode cX5_instead 4 = .ok (.iload_n 1, 1) := by decide +kernel
theorem dX5_instead_5 : decode cX5_instead 5 = .ok (.invokevirtual 167, 3) := by decide +kernel
theorem dX5_instead_8 : decode cX5_instead 8 = .ok (.ifCond .ne 5, 3) := by decide +kernel
theorem dX5_instead_11 : decode cX5_instead 11 = .ok (.iconst (-1), 1) := by decide +kernel
theorem dX5_instead_12 : decode cX5_instead 12 = .ok (.ireturn, 1) := by decide +kernel
theorem dX5_instead_13 : decode cX5_instead 13 = .ok (.aload_n 0, 1) := by decide +kernel
theorem dX5_instead_14 : decode cX5_instead 14 = .ok (.getfield 29, 3) := by decide +kernel
theorem dX5_instead_17 : decode cX5_instead 17 = .ok (.getfield 168, 3) := by decide +kernel
theorem dX5_instead_20 : decode cX5_instead 20 = .ok (.iload_n 1, 1) := by decide +kernel
theorem dX5_instead_21 : decode cX5_instead 21 = .ok (.iaload, 1) := by decide +kernel
theorem dX5_instead_22 : decode cX5_instead 22 = .ok (.istore_n 2, 1) := by decide +kernel
theorem dX5_instead_23 : decode cX5_instead 23 = .ok (.aload_n 0, 1) := by decide +kernel
theorem dX5_instead_24 : decode cX5_instead 24 = .ok (.getfield 19, 3) := by decide +kernel
theorem dX5_instead_27 : decode cX5_instead 27 = .ok (.iload_n 2, 1) := by decide +kernel
theorem dX5_instead_28 : decode cX5_instead 28 = .ok (.invokevirtual 195, 3) := by decide +kernel
theorem dX5_instead_31 : decode cX5_instead 31 = .ok (.ifCond .eq 6, 3) := by decide +kernel
theorem dX5_instead_34 : decode cX5_instead 34 = .ok (.bipush (-2), 2) := by decide +kernel
theorem dX5_instead_36 : decode cX5_instead 36 = .ok (.ireturn, 1) := by decide +kernel
theorem dX5_instead_37 : decode cX5_instead 37 = .ok (.iconst 0, 1) := by decide +kernel
theorem dX5_instead_38 : decode cX5_instead 38 = .ok (.istore_n 3, 1) := by decide +kernel
theorem dX5_instead_39 : decode cX5_instead 39 = .ok (.iconst (-1), 1) := by decide +kernel
theorem dX5_instead_40 : decode cX5_instead 40 = .ok (.istore 4, 2) := by decide +kernel
theorem dX5_instead_42 : decode cX5_instead 42 = .ok (.iconst 0, 1) := by decide +kernel
theorem dX5_instead_43 : decode cX5_instead 43 = .ok (.istore 5, 2) := by decide +kernel
theorem dX5_instead_45 : decode cX5_instead 45 = .ok (.iload 5, 2) := by decide +kernel
theorem dX5_instead_47 : decode cX5_instead 47 = .ok (.bipush 10, 2) := by decide +kernel
theorem dX5_instead_49 : decode cX5_instead 49 = .ok (.if_icmp .ge 98, 3) := by decide +kernel
theorem dX5_instead_52 : decode cX5_instead 52 = .ok (.iconst 0, 1) := by decide +kernel
theorem dX5_instead_53 : decode cX5_instead 53 = .ok (.istore 6, 2) := by decide +kernel
theorem dX5_instead_55 : decode cX5_instead 55 = .ok (.iload 6, 2) := by decide +kernel
theorem dX5_instead_57 : decode cX5_instead 57 = .ok (.bipush 10, 2) := by decide +kernel
theorem dX5_instead_59 : decode cX5_instead 59 = .ok (.if_icmp .ge 82, 3) := by decide +kernel
theorem dX5_instead_62 : decode cX5_instead 62 = .ok (.iload_n 2, 1) := by decide +kernel
theorem dX5_instead_63 : decode cX5_instead 63 = .ok (.iload 5, 2) := by decide +kernel
theorem dX5_instead_65 : decode cX5_instead 65 = .ok (.invokestatic 152, 3) := by decide +kernel
theorem dX5_instead_68 : decode cX5_instead 68 = .ok (.ifCond .eq 16, 3) := by decide +kernel
theorem dX5_instead_71 : decode cX5_instead 71 = .ok (.iload_n 2, 1) := by decide +kernel
theorem dX5_instead_72 : decode cX5_instead 72 = .ok (.iload 6, 2) := by decide +kernel
theorem dX5_instead_74 : decode cX5_instead 74 = .ok (.invokestatic 152, 3) := by decide +kernel
theorem dX5_instead_77 : decode cX5_instead 77 = .ok (.ifCond .ne 7, 3) := by decide +kernel
theorem dX5_instead_80 : decode cX5_instead 80 = .ok (.iconst 1, 1) := by decide +kernel
theorem dX5_instead_81 : decode cX5_instead 81 = .ok (.goto 4, 3) := by decide +kernel
theorem dX5_instead_84 : decode cX5_instead 84 = .ok (.iconst 0, 1) := by decide +kernel
theorem dX5_instead_85 : decode cX5_instead 85 = .ok (.istore 7, 2) := by decide +kernel
theorem dX5_instead_87 : decode cX5_instead 87 = .ok (.iload 7, 2) := by decide +kernel
theorem dX5_instead_89 : decode cX5_instead 89 = .ok (.ifCond .eq 46, 3) := by decide +kernel
theorem dX5_instead_92 : decode cX5_instead 92 = .ok (.aload_n 0, 1) := by decide +kernel
theorem dX5_instead_93 : decode cX5_instead 93 = .ok (.getfield 19, 3) := by decide +kernel
theorem dX5_instead_96 : decode cX5_instead 96 = .ok (.iload_n 2, 1) := by decide +kernel
theorem dX5_instead_97 : decode cX5_instead 97 = .ok (.iconst 1, 1) := by decide +kernel
theorem dX5_instead_98 : decode cX5_instead 98 = .ok (.iload 5, 2) := by decide +kernel
theorem dX5_instead_100 : decode cX5_instead 100 = .ok (.ishl, 1) := by decide +kernel
theorem dX5_instead_101 : decode cX5_instead 101 = .ok (.iconst 1, 1) := by decide +kernel
theorem dX5_instead_102 : decode cX5_instead 102 = .ok (.iload 6, 2) := by decide +kernel
theorem dX5_instead_104 : decode cX5_instead 104 = .ok (.ishl, 1) := by decide +kernel
theorem dX5_instead_105 : decode cX5_instead 105 = .ok (.ior, 1) := by decide +kernel
theorem dX5_instead_106 : decode cX5_instead 106 = .ok (.ixor, 1) := by decide +kernel
theorem dX5_instead_107 : decode cX5_instead 107 = .ok (.invokevirtual 195, 3) := by decide +kernel
theorem dX5_instead_110 : decode cX5_instead 110 = .ok (.ifCond .eq 25, 3) := by decide +kernel
theorem dX5_instead_113 : decode cX5_instead 113 = .ok (.iload_n 3, 1) := by decide +kernel
theorem dX5_instead_114 : decode cX5_instead 114 = .ok (.ifCond .ne 14, 3) := by decide +kernel
theorem dX5_instead_117 : decode cX5_instead 117 = .ok (.bipush 10, 2) := by decide +kernel
theorem dX5_instead_119 : decode cX5_instead 119 = .ok (.iload 5, 2) := by decide +kernel
theorem dX5_instead_121 : decode cX5_instead 121 = .ok (.imul, 1) := by decide +kernel
theorem dX5_instead_122 : decode cX5_instead 122 = .ok (.iload 6, 2) := by decide +kernel
theorem dX5_instead_124 : decode cX5_instead 124 = .ok (.iadd, 1) := by decide +kernel
theorem dX5_instead_125 : decode cX5_instead 125 = .ok (.goto 5, 3) := by decide +kernel
theorem dX5_instead_128 : decode cX5_instead 128 = .ok (.iload 4, 2) := by decide +kernel
theorem dX5_instead_130 : decode cX5_instead 130 = .ok (.istore 4, 2) := by decide +kernel
theorem dX5_instead_132 : decode cX5_instead 132 = .ok (.iinc 3 1, 3) := by decide +kernel
theorem dX5_instead_135 : decode cX5_instead 135 = .ok (.iinc 6 1, 3) := by decide +kernel
theorem dX5_instead_138 : decode cX5_instead 138 = .ok (.goto (-83), 3) := by decide +kernel
theorem dX5_instead_141 : decode cX5_instead 141 = .ok (.iinc 5 1, 3) := by decide +kernel
theorem dX5_instead_144 : decode cX5_instead 144 = .ok (.goto (-99), 3) := by decide +kernel
theorem dX5_instead_147 : decode cX5_instead 147 = .ok (.aload_n 0, 1) := by decide +kernel
theorem dX5_instead_148 : decode cX5_instead 148 = .ok (.iload 4, 2) := by decide +kernel
theorem dX5_instead_150 : decode cX5_instead 150 = .ok (.invokevirtual 202, 3) := by decide +kernel
theorem dX5_instead_153 : decode cX5_instead 153 = .ok (.iload_n 3, 1) := by decide +kernel
theorem dX5_instead_154 : decode cX5_instead 154 = .ok (.ireturn, 1) := by decide +kernel
set_option maxRecDepth 20000 in
theorem ggX5_spare_X5_fitting : GoodIn wsX5_spare wsX5_fitting := goodIn_r _ [6, 7, 8, 9, 5, 10, 11, 1, 12, 13, 14, 15, 16, 17, 18, 19, 20, 21, 22, 23, 24, 25, 26, 27, 28, 29, 30, 31, 32, 69, 70, 71, 72, 73, 74, 75, 76, 77, 78, 88, 89, 90, 79, 80, 81, 82, 83, 84, 85, 86, 87] (by decide +kernel) (by decide +kernel)
set_option maxRecDepth 20000 in
theorem gX5_spare_X5_fitting : GoodIn wsX5_spare (wsV RX5 133 RX5 yX5_fitting wsX5_fitting) := goodIn_app (goodIn_of _ (by decide +kernel)) ggX5_spare_X5_fitting
set_option maxRecDepth 20000 in
theorem ggX5_spare_X5_fittingMoved : GoodIn wsX5_spare wsX5_fittingMoved := goodIn_r _ [36, 1, 37, 38, 39, 18, 40, 41, 42, 43, 44, 45, 46, 20, 47, 48, 49, 50, 51, 7, 8, 9, 5, 10, 11, 12, 13, 14, 15, 16, 17, 19, 21, 22, 23, 24, 25, 26, 27, 28, 29, 30, 31, 32, 69, 70, 71, 72, 73, 74, 75, 76, 77, 78, 79, 80, 81, 82, 83, 84, 85, 86, 87, 88, 89, 90] (by decide +kernel) (by decide +kernel)
set_option maxRecDepth 20000 in
theorem gX5_spare_X5_fittingMoved : GoodIn wsX5_spare (wsV RX5 231 RX5 yX5_fittingMoved wsX5_fittingMoved) := goodIn_app (goodIn_of _ (by decide +kernel)) ggX5_spare_X5_fittingMoved
set_option maxRecDepth 20000 in
theorem ggX5_spare_X0_sectionsIn : GoodIn wsX5_spare wsX0_sectionsIn := goodIn_r _ [55, 51, 41, 79, 80, 81, 82, 83, 84, 85, 86, 87] (by decide +kernel) (by decide +kernel)
set_option maxRecDepth 20000 in
theorem gX5_spare_X0_sectionsIn : GoodIn wsX5_spare (wsV RX5 161 RX0 yX0_sectionsIn wsX0_sectionsIn) := goodIn_app (goodIn_of _ (by decide +kernel)) ggX5_spare_X0_sectionsIn
set_option maxRecDepth 20000 in
theorem ggX5_spare_J6_bitCount_0f7a4 : GoodIn wsX5_spare wsJ6_bitCount_0f7a4 := goodIn_r _ [59, 60, 61, 62] (by decide +kernel) (by decide +kernel)
set_option maxRecDepth 20000 in
theorem gX5_spare_J6_bitCount_0f7a4 : GoodIn wsX5_spare (va_wsS RX5 137 yJ6_bitCount_0f7a4 wsJ6_bitCount_0f7a4) := goodIn_app (goodIn_of _ (by decide +kernel)) ggX5_spare_J6_bitCount_0f7a4
set_option maxRecDepth 20000 in
theorem ggX5_spare_X5_tell : GoodIn wsX5_spare wsX5_tell := goodIn_r _ [66, 67, 68, 69, 70, 71, 72, 73, 74, 75, 76, 77, 78] (by decide +kernel) (by decide +kernel)
set_option maxRecDepth 20000 in
theorem gX5_spare_X5_tell : GoodIn wsX5_spare (wsV RX5 202 RX5 yX5_tell wsX5_tell) := goodIn_app (goodIn_of _ (by decide +kernel)) ggX5_spare_X5_tell
theorem dX5_spare_0 : decode cX5_spare 0 = .ok (.aload_n 0, 1) := by decide +kernel
theorem dX5_spare_1 : decode cX5_spare 1 = .ok (.invokevirtual 133, 3) := by decide +kernel
theorem dX5_spare_4 : decode cX5_spare 4 = .ok (.istore_n 1, 1) := by decide +kernel
theorem dX5_spare_5 : decode cX5_spare 5 = .ok (.iconst 0, 1) := by decide +kernel
theorem dX5_spare_6 : decode cX5_spare 6 = .ok (.istore_n 2, 1) := by decide +kernel
theorem dX5_spare_7 : decode cX5_spare 7 = .ok (.iconst 0, 1) := by decide +kernel
theorem dX5_spare_8 : decode cX5_spare 8 = .ok (.istore_n 3, 1) := by decide +kernel
theorem dX5_spare_9 : decode cX5_spare 9 = .ok (.iload_n 3, 1) := by decide +kernel
theorem dX5_spare_10 : decode cX5_spare 10 = .ok (.aload_n 0, 1) := by decide +kernel
theorem dX5_spare_11 : decode cX5_spare 11 = .ok (.getfield 19, 3) := by decide +kernel
theorem dX5_spare_14 : decode cX5_spare 14 = .ok (.getfield 79, 3) := by decide +kernel
theorem dX5_spare_17 : decode cX5_spare 17 = .ok (.if_icmp .ge 26, 3) := by decide +kernel
theorem dX5_spare_20 : decode cX5_spare 20 = .ok (.aload_n 0, 1) := by decide +kernel
theorem dX5_spare_21 : decode cX5_spare 21 = .ok (.iload_n 1, 1) := by decide +kernel
theorem dX5_spare_22 : decode cX5_spare 22 = .ok (.iload_n 3, 1) := by decide +kernel
theorem dX5_spare_23 : decode cX5_spare 23 = .ok (.iconst (-1), 1) := by decide +kernel
theorem dX5_spare_24 : decode cX5_spare 24 = .ok (.invokevirtual 231, 3) := by decide +kernel
theorem dX5_spare_27 : decode cX5_spare 27 = .ok (.iload_n 1, 1) := by decide +kernel
theorem dX5_spare_28 : decode cX5_spare 28 = .ok (.if_icmp .ne 9, 3) := by decide +kernel
theorem dX5_spare_31 : decode cX5_spare 31 = .ok (.iload_n 2, 1) := by decide +kernel
theorem dX5_spare_32 : decode cX5_spare 32 = .ok (.iconst 1, 1) := by decide +kernel
theorem dX5_spare_33 : decode cX5_spare 33 = .ok (.iload_n 3, 1) := by decide +kernel
theorem dX5_spare_34 : decode cX5_spare 34 = .ok (.ishl, 1) := by decide +kernel
theorem dX5_spare_35 : decode cX5_spare 35 = .ok (.ior, 1) := by decide +kernel
theorem dX5_spare_36 : decode cX5_spare 36 = .ok (.istore_n 2, 1) := by decide +kernel
theorem dX5_spare_37 : decode cX5_spare 37 = .ok (.iinc 3 1, 3) := by decide +kernel
theorem dX5_spare_40 : decode cX5_spare 40 = .ok (.goto (-31), 3) := by decide +kernel
theorem dX5_spare_43 : decode cX5_spare 43 = .ok (.aload_n 0, 1) := by decide +kernel
theorem dX5_spare_44 : decode cX5_spare 44 = .ok (.iload_n 2, 1) := by decide +kernel
theorem dX5_spare_45 : decode cX5_spare 45 = .ok (.aload_n 0, 1) := by decide +kernel
theorem dX5_spare_46 : decode cX5_spare 46 = .ok (.getfield 19, 3) := by decide +kernel
theorem dX5_spare_49 : decode cX5_spare 49 = .ok (.iconst (-1), 1) := by decide +kernel
theorem dX5_spare_50 : decode cX5_spare 50 = .ok (.invokevirtual 161, 3) := by decide +kernel
theorem dX5_spare_53 : decode cX5_spare 53 = .ok (.iand, 1) := by decide +kernel
theorem dX5_spare_54 : decode cX5_spare 54 = .ok (.invokestatic 137, 3) := by decide +kernel
theorem dX5_spare_57 : decode cX5_spare 57 = .ok (.invokevirtual 202, 3) := by decide +kernel
theorem dX5_spare_60 : decode cX5_spare 60 = .ok (.iload_n 2, 1) := by decide +kernel
theorem dX5_spare_61 : decode cX5_spare 61 = .ok (.ireturn, 1) := by decide +kernel
set_option maxRecDepth 20000 in
theorem ggX5_lays_X1_choosersOf : GoodIn wsX5_lays wsX1_choosersOf := goodIn_r _ [8, 9, 10, 111, 112, 113] (by decide +kernel) (by decide +kernel)
set_option maxRecDepth 20000 in
theorem gX5_lays_X1_choosersOf : GoodIn wsX5_lays (wsV RX5 186 RX1 yX1_choosersOf wsX1_choosersOf) := goodIn_app (goodIn_of _ (by decide +kernel)) ggX5_lays_X1_choosersOf
set_option maxRecDepth 20000 in
theorem ggX5_lays_J6_bitCount_0f7a4 : GoodIn wsX5_lays wsJ6_bitCount_0f7a4 := goodIn_r _ [14, 15, 16, 17] (by decide +kernel) (by decide +kernel)
set_option maxRecDepth 20000 in
theorem gX5_lays_J6_bitCount_0f7a4 : GoodIn wsX5_lays (va_wsS RX5 137 yJ6_bitCount_0f7a4 wsJ6_bitCount_0f7a4) := goodIn_app (goodIn_of _ (by decide +kernel)) ggX5_lays_J6_bitCount_0f7a4
set_option maxRecDepth 20000 in
theorem ggX5_lays_X0_place : GoodIn wsX5_lays wsX0_place := goodIn_r _ [22, 23, 24, 25, 26, 27, 21, 28, 29, 30, 31, 32, 33, 34, 102, 103, 104, 105, 106, 107, 108, 109, 110] (by decide +kernel) (by decide +kernel)
set_option maxRecDepth 20000 in
theorem gX5_lays_X0_place : GoodIn wsX5_lays (wsV RX5 129 RX0 yX0_place wsX0_place) := goodIn_app (goodIn_of _ (by decide +kernel)) ggX5_lays_X0_place
set_option maxRecDepth 20000 in
theorem ggX5_lays_X5_lay : GoodIn wsX5_lays wsX5_lay := goodIn_r _ [39, 1, 40, 41, 42, 38, 43, 44, 45, 46, 47, 3, 48, 49, 50, 51, 52, 53, 21, 54, 29, 55, 56, 57, 58, 59, 60, 61, 62, 63, 64, 65, 66, 67, 68, 69, 70, 23, 71, 72, 73, 74, 75, 34, 76, 77, 78, 79, 80, 81, 18, 19, 20, 22, 24, 25, 26, 27, 28, 30, 31, 32, 33, 11, 12, 13, 14, 15, 16, 17, 92, 93, 94, 95, 96, 97, 98, 99, 100, 101, 102, 103, 104, 105, 106, 107, 108, 109, 110, 111, 112, 113] (by decide +kernel) (by decide +kernel)
set_option maxRecDepth 20000 in
theorem gX5_lays_X5_lay : GoodIn wsX5_lays (wsV RX5 255 RX5 yX5_lay wsX5_lay) := goodIn_app (goodIn_of _ (by decide +kernel)) ggX5_lays_X5_lay
set_option maxRecDepth 20000 in
theorem ggX5_lays_X5_fitting : GoodIn wsX5_lays wsX5_fitting := goodIn_r _ [43, 44, 45, 46, 38, 47, 3, 1, 48, 49, 50, 51, 52, 53, 21, 54, 29, 55, 56, 57, 58, 59, 60, 61, 62, 63, 64, 65, 66, 92, 93, 94, 95, 96, 97, 98, 99, 100, 101, 111, 112, 113, 102, 103, 104, 105, 106, 107, 108, 109, 110] (by decide +kernel) (by decide +kernel)
set_option maxRecDepth 20000 in
theorem gX5_lays_X5_fitting : GoodIn wsX5_lays (wsV RX5 133 RX5 yX5_fitting wsX5_fitting) := goodIn_app (goodIn_of _ (by decide +kernel)) ggX5_lays_X5_fitting
set_option maxRecDepth 20000 in
theorem ggX5_lays_X5_tell : GoodIn wsX5_lays wsX5_tell := goodIn_r _ [85, 86, 87, 92, 93, 94, 95, 96, 97, 98, 99, 100, 101] (by decide +kernel) (by decide +kernel)
set_option maxRecDepth 20000 in
theorem gX5_lays_X5_tell : GoodIn wsX5_lays (wsV RX5 202 RX5 yX5_tell wsX5_tell) := goodIn_app (goodIn_of _ (by decide +kernel)) ggX5_lays_X5_tell
set_option maxRecDepth 20000 in
theorem ggX5_lays_X0_sectionsIn : GoodIn wsX5_lays wsX0_sectionsIn := goodIn_r _ [91, 34, 23, 102, 103, 104, 105, 106, 107, 108, 109, 110] (by decide +kernel) (by decide +kernel)
set_option maxRecDepth 20000 in
theorem gX5_lays_X0_sectionsIn : GoodIn wsX5_lays (wsV RX5 161 RX0 yX0_sectionsIn wsX0_sectionsIn) := goodIn_app (goodIn_of _ (by decide +kernel)) ggX5_lays_X0_sectionsIn
theorem dX5_lays_0 : decode cX5_lays 0 = .ok (.iconst 0, 1) := by decide +kernel
theorem dX5_lays_1 : decode cX5_lays 1 = .ok (.istore_n 1, 1) := by decide +kernel
theorem dX5_lays_2 : decode cX5_lays 2 = .ok (.iload_n 1, 1) := by decide +kernel
theorem dX5_lays_3 : decode cX5_lays 3 = .ok (.aload_n 0, 1) := by decide +kernel
theorem dX5_lays_4 : decode cX5_lays 4 = .ok (.getfield 19, 3) := by decide +kernel
theorem dX5_lays_7 : decode cX5_lays 7 = .ok (.getfield 79, 3) := by decide +kernel
theorem dX5_lays_10 : decode cX5_lays 10 = .ok (.if_icmp .ge 45, 3) := by decide +kernel
theorem dX5_lays_13 : decode cX5_lays 13 = .ok (.aload_n 0, 1) := by decide +kernel
theorem dX5_lays_14 : decode cX5_lays 14 = .ok (.getfield 50, 3) := by decide +kernel
theorem dX5_lays_17 : decode cX5_lays 17 = .ok (.iload_n 1, 1) := by decide +kernel
theorem dX5_lays_18 : decode cX5_lays 18 = .ok (.aload_n 0, 1) := by decide +kernel
theorem dX5_lays_19 : decode cX5_lays 19 = .ok (.getfield 29, 3) := by decide +kernel
theorem dX5_lays_22 : decode cX5_lays 22 = .ok (.iconst 1, 1) := by decide +kernel
theorem dX5_lays_23 : decode cX5_lays 23 = .ok (.aload_n 0, 1) := by decide +kernel
theorem dX5_lays_24 : decode cX5_lays 24 = .ok (.getfield 19, 3) := by decide +kernel
theorem dX5_lays_27 : decode cX5_lays 27 = .ok (.getfield 174, 3) := by decide +kernel
theorem dX5_lays_30 : decode cX5_lays 30 = .ok (.iload_n 1, 1) := by decide +kernel
theorem dX5_lays_31 : decode cX5_lays 31 = .ok (.iaload, 1) := by decide +kernel
theorem dX5_lays_32 : decode cX5_lays 32 = .ok (.ishl, 1) := by decide +kernel
theorem dX5_lays_33 : decode cX5_lays 33 = .ok (.invokevirtual 186, 3) := by decide +kernel
theorem dX5_lays_36 : decode cX5_lays 36 = .ok (.invokestatic 137, 3) := by decide +kernel
theorem dX5_lays_39 : decode cX5_lays 39 = .ok (.iastore, 1) := by decide +kernel
theorem dX5_lays_40 : decode cX5_lays 40 = .ok (.aload_n 0, 1) := by decide +kernel
theorem dX5_lays_41 : decode cX5_lays 41 = .ok (.getfield 19, 3) := by decide +kernel
theorem dX5_lays_44 : decode cX5_lays 44 = .ok (.iload_n 1, 1) := by decide +kernel
theorem dX5_lays_45 : decode cX5_lays 45 = .ok (.iconst (-1), 1) := by decide +kernel
theorem dX5_lays_46 : decode cX5_lays 46 = .ok (.invokevirtual 129, 3) := by decide +kernel
theorem dX5_lays_49 : decode cX5_lays 49 = .ok (.iinc 1 1, 3) := by decide +kernel
theorem dX5_lays_52 : decode cX5_lays 52 = .ok (.goto (-50), 3) := by decide +kernel
theorem dX5_lays_55 : decode cX5_lays 55 = .ok (.aload_n 0, 1) := by decide +kernel
theorem dX5_lays_56 : decode cX5_lays 56 = .ok (.getfield 29, 3) := by decide +kernel
theorem dX5_lays_59 : decode cX5_lays 59 = .ok (.getfield 92, 3) := by decide +kernel
theorem dX5_lays_62 : decode cX5_lays 62 = .ok (.istore_n 1, 1) := by decide +kernel
theorem dX5_lays_63 : decode cX5_lays 63 = .ok (.iload_n 1, 1) := by decide +kernel
theorem dX5_lays_64 : decode cX5_lays 64 = .ok (.ifCond .lt 43, 3) := by decide +kernel
theorem dX5_lays_67 : decode cX5_lays 67 = .ok (.iconst 0, 1) := by decide +kernel
theorem dX5_lays_68 : decode cX5_lays 68 = .ok (.istore_n 2, 1) := by decide +kernel
theorem dX5_lays_69 : decode cX5_lays 69 = .ok (.iload_n 2, 1) := by decide +kernel
theorem dX5_lays_70 : decode cX5_lays 70 = .ok (.aload_n 0, 1) := by decide +kernel
theorem dX5_lays_71 : decode cX5_lays 71 = .ok (.getfield 19, 3) := by decide +kernel
theorem dX5_lays_74 : decode cX5_lays 74 = .ok (.getfield 79, 3) := by decide +kernel
theorem dX5_lays_77 : decode cX5_lays 77 = .ok (.if_icmp .ge 24, 3) := by decide +kernel
theorem dX5_lays_80 : decode cX5_lays 80 = .ok (.aload_n 0, 1) := by decide +kernel
theorem dX5_lays_81 : decode cX5_lays 81 = .ok (.getfield 50, 3) := by decide +kernel
theorem dX5_lays_84 : decode cX5_lays 84 = .ok (.iload_n 2, 1) := by decide +kernel
theorem dX5_lays_85 : decode cX5_lays 85 = .ok (.iaload, 1) := by decide +kernel
theorem dX5_lays_86 : decode cX5_lays 86 = .ok (.iload_n 1, 1) := by decide +kernel
theorem dX5_lays_87 : decode cX5_lays 87 = .ok (.if_icmp .ne 8, 3) := by decide +kernel
theorem dX5_lays_90 : decode cX5_lays 90 = .ok (.aload_n 0, 1) := by decide +kernel
theorem dX5_lays_91 : decode cX5_lays 91 = .ok (.iload_n 2, 1) := by decide +kernel
theorem dX5_lays_92 : decode cX5_lays 92 = .ok (.invokevirtual 255, 3) := by decide +kernel
theorem dX5_lays_95 : decode cX5_lays 95 = .ok (.iinc 2 1, 3) := by decide +kernel
theorem dX5_lays_98 : decode cX5_lays 98 = .ok (.goto (-29), 3) := by decide +kernel
theorem dX5_lays_101 : decode cX5_lays 101 = .ok (.iinc 1 (-1), 3) := by decide +kernel
theorem dX5_lays_104 : decode cX5_lays 104 = .ok (.goto (-41), 3) := by decide +kernel
theorem dX5_lays_107 : decode cX5_lays 107 = .ok (.aload_n 0, 1) := by decide +kernel
theorem dX5_lays_108 : decode cX5_lays 108 = .ok (.aload_n 0, 1) := by decide +kernel
theorem dX5_lays_109 : decode cX5_lays 109 = .ok (.invokevirtual 133, 3) := by decide +kernel
theorem dX5_lays_112 : decode cX5_lays 112 = .ok (.invokestatic 137, 3) := by decide +kernel
theorem dX5_lays_115 : decode cX5_lays 115 = .ok (.invokevirtual 202, 3) := by decide +kernel
theorem dX5_lays_118 : decode cX5_lays 118 = .ok (.aload_n 0, 1) := by decide +kernel
theorem dX5_lays_119 : decode cX5_lays 119 = .ok (.getfield 19, 3) := by decide +kernel
theorem dX5_lays_122 : decode cX5_lays 122 = .ok (.getfield 79, 3) := by decide +kernel
theorem dX5_lays_125 : decode cX5_lays 125 = .ok (.aload_n 0, 1) := by decide +kernel
theorem dX5_lays_126 : decode cX5_lays 126 = .ok (.getfield 19, 3) := by decide +kernel
theorem dX5_lays_129 : decode cX5_lays 129 = .ok (.iconst (-1), 1) := by decide +kernel
theorem dX5_lays_130 : decode cX5_lays 130 = .ok (.invokevirtual 161, 3) := by decide +kernel
theorem dX5_lays_133 : decode cX5_lays 133 = .ok (.invokestatic 137, 3) := by decide +kernel
theorem dX5_lays_136 : decode cX5_lays 136 = .ok (.isub, 1) := by decide +kernel
theorem dX5_lays_137 : decode cX5_lays 137 = .ok (.ireturn, 1) := by decide +kernel
set_option maxRecDepth 20000 in
theorem ggX5_seated_X2_seatAll : GoodIn wsX5_seated wsX2_seatAll := goodIn_r _ [8, 9, 10, 11, 12, 13, 7, 14, 15, 16, 17, 18, 19, 20, 21, 22, 23, 24, 25, 26, 27, 28, 29, 30, 31, 32, 33, 34, 35, 36, 37, 38, 39, 40, 41, 42, 43, 44, 45, 46, 47, 48, 49, 73, 74, 75, 76, 77, 78, 79, 80, 81, 82, 83, 84, 85, 86, 87, 88, 89, 90, 91] (by decide +kernel) (by decide +kernel)
set_option maxRecDepth 20000 in
theorem gX5_seated_X2_seatAll : GoodIn wsX5_seated (wsV RX5 258 RX2 yX2_seatAll wsX2_seatAll) := goodIn_app (goodIn_of _ (by decide +kernel)) ggX5_seated_X2_seatAll
set_option maxRecDepth 20000 in
theorem ggX5_seated_X5_tell : GoodIn wsX5_seated wsX5_tell := goodIn_r _ [53, 54, 55, 63, 64, 65, 66, 67, 68, 69, 70, 71, 72] (by decide +kernel) (by decide +kernel)
set_option maxRecDepth 20000 in
theorem gX5_seated_X5_tell : GoodIn wsX5_seated (wsV RX5 202 RX5 yX5_tell wsX5_tell) := goodIn_app (goodIn_of _ (by decide +kernel)) ggX5_seated_X5_tell
set_option maxRecDepth 20000 in
theorem ggX5_seated_J6_bitCount_0f7a4 : GoodIn wsX5_seated wsJ6_bitCount_0f7a4 := goodIn_r _ [59, 60, 61, 62] (by decide +kernel) (by decide +kernel)
set_option maxRecDepth 20000 in
theorem gX5_seated_J6_bitCount_0f7a4 : GoodIn wsX5_seated (va_wsS RX5 137 yJ6_bitCount_0f7a4 wsJ6_bitCount_0f7a4) := goodIn_app (goodIn_of _ (by decide +kernel)) ggX5_seated_J6_bitCount_0f7a4
theorem dX5_seated_0 : decode cX5_seated 0 = .ok (.aload_n 0, 1) := by decide +kernel
theorem dX5_seated_1 : decode cX5_seated 1 = .ok (.getfield 46, 3) := by decide +kernel
theorem dX5_seated_4 : decode cX5_seated 4 = .ok (.aload_n 0, 1) := by decide +kernel
theorem dX5_seated_5 : decode cX5_seated 5 = .ok (.getfield 19, 3) := by decide +kernel
theorem dX5_seated_8 : decode cX5_seated 8 = .ok (.aload_n 0, 1) := by decide +kernel
theorem dX5_seated_9 : decode cX5_seated 9 = .ok (.getfield 29, 3) := by decide +kernel
theorem dX5_seated_12 : decode cX5_seated 12 = .ok (.iload_n 1, 1) := by decide +kernel
theorem dX5_seated_13 : decode cX5_seated 13 = .ok (.invokevirtual 258, 3) := by decide +kernel
theorem dX5_seated_16 : decode cX5_seated 16 = .ok (.istore_n 2, 1) := by decide +kernel
theorem dX5_seated_17 : decode cX5_seated 17 = .ok (.aload_n 0, 1) := by decide +kernel
theorem dX5_seated_18 : decode cX5_seated 18 = .ok (.iload_n 2, 1) := by decide +kernel
theorem dX5_seated_19 : decode cX5_seated 19 = .ok (.invokevirtual 202, 3) := by decide +kernel
theorem dX5_seated_22 : decode cX5_seated 22 = .ok (.iload_n 2, 1) := by decide +kernel
theorem dX5_seated_23 : decode cX5_seated 23 = .ok (.invokestatic 137, 3) := by decide +kernel
theorem dX5_seated_26 : decode cX5_seated 26 = .ok (.ireturn, 1) := by decide +kernel
set_option maxRecDepth 20000 in
theorem ggX5_sits_X0_has : GoodIn wsX5_sits wsX0_has := goodIn_r _ [8, 9, 76, 77, 78, 79, 80, 81, 82, 83, 84] (by decide +kernel) (by decide +kernel)
set_option maxRecDepth 20000 in
theorem gX5_sits_X0_has : GoodIn wsX5_sits (wsV RX5 109 RX0 yX0_has wsX0_has) := goodIn_app (goodIn_of _ (by decide +kernel)) ggX5_sits_X0_has
set_option maxRecDepth 20000 in
theorem ggX5_sits_X2_seatAll : GoodIn wsX5_sits wsX2_seatAll := goodIn_r _ [14, 15, 16, 17, 18, 19, 13, 20, 21, 22, 23, 24, 25, 26, 27, 28, 29, 30, 31, 32, 33, 34, 35, 36, 37, 38, 39, 40, 41, 42, 43, 44, 45, 46, 47, 48, 49, 50, 51, 52, 53, 54, 55, 85, 86, 87, 72, 73, 74, 75, 76, 77, 78, 79, 80, 81, 82, 83, 84, 88, 89, 90] (by decide +kernel) (by decide +kernel)
set_option maxRecDepth 20000 in
theorem gX5_sits_X2_seatAll : GoodIn wsX5_sits (wsV RX5 258 RX2 yX2_seatAll wsX2_seatAll) := goodIn_app (goodIn_of _ (by decide +kernel)) ggX5_sits_X2_seatAll
set_option maxRecDepth 20000 in
theorem ggX5_sits_X5_tell : GoodIn wsX5_sits wsX5_tell := goodIn_r _ [59, 60, 61, 62, 63, 64, 65, 66, 67, 68, 69, 70, 71] (by decide +kernel) (by decide +kernel)
set_option maxRecDepth 20000 in
theorem gX5_sits_X5_tell : GoodIn wsX5_sits (wsV RX5 202 RX5 yX5_tell wsX5_tell) := goodIn_app (goodIn_of _ (by decide +kernel)) ggX5_sits_X5_tell
theorem dX5_sits_0 : decode cX5_sits 0 = .ok (.aload_n 0, 1) := by decide +kernel
theorem dX5_sits_1 : decode cX5_sits 1 = .ok (.getfield 19, 3) := by decide +kernel
theorem dX5_sits_4 : decode cX5_sits 4 = .ok (.iload_n 1, 1) := by decide +kernel
theorem dX5_sits_5 : decode cX5_sits 5 = .ok (.invokevirtual 109, 3) := by decide +kernel
theorem dX5_sits_8 : decode cX5_sits 8 = .ok (.ifCond .ne 5, 3) := by decide +kernel
theorem dX5_sits_11 : decode cX5_sits 11 = .ok (.iconst (-1), 1) := by decide +kernel
theorem dX5_sits_12 : decode cX5_sits 12 = .ok (.ireturn, 1) := by decide +kernel
theorem dX5_sits_13 : decode cX5_sits 13 = .ok (.aload_n 0, 1) := by decide +kernel
theorem dX5_sits_14 : decode cX5_sits 14 = .ok (.getfield 46, 3) := by decide +kernel
theorem dX5_sits_17 : decode cX5_sits 17 = .ok (.aload_n 0, 1) := by decide +kernel
theorem dX5_sits_18 : decode cX5_sits 18 = .ok (.getfield 19, 3) := by decide +kernel
theorem dX5_sits_21 : decode cX5_sits 21 = .ok (.aload_n 0, 1) := by decide +kernel
theorem dX5_sits_22 : decode cX5_sits 22 = .ok (.getfield 29, 3) := by decide +kernel
theorem dX5_sits_25 : decode cX5_sits 25 = .ok (.iconst 0, 1) := by decide +kernel
theorem dX5_sits_26 : decode cX5_sits 26 = .ok (.invokevirtual 258, 3) := by decide +kernel
theorem dX5_sits_29 : decode cX5_sits 29 = .ok (.pop, 1) := by decide +kernel
theorem dX5_sits_30 : decode cX5_sits 30 = .ok (.aload_n 0, 1) := by decide +kernel
theorem dX5_sits_31 : decode cX5_sits 31 = .ok (.aload_n 0, 1) := by decide +kernel
theorem dX5_sits_32 : decode cX5_sits 32 = .ok (.getfield 46, 3) := by decide +kernel
theorem dX5_sits_35 : decode cX5_sits 35 = .ok (.getfield 262, 3) := by decide +kernel
theorem dX5_sits_38 : decode cX5_sits 38 = .ok (.iload_n 1, 1) := by decide +kernel
theorem dX5_sits_39 : decode cX5_sits 39 = .ok (.iaload, 1) := by decide +kernel
theorem dX5_sits_40 : decode cX5_sits 40 = .ok (.invokevirtual 202, 3) := by decide +kernel
theorem dX5_sits_43 : decode cX5_sits 43 = .ok (.aload_n 0, 1) := by decide +kernel
theorem dX5_sits_44 : decode cX5_sits 44 = .ok (.getfield 46, 3) := by decide +kernel
theorem dX5_sits_47 : decode cX5_sits 47 = .ok (.getfield 265, 3) := by decide +kernel
theorem dX5_sits_50 : decode cX5_sits 50 = .ok (.iload_n 1, 1) := by decide +kernel
theorem dX5_sits_51 : decode cX5_sits 51 = .ok (.iaload, 1) := by decide +kernel
theorem dX5_sits_52 : decode cX5_sits 52 = .ok (.ireturn, 1) := by decide +kernel
set_option maxRecDepth 20000 in
theorem ggX5_lacking_X5_fitting : GoodIn wsX5_lacking wsX5_fitting := goodIn_r _ [8, 9, 10, 11, 7, 12, 3, 2, 13, 14, 15, 16, 17, 18, 19, 20, 21, 22, 23, 24, 25, 26, 27, 28, 29, 30, 31, 32, 33, 88, 89, 90, 91, 92, 93, 94, 95, 96, 97, 98, 99, 100, 101, 102, 103, 104, 105, 106, 107, 108, 109] (by decide +kernel) (by decide +kernel)
set_option maxRecDepth 20000 in
theorem gX5_lacking_X5_fitting : GoodIn wsX5_lacking (wsV RX5 133 RX5 yX5_fitting wsX5_fitting) := goodIn_app (goodIn_of _ (by decide +kernel)) ggX5_lacking_X5_fitting
set_option maxRecDepth 20000 in
theorem ggX5_lacking_X2_seatAll : GoodIn wsX5_lacking wsX2_seatAll := goodIn_r _ [38, 39, 40, 41, 42, 43, 37, 44, 45, 46, 47, 48, 49, 24, 50, 51, 26, 52, 14, 7, 15, 27, 28, 29, 30, 53, 32, 33, 54, 55, 56, 57, 58, 59, 60, 61, 62, 63, 64, 65, 66, 67, 68, 98, 99, 100, 110, 111, 112, 113, 101, 102, 103, 104, 105, 106, 107, 108, 109, 114, 115, 116] (by decide +kernel) (by decide +kernel)
set_option maxRecDepth 20000 in
theorem gX5_lacking_X2_seatAll : GoodIn wsX5_lacking (wsV RX5 258 RX2 yX2_seatAll wsX2_seatAll) := goodIn_app (goodIn_of _ (by decide +kernel)) ggX5_lacking_X2_seatAll
set_option maxRecDepth 20000 in
theorem ggX5_lacking_X5_leastBit : GoodIn wsX5_lacking wsX5_leastBit := goodIn_r _ [71, 13, 14, 7, 15] (by decide +kernel) (by decide +kernel)
set_option maxRecDepth 20000 in
theorem gX5_lacking_X5_leastBit : GoodIn wsX5_lacking (va_wsS RX5 228 yX5_leastBit wsX5_leastBit) := goodIn_app (goodIn_of _ (by decide +kernel)) ggX5_lacking_X5_leastBit
set_option maxRecDepth 20000 in
theorem ggX5_lacking_X1_has : GoodIn wsX5_lacking wsX1_has := goodIn_r _ [76, 77, 98, 99, 100] (by decide +kernel) (by decide +kernel)
set_option maxRecDepth 20000 in
theorem gX5_lacking_X1_has : GoodIn wsX5_lacking (wsV RX5 167 RX1 yX1_has wsX1_has) := goodIn_app (goodIn_of _ (by decide +kernel)) ggX5_lacking_X1_has
set_option maxRecDepth 20000 in
theorem ggX5_lacking_X2_firstFull : GoodIn wsX5_lacking wsX2_firstFull := goodIn_r _ [81, 14, 7, 15, 65, 66, 67, 37, 68, 45, 101, 102, 103, 104, 105, 106, 107, 108, 109, 110, 111, 112, 113] (by decide +kernel) (by decide +kernel)
set_option maxRecDepth 20000 in
theorem gX5_lacking_X2_firstFull : GoodIn wsX5_lacking (wsV RX5 268 RX2 yX2_firstFull wsX2_firstFull) := goodIn_app (goodIn_of _ (by decide +kernel)) ggX5_lacking_X2_firstFull
set_option maxRecDepth 20000 in
theorem ggX5_lacking_X5_tell_ : GoodIn wsX5_lacking wsX5_tell_ := goodIn_r _ [85, 86, 87, 88, 89, 90, 91, 92, 93, 94, 95, 96, 97] (by decide +kernel) (by decide +kernel)
set_option maxRecDepth 20000 in
theorem gX5_lacking_X5_tell_ : GoodIn wsX5_lacking (wsV RX5 183 RX5 yX5_tell_ wsX5_tell_) := goodIn_app (goodIn_of _ (by decide +kernel)) ggX5_lacking_X5_tell_
theorem dX5_lacking_0 : decode cX5_lacking 0 = .ok (.aload_n 0, 1) := by decide +kernel
theorem dX5_lacking_1 : decode cX5_lacking 1 = .ok (.invokevirtual 133, 3) := by decide +kernel
theorem dX5_lacking_4 : decode cX5_lacking 4 = .ok (.aload_n 0, 1) := by decide +kernel
theorem dX5_lacking_5 : decode cX5_lacking 5 = .ok (.getfield 46, 3) := by decide +kernel
theorem dX5_lacking_8 : decode cX5_lacking 8 = .ok (.aload_n 0, 1) := by decide +kernel
theorem dX5_lacking_9 : decode cX5_lacking 9 = .ok (.getfield 19, 3) := by decide +kernel
theorem dX5_lacking_12 : decode cX5_lacking 12 = .ok (.aload_n 0, 1) := by decide +kernel
theorem dX5_lacking_13 : decode cX5_lacking 13 = .ok (.getfield 29, 3) := by decide +kernel
theorem dX5_lacking_16 : decode cX5_lacking 16 = .ok (.iconst 0, 1) := by decide +kernel
theorem dX5_lacking_17 : decode cX5_lacking 17 = .ok (.invokevirtual 258, 3) := by decide +kernel
theorem dX5_lacking_20 : decode cX5_lacking 20 = .ok (.iconst (-1), 1) := by decide +kernel
theorem dX5_lacking_21 : decode cX5_lacking 21 = .ok (.ixor, 1) := by decide +kernel
theorem dX5_lacking_22 : decode cX5_lacking 22 = .ok (.iand, 1) := by decide +kernel
theorem dX5_lacking_23 : decode cX5_lacking 23 = .ok (.istore_n 1, 1) := by decide +kernel
theorem dX5_lacking_24 : decode cX5_lacking 24 = .ok (.iload_n 1, 1) := by decide +kernel
theorem dX5_lacking_25 : decode cX5_lacking 25 = .ok (.invokestatic 228, 3) := by decide +kernel
theorem dX5_lacking_28 : decode cX5_lacking 28 = .ok (.istore_n 2, 1) := by decide +kernel
theorem dX5_lacking_29 : decode cX5_lacking 29 = .ok (.aload_n 0, 1) := by decide +kernel
theorem dX5_lacking_30 : decode cX5_lacking 30 = .ok (.iload_n 2, 1) := by decide +kernel
theorem dX5_lacking_31 : decode cX5_lacking 31 = .ok (.aload_n 0, 1) := by decide +kernel
theorem dX5_lacking_32 : decode cX5_lacking 32 = .ok (.getfield 29, 3) := by decide +kernel
theorem dX5_lacking_35 : decode cX5_lacking 35 = .ok (.iload_n 2, 1) := by decide +kernel
theorem dX5_lacking_36 : decode cX5_lacking 36 = .ok (.invokevirtual 167, 3) := by decide +kernel
theorem dX5_lacking_39 : decode cX5_lacking 39 = .ok (.ifCond .eq 26, 3) := by decide +kernel
theorem dX5_lacking_42 : decode cX5_lacking 42 = .ok (.aload_n 0, 1) := by decide +kernel
theorem dX5_lacking_43 : decode cX5_lacking 43 = .ok (.getfield 46, 3) := by decide +kernel
theorem dX5_lacking_46 : decode cX5_lacking 46 = .ok (.aload_n 0, 1) := by decide +kernel
theorem dX5_lacking_47 : decode cX5_lacking 47 = .ok (.getfield 19, 3) := by decide +kernel
theorem dX5_lacking_50 : decode cX5_lacking 50 = .ok (.aload_n 0, 1) := by decide +kernel
theorem dX5_lacking_51 : decode cX5_lacking 51 = .ok (.getfield 29, 3) := by decide +kernel
theorem dX5_lacking_54 : decode cX5_lacking 54 = .ok (.getfield 168, 3) := by decide +kernel
theorem dX5_lacking_57 : decode cX5_lacking 57 = .ok (.iload_n 2, 1) := by decide +kernel
theorem dX5_lacking_58 : decode cX5_lacking 58 = .ok (.iaload, 1) := by decide +kernel
theorem dX5_lacking_59 : decode cX5_lacking 59 = .ok (.invokevirtual 268, 3) := by decide +kernel
theorem dX5_lacking_62 : decode cX5_lacking 62 = .ok (.goto 4, 3) := by decide +kernel
theorem dX5_lacking_65 : decode cX5_lacking 65 = .ok (.iconst (-1), 1) := by decide +kernel
theorem dX5_lacking_66 : decode cX5_lacking 66 = .ok (.invokevirtual 183, 3) := by decide +kernel
theorem dX5_lacking_69 : decode cX5_lacking 69 = .ok (.iload_n 1, 1) := by decide +kernel
theorem dX5_lacking_70 : decode cX5_lacking 70 = .ok (.ireturn, 1) := by decide +kernel
set_option maxRecDepth 20000 in
theorem ggX5_wants_X0_has : GoodIn wsX5_wants wsX0_has := goodIn_r _ [15, 16, 91, 92, 93, 94, 95, 96, 97, 98, 99] (by decide +kernel) (by decide +kernel)
set_option maxRecDepth 20000 in
theorem gX5_wants_X0_has : GoodIn wsX5_wants (wsV RX5 109 RX0 yX0_has wsX0_has) := goodIn_app (goodIn_of _ (by decide +kernel)) ggX5_wants_X0_has
set_option maxRecDepth 20000 in
theorem ggX5_wants_X5_fitting : GoodIn wsX5_wants wsX5_fitting := goodIn_r _ [21, 22, 23, 24, 20, 25, 2, 1, 26, 27, 28, 29, 30, 31, 14, 32, 33, 34, 35, 36, 37, 38, 39, 40, 41, 42, 43, 44, 45, 81, 82, 83, 84, 85, 86, 87, 88, 89, 90, 100, 101, 102, 91, 92, 93, 94, 95, 96, 97, 98, 99] (by decide +kernel) (by decide +kernel)
set_option maxRecDepth 20000 in
theorem gX5_wants_X5_fitting : GoodIn wsX5_wants (wsV RX5 133 RX5 yX5_fitting wsX5_fitting) := goodIn_app (goodIn_of _ (by decide +kernel)) ggX5_wants_X5_fitting
set_option maxRecDepth 20000 in
theorem ggX5_wants_X2_seatAll : GoodIn wsX5_wants wsX2_seatAll := goodIn_r _ [50, 51, 52, 53, 54, 55, 49, 56, 57, 58, 59, 60, 61, 36, 62, 63, 38, 64, 27, 20, 28, 39, 40, 41, 42, 65, 44, 45, 66, 67, 68, 69, 70, 71, 72, 73, 74, 75, 76, 77, 78, 79, 80, 100, 101, 102, 103, 104, 105, 106, 91, 92, 93, 94, 95, 96, 97, 98, 99, 107, 108, 109] (by decide +kernel) (by decide +kernel)
set_option maxRecDepth 20000 in
theorem gX5_wants_X2_seatAll : GoodIn wsX5_wants (wsV RX5 258 RX2 yX2_seatAll wsX2_seatAll) := goodIn_app (goodIn_of _ (by decide +kernel)) ggX5_wants_X2_seatAll
theorem dX5_wants_0 : decode cX5_wants 0 = .ok (.aload_n 0, 1) := by decide +kernel
theorem dX5_wants_1 : decode cX5_wants 1 = .ok (.getfield 19, 3) := by decide +kernel
theorem dX5_wants_4 : decode cX5_wants 4 = .ok (.iload_n 1, 1) := by decide +kernel
theorem dX5_wants_5 : decode cX5_wants 5 = .ok (.invokevirtual 109, 3) := by decide +kernel
theorem dX5_wants_8 : decode cX5_wants 8 = .ok (.ifCond .ne 5, 3) := by decide +kernel
theorem dX5_wants_11 : decode cX5_wants 11 = .ok (.iconst (-1), 1) := by decide +kernel
theorem dX5_wants_12 : decode cX5_wants 12 = .ok (.ireturn, 1) := by decide +kernel
theorem dX5_wants_13 : decode cX5_wants 13 = .ok (.aload_n 0, 1) := by decide +kernel
theorem dX5_wants_14 : decode cX5_wants 14 = .ok (.invokevirtual 133, 3) := by decide +kernel
theorem dX5_wants_17 : decode cX5_wants 17 = .ok (.istore_n 2, 1) := by decide +kernel
theorem dX5_wants_18 : decode cX5_wants 18 = .ok (.aload_n 0, 1) := by decide +kernel
theorem dX5_wants_19 : decode cX5_wants 19 = .ok (.getfield 19, 3) := by decide +kernel
theorem dX5_wants_22 : decode cX5_wants 22 = .ok (.getfield 116, 3) := by decide +kernel
theorem dX5_wants_25 : decode cX5_wants 25 = .ok (.iload_n 1, 1) := by decide +kernel
theorem dX5_wants_26 : decode cX5_wants 26 = .ok (.iaload, 1) := by decide +kernel
theorem dX5_wants_27 : decode cX5_wants 27 = .ok (.istore_n 3, 1) := by decide +kernel
theorem dX5_wants_28 : decode cX5_wants 28 = .ok (.bipush 30, 2) := by decide +kernel
theorem dX5_wants_30 : decode cX5_wants 30 = .ok (.iconst 0, 1) := by decide +kernel
theorem dX5_wants_31 : decode cX5_wants 31 = .ok (.aload_n 0, 1) := by decide +kernel
theorem dX5_wants_32 : decode cX5_wants 32 = .ok (.getfield 29, 3) := by decide +kernel
theorem dX5_wants_35 : decode cX5_wants 35 = .ok (.getfield 92, 3) := by decide +kernel
theorem dX5_wants_38 : decode cX5_wants 38 = .ok (.iload_n 3, 1) := by decide +kernel
theorem dX5_wants_39 : decode cX5_wants 39 = .ok (.isub, 1) := by decide +kernel
theorem dX5_wants_40 : decode cX5_wants 40 = .ok (.invokestatic 272, 3) := by decide +kernel
theorem dX5_wants_43 : decode cX5_wants 43 = .ok (.invokestatic 277, 3) := by decide +kernel
theorem dX5_wants_46 : decode cX5_wants 46 = .ok (.istore 4, 2) := by decide +kernel
theorem dX5_wants_48 : decode cX5_wants 48 = .ok (.bipush (-2), 2) := by decide +kernel
theorem dX5_wants_50 : decode cX5_wants 50 = .ok (.istore 5, 2) := by decide +kernel
theorem dX5_wants_52 : decode cX5_wants 52 = .ok (.iconst 0, 1) := by decide +kernel
theorem dX5_wants_53 : decode cX5_wants 53 = .ok (.istore 6, 2) := by decide +kernel
theorem dX5_wants_55 : decode cX5_wants 55 = .ok (.iload 6, 2) := by decide +kernel
theorem dX5_wants_57 : decode cX5_wants 57 = .ok (.iload 4, 2) := by decide +kernel
theorem dX5_wants_59 : decode cX5_wants 59 = .ok (.if_icmp .gt 53, 3) := by decide +kernel
theorem dX5_wants_62 : decode cX5_wants 62 = .ok (.iload 5, 2) := by decide +kernel
theorem dX5_wants_64 : decode cX5_wants 64 = .ok (.bipush (-2), 2) := by decide +kernel
theorem dX5_wants_66 : decode cX5_wants 66 = .ok (.if_icmp .ne 46, 3) := by decide +kernel
theorem dX5_wants_69 : decode cX5_wants 69 = .ok (.aload_n 0, 1) := by decide +kernel
theorem dX5_wants_70 : decode cX5_wants 70 = .ok (.getfield 19, 3) := by decide +kernel
theorem dX5_wants_73 : decode cX5_wants 73 = .ok (.getfield 116, 3) := by decide +kernel
theorem dX5_wants_76 : decode cX5_wants 76 = .ok (.iload_n 1, 1) := by decide +kernel
theorem dX5_wants_77 : decode cX5_wants 77 = .ok (.iload_n 3, 1) := by decide +kernel
theorem dX5_wants_78 : decode cX5_wants 78 = .ok (.iload 6, 2) := by decide +kernel
theorem dX5_wants_80 : decode cX5_wants 80 = .ok (.iadd, 1) := by decide +kernel
theorem dX5_wants_81 : decode cX5_wants 81 = .ok (.iastore, 1) := by decide +kernel
theorem dX5_wants_82 : decode cX5_wants 82 = .ok (.aload_n 0, 1) := by decide +kernel
theorem dX5_wants_83 : decode cX5_wants 83 = .ok (.getfield 46, 3) := by decide +kernel
theorem dX5_wants_86 : decode cX5_wants 86 = .ok (.aload_n 0, 1) := by decide +kernel
theorem dX5_wants_87 : decode cX5_wants 87 = .ok (.getfield 19, 3) := by decide +kernel
theorem dX5_wants_90 : decode cX5_wants 90 = .ok (.aload_n 0, 1) := by decide +kernel
theorem dX5_wants_91 : decode cX5_wants 91 = .ok (.getfield 29, 3) := by decide +kernel
theorem dX5_wants_94 : decode cX5_wants 94 = .ok (.iconst 0, 1) := by decide +kernel
theorem dX5_wants_95 : decode cX5_wants 95 = .ok (.invokevirtual 258, 3) := by decide +kernel
theorem dX5_wants_98 : decode cX5_wants 98 = .ok (.iload_n 2, 1) := by decide +kernel
theorem dX5_wants_99 : decode cX5_wants 99 = .ok (.if_icmp .ne 7, 3) := by decide +kernel
theorem dX5_wants_102 : decode cX5_wants 102 = .ok (.iload 6, 2) := by decide +kernel
theorem dX5_wants_104 : decode cX5_wants 104 = .ok (.istore 5, 2) := by decide +kernel
theorem dX5_wants_106 : decode cX5_wants 106 = .ok (.iinc 6 1, 3) := by decide +kernel
theorem dX5_wants_109 : decode cX5_wants 109 = .ok (.goto (-54), 3) := by decide +kernel
theorem dX5_wants_112 : decode cX5_wants 112 = .ok (.aload_n 0, 1) := by decide +kernel
theorem dX5_wants_113 : decode cX5_wants 113 = .ok (.getfield 19, 3) := by decide +kernel
theorem dX5_wants_116 : decode cX5_wants 116 = .ok (.getfield 116, 3) := by decide +kernel
theorem dX5_wants_119 : decode cX5_wants 119 = .ok (.iload_n 1, 1) := by decide +kernel
theorem dX5_wants_120 : decode cX5_wants 120 = .ok (.iload_n 3, 1) := by decide +kernel
theorem dX5_wants_121 : decode cX5_wants 121 = .ok (.iastore, 1) := by decide +kernel
theorem dX5_wants_122 : decode cX5_wants 122 = .ok (.iload 5, 2) := by decide +kernel
theorem dX5_wants_124 : decode cX5_wants 124 = .ok (.ireturn, 1) := by decide +kernel
set_option maxRecDepth 20000 in
theorem ggX5_count_X0_sectionsIn : GoodIn wsX5_count wsX0_sectionsIn := goodIn_r _ [9, 10, 11, 41, 42, 43, 44, 45, 46, 47, 48, 49] (by decide +kernel) (by decide +kernel)
set_option maxRecDepth 20000 in
theorem gX5_count_X0_sectionsIn : GoodIn wsX5_count (wsV RX5 161 RX0 yX0_sectionsIn wsX0_sectionsIn) := goodIn_app (goodIn_of _ (by decide +kernel)) ggX5_count_X0_sectionsIn
set_option maxRecDepth 20000 in
theorem ggX5_count_X0_fullColumns : GoodIn wsX5_count wsX0_fullColumns := goodIn_r _ [15, 16, 17, 18, 6, 7, 8, 9, 10, 11, 19, 20, 21, 22, 23, 24, 25, 41, 42, 43, 44, 45, 46, 47, 48, 49] (by decide +kernel) (by decide +kernel)
set_option maxRecDepth 20000 in
theorem gX5_count_X0_fullColumns : GoodIn wsX5_count (wsV RX5 280 RX0 yX0_fullColumns wsX0_fullColumns) := goodIn_app (goodIn_of _ (by decide +kernel)) ggX5_count_X0_fullColumns
set_option maxRecDepth 20000 in
theorem ggX5_count_X0_busyTeachers : GoodIn wsX5_count wsX0_busyTeachers := goodIn_r _ [29, 10, 30, 41, 42, 43, 44, 45, 46, 47, 48, 49] (by decide +kernel) (by decide +kernel)
set_option maxRecDepth 20000 in
theorem gX5_count_X0_busyTeachers : GoodIn wsX5_count (wsV RX5 283 RX0 yX0_busyTeachers wsX0_busyTeachers) := goodIn_app (goodIn_of _ (by decide +kernel)) ggX5_count_X0_busyTeachers
theorem dX5_count_0 : decode cX5_count 0 = .ok (.iload_n 1, 1) := by decide +kernel
theorem dX5_count_1 : decode cX5_count 1 = .ok (.tableswitch 133 0 9 #[55, 63, 71, 79, 88, 96, 104, 112, 117, 125], 55) := by decide +kernel
theorem dX5_count_56 : decode cX5_count 56 = .ok (.aload_n 0, 1) := by decide +kernel
theorem dX5_count_57 : decode cX5_count 57 = .ok (.getfield 19, 3) := by decide +kernel
theorem dX5_count_60 : decode cX5_count 60 = .ok (.getfield 158, 3) := by decide +kernel
theorem dX5_count_63 : decode cX5_count 63 = .ok (.ireturn, 1) := by decide +kernel
theorem dX5_count_64 : decode cX5_count 64 = .ok (.aload_n 0, 1) := by decide +kernel
theorem dX5_count_65 : decode cX5_count 65 = .ok (.getfield 19, 3) := by decide +kernel
theorem dX5_count_68 : decode cX5_count 68 = .ok (.getfield 164, 3) := by decide +kernel
theorem dX5_count_71 : decode cX5_count 71 = .ok (.ireturn, 1) := by decide +kernel
theorem dX5_count_72 : decode cX5_count 72 = .ok (.aload_n 0, 1) := by decide +kernel
theorem dX5_count_73 : decode cX5_count 73 = .ok (.getfield 19, 3) := by decide +kernel
theorem dX5_count_76 : decode cX5_count 76 = .ok (.getfield 79, 3) := by decide +kernel
theorem dX5_count_79 : decode cX5_count 79 = .ok (.ireturn, 1) := by decide +kernel
theorem dX5_count_80 : decode cX5_count 80 = .ok (.aload_n 0, 1) := by decide +kernel
theorem dX5_count_81 : decode cX5_count 81 = .ok (.getfield 19, 3) := by decide +kernel
theorem dX5_count_84 : decode cX5_count 84 = .ok (.iconst (-1), 1) := by decide +kernel
theorem dX5_count_85 : decode cX5_count 85 = .ok (.invokevirtual 161, 3) := by decide +kernel
theorem dX5_count_88 : decode cX5_count 88 = .ok (.ireturn, 1) := by decide +kernel
theorem dX5_count_89 : decode cX5_count 89 = .ok (.aload_n 0, 1) := by decide +kernel
theorem dX5_count_90 : decode cX5_count 90 = .ok (.getfield 29, 3) := by decide +kernel
theorem dX5_count_93 : decode cX5_count 93 = .ok (.getfield 92, 3) := by decide +kernel
theorem dX5_count_96 : decode cX5_count 96 = .ok (.ireturn, 1) := by decide +kernel
theorem dX5_count_97 : decode cX5_count 97 = .ok (.aload_n 0, 1) := by decide +kernel
theorem dX5_count_98 : decode cX5_count 98 = .ok (.getfield 29, 3) := by decide +kernel
theorem dX5_count_101 : decode cX5_count 101 = .ok (.getfield 171, 3) := by decide +kernel
theorem dX5_count_104 : decode cX5_count 104 = .ok (.ireturn, 1) := by decide +kernel
theorem dX5_count_105 : decode cX5_count 105 = .ok (.aload_n 0, 1) := by decide +kernel
theorem dX5_count_106 : decode cX5_count 106 = .ok (.getfield 19, 3) := by decide +kernel
theorem dX5_count_109 : decode cX5_count 109 = .ok (.invokevirtual 280, 3) := by decide +kernel
theorem dX5_count_112 : decode cX5_count 112 = .ok (.ireturn, 1) := by decide +kernel
theorem dX5_count_113 : decode cX5_count 113 = .ok (.aload_n 0, 1) := by decide +kernel
theorem dX5_count_114 : decode cX5_count 114 = .ok (.getfield 58, 3) := by decide +kernel
theorem dX5_count_117 : decode cX5_count 117 = .ok (.ireturn, 1) := by decide +kernel
theorem dX5_count_118 : decode cX5_count 118 = .ok (.aload_n 0, 1) := by decide +kernel
theorem dX5_count_119 : decode cX5_count 119 = .ok (.getfield 10, 3) := by decide +kernel
theorem dX5_count_122 : decode cX5_count 122 = .ok (.getfield 66, 3) := by decide +kernel
theorem dX5_count_125 : decode cX5_count 125 = .ok (.ireturn, 1) := by decide +kernel
theorem dX5_count_126 : decode cX5_count 126 = .ok (.aload_n 0, 1) := by decide +kernel
theorem dX5_count_127 : decode cX5_count 127 = .ok (.getfield 19, 3) := by decide +kernel
theorem dX5_count_130 : decode cX5_count 130 = .ok (.invokevirtual 283, 3) := by decide +kernel
theorem dX5_count_133 : decode cX5_count 133 = .ok (.ireturn, 1) := by decide +kernel
theorem dX5_count_134 : decode cX5_count 134 = .ok (.iconst (-1), 1) := by decide +kernel
theorem dX5_count_135 : decode cX5_count 135 = .ok (.ireturn, 1) := by decide +kernel
theorem dX5_row_0 : decode cX5_row 0 = .ok (.iload_n 1, 1) := by decide +kernel
theorem dX5_row_1 : decode cX5_row 1 = .ok (.ifCond .lt 11, 3) := by decide +kernel
theorem dX5_row_4 : decode cX5_row 4 = .ok (.iload_n 1, 1) := by decide +kernel
theorem dX5_row_5 : decode cX5_row 5 = .ok (.aload_n 0, 1) := by decide +kernel
theorem dX5_row_6 : decode cX5_row 6 = .ok (.getfield 58, 3) := by decide +kernel
theorem dX5_row_9 : decode cX5_row 9 = .ok (.if_icmp .lt 11, 3) := by decide +kernel
theorem dX5_row_12 : decode cX5_row 12 = .ok (.new 286, 3) := by decide +kernel
theorem dX5_row_15 : decode cX5_row 15 = .ok (.dup, 1) := by decide +kernel
theorem dX5_row_16 : decode cX5_row 16 = .ok (.invokespecial 288, 3) := by decide +kernel
theorem dX5_row_19 : decode cX5_row 19 = .ok (.athrow, 1) := by decide +kernel
theorem dX5_row_20 : decode cX5_row 20 = .ok (.aload_n 0, 1) := by decide +kernel
theorem dX5_row_21 : decode cX5_row 21 = .ok (.getfield 54, 3) := by decide +kernel
theorem dX5_row_24 : decode cX5_row 24 = .ok (.iload_n 1, 1) := by decide +kernel
theorem dX5_row_25 : decode cX5_row 25 = .ok (.laload, 1) := by decide +kernel
theorem dX5_row_26 : decode cX5_row 26 = .ok (.lreturn, 1) := by decide +kernel
theorem dX5_tell_0 : decode cX5_tell 0 = .ok (.aload_n 0, 1) := by decide +kernel
theorem dX5_tell_1 : decode cX5_tell 1 = .ok (.getfield 54, 3) := by decide +kernel
theorem dX5_tell_4 : decode cX5_tell 4 = .ok (.iconst 0, 1) := by decide +kernel
theorem dX5_tell_5 : decode cX5_tell 5 = .ok (.iload_n 1, 1) := by decide +kernel
theorem dX5_tell_6 : decode cX5_tell 6 = .ok (.i2l, 1) := by decide +kernel
theorem dX5_tell_7 : decode cX5_tell 7 = .ok (.lastore, 1) := by decide +kernel
theorem dX5_tell_8 : decode cX5_tell 8 = .ok (.aload_n 0, 1) := by decide +kernel
theorem dX5_tell_9 : decode cX5_tell 9 = .ok (.iconst 1, 1) := by decide +kernel
theorem dX5_tell_10 : decode cX5_tell 10 = .ok (.putfield 58, 3) := by decide +kernel
theorem dX5_tell_13 : decode cX5_tell 13 = .ok (.return_, 1) := by decide +kernel
theorem dX5_tell__0 : decode cX5_tell_ 0 = .ok (.aload_n 0, 1) := by decide +kernel
theorem dX5_tell__1 : decode cX5_tell_ 1 = .ok (.getfield 54, 3) := by decide +kernel
theorem dX5_tell__4 : decode cX5_tell_ 4 = .ok (.iconst 0, 1) := by decide +kernel
theorem dX5_tell__5 : decode cX5_tell_ 5 = .ok (.iload_n 1, 1) := by decide +kernel
theorem dX5_tell__6 : decode cX5_tell_ 6 = .ok (.i2l, 1) := by decide +kernel
theorem dX5_tell__7 : decode cX5_tell_ 7 = .ok (.lastore, 1) := by decide +kernel
theorem dX5_tell__8 : decode cX5_tell_ 8 = .ok (.aload_n 0, 1) := by decide +kernel
theorem dX5_tell__9 : decode cX5_tell_ 9 = .ok (.getfield 54, 3) := by decide +kernel
theorem dX5_tell__12 : decode cX5_tell_ 12 = .ok (.iconst 1, 1) := by decide +kernel
theorem dX5_tell__13 : decode cX5_tell_ 13 = .ok (.iload_n 2, 1) := by decide +kernel
theorem dX5_tell__14 : decode cX5_tell_ 14 = .ok (.i2l, 1) := by decide +kernel
theorem dX5_tell__15 : decode cX5_tell_ 15 = .ok (.lastore, 1) := by decide +kernel
theorem dX5_tell__16 : decode cX5_tell_ 16 = .ok (.aload_n 0, 1) := by decide +kernel
theorem dX5_tell__17 : decode cX5_tell_ 17 = .ok (.iconst 2, 1) := by decide +kernel
theorem dX5_tell__18 : decode cX5_tell_ 18 = .ok (.putfield 58, 3) := by decide +kernel
theorem dX5_tell__21 : decode cX5_tell_ 21 = .ok (.return_, 1) := by decide +kernel
set_option maxRecDepth 20000 in
theorem ggX5_tell___X5_tell_ : GoodIn wsX5_tell__ wsX5_tell_ := goodIn_r _ [7, 1, 2, 8, 9, 10, 11, 12, 13, 14, 15, 16, 17] (by decide +kernel) (by decide +kernel)
set_option maxRecDepth 20000 in
theorem gX5_tell___X5_tell_ : GoodIn wsX5_tell__ (wsV RX5 183 RX5 yX5_tell_ wsX5_tell_) := goodIn_app (goodIn_of _ (by decide +kernel)) ggX5_tell___X5_tell_
theorem dX5_tell___0 : decode cX5_tell__ 0 = .ok (.aload_n 0, 1) := by decide +kernel
theorem dX5_tell___1 : decode cX5_tell__ 1 = .ok (.iload_n 1, 1) := by decide +kernel
theorem dX5_tell___2 : decode cX5_tell__ 2 = .ok (.iload_n 2, 1) := by decide +kernel
theorem dX5_tell___3 : decode cX5_tell__ 3 = .ok (.invokevirtual 183, 3) := by decide +kernel
theorem dX5_tell___6 : decode cX5_tell__ 6 = .ok (.aload_n 0, 1) := by decide +kernel
