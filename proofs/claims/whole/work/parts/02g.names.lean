theorem dX6_putsBack_52 : decode cX6_putsBack 52 = .ok (.iaload, 1) := by decide +kernel
theorem dX6_putsBack_53 : decode cX6_putsBack 53 = .ok (.iastore, 1) := by decide +kernel
theorem dX6_putsBack_54 : decode cX6_putsBack 54 = .ok (.aload_n 0, 1) := by decide +kernel
theorem dX6_putsBack_55 : decode cX6_putsBack 55 = .ok (.getfield 23, 3) := by decide +kernel
theorem dX6_putsBack_58 : decode cX6_putsBack 58 = .ok (.iload_n 1, 1) := by decide +kernel
theorem dX6_putsBack_59 : decode cX6_putsBack 59 = .ok (.aload_n 0, 1) := by decide +kernel
theorem dX6_putsBack_60 : decode cX6_putsBack 60 = .ok (.getfield 41, 3) := by decide +kernel
theorem dX6_putsBack_63 : decode cX6_putsBack 63 = .ok (.iconst 4, 1) := by decide +kernel
theorem dX6_putsBack_64 : decode cX6_putsBack 64 = .ok (.iconst 4, 1) := by decide +kernel
theorem dX6_putsBack_65 : decode cX6_putsBack 65 = .ok (.iload_n 1, 1) := by decide +kernel
theorem dX6_putsBack_66 : decode cX6_putsBack 66 = .ok (.imul, 1) := by decide +kernel
theorem dX6_putsBack_67 : decode cX6_putsBack 67 = .ok (.iadd, 1) := by decide +kernel
theorem dX6_putsBack_68 : decode cX6_putsBack 68 = .ok (.iaload, 1) := by decide +kernel
theorem dX6_putsBack_69 : decode cX6_putsBack 69 = .ok (.iastore, 1) := by decide +kernel
theorem dX6_putsBack_70 : decode cX6_putsBack 70 = .ok (.aload_n 0, 1) := by decide +kernel
theorem dX6_putsBack_71 : decode cX6_putsBack 71 = .ok (.getfield 26, 3) := by decide +kernel
theorem dX6_putsBack_74 : decode cX6_putsBack 74 = .ok (.iload_n 1, 1) := by decide +kernel
theorem dX6_putsBack_75 : decode cX6_putsBack 75 = .ok (.aload_n 0, 1) := by decide +kernel
theorem dX6_putsBack_76 : decode cX6_putsBack 76 = .ok (.getfield 41, 3) := by decide +kernel
theorem dX6_putsBack_79 : decode cX6_putsBack 79 = .ok (.iconst 5, 1) := by decide +kernel
theorem dX6_putsBack_80 : decode cX6_putsBack 80 = .ok (.iconst 4, 1) := by decide +kernel
theorem dX6_putsBack_81 : decode cX6_putsBack 81 = .ok (.iload_n 1, 1) := by decide +kernel
theorem dX6_putsBack_82 : decode cX6_putsBack 82 = .ok (.imul, 1) := by decide +kernel
theorem dX6_putsBack_83 : decode cX6_putsBack 83 = .ok (.iadd, 1) := by decide +kernel
theorem dX6_putsBack_84 : decode cX6_putsBack 84 = .ok (.iaload, 1) := by decide +kernel
theorem dX6_putsBack_85 : decode cX6_putsBack 85 = .ok (.iastore, 1) := by decide +kernel
theorem dX6_putsBack_86 : decode cX6_putsBack 86 = .ok (.aload_n 0, 1) := by decide +kernel
theorem dX6_putsBack_87 : decode cX6_putsBack 87 = .ok (.getfield 29, 3) := by decide +kernel
theorem dX6_putsBack_90 : decode cX6_putsBack 90 = .ok (.iload_n 1, 1) := by decide +kernel
theorem dX6_putsBack_91 : decode cX6_putsBack 91 = .ok (.aload_n 0, 1) := by decide +kernel
theorem dX6_putsBack_92 : decode cX6_putsBack 92 = .ok (.getfield 41, 3) := by decide +kernel
theorem dX6_putsBack_95 : decode cX6_putsBack 95 = .ok (.bipush 6, 2) := by decide +kernel
theorem dX6_putsBack_97 : decode cX6_putsBack 97 = .ok (.iconst 4, 1) := by decide +kernel
theorem dX6_putsBack_98 : decode cX6_putsBack 98 = .ok (.iload_n 1, 1) := by decide +kernel
theorem dX6_putsBack_99 : decode cX6_putsBack 99 = .ok (.imul, 1) := by decide +kernel
theorem dX6_putsBack_100 : decode cX6_putsBack 100 = .ok (.iadd, 1) := by decide +kernel
theorem dX6_putsBack_101 : decode cX6_putsBack 101 = .ok (.iaload, 1) := by decide +kernel
theorem dX6_putsBack_102 : decode cX6_putsBack 102 = .ok (.iastore, 1) := by decide +kernel
theorem dX6_putsBack_103 : decode cX6_putsBack 103 = .ok (.iinc 1 1, 3) := by decide +kernel
theorem dX6_putsBack_106 : decode cX6_putsBack 106 = .ok (.goto (-74), 3) := by decide +kernel
theorem dX6_putsBack_109 : decode cX6_putsBack 109 = .ok (.iconst 0, 1) := by decide +kernel
theorem dX6_putsBack_110 : decode cX6_putsBack 110 = .ok (.istore_n 1, 1) := by decide +kernel
theorem dX6_putsBack_111 : decode cX6_putsBack 111 = .ok (.iload_n 1, 1) := by decide +kernel
theorem dX6_putsBack_112 : decode cX6_putsBack 112 = .ok (.bipush 10, 2) := by decide +kernel
theorem dX6_putsBack_114 : decode cX6_putsBack 114 = .ok (.if_icmp .ge 24, 3) := by decide +kernel
theorem dX6_putsBack_117 : decode cX6_putsBack 117 = .ok (.aload_n 0, 1) := by decide +kernel
theorem dX6_putsBack_118 : decode cX6_putsBack 118 = .ok (.getfield 32, 3) := by decide +kernel
theorem dX6_putsBack_121 : decode cX6_putsBack 121 = .ok (.iload_n 1, 1) := by decide +kernel
theorem dX6_putsBack_122 : decode cX6_putsBack 122 = .ok (.aload_n 0, 1) := by decide +kernel
theorem dX6_putsBack_123 : decode cX6_putsBack 123 = .ok (.getfield 41, 3) := by decide +kernel
theorem dX6_putsBack_126 : decode cX6_putsBack 126 = .ok (.bipush 67, 2) := by decide +kernel
theorem dX6_putsBack_128 : decode cX6_putsBack 128 = .ok (.iload_n 1, 1) := by decide +kernel
theorem dX6_putsBack_129 : decode cX6_putsBack 129 = .ok (.iadd, 1) := by decide +kernel
theorem dX6_putsBack_130 : decode cX6_putsBack 130 = .ok (.iaload, 1) := by decide +kernel
theorem dX6_putsBack_131 : decode cX6_putsBack 131 = .ok (.iastore, 1) := by decide +kernel
theorem dX6_putsBack_132 : decode cX6_putsBack 132 = .ok (.iinc 1 1, 3) := by decide +kernel
theorem dX6_putsBack_135 : decode cX6_putsBack 135 = .ok (.goto (-24), 3) := by decide +kernel
theorem dX6_putsBack_138 : decode cX6_putsBack 138 = .ok (.return_, 1) := by decide +kernel
set_option maxRecDepth 20000 in
theorem ggX6_desk_X6_reads : GoodIn wsX6_desk wsX6_reads := goodIn_r _ [11, 12, 13, 4, 80, 81, 82, 83, 84, 85, 86, 87, 88, 89, 90, 91, 92, 93, 94, 95, 96, 97, 98, 99, 100, 101, 102, 103, 104, 105, 106, 107, 108] (by decide +kernel) (by decide +kernel)
set_option maxRecDepth 20000 in
theorem gX6_desk_X6_reads : GoodIn wsX6_desk (wsV RX6 146 RX6 yX6_reads wsX6_reads) := goodIn_app (goodIn_of _ (by decide +kernel)) ggX6_desk_X6_reads
set_option maxRecDepth 20000 in
theorem ggX6_desk_X6_putsBy : GoodIn wsX6_desk wsX6_putsBy := goodIn_r _ [17, 18, 19, 20, 2, 21, 22, 23, 24, 3, 80, 81, 82, 83, 84, 85, 86, 87, 88, 89, 90, 91, 92, 93, 94, 95, 96, 97, 98, 99, 100, 101, 102, 103, 104, 105, 106, 107, 108] (by decide +kernel) (by decide +kernel)
set_option maxRecDepth 20000 in
theorem gX6_desk_X6_putsBy : GoodIn wsX6_desk (wsV RX6 149 RX6 yX6_putsBy wsX6_putsBy) := goodIn_app (goodIn_of _ (by decide +kernel)) ggX6_desk_X6_putsBy
set_option maxRecDepth 20000 in
theorem ggX6_desk_X6_takesDesk : GoodIn wsX6_desk wsX6_takesDesk := goodIn_r _ [28, 29, 19, 20, 4, 13, 30, 31, 32, 10, 33, 34, 35, 36, 37, 38, 39, 40, 41, 42, 43, 44, 45, 3, 46, 47, 48, 49, 2, 22, 50, 51, 52, 53, 54, 55, 56, 57, 58, 59, 21, 23, 60, 24, 61, 62, 63, 64, 65, 66, 67, 68, 69, 70, 71, 72, 73, 74, 75, 80, 81, 82, 83, 84, 85, 86, 87, 88, 89, 90, 91, 92, 93, 94, 95, 96, 97, 98, 99, 100, 101, 102, 103, 104, 105, 106, 107, 108] (by decide +kernel) (by decide +kernel)
set_option maxRecDepth 20000 in
theorem gX6_desk_X6_takesDesk : GoodIn wsX6_desk (wsV RX6 152 RX6 yX6_takesDesk wsX6_takesDesk) := goodIn_app (goodIn_of _ (by decide +kernel)) ggX6_desk_X6_takesDesk
set_option maxRecDepth 20000 in
theorem ggX6_desk_X6_putsBack : GoodIn wsX6_desk wsX6_putsBack := goodIn_r _ [79, 18, 19, 20, 2, 21, 22, 23, 24, 3, 80, 81, 82, 83, 84, 85, 86, 87, 88, 89, 90, 91, 92, 93, 94, 95, 96, 97, 98, 99, 100, 101, 102, 103, 104, 105, 106, 107, 108] (by decide +kernel) (by decide +kernel)
set_option maxRecDepth 20000 in
theorem gX6_desk_X6_putsBack : GoodIn wsX6_desk (wsV RX6 155 RX6 yX6_putsBack wsX6_putsBack) := goodIn_app (goodIn_of _ (by decide +kernel)) ggX6_desk_X6_putsBack
theorem dX6_desk_0 : decode cX6_desk 0 = .ok (.aload_n 0, 1) := by decide +kernel
theorem dX6_desk_1 : decode cX6_desk 1 = .ok (.iconst 0, 1) := by decide +kernel
theorem dX6_desk_2 : decode cX6_desk 2 = .ok (.putfield 62, 3) := by decide +kernel
theorem dX6_desk_5 : decode cX6_desk 5 = .ok (.aload_n 0, 1) := by decide +kernel
theorem dX6_desk_6 : decode cX6_desk 6 = .ok (.invokevirtual 146, 3) := by decide +kernel
theorem dX6_desk_9 : decode cX6_desk 9 = .ok (.aload_n 0, 1) := by decide +kernel
theorem dX6_desk_10 : decode cX6_desk 10 = .ok (.invokevirtual 149, 3) := by decide +kernel
theorem dX6_desk_13 : decode cX6_desk 13 = .ok (.aload_n 0, 1) := by decide +kernel
theorem dX6_desk_14 : decode cX6_desk 14 = .ok (.iconst 0, 1) := by decide +kernel
theorem dX6_desk_15 : decode cX6_desk 15 = .ok (.putfield 87, 3) := by decide +kernel
theorem dX6_desk_18 : decode cX6_desk 18 = .ok (.iconst 0, 1) := by decide +kernel
theorem dX6_desk_19 : decode cX6_desk 19 = .ok (.istore_n 1, 1) := by decide +kernel
theorem dX6_desk_20 : decode cX6_desk 20 = .ok (.iload_n 1, 1) := by decide +kernel
theorem dX6_desk_21 : decode cX6_desk 21 = .ok (.bipush 10, 2) := by decide +kernel
theorem dX6_desk_23 : decode cX6_desk 23 = .ok (.if_icmp .ge 16, 3) := by decide +kernel
theorem dX6_desk_26 : decode cX6_desk 26 = .ok (.aload_n 0, 1) := by decide +kernel
theorem dX6_desk_27 : decode cX6_desk 27 = .ok (.getfield 32, 3) := by decide +kernel
theorem dX6_desk_30 : decode cX6_desk 30 = .ok (.iload_n 1, 1) := by decide +kernel
theorem dX6_desk_31 : decode cX6_desk 31 = .ok (.iconst 0, 1) := by decide +kernel
theorem dX6_desk_32 : decode cX6_desk 32 = .ok (.iastore, 1) := by decide +kernel
theorem dX6_desk_33 : decode cX6_desk 33 = .ok (.iinc 1 1, 3) := by decide +kernel
theorem dX6_desk_36 : decode cX6_desk 36 = .ok (.goto (-16), 3) := by decide +kernel
theorem dX6_desk_39 : decode cX6_desk 39 = .ok (.aload_n 0, 1) := by decide +kernel
theorem dX6_desk_40 : decode cX6_desk 40 = .ok (.invokevirtual 152, 3) := by decide +kernel
theorem dX6_desk_43 : decode cX6_desk 43 = .ok (.ifCond .ne 15, 3) := by decide +kernel
theorem dX6_desk_46 : decode cX6_desk 46 = .ok (.aload_n 0, 1) := by decide +kernel
theorem dX6_desk_47 : decode cX6_desk 47 = .ok (.invokevirtual 155, 3) := by decide +kernel
theorem dX6_desk_50 : decode cX6_desk 50 = .ok (.bipush (-21), 2) := by decide +kernel
theorem dX6_desk_52 : decode cX6_desk 52 = .ok (.aload_n 0, 1) := by decide +kernel
theorem dX6_desk_53 : decode cX6_desk 53 = .ok (.getfield 107, 3) := by decide +kernel
theorem dX6_desk_56 : decode cX6_desk 56 = .ok (.isub, 1) := by decide +kernel
theorem dX6_desk_57 : decode cX6_desk 57 = .ok (.ireturn, 1) := by decide +kernel
theorem dX6_desk_58 : decode cX6_desk 58 = .ok (.aload_n 0, 1) := by decide +kernel
theorem dX6_desk_59 : decode cX6_desk 59 = .ok (.iconst 0, 1) := by decide +kernel
theorem dX6_desk_60 : decode cX6_desk 60 = .ok (.putfield 90, 3) := by decide +kernel
theorem dX6_desk_63 : decode cX6_desk 63 = .ok (.aload_n 0, 1) := by decide +kernel
theorem dX6_desk_64 : decode cX6_desk 64 = .ok (.iconst 0, 1) := by decide +kernel
theorem dX6_desk_65 : decode cX6_desk 65 = .ok (.putfield 158, 3) := by decide +kernel
theorem dX6_desk_68 : decode cX6_desk 68 = .ok (.aload_n 0, 1) := by decide +kernel
theorem dX6_desk_69 : decode cX6_desk 69 = .ok (.getfield 87, 3) := by decide +kernel
theorem dX6_desk_72 : decode cX6_desk 72 = .ok (.ireturn, 1) := by decide +kernel
set_option maxRecDepth 20000 in
theorem ggX6_takesChoices_X6_isDigit : GoodIn wsX6_takesChoices wsX6_isDigit := goodIn_r _ [8, 9, 10, 11, 12, 13, 14, 15, 7, 16, 31, 32, 33, 34, 35, 36, 37, 38, 39, 40, 41, 42, 43, 44, 45, 46, 47, 48, 49, 50, 51, 52, 53, 54, 55, 56, 57, 58, 59] (by decide +kernel) (by decide +kernel)
set_option maxRecDepth 20000 in
theorem gX6_takesChoices_X6_isDigit : GoodIn wsX6_takesChoices (wsV RX6 123 RX6 yX6_isDigit wsX6_isDigit) := goodIn_app (goodIn_of _ (by decide +kernel)) ggX6_takesChoices_X6_isDigit
set_option maxRecDepth 20000 in
theorem ggX6_takesChoices_X6_bits : GoodIn wsX6_takesChoices wsX6_bits := goodIn_r _ [19, 20, 21, 22, 23, 24, 25, 26] (by decide +kernel) (by decide +kernel)
set_option maxRecDepth 20000 in
theorem gX6_takesChoices_X6_bits : GoodIn wsX6_takesChoices (va_wsS RX6 161 yX6_bits wsX6_bits) := goodIn_app (goodIn_of _ (by decide +kernel)) ggX6_takesChoices_X6_bits
set_option maxRecDepth 20000 in
theorem ggX6_takesChoices_X6_takesDigit : GoodIn wsX6_takesChoices wsX6_takesDigit := goodIn_r _ [30, 9, 10, 11, 1, 14, 15, 7, 16, 31, 32, 33, 34, 35, 36, 37, 38, 39, 40, 41, 42, 43, 44, 45, 46, 47, 48, 49, 50, 51, 52, 53, 54, 55, 56, 57, 58, 59] (by decide +kernel) (by decide +kernel)
set_option maxRecDepth 20000 in
theorem gX6_takesChoices_X6_takesDigit : GoodIn wsX6_takesChoices (wsV RX6 117 RX6 yX6_takesDigit wsX6_takesDigit) := goodIn_app (goodIn_of _ (by decide +kernel)) ggX6_takesChoices_X6_takesDigit
theorem dX6_takesChoices_0 : decode cX6_takesChoices 0 = .ok (.iconst 0, 1) := by decide +kernel
theorem dX6_takesChoices_1 : decode cX6_takesChoices 1 = .ok (.istore_n 1, 1) := by decide +kernel
theorem dX6_takesChoices_2 : decode cX6_takesChoices 2 = .ok (.iconst 0, 1) := by decide +kernel
theorem dX6_takesChoices_3 : decode cX6_takesChoices 3 = .ok (.istore_n 2, 1) := by decide +kernel
theorem dX6_takesChoices_4 : decode cX6_takesChoices 4 = .ok (.iload_n 2, 1) := by decide +kernel
theorem dX6_takesChoices_5 : decode cX6_takesChoices 5 = .ok (.ifCond .eq 10, 3) := by decide +kernel
theorem dX6_takesChoices_8 : decode cX6_takesChoices 8 = .ok (.aload_n 0, 1) := by decide +kernel
theorem dX6_takesChoices_9 : decode cX6_takesChoices 9 = .ok (.invokevirtual 123, 3) := by decide +kernel
theorem dX6_takesChoices_12 : decode cX6_takesChoices 12 = .ok (.ifCond .eq 43, 3) := by decide +kernel
theorem dX6_takesChoices_15 : decode cX6_takesChoices 15 = .ok (.iload_n 2, 1) := by decide +kernel
theorem dX6_takesChoices_16 : decode cX6_takesChoices 16 = .ok (.invokestatic 161, 3) := by decide +kernel
theorem dX6_takesChoices_19 : decode cX6_takesChoices 19 = .ok (.bipush 6, 2) := by decide +kernel
theorem dX6_takesChoices_21 : decode cX6_takesChoices 21 = .ok (.if_icmp .eq 13, 3) := by decide +kernel
theorem dX6_takesChoices_24 : decode cX6_takesChoices 24 = .ok (.aload_n 0, 1) := by decide +kernel
theorem dX6_takesChoices_25 : decode cX6_takesChoices 25 = .ok (.iload_n 1, 1) := by decide +kernel
theorem dX6_takesChoices_26 : decode cX6_takesChoices 26 = .ok (.bipush 9, 2) := by decide +kernel
theorem dX6_takesChoices_28 : decode cX6_takesChoices 28 = .ok (.invokevirtual 117, 3) := by decide +kernel
theorem dX6_takesChoices_31 : decode cX6_takesChoices 31 = .ok (.ifCond .ne 5, 3) := by decide +kernel
theorem dX6_takesChoices_34 : decode cX6_takesChoices 34 = .ok (.iconst 0, 1) := by decide +kernel
theorem dX6_takesChoices_35 : decode cX6_takesChoices 35 = .ok (.ireturn, 1) := by decide +kernel
theorem dX6_takesChoices_36 : decode cX6_takesChoices 36 = .ok (.iload_n 2, 1) := by decide +kernel
theorem dX6_takesChoices_37 : decode cX6_takesChoices 37 = .ok (.iconst 1, 1) := by decide +kernel
theorem dX6_takesChoices_38 : decode cX6_takesChoices 38 = .ok (.aload_n 0, 1) := by decide +kernel
theorem dX6_takesChoices_39 : decode cX6_takesChoices 39 = .ok (.getfield 110, 3) := by decide +kernel
theorem dX6_takesChoices_42 : decode cX6_takesChoices 42 = .ok (.ishl, 1) := by decide +kernel
theorem dX6_takesChoices_43 : decode cX6_takesChoices 43 = .ok (.ior, 1) := by decide +kernel
theorem dX6_takesChoices_44 : decode cX6_takesChoices 44 = .ok (.istore_n 2, 1) := by decide +kernel
theorem dX6_takesChoices_45 : decode cX6_takesChoices 45 = .ok (.aload_n 0, 1) := by decide +kernel
theorem dX6_takesChoices_46 : decode cX6_takesChoices 46 = .ok (.getfield 110, 3) := by decide +kernel
theorem dX6_takesChoices_49 : decode cX6_takesChoices 49 = .ok (.iconst 1, 1) := by decide +kernel
theorem dX6_takesChoices_50 : decode cX6_takesChoices 50 = .ok (.iadd, 1) := by decide +kernel
theorem dX6_takesChoices_51 : decode cX6_takesChoices 51 = .ok (.istore_n 1, 1) := by decide +kernel
theorem dX6_takesChoices_52 : decode cX6_takesChoices 52 = .ok (.goto (-48), 3) := by decide +kernel
theorem dX6_takesChoices_55 : decode cX6_takesChoices 55 = .ok (.aload_n 0, 1) := by decide +kernel
theorem dX6_takesChoices_56 : decode cX6_takesChoices 56 = .ok (.getfield 44, 3) := by decide +kernel
theorem dX6_takesChoices_59 : decode cX6_takesChoices 59 = .ok (.aload_n 0, 1) := by decide +kernel
theorem dX6_takesChoices_60 : decode cX6_takesChoices 60 = .ok (.getfield 164, 3) := by decide +kernel
theorem dX6_takesChoices_63 : decode cX6_takesChoices 63 = .ok (.iload_n 2, 1) := by decide +kernel
theorem dX6_takesChoices_64 : decode cX6_takesChoices 64 = .ok (.iastore, 1) := by decide +kernel
theorem dX6_takesChoices_65 : decode cX6_takesChoices 65 = .ok (.aload_n 0, 1) := by decide +kernel
theorem dX6_takesChoices_66 : decode cX6_takesChoices 66 = .ok (.dup, 1) := by decide +kernel
theorem dX6_takesChoices_67 : decode cX6_takesChoices 67 = .ok (.getfield 164, 3) := by decide +kernel
theorem dX6_takesChoices_70 : decode cX6_takesChoices 70 = .ok (.iconst 1, 1) := by decide +kernel
theorem dX6_takesChoices_71 : decode cX6_takesChoices 71 = .ok (.iadd, 1) := by decide +kernel
theorem dX6_takesChoices_72 : decode cX6_takesChoices 72 = .ok (.putfield 164, 3) := by decide +kernel
theorem dX6_takesChoices_75 : decode cX6_takesChoices 75 = .ok (.iconst 1, 1) := by decide +kernel
theorem dX6_takesChoices_76 : decode cX6_takesChoices 76 = .ok (.ireturn, 1) := by decide +kernel
set_option maxRecDepth 20000 in
theorem ggX6_takesPupils_X6_takesChoices : GoodIn wsX6_takesPupils wsX6_takesChoices := goodIn_r _ [8, 9, 10, 1, 11, 12, 13, 7, 14, 3, 2, 15, 16, 17, 18, 19, 20, 21, 22, 23, 24, 25, 26, 27, 28, 29, 30, 31, 32, 33, 34, 39, 40, 41, 42, 43, 44, 45, 46, 47, 48, 49, 50, 51, 52, 53, 54, 55, 56, 57, 58, 59, 60, 61, 62, 63, 64, 65, 66, 67] (by decide +kernel) (by decide +kernel)
set_option maxRecDepth 20000 in
theorem gX6_takesPupils_X6_takesChoices : GoodIn wsX6_takesPupils (wsV RX6 167 RX6 yX6_takesChoices wsX6_takesChoices) := goodIn_app (goodIn_of _ (by decide +kernel)) ggX6_takesPupils_X6_takesChoices
set_option maxRecDepth 20000 in
theorem ggX6_takesPupils_X6_passes : GoodIn wsX6_takesPupils wsX6_passes := goodIn_r _ [38, 3, 2, 15, 39, 40, 41, 42, 43, 44, 45, 46, 47, 48, 49, 50, 51, 52, 53, 54, 55, 56, 57, 58, 59, 60, 61, 62, 63, 64, 65, 66, 67] (by decide +kernel) (by decide +kernel)
set_option maxRecDepth 20000 in
theorem gX6_takesPupils_X6_passes : GoodIn wsX6_takesPupils (wsV RX6 131 RX6 yX6_passes wsX6_passes) := goodIn_app (goodIn_of _ (by decide +kernel)) ggX6_takesPupils_X6_passes
theorem dX6_takesPupils_0 : decode cX6_takesPupils 0 = .ok (.aload_n 0, 1) := by decide +kernel
theorem dX6_takesPupils_1 : decode cX6_takesPupils 1 = .ok (.iconst 0, 1) := by decide +kernel
theorem dX6_takesPupils_2 : decode cX6_takesPupils 2 = .ok (.putfield 164, 3) := by decide +kernel
theorem dX6_takesPupils_5 : decode cX6_takesPupils 5 = .ok (.aload_n 0, 1) := by decide +kernel
theorem dX6_takesPupils_6 : decode cX6_takesPupils 6 = .ok (.getfield 104, 3) := by decide +kernel
theorem dX6_takesPupils_9 : decode cX6_takesPupils 9 = .ok (.ifCond .le 7, 3) := by decide +kernel
theorem dX6_takesPupils_12 : decode cX6_takesPupils 12 = .ok (.iconst 1, 1) := by decide +kernel
theorem dX6_takesPupils_13 : decode cX6_takesPupils 13 = .ok (.goto 4, 3) := by decide +kernel
theorem dX6_takesPupils_16 : decode cX6_takesPupils 16 = .ok (.iconst 0, 1) := by decide +kernel
theorem dX6_takesPupils_17 : decode cX6_takesPupils 17 = .ok (.istore_n 1, 1) := by decide +kernel
theorem dX6_takesPupils_18 : decode cX6_takesPupils 18 = .ok (.iload_n 1, 1) := by decide +kernel
theorem dX6_takesPupils_19 : decode cX6_takesPupils 19 = .ok (.ifCond .eq 39, 3) := by decide +kernel
theorem dX6_takesPupils_22 : decode cX6_takesPupils 22 = .ok (.aload_n 0, 1) := by decide +kernel
theorem dX6_takesPupils_23 : decode cX6_takesPupils 23 = .ok (.invokevirtual 167, 3) := by decide +kernel
theorem dX6_takesPupils_26 : decode cX6_takesPupils 26 = .ok (.ifCond .ne 5, 3) := by decide +kernel
theorem dX6_takesPupils_29 : decode cX6_takesPupils 29 = .ok (.iconst 0, 1) := by decide +kernel
theorem dX6_takesPupils_30 : decode cX6_takesPupils 30 = .ok (.ireturn, 1) := by decide +kernel
theorem dX6_takesPupils_31 : decode cX6_takesPupils 31 = .ok (.aload_n 0, 1) := by decide +kernel
theorem dX6_takesPupils_32 : decode cX6_takesPupils 32 = .ok (.getfield 164, 3) := by decide +kernel
theorem dX6_takesPupils_35 : decode cX6_takesPupils 35 = .ok (.bipush 24, 2) := by decide +kernel
theorem dX6_takesPupils_37 : decode cX6_takesPupils 37 = .ok (.if_icmp .ge 16, 3) := by decide +kernel
theorem dX6_takesPupils_40 : decode cX6_takesPupils 40 = .ok (.aload_n 0, 1) := by decide +kernel
theorem dX6_takesPupils_41 : decode cX6_takesPupils 41 = .ok (.bipush 44, 2) := by decide +kernel
theorem dX6_takesPupils_43 : decode cX6_takesPupils 43 = .ok (.invokevirtual 131, 3) := by decide +kernel
theorem dX6_takesPupils_46 : decode cX6_takesPupils 46 = .ok (.ifCond .eq 7, 3) := by decide +kernel
theorem dX6_takesPupils_49 : decode cX6_takesPupils 49 = .ok (.iconst 1, 1) := by decide +kernel
theorem dX6_takesPupils_50 : decode cX6_takesPupils 50 = .ok (.goto 4, 3) := by decide +kernel
theorem dX6_takesPupils_53 : decode cX6_takesPupils 53 = .ok (.iconst 0, 1) := by decide +kernel
theorem dX6_takesPupils_54 : decode cX6_takesPupils 54 = .ok (.istore_n 1, 1) := by decide +kernel
theorem dX6_takesPupils_55 : decode cX6_takesPupils 55 = .ok (.goto (-37), 3) := by decide +kernel
theorem dX6_takesPupils_58 : decode cX6_takesPupils 58 = .ok (.aload_n 0, 1) := by decide +kernel
theorem dX6_takesPupils_59 : decode cX6_takesPupils 59 = .ok (.getfield 107, 3) := by decide +kernel
theorem dX6_takesPupils_62 : decode cX6_takesPupils 62 = .ok (.aload_n 0, 1) := by decide +kernel
theorem dX6_takesPupils_63 : decode cX6_takesPupils 63 = .ok (.getfield 104, 3) := by decide +kernel
theorem dX6_takesPupils_66 : decode cX6_takesPupils 66 = .ok (.if_icmp .ne 7, 3) := by decide +kernel
theorem dX6_takesPupils_69 : decode cX6_takesPupils 69 = .ok (.iconst 1, 1) := by decide +kernel
theorem dX6_takesPupils_70 : decode cX6_takesPupils 70 = .ok (.goto 4, 3) := by decide +kernel
theorem dX6_takesPupils_73 : decode cX6_takesPupils 73 = .ok (.iconst 0, 1) := by decide +kernel
theorem dX6_takesPupils_74 : decode cX6_takesPupils 74 = .ok (.ireturn, 1) := by decide +kernel
set_option maxRecDepth 20000 in
theorem ggX6_pupils_X6_reads : GoodIn wsX6_pupils wsX6_reads := goodIn_r _ [12, 13, 14, 2, 52, 53, 54, 55, 56, 57, 58, 59, 60, 61, 62, 63, 64, 65, 66, 67, 68, 69, 70, 71, 72, 73, 74, 75, 76, 77, 78, 79, 80] (by decide +kernel) (by decide +kernel)
set_option maxRecDepth 20000 in
theorem gX6_pupils_X6_reads : GoodIn wsX6_pupils (wsV RX6 146 RX6 yX6_reads wsX6_reads) := goodIn_app (goodIn_of _ (by decide +kernel)) ggX6_pupils_X6_reads
set_option maxRecDepth 20000 in
theorem ggX6_pupils_X6_takesPupils : GoodIn wsX6_pupils wsX6_takesPupils := goodIn_r _ [18, 3, 14, 2, 19, 20, 21, 11, 22, 23, 7, 24, 25, 26, 27, 28, 29, 30, 31, 32, 33, 34, 35, 36, 37, 38, 39, 40, 41, 42, 43, 44, 45, 46, 47, 48, 49, 50, 51, 52, 53, 54, 55, 56, 57, 58, 59, 60, 61, 62, 63, 64, 65, 66, 67, 68, 69, 70, 71, 72, 73, 74, 75, 76, 77, 78, 79, 80] (by decide +kernel) (by decide +kernel)
set_option maxRecDepth 20000 in
theorem gX6_pupils_X6_takesPupils : GoodIn wsX6_pupils (wsV RX6 170 RX6 yX6_takesPupils wsX6_takesPupils) := goodIn_app (goodIn_of _ (by decide +kernel)) ggX6_pupils_X6_takesPupils
theorem dX6_pupils_0 : decode cX6_pupils 0 = .ok (.aload_n 0, 1) := by decide +kernel
theorem dX6_pupils_1 : decode cX6_pupils 1 = .ok (.iconst 0, 1) := by decide +kernel
theorem dX6_pupils_2 : decode cX6_pupils 2 = .ok (.putfield 62, 3) := by decide +kernel
theorem dX6_pupils_5 : decode cX6_pupils 5 = .ok (.aload_n 0, 1) := by decide +kernel
theorem dX6_pupils_6 : decode cX6_pupils 6 = .ok (.invokevirtual 146, 3) := by decide +kernel
theorem dX6_pupils_9 : decode cX6_pupils 9 = .ok (.aload_n 0, 1) := by decide +kernel
theorem dX6_pupils_10 : decode cX6_pupils 10 = .ok (.invokevirtual 170, 3) := by decide +kernel
theorem dX6_pupils_13 : decode cX6_pupils 13 = .ok (.ifCond .ne 11, 3) := by decide +kernel
theorem dX6_pupils_16 : decode cX6_pupils 16 = .ok (.bipush (-21), 2) := by decide +kernel
theorem dX6_pupils_18 : decode cX6_pupils 18 = .ok (.aload_n 0, 1) := by decide +kernel
theorem dX6_pupils_19 : decode cX6_pupils 19 = .ok (.getfield 107, 3) := by decide +kernel
theorem dX6_pupils_22 : decode cX6_pupils 22 = .ok (.isub, 1) := by decide +kernel
theorem dX6_pupils_23 : decode cX6_pupils 23 = .ok (.ireturn, 1) := by decide +kernel
theorem dX6_pupils_24 : decode cX6_pupils 24 = .ok (.aload_n 0, 1) := by decide +kernel
theorem dX6_pupils_25 : decode cX6_pupils 25 = .ok (.aload_n 0, 1) := by decide +kernel
theorem dX6_pupils_26 : decode cX6_pupils 26 = .ok (.getfield 164, 3) := by decide +kernel
theorem dX6_pupils_29 : decode cX6_pupils 29 = .ok (.putfield 90, 3) := by decide +kernel
theorem dX6_pupils_32 : decode cX6_pupils 32 = .ok (.aload_n 0, 1) := by decide +kernel
theorem dX6_pupils_33 : decode cX6_pupils 33 = .ok (.iconst 0, 1) := by decide +kernel
theorem dX6_pupils_34 : decode cX6_pupils 34 = .ok (.putfield 158, 3) := by decide +kernel
theorem dX6_pupils_37 : decode cX6_pupils 37 = .ok (.iconst 0, 1) := by decide +kernel
theorem dX6_pupils_38 : decode cX6_pupils 38 = .ok (.istore_n 1, 1) := by decide +kernel
theorem dX6_pupils_39 : decode cX6_pupils 39 = .ok (.iload_n 1, 1) := by decide +kernel
theorem dX6_pupils_40 : decode cX6_pupils 40 = .ok (.aload_n 0, 1) := by decide +kernel
theorem dX6_pupils_41 : decode cX6_pupils 41 = .ok (.getfield 90, 3) := by decide +kernel
theorem dX6_pupils_44 : decode cX6_pupils 44 = .ok (.if_icmp .ge 21, 3) := by decide +kernel
theorem dX6_pupils_47 : decode cX6_pupils 47 = .ok (.aload_n 0, 1) := by decide +kernel
theorem dX6_pupils_48 : decode cX6_pupils 48 = .ok (.getfield 35, 3) := by decide +kernel
theorem dX6_pupils_51 : decode cX6_pupils 51 = .ok (.iload_n 1, 1) := by decide +kernel
theorem dX6_pupils_52 : decode cX6_pupils 52 = .ok (.aload_n 0, 1) := by decide +kernel
theorem dX6_pupils_53 : decode cX6_pupils 53 = .ok (.getfield 44, 3) := by decide +kernel
theorem dX6_pupils_56 : decode cX6_pupils 56 = .ok (.iload_n 1, 1) := by decide +kernel
theorem dX6_pupils_57 : decode cX6_pupils 57 = .ok (.iaload, 1) := by decide +kernel
theorem dX6_pupils_58 : decode cX6_pupils 58 = .ok (.iastore, 1) := by decide +kernel
theorem dX6_pupils_59 : decode cX6_pupils 59 = .ok (.iinc 1 1, 3) := by decide +kernel
theorem dX6_pupils_62 : decode cX6_pupils 62 = .ok (.goto (-23), 3) := by decide +kernel
theorem dX6_pupils_65 : decode cX6_pupils 65 = .ok (.aload_n 0, 1) := by decide +kernel
theorem dX6_pupils_66 : decode cX6_pupils 66 = .ok (.getfield 90, 3) := by decide +kernel
theorem dX6_pupils_69 : decode cX6_pupils 69 = .ok (.ireturn, 1) := by decide +kernel
theorem dX6_columnsOf_0 : decode cX6_columnsOf 0 = .ok (.iconst 0, 1) := by decide +kernel
theorem dX6_columnsOf_1 : decode cX6_columnsOf 1 = .ok (.istore_n 2, 1) := by decide +kernel
theorem dX6_columnsOf_2 : decode cX6_columnsOf 2 = .ok (.iconst 0, 1) := by decide +kernel
theorem dX6_columnsOf_3 : decode cX6_columnsOf 3 = .ok (.istore_n 3, 1) := by decide +kernel
theorem dX6_columnsOf_4 : decode cX6_columnsOf 4 = .ok (.iload_n 3, 1) := by decide +kernel
theorem dX6_columnsOf_5 : decode cX6_columnsOf 5 = .ok (.aload_n 0, 1) := by decide +kernel
theorem dX6_columnsOf_6 : decode cX6_columnsOf 6 = .ok (.getfield 87, 3) := by decide +kernel
theorem dX6_columnsOf_9 : decode cX6_columnsOf 9 = .ok (.if_icmp .ge 43, 3) := by decide +kernel
theorem dX6_columnsOf_12 : decode cX6_columnsOf 12 = .ok (.iload_n 2, 1) := by decide +kernel
theorem dX6_columnsOf_13 : decode cX6_columnsOf 13 = .ok (.aload_n 0, 1) := by decide +kernel
theorem dX6_columnsOf_14 : decode cX6_columnsOf 14 = .ok (.getfield 20, 3) := by decide +kernel
theorem dX6_columnsOf_17 : decode cX6_columnsOf 17 = .ok (.iload_n 3, 1) := by decide +kernel
theorem dX6_columnsOf_18 : decode cX6_columnsOf 18 = .ok (.iaload, 1) := by decide +kernel
theorem dX6_columnsOf_19 : decode cX6_columnsOf 19 = .ok (.iload_n 1, 1) := by decide +kernel
theorem dX6_columnsOf_20 : decode cX6_columnsOf 20 = .ok (.if_icmp .ne 23, 3) := by decide +kernel
theorem dX6_columnsOf_23 : decode cX6_columnsOf 23 = .ok (.aload_n 0, 1) := by decide +kernel
theorem dX6_columnsOf_24 : decode cX6_columnsOf 24 = .ok (.getfield 29, 3) := by decide +kernel
theorem dX6_columnsOf_27 : decode cX6_columnsOf 27 = .ok (.iload_n 3, 1) := by decide +kernel
theorem dX6_columnsOf_28 : decode cX6_columnsOf 28 = .ok (.iaload, 1) := by decide +kernel
theorem dX6_columnsOf_29 : decode cX6_columnsOf 29 = .ok (.ifCond .lt 14, 3) := by decide +kernel
theorem dX6_columnsOf_32 : decode cX6_columnsOf 32 = .ok (.iconst 1, 1) := by decide +kernel
theorem dX6_columnsOf_33 : decode cX6_columnsOf 33 = .ok (.aload_n 0, 1) := by decide +kernel
theorem dX6_columnsOf_34 : decode cX6_columnsOf 34 = .ok (.getfield 29, 3) := by decide +kernel
theorem dX6_columnsOf_37 : decode cX6_columnsOf 37 = .ok (.iload_n 3, 1) := by decide +kernel
theorem dX6_columnsOf_38 : decode cX6_columnsOf 38 = .ok (.iaload, 1) := by decide +kernel
theorem dX6_columnsOf_39 : decode cX6_columnsOf 39 = .ok (.ishl, 1) := by decide +kernel
theorem dX6_columnsOf_40 : decode cX6_columnsOf 40 = .ok (.goto 4, 3) := by decide +kernel
theorem dX6_columnsOf_43 : decode cX6_columnsOf 43 = .ok (.iconst 0, 1) := by decide +kernel
theorem dX6_columnsOf_44 : decode cX6_columnsOf 44 = .ok (.ior, 1) := by decide +kernel
theorem dX6_columnsOf_45 : decode cX6_columnsOf 45 = .ok (.istore_n 2, 1) := by decide +kernel
theorem dX6_columnsOf_46 : decode cX6_columnsOf 46 = .ok (.iinc 3 1, 3) := by decide +kernel
theorem dX6_columnsOf_49 : decode cX6_columnsOf 49 = .ok (.goto (-45), 3) := by decide +kernel
theorem dX6_columnsOf_52 : decode cX6_columnsOf 52 = .ok (.iload_n 2, 1) := by decide +kernel
theorem dX6_columnsOf_53 : decode cX6_columnsOf 53 = .ok (.ireturn, 1) := by decide +kernel
theorem dX6_laysOpen_0 : decode cX6_laysOpen 0 = .ok (.iconst 0, 1) := by decide +kernel
theorem dX6_laysOpen_1 : decode cX6_laysOpen 1 = .ok (.istore_n 1, 1) := by decide +kernel
theorem dX6_laysOpen_2 : decode cX6_laysOpen 2 = .ok (.iload_n 1, 1) := by decide +kernel
theorem dX6_laysOpen_3 : decode cX6_laysOpen 3 = .ok (.bipush 10, 2) := by decide +kernel
theorem dX6_laysOpen_5 : decode cX6_laysOpen 5 = .ok (.if_icmp .ge 16, 3) := by decide +kernel
theorem dX6_laysOpen_8 : decode cX6_laysOpen 8 = .ok (.aload_n 0, 1) := by decide +kernel
theorem dX6_laysOpen_9 : decode cX6_laysOpen 9 = .ok (.getfield 47, 3) := by decide +kernel
theorem dX6_laysOpen_12 : decode cX6_laysOpen 12 = .ok (.iload_n 1, 1) := by decide +kernel
theorem dX6_laysOpen_13 : decode cX6_laysOpen 13 = .ok (.iconst 0, 1) := by decide +kernel
theorem dX6_laysOpen_14 : decode cX6_laysOpen 14 = .ok (.iastore, 1) := by decide +kernel
theorem dX6_laysOpen_15 : decode cX6_laysOpen 15 = .ok (.iinc 1 1, 3) := by decide +kernel
theorem dX6_laysOpen_18 : decode cX6_laysOpen 18 = .ok (.goto (-16), 3) := by decide +kernel
theorem dX6_laysOpen_21 : decode cX6_laysOpen 21 = .ok (.iconst 0, 1) := by decide +kernel
theorem dX6_laysOpen_22 : decode cX6_laysOpen 22 = .ok (.istore_n 1, 1) := by decide +kernel
theorem dX6_laysOpen_23 : decode cX6_laysOpen 23 = .ok (.iload_n 1, 1) := by decide +kernel
theorem dX6_laysOpen_24 : decode cX6_laysOpen 24 = .ok (.aload_n 0, 1) := by decide +kernel
theorem dX6_laysOpen_25 : decode cX6_laysOpen 25 = .ok (.getfield 87, 3) := by decide +kernel
theorem dX6_laysOpen_28 : decode cX6_laysOpen 28 = .ok (.if_icmp .ge 44, 3) := by decide +kernel
theorem dX6_laysOpen_31 : decode cX6_laysOpen 31 = .ok (.aload_n 0, 1) := by decide +kernel
theorem dX6_laysOpen_32 : decode cX6_laysOpen 32 = .ok (.getfield 47, 3) := by decide +kernel
theorem dX6_laysOpen_35 : decode cX6_laysOpen 35 = .ok (.aload_n 0, 1) := by decide +kernel
theorem dX6_laysOpen_36 : decode cX6_laysOpen 36 = .ok (.getfield 20, 3) := by decide +kernel
theorem dX6_laysOpen_39 : decode cX6_laysOpen 39 = .ok (.iload_n 1, 1) := by decide +kernel
theorem dX6_laysOpen_40 : decode cX6_laysOpen 40 = .ok (.iaload, 1) := by decide +kernel
theorem dX6_laysOpen_41 : decode cX6_laysOpen 41 = .ok (.dup2, 1) := by decide +kernel
theorem dX6_laysOpen_42 : decode cX6_laysOpen 42 = .ok (.iaload, 1) := by decide +kernel
theorem dX6_laysOpen_43 : decode cX6_laysOpen 43 = .ok (.aload_n 0, 1) := by decide +kernel
theorem dX6_laysOpen_44 : decode cX6_laysOpen 44 = .ok (.getfield 29, 3) := by decide +kernel
theorem dX6_laysOpen_47 : decode cX6_laysOpen 47 = .ok (.iload_n 1, 1) := by decide +kernel
theorem dX6_laysOpen_48 : decode cX6_laysOpen 48 = .ok (.iaload, 1) := by decide +kernel
theorem dX6_laysOpen_49 : decode cX6_laysOpen 49 = .ok (.ifCond .lt 14, 3) := by decide +kernel
theorem dX6_laysOpen_52 : decode cX6_laysOpen 52 = .ok (.iconst 1, 1) := by decide +kernel
theorem dX6_laysOpen_53 : decode cX6_laysOpen 53 = .ok (.aload_n 0, 1) := by decide +kernel
theorem dX6_laysOpen_54 : decode cX6_laysOpen 54 = .ok (.getfield 29, 3) := by decide +kernel
theorem dX6_laysOpen_57 : decode cX6_laysOpen 57 = .ok (.iload_n 1, 1) := by decide +kernel
theorem dX6_laysOpen_58 : decode cX6_laysOpen 58 = .ok (.iaload, 1) := by decide +kernel
theorem dX6_laysOpen_59 : decode cX6_laysOpen 59 = .ok (.ishl, 1) := by decide +kernel
theorem dX6_laysOpen_60 : decode cX6_laysOpen 60 = .ok (.goto 4, 3) := by decide +kernel
theorem dX6_laysOpen_63 : decode cX6_laysOpen 63 = .ok (.iconst 0, 1) := by decide +kernel
theorem dX6_laysOpen_64 : decode cX6_laysOpen 64 = .ok (.ior, 1) := by decide +kernel
theorem dX6_laysOpen_65 : decode cX6_laysOpen 65 = .ok (.iastore, 1) := by decide +kernel
theorem dX6_laysOpen_66 : decode cX6_laysOpen 66 = .ok (.iinc 1 1, 3) := by decide +kernel
theorem dX6_laysOpen_69 : decode cX6_laysOpen 69 = .ok (.goto (-46), 3) := by decide +kernel
theorem dX6_laysOpen_72 : decode cX6_laysOpen 72 = .ok (.return_, 1) := by decide +kernel
set_option maxRecDepth 20000 in
theorem ggX6_hasWay_J6_numberOfTrailingZeros_0f7a4 : GoodIn wsX6_hasWay wsJ6_numberOfTrailingZeros_0f7a4 := goodIn_r _ [5, 6] (by decide +kernel) (by decide +kernel)
set_option maxRecDepth 20000 in
theorem gX6_hasWay_J6_numberOfTrailingZeros_0f7a4 : GoodIn wsX6_hasWay (va_wsS RX6 173 yJ6_numberOfTrailingZeros_0f7a4 wsJ6_numberOfTrailingZeros_0f7a4) := goodIn_app (goodIn_of _ (by decide +kernel)) ggX6_hasWay_J6_numberOfTrailingZeros_0f7a4
set_option maxRecDepth 20000 in
theorem ggX6_hasWay_X6_hasWay : GoodIn wsX6_hasWay wsX6_hasWay := goodIn_r _ [0, 1, 2, 3, 4, 5, 6, 7, 8, 9, 10, 11, 12, 13, 14, 15, 16, 17, 18, 19, 20, 21, 22, 23, 24, 25, 26, 27, 28, 29, 30, 31, 32, 33, 34, 35, 36, 37, 38, 39] (by decide +kernel) (by decide +kernel)
set_option maxRecDepth 20000 in
theorem gX6_hasWay_X6_hasWay : GoodIn wsX6_hasWay (wsV RX6 176 RX6 yX6_hasWay wsX6_hasWay) := goodIn_app (goodIn_of _ (by decide +kernel)) ggX6_hasWay_X6_hasWay
theorem dX6_hasWay_0 : decode cX6_hasWay 0 = .ok (.iload_n 1, 1) := by decide +kernel
theorem dX6_hasWay_1 : decode cX6_hasWay 1 = .ok (.ifCond .ne 5, 3) := by decide +kernel
theorem dX6_hasWay_4 : decode cX6_hasWay 4 = .ok (.iconst 1, 1) := by decide +kernel
theorem dX6_hasWay_5 : decode cX6_hasWay 5 = .ok (.ireturn, 1) := by decide +kernel
theorem dX6_hasWay_6 : decode cX6_hasWay 6 = .ok (.iload_n 1, 1) := by decide +kernel
theorem dX6_hasWay_7 : decode cX6_hasWay 7 = .ok (.invokestatic 173, 3) := by decide +kernel
theorem dX6_hasWay_10 : decode cX6_hasWay 10 = .ok (.istore_n 3, 1) := by decide +kernel
theorem dX6_hasWay_11 : decode cX6_hasWay 11 = .ok (.aload_n 0, 1) := by decide +kernel
theorem dX6_hasWay_12 : decode cX6_hasWay 12 = .ok (.getfield 47, 3) := by decide +kernel
theorem dX6_hasWay_15 : decode cX6_hasWay 15 = .ok (.iload_n 3, 1) := by decide +kernel
theorem dX6_hasWay_16 : decode cX6_hasWay 16 = .ok (.iaload, 1) := by decide +kernel
theorem dX6_hasWay_17 : decode cX6_hasWay 17 = .ok (.iload_n 2, 1) := by decide +kernel
theorem dX6_hasWay_18 : decode cX6_hasWay 18 = .ok (.iconst (-1), 1) := by decide +kernel
theorem dX6_hasWay_19 : decode cX6_hasWay 19 = .ok (.ixor, 1) := by decide +kernel
theorem dX6_hasWay_20 : decode cX6_hasWay 20 = .ok (.iand, 1) := by decide +kernel
theorem dX6_hasWay_21 : decode cX6_hasWay 21 = .ok (.istore 4, 2) := by decide +kernel
theorem dX6_hasWay_23 : decode cX6_hasWay 23 = .ok (.iload 4, 2) := by decide +kernel
theorem dX6_hasWay_25 : decode cX6_hasWay 25 = .ok (.ifCond .eq 37, 3) := by decide +kernel
theorem dX6_hasWay_28 : decode cX6_hasWay 28 = .ok (.aload_n 0, 1) := by decide +kernel
theorem dX6_hasWay_29 : decode cX6_hasWay 29 = .ok (.iload_n 1, 1) := by decide +kernel
theorem dX6_hasWay_30 : decode cX6_hasWay 30 = .ok (.iload_n 1, 1) := by decide +kernel
theorem dX6_hasWay_31 : decode cX6_hasWay 31 = .ok (.iconst 1, 1) := by decide +kernel
theorem dX6_hasWay_32 : decode cX6_hasWay 32 = .ok (.isub, 1) := by decide +kernel
theorem dX6_hasWay_33 : decode cX6_hasWay 33 = .ok (.iand, 1) := by decide +kernel
theorem dX6_hasWay_34 : decode cX6_hasWay 34 = .ok (.iload_n 2, 1) := by decide +kernel
theorem dX6_hasWay_35 : decode cX6_hasWay 35 = .ok (.iload 4, 2) := by decide +kernel
theorem dX6_hasWay_37 : decode cX6_hasWay 37 = .ok (.iload 4, 2) := by decide +kernel
theorem dX6_hasWay_39 : decode cX6_hasWay 39 = .ok (.ineg, 1) := by decide +kernel
theorem dX6_hasWay_40 : decode cX6_hasWay 40 = .ok (.iand, 1) := by decide +kernel
theorem dX6_hasWay_41 : decode cX6_hasWay 41 = .ok (.ior, 1) := by decide +kernel
theorem dX6_hasWay_42 : decode cX6_hasWay 42 = .ok (.invokevirtual 176, 3) := by decide +kernel
theorem dX6_hasWay_45 : decode cX6_hasWay 45 = .ok (.ifCond .eq 5, 3) := by decide +kernel
theorem dX6_hasWay_48 : decode cX6_hasWay 48 = .ok (.iconst 1, 1) := by decide +kernel
theorem dX6_hasWay_49 : decode cX6_hasWay 49 = .ok (.ireturn, 1) := by decide +kernel
theorem dX6_hasWay_50 : decode cX6_hasWay 50 = .ok (.iload 4, 2) := by decide +kernel
theorem dX6_hasWay_52 : decode cX6_hasWay 52 = .ok (.iload 4, 2) := by decide +kernel
theorem dX6_hasWay_54 : decode cX6_hasWay 54 = .ok (.iconst 1, 1) := by decide +kernel
theorem dX6_hasWay_55 : decode cX6_hasWay 55 = .ok (.isub, 1) := by decide +kernel
theorem dX6_hasWay_56 : decode cX6_hasWay 56 = .ok (.iand, 1) := by decide +kernel
theorem dX6_hasWay_57 : decode cX6_hasWay 57 = .ok (.istore 4, 2) := by decide +kernel
theorem dX6_hasWay_59 : decode cX6_hasWay 59 = .ok (.goto (-36), 3) := by decide +kernel
theorem dX6_hasWay_62 : decode cX6_hasWay 62 = .ok (.iconst 0, 1) := by decide +kernel
theorem dX6_hasWay_63 : decode cX6_hasWay 63 = .ok (.ireturn, 1) := by decide +kernel
set_option maxRecDepth 20000 in
theorem ggX6_waysOf_J6_numberOfTrailingZeros_0f7a4 : GoodIn wsX6_waysOf wsJ6_numberOfTrailingZeros_0f7a4 := goodIn_r _ [5, 6] (by decide +kernel) (by decide +kernel)
set_option maxRecDepth 20000 in
theorem gX6_waysOf_J6_numberOfTrailingZeros_0f7a4 : GoodIn wsX6_waysOf (va_wsS RX6 173 yJ6_numberOfTrailingZeros_0f7a4 wsJ6_numberOfTrailingZeros_0f7a4) := goodIn_app (goodIn_of _ (by decide +kernel)) ggX6_waysOf_J6_numberOfTrailingZeros_0f7a4
set_option maxRecDepth 20000 in
theorem ggX6_waysOf_X6_waysOf : GoodIn wsX6_waysOf wsX6_waysOf := goodIn_r _ [0, 1, 2, 3, 4, 5, 6, 7, 8, 9, 10, 11, 12, 13, 14, 15, 16, 17, 18, 19, 20, 21, 22, 23, 24, 25, 26, 27, 28, 29, 30, 31, 32, 33, 34, 35, 36, 37, 38, 39] (by decide +kernel) (by decide +kernel)
set_option maxRecDepth 20000 in
theorem gX6_waysOf_X6_waysOf : GoodIn wsX6_waysOf (wsV RX6 179 RX6 yX6_waysOf wsX6_waysOf) := goodIn_app (goodIn_of _ (by decide +kernel)) ggX6_waysOf_X6_waysOf
theorem dX6_waysOf_0 : decode cX6_waysOf 0 = .ok (.iload_n 1, 1) := by decide +kernel
theorem dX6_waysOf_1 : decode cX6_waysOf 1 = .ok (.ifCond .ne 5, 3) := by decide +kernel
theorem dX6_waysOf_4 : decode cX6_waysOf 4 = .ok (.iconst 1, 1) := by decide +kernel
theorem dX6_waysOf_5 : decode cX6_waysOf 5 = .ok (.ireturn, 1) := by decide +kernel
theorem dX6_waysOf_6 : decode cX6_waysOf 6 = .ok (.iconst 0, 1) := by decide +kernel
theorem dX6_waysOf_7 : decode cX6_waysOf 7 = .ok (.istore_n 3, 1) := by decide +kernel
theorem dX6_waysOf_8 : decode cX6_waysOf 8 = .ok (.iload_n 1, 1) := by decide +kernel
theorem dX6_waysOf_9 : decode cX6_waysOf 9 = .ok (.invokestatic 173, 3) := by decide +kernel
theorem dX6_waysOf_12 : decode cX6_waysOf 12 = .ok (.istore 4, 2) := by decide +kernel
theorem dX6_waysOf_14 : decode cX6_waysOf 14 = .ok (.aload_n 0, 1) := by decide +kernel
theorem dX6_waysOf_15 : decode cX6_waysOf 15 = .ok (.getfield 47, 3) := by decide +kernel
theorem dX6_waysOf_18 : decode cX6_waysOf 18 = .ok (.iload 4, 2) := by decide +kernel
theorem dX6_waysOf_20 : decode cX6_waysOf 20 = .ok (.iaload, 1) := by decide +kernel
theorem dX6_waysOf_21 : decode cX6_waysOf 21 = .ok (.iload_n 2, 1) := by decide +kernel
theorem dX6_waysOf_22 : decode cX6_waysOf 22 = .ok (.iconst (-1), 1) := by decide +kernel
theorem dX6_waysOf_23 : decode cX6_waysOf 23 = .ok (.ixor, 1) := by decide +kernel
theorem dX6_waysOf_24 : decode cX6_waysOf 24 = .ok (.iand, 1) := by decide +kernel
theorem dX6_waysOf_25 : decode cX6_waysOf 25 = .ok (.istore 5, 2) := by decide +kernel
theorem dX6_waysOf_27 : decode cX6_waysOf 27 = .ok (.iload 5, 2) := by decide +kernel
theorem dX6_waysOf_29 : decode cX6_waysOf 29 = .ok (.ifCond .eq 35, 3) := by decide +kernel
theorem dX6_waysOf_32 : decode cX6_waysOf 32 = .ok (.iload_n 3, 1) := by decide +kernel
theorem dX6_waysOf_33 : decode cX6_waysOf 33 = .ok (.aload_n 0, 1) := by decide +kernel
theorem dX6_waysOf_34 : decode cX6_waysOf 34 = .ok (.iload_n 1, 1) := by decide +kernel
theorem dX6_waysOf_35 : decode cX6_waysOf 35 = .ok (.iload_n 1, 1) := by decide +kernel
theorem dX6_waysOf_36 : decode cX6_waysOf 36 = .ok (.iconst 1, 1) := by decide +kernel
theorem dX6_waysOf_37 : decode cX6_waysOf 37 = .ok (.isub, 1) := by decide +kernel
theorem dX6_waysOf_38 : decode cX6_waysOf 38 = .ok (.iand, 1) := by decide +kernel
theorem dX6_waysOf_39 : decode cX6_waysOf 39 = .ok (.iload_n 2, 1) := by decide +kernel
theorem dX6_waysOf_40 : decode cX6_waysOf 40 = .ok (.iload 5, 2) := by decide +kernel
theorem dX6_waysOf_42 : decode cX6_waysOf 42 = .ok (.iload 5, 2) := by decide +kernel
theorem dX6_waysOf_44 : decode cX6_waysOf 44 = .ok (.ineg, 1) := by decide +kernel
theorem dX6_waysOf_45 : decode cX6_waysOf 45 = .ok (.iand, 1) := by decide +kernel
theorem dX6_waysOf_46 : decode cX6_waysOf 46 = .ok (.ior, 1) := by decide +kernel
theorem dX6_waysOf_47 : decode cX6_waysOf 47 = .ok (.invokevirtual 179, 3) := by decide +kernel
theorem dX6_waysOf_50 : decode cX6_waysOf 50 = .ok (.iadd, 1) := by decide +kernel
theorem dX6_waysOf_51 : decode cX6_waysOf 51 = .ok (.istore_n 3, 1) := by decide +kernel
theorem dX6_waysOf_52 : decode cX6_waysOf 52 = .ok (.iload 5, 2) := by decide +kernel
theorem dX6_waysOf_54 : decode cX6_waysOf 54 = .ok (.iload 5, 2) := by decide +kernel
theorem dX6_waysOf_56 : decode cX6_waysOf 56 = .ok (.iconst 1, 1) := by decide +kernel
theorem dX6_waysOf_57 : decode cX6_waysOf 57 = .ok (.isub, 1) := by decide +kernel
theorem dX6_waysOf_58 : decode cX6_waysOf 58 = .ok (.iand, 1) := by decide +kernel
theorem dX6_waysOf_59 : decode cX6_waysOf 59 = .ok (.istore 5, 2) := by decide +kernel
theorem dX6_waysOf_61 : decode cX6_waysOf 61 = .ok (.goto (-34), 3) := by decide +kernel
theorem dX6_waysOf_64 : decode cX6_waysOf 64 = .ok (.iload_n 3, 1) := by decide +kernel
theorem dX6_waysOf_65 : decode cX6_waysOf 65 = .ok (.ireturn, 1) := by decide +kernel
set_option maxRecDepth 20000 in
theorem ggX6_fitting_X6_laysOpen : GoodIn wsX6_fitting wsX6_laysOpen := goodIn_r _ [7, 8, 9, 10, 11, 21, 22, 23, 24, 25, 26, 27, 28, 29, 30, 31, 32, 33, 34, 35, 36, 37, 38, 39, 40, 41, 42, 43, 44, 45, 46, 47, 48, 49] (by decide +kernel) (by decide +kernel)
set_option maxRecDepth 20000 in
theorem gX6_fitting_X6_laysOpen : GoodIn wsX6_fitting (wsV RX6 182 RX6 yX6_laysOpen wsX6_laysOpen) := goodIn_app (goodIn_of _ (by decide +kernel)) ggX6_fitting_X6_laysOpen
set_option maxRecDepth 20000 in
theorem ggX6_fitting_X6_hasWay : GoodIn wsX6_fitting wsX6_hasWay := goodIn_r _ [15, 8, 16, 17, 18, 19, 20, 12, 13, 14, 6, 21, 22, 23, 24, 25, 26, 27, 28, 29, 30, 31, 32, 33, 34, 35, 36, 37, 38, 39, 40, 41, 42, 43, 44, 45, 46, 47, 48, 49] (by decide +kernel) (by decide +kernel)
set_option maxRecDepth 20000 in
theorem gX6_fitting_X6_hasWay : GoodIn wsX6_fitting (wsV RX6 176 RX6 yX6_hasWay wsX6_hasWay) := goodIn_app (goodIn_of _ (by decide +kernel)) ggX6_fitting_X6_hasWay
theorem dX6_fitting_0 : decode cX6_fitting 0 = .ok (.aload_n 0, 1) := by decide +kernel
theorem dX6_fitting_1 : decode cX6_fitting 1 = .ok (.invokevirtual 182, 3) := by decide +kernel
theorem dX6_fitting_4 : decode cX6_fitting 4 = .ok (.iconst 0, 1) := by decide +kernel
theorem dX6_fitting_5 : decode cX6_fitting 5 = .ok (.istore_n 1, 1) := by decide +kernel
theorem dX6_fitting_6 : decode cX6_fitting 6 = .ok (.iconst 0, 1) := by decide +kernel
theorem dX6_fitting_7 : decode cX6_fitting 7 = .ok (.istore_n 2, 1) := by decide +kernel
theorem dX6_fitting_8 : decode cX6_fitting 8 = .ok (.iload_n 2, 1) := by decide +kernel
theorem dX6_fitting_9 : decode cX6_fitting 9 = .ok (.aload_n 0, 1) := by decide +kernel
theorem dX6_fitting_10 : decode cX6_fitting 10 = .ok (.getfield 90, 3) := by decide +kernel
theorem dX6_fitting_13 : decode cX6_fitting 13 = .ok (.if_icmp .ge 33, 3) := by decide +kernel
theorem dX6_fitting_16 : decode cX6_fitting 16 = .ok (.iload_n 1, 1) := by decide +kernel
theorem dX6_fitting_17 : decode cX6_fitting 17 = .ok (.aload_n 0, 1) := by decide +kernel
theorem dX6_fitting_18 : decode cX6_fitting 18 = .ok (.aload_n 0, 1) := by decide +kernel
theorem dX6_fitting_19 : decode cX6_fitting 19 = .ok (.getfield 35, 3) := by decide +kernel
theorem dX6_fitting_22 : decode cX6_fitting 22 = .ok (.iload_n 2, 1) := by decide +kernel
theorem dX6_fitting_23 : decode cX6_fitting 23 = .ok (.iaload, 1) := by decide +kernel
theorem dX6_fitting_24 : decode cX6_fitting 24 = .ok (.iconst 0, 1) := by decide +kernel
theorem dX6_fitting_25 : decode cX6_fitting 25 = .ok (.invokevirtual 176, 3) := by decide +kernel
theorem dX6_fitting_28 : decode cX6_fitting 28 = .ok (.ifCond .eq 9, 3) := by decide +kernel
theorem dX6_fitting_31 : decode cX6_fitting 31 = .ok (.iconst 1, 1) := by decide +kernel
theorem dX6_fitting_32 : decode cX6_fitting 32 = .ok (.iload_n 2, 1) := by decide +kernel
theorem dX6_fitting_33 : decode cX6_fitting 33 = .ok (.ishl, 1) := by decide +kernel
theorem dX6_fitting_34 : decode cX6_fitting 34 = .ok (.goto 4, 3) := by decide +kernel
theorem dX6_fitting_37 : decode cX6_fitting 37 = .ok (.iconst 0, 1) := by decide +kernel
theorem dX6_fitting_38 : decode cX6_fitting 38 = .ok (.ior, 1) := by decide +kernel
theorem dX6_fitting_39 : decode cX6_fitting 39 = .ok (.istore_n 1, 1) := by decide +kernel
theorem dX6_fitting_40 : decode cX6_fitting 40 = .ok (.iinc 2 1, 3) := by decide +kernel
theorem dX6_fitting_43 : decode cX6_fitting 43 = .ok (.goto (-35), 3) := by decide +kernel
theorem dX6_fitting_46 : decode cX6_fitting 46 = .ok (.iload_n 1, 1) := by decide +kernel
theorem dX6_fitting_47 : decode cX6_fitting 47 = .ok (.ireturn, 1) := by decide +kernel
set_option maxRecDepth 20000 in
theorem ggX6_doesFit_X6_laysOpen : GoodIn wsX6_doesFit wsX6_laysOpen := goodIn_r _ [6, 7, 8, 9, 10, 20, 21, 22, 23, 24, 25, 26, 27, 28, 29, 30, 31, 32, 33, 34, 35, 36, 37, 38, 39, 40, 41, 42, 43, 44, 45, 46, 47, 48] (by decide +kernel) (by decide +kernel)
set_option maxRecDepth 20000 in
theorem gX6_doesFit_X6_laysOpen : GoodIn wsX6_doesFit (wsV RX6 182 RX6 yX6_laysOpen wsX6_laysOpen) := goodIn_app (goodIn_of _ (by decide +kernel)) ggX6_doesFit_X6_laysOpen
set_option maxRecDepth 20000 in
theorem ggX6_doesFit_X6_hasWay : GoodIn wsX6_doesFit wsX6_hasWay := goodIn_r _ [14, 7, 15, 16, 17, 18, 19, 11, 12, 13, 5, 20, 21, 22, 23, 24, 25, 26, 27, 28, 29, 30, 31, 32, 33, 34, 35, 36, 37, 38, 39, 40, 41, 42, 43, 44, 45, 46, 47, 48] (by decide +kernel) (by decide +kernel)
set_option maxRecDepth 20000 in
theorem gX6_doesFit_X6_hasWay : GoodIn wsX6_doesFit (wsV RX6 176 RX6 yX6_hasWay wsX6_hasWay) := goodIn_app (goodIn_of _ (by decide +kernel)) ggX6_doesFit_X6_hasWay
theorem dX6_doesFit_0 : decode cX6_doesFit 0 = .ok (.aload_n 0, 1) := by decide +kernel
theorem dX6_doesFit_1 : decode cX6_doesFit 1 = .ok (.invokevirtual 182, 3) := by decide +kernel
theorem dX6_doesFit_4 : decode cX6_doesFit 4 = .ok (.aload_n 0, 1) := by decide +kernel
theorem dX6_doesFit_5 : decode cX6_doesFit 5 = .ok (.aload_n 0, 1) := by decide +kernel
theorem dX6_doesFit_6 : decode cX6_doesFit 6 = .ok (.getfield 35, 3) := by decide +kernel
theorem dX6_doesFit_9 : decode cX6_doesFit 9 = .ok (.iload_n 1, 1) := by decide +kernel
theorem dX6_doesFit_10 : decode cX6_doesFit 10 = .ok (.iaload, 1) := by decide +kernel
theorem dX6_doesFit_11 : decode cX6_doesFit 11 = .ok (.iconst 0, 1) := by decide +kernel
theorem dX6_doesFit_12 : decode cX6_doesFit 12 = .ok (.invokevirtual 176, 3) := by decide +kernel
theorem dX6_doesFit_15 : decode cX6_doesFit 15 = .ok (.ireturn, 1) := by decide +kernel
set_option maxRecDepth 20000 in
theorem ggX6_opens_X6_isSubject : GoodIn wsX6_opens wsX6_isSubject := goodIn_r _ [11, 12, 13, 14, 10, 15] (by decide +kernel) (by decide +kernel)
set_option maxRecDepth 20000 in
theorem gX6_opens_X6_isSubject : GoodIn wsX6_opens (va_wsS RX6 185 yX6_isSubject wsX6_isSubject) := goodIn_app (goodIn_of _ (by decide +kernel)) ggX6_opens_X6_isSubject
set_option maxRecDepth 20000 in
theorem ggX6_opens_X6_isTeacher : GoodIn wsX6_opens wsX6_isTeacher := goodIn_r _ [18, 12, 13, 14, 10, 15] (by decide +kernel) (by decide +kernel)
set_option maxRecDepth 20000 in
theorem gX6_opens_X6_isTeacher : GoodIn wsX6_opens (va_wsS RX6 188 yX6_isTeacher wsX6_isTeacher) := goodIn_app (goodIn_of _ (by decide +kernel)) ggX6_opens_X6_isTeacher
set_option maxRecDepth 20000 in
theorem ggX6_opens_X6_in : GoodIn wsX6_opens wsX6_in := goodIn_r _ [15] (by decide +kernel) (by decide +kernel)
set_option maxRecDepth 20000 in
theorem gX6_opens_X6_in : GoodIn wsX6_opens (va_wsS RX6 81 yX6_in wsX6_in) := goodIn_app (goodIn_of _ (by decide +kernel)) ggX6_opens_X6_in
theorem dX6_opens_0 : decode cX6_opens 0 = .ok (.aload_n 0, 1) := by decide +kernel
theorem dX6_opens_1 : decode cX6_opens 1 = .ok (.iconst 0, 1) := by decide +kernel
theorem dX6_opens_2 : decode cX6_opens 2 = .ok (.putfield 62, 3) := by decide +kernel
theorem dX6_opens_5 : decode cX6_opens 5 = .ok (.iload_n 1, 1) := by decide +kernel
theorem dX6_opens_6 : decode cX6_opens 6 = .ok (.invokestatic 185, 3) := by decide +kernel
theorem dX6_opens_9 : decode cX6_opens 9 = .ok (.ifCond .eq 22, 3) := by decide +kernel
theorem dX6_opens_12 : decode cX6_opens 12 = .ok (.iload_n 2, 1) := by decide +kernel
theorem dX6_opens_13 : decode cX6_opens 13 = .ok (.invokestatic 188, 3) := by decide +kernel
theorem dX6_opens_16 : decode cX6_opens 16 = .ok (.ifCond .eq 15, 3) := by decide +kernel
theorem dX6_opens_19 : decode cX6_opens 19 = .ok (.iload_n 3, 1) := by decide +kernel
theorem dX6_opens_20 : decode cX6_opens 20 = .ok (.i2l, 1) := by decide +kernel
theorem dX6_opens_21 : decode cX6_opens 21 = .ok (.lconst 1, 1) := by decide +kernel
theorem dX6_opens_22 : decode cX6_opens 22 = .ok (.ldc2_w 191, 3) := by decide +kernel
theorem dX6_opens_25 : decode cX6_opens 25 = .ok (.invokestatic 81, 3) := by decide +kernel
theorem dX6_opens_28 : decode cX6_opens 28 = .ok (.ifCond .ne 5, 3) := by decide +kernel
theorem dX6_opens_31 : decode cX6_opens 31 = .ok (.iconst (-1), 1) := by decide +kernel
theorem dX6_opens_32 : decode cX6_opens 32 = .ok (.ireturn, 1) := by decide +kernel
theorem dX6_opens_33 : decode cX6_opens 33 = .ok (.aload_n 0, 1) := by decide +kernel
theorem dX6_opens_34 : decode cX6_opens 34 = .ok (.getfield 87, 3) := by decide +kernel
theorem dX6_opens_37 : decode cX6_opens 37 = .ok (.bipush 16, 2) := by decide +kernel
theorem dX6_opens_39 : decode cX6_opens 39 = .ok (.if_icmp .ne 6, 3) := by decide +kernel
theorem dX6_opens_42 : decode cX6_opens 42 = .ok (.bipush (-2), 2) := by decide +kernel
theorem dX6_opens_44 : decode cX6_opens 44 = .ok (.ireturn, 1) := by decide +kernel
theorem dX6_opens_45 : decode cX6_opens 45 = .ok (.aload_n 0, 1) := by decide +kernel
theorem dX6_opens_46 : decode cX6_opens 46 = .ok (.getfield 20, 3) := by decide +kernel
theorem dX6_opens_49 : decode cX6_opens 49 = .ok (.aload_n 0, 1) := by decide +kernel
theorem dX6_opens_50 : decode cX6_opens 50 = .ok (.getfield 87, 3) := by decide +kernel
theorem dX6_opens_53 : decode cX6_opens 53 = .ok (.iload_n 1, 1) := by decide +kernel
theorem dX6_opens_54 : decode cX6_opens 54 = .ok (.iastore, 1) := by decide +kernel
theorem dX6_opens_55 : decode cX6_opens 55 = .ok (.aload_n 0, 1) := by decide +kernel
theorem dX6_opens_56 : decode cX6_opens 56 = .ok (.getfield 23, 3) := by decide +kernel
theorem dX6_opens_59 : decode cX6_opens 59 = .ok (.aload_n 0, 1) := by decide +kernel
theorem dX6_opens_60 : decode cX6_opens 60 = .ok (.getfield 87, 3) := by decide +kernel
theorem dX6_opens_63 : decode cX6_opens 63 = .ok (.iload_n 2, 1) := by decide +kernel
theorem dX6_opens_64 : decode cX6_opens 64 = .ok (.iastore, 1) := by decide +kernel
theorem dX6_opens_65 : decode cX6_opens 65 = .ok (.aload_n 0, 1) := by decide +kernel
theorem dX6_opens_66 : decode cX6_opens 66 = .ok (.getfield 26, 3) := by decide +kernel
theorem dX6_opens_69 : decode cX6_opens 69 = .ok (.aload_n 0, 1) := by decide +kernel
theorem dX6_opens_70 : decode cX6_opens 70 = .ok (.getfield 87, 3) := by decide +kernel
theorem dX6_opens_73 : decode cX6_opens 73 = .ok (.iload_n 3, 1) := by decide +kernel
theorem dX6_opens_74 : decode cX6_opens 74 = .ok (.iastore, 1) := by decide +kernel
theorem dX6_opens_75 : decode cX6_opens 75 = .ok (.aload_n 0, 1) := by decide +kernel
theorem dX6_opens_76 : decode cX6_opens 76 = .ok (.getfield 29, 3) := by decide +kernel
theorem dX6_opens_79 : decode cX6_opens 79 = .ok (.aload_n 0, 1) := by decide +kernel
theorem dX6_opens_80 : decode cX6_opens 80 = .ok (.getfield 87, 3) := by decide +kernel
theorem dX6_opens_83 : decode cX6_opens 83 = .ok (.bipush (-2), 2) := by decide +kernel
theorem dX6_opens_85 : decode cX6_opens 85 = .ok (.iastore, 1) := by decide +kernel
theorem dX6_opens_86 : decode cX6_opens 86 = .ok (.aload_n 0, 1) := by decide +kernel
theorem dX6_opens_87 : decode cX6_opens 87 = .ok (.dup, 1) := by decide +kernel
theorem dX6_opens_88 : decode cX6_opens 88 = .ok (.getfield 87, 3) := by decide +kernel
theorem dX6_opens_91 : decode cX6_opens 91 = .ok (.iconst 1, 1) := by decide +kernel
theorem dX6_opens_92 : decode cX6_opens 92 = .ok (.iadd, 1) := by decide +kernel
theorem dX6_opens_93 : decode cX6_opens 93 = .ok (.putfield 87, 3) := by decide +kernel
theorem dX6_opens_96 : decode cX6_opens 96 = .ok (.aload_n 0, 1) := by decide +kernel
theorem dX6_opens_97 : decode cX6_opens 97 = .ok (.getfield 87, 3) := by decide +kernel
theorem dX6_opens_100 : decode cX6_opens 100 = .ok (.iconst 1, 1) := by decide +kernel
theorem dX6_opens_101 : decode cX6_opens 101 = .ok (.isub, 1) := by decide +kernel
theorem dX6_opens_102 : decode cX6_opens 102 = .ok (.ireturn, 1) := by decide +kernel
set_option maxRecDepth 20000 in
theorem ggX6_closes_X6_isSection : GoodIn wsX6_closes wsX6_isSection := goodIn_r _ [11, 2, 12, 13, 10, 14, 15, 16, 17, 18, 19, 20, 21, 22, 23, 24, 25, 26, 27, 28, 29, 30, 31, 32, 33, 34, 35, 36, 37, 38, 39, 40, 41, 42, 43] (by decide +kernel) (by decide +kernel)
set_option maxRecDepth 20000 in
theorem gX6_closes_X6_isSection : GoodIn wsX6_closes (wsV RX6 193 RX6 yX6_isSection wsX6_isSection) := goodIn_app (goodIn_of _ (by decide +kernel)) ggX6_closes_X6_isSection
theorem dX6_closes_0 : decode cX6_closes 0 = .ok (.aload_n 0, 1) := by decide +kernel
theorem dX6_closes_1 : decode cX6_closes 1 = .ok (.iconst 0, 1) := by decide +kernel
theorem dX6_closes_2 : decode cX6_closes 2 = .ok (.putfield 62, 3) := by decide +kernel
theorem dX6_closes_5 : decode cX6_closes 5 = .ok (.aload_n 0, 1) := by decide +kernel
theorem dX6_closes_6 : decode cX6_closes 6 = .ok (.iload_n 1, 1) := by decide +kernel
theorem dX6_closes_7 : decode cX6_closes 7 = .ok (.invokevirtual 193, 3) := by decide +kernel
theorem dX6_closes_10 : decode cX6_closes 10 = .ok (.ifCond .ne 5, 3) := by decide +kernel
theorem dX6_closes_13 : decode cX6_closes 13 = .ok (.iconst (-1), 1) := by decide +kernel
theorem dX6_closes_14 : decode cX6_closes 14 = .ok (.ireturn, 1) := by decide +kernel
theorem dX6_closes_15 : decode cX6_closes 15 = .ok (.aload_n 0, 1) := by decide +kernel
theorem dX6_closes_16 : decode cX6_closes 16 = .ok (.dup, 1) := by decide +kernel
theorem dX6_closes_17 : decode cX6_closes 17 = .ok (.getfield 87, 3) := by decide +kernel
theorem dX6_closes_20 : decode cX6_closes 20 = .ok (.iconst 1, 1) := by decide +kernel
theorem dX6_closes_21 : decode cX6_closes 21 = .ok (.isub, 1) := by decide +kernel
theorem dX6_closes_22 : decode cX6_closes 22 = .ok (.putfield 87, 3) := by decide +kernel
theorem dX6_closes_25 : decode cX6_closes 25 = .ok (.iload_n 1, 1) := by decide +kernel
theorem dX6_closes_26 : decode cX6_closes 26 = .ok (.istore_n 2, 1) := by decide +kernel
theorem dX6_closes_27 : decode cX6_closes 27 = .ok (.iload_n 2, 1) := by decide +kernel
theorem dX6_closes_28 : decode cX6_closes 28 = .ok (.aload_n 0, 1) := by decide +kernel
theorem dX6_closes_29 : decode cX6_closes 29 = .ok (.getfield 87, 3) := by decide +kernel
theorem dX6_closes_32 : decode cX6_closes 32 = .ok (.if_icmp .ge 65, 3) := by decide +kernel
theorem dX6_closes_35 : decode cX6_closes 35 = .ok (.aload_n 0, 1) := by decide +kernel
theorem dX6_closes_36 : decode cX6_closes 36 = .ok (.getfield 20, 3) := by decide +kernel
theorem dX6_closes_39 : decode cX6_closes 39 = .ok (.iload_n 2, 1) := by decide +kernel
theorem dX6_closes_40 : decode cX6_closes 40 = .ok (.aload_n 0, 1) := by decide +kernel
theorem dX6_closes_41 : decode cX6_closes 41 = .ok (.getfield 20, 3) := by decide +kernel
theorem dX6_closes_44 : decode cX6_closes 44 = .ok (.iload_n 2, 1) := by decide +kernel
theorem dX6_closes_45 : decode cX6_closes 45 = .ok (.iconst 1, 1) := by decide +kernel
theorem dX6_closes_46 : decode cX6_closes 46 = .ok (.iadd, 1) := by decide +kernel
theorem dX6_closes_47 : decode cX6_closes 47 = .ok (.iaload, 1) := by decide +kernel
theorem dX6_closes_48 : decode cX6_closes 48 = .ok (.iastore, 1) := by decide +kernel
theorem dX6_closes_49 : decode cX6_closes 49 = .ok (.aload_n 0, 1) := by decide +kernel
theorem dX6_closes_50 : decode cX6_closes 50 = .ok (.getfield 23, 3) := by decide +kernel
theorem dX6_closes_53 : decode cX6_closes 53 = .ok (.iload_n 2, 1) := by decide +kernel
theorem dX6_closes_54 : decode cX6_closes 54 = .ok (.aload_n 0, 1) := by decide +kernel
theorem dX6_closes_55 : decode cX6_closes 55 = .ok (.getfield 23, 3) := by decide +kernel
theorem dX6_closes_58 : decode cX6_closes 58 = .ok (.iload_n 2, 1) := by decide +kernel
theorem dX6_closes_59 : decode cX6_closes 59 = .ok (.iconst 1, 1) := by decide +kernel
theorem dX6_closes_60 : decode cX6_closes 60 = .ok (.iadd, 1) := by decide +kernel
theorem dX6_closes_61 : decode cX6_closes 61 = .ok (.iaload, 1) := by decide +kernel
theorem dX6_closes_62 : decode cX6_closes 62 = .ok (.iastore, 1) := by decide +kernel
theorem dX6_closes_63 : decode cX6_closes 63 = .ok (.aload_n 0, 1) := by decide +kernel
theorem dX6_closes_64 : decode cX6_closes 64 = .ok (.getfield 26, 3) := by decide +kernel
theorem dX6_closes_67 : decode cX6_closes 67 = .ok (.iload_n 2, 1) := by decide +kernel
theorem dX6_closes_68 : decode cX6_closes 68 = .ok (.aload_n 0, 1) := by decide +kernel
theorem dX6_closes_69 : decode cX6_closes 69 = .ok (.getfield 26, 3) := by decide +kernel
theorem dX6_closes_72 : decode cX6_closes 72 = .ok (.iload_n 2, 1) := by decide +kernel
theorem dX6_closes_73 : decode cX6_closes 73 = .ok (.iconst 1, 1) := by decide +kernel
theorem dX6_closes_74 : decode cX6_closes 74 = .ok (.iadd, 1) := by decide +kernel
theorem dX6_closes_75 : decode cX6_closes 75 = .ok (.iaload, 1) := by decide +kernel
theorem dX6_closes_76 : decode cX6_closes 76 = .ok (.iastore, 1) := by decide +kernel
theorem dX6_closes_77 : decode cX6_closes 77 = .ok (.aload_n 0, 1) := by decide +kernel
theorem dX6_closes_78 : decode cX6_closes 78 = .ok (.getfield 29, 3) := by decide +kernel
theorem dX6_closes_81 : decode cX6_closes 81 = .ok (.iload_n 2, 1) := by decide +kernel
theorem dX6_closes_82 : decode cX6_closes 82 = .ok (.aload_n 0, 1) := by decide +kernel
theorem dX6_closes_83 : decode cX6_closes 83 = .ok (.getfield 29, 3) := by decide +kernel
theorem dX6_closes_86 : decode cX6_closes 86 = .ok (.iload_n 2, 1) := by decide +kernel
theorem dX6_closes_87 : decode cX6_closes 87 = .ok (.iconst 1, 1) := by decide +kernel
theorem dX6_closes_88 : decode cX6_closes 88 = .ok (.iadd, 1) := by decide +kernel
theorem dX6_closes_89 : decode cX6_closes 89 = .ok (.iaload, 1) := by decide +kernel
theorem dX6_closes_90 : decode cX6_closes 90 = .ok (.iastore, 1) := by decide +kernel
theorem dX6_closes_91 : decode cX6_closes 91 = .ok (.iinc 2 1, 3) := by decide +kernel
theorem dX6_closes_94 : decode cX6_closes 94 = .ok (.goto (-67), 3) := by decide +kernel
theorem dX6_closes_97 : decode cX6_closes 97 = .ok (.aload_n 0, 1) := by decide +kernel
theorem dX6_closes_98 : decode cX6_closes 98 = .ok (.getfield 87, 3) := by decide +kernel
theorem dX6_closes_101 : decode cX6_closes 101 = .ok (.ireturn, 1) := by decide +kernel
set_option maxRecDepth 20000 in
theorem ggX6_seats_X6_isSection : GoodIn wsX6_seats wsX6_isSection := goodIn_r _ [8, 9, 10, 11, 7, 12, 13, 14, 15, 16, 17, 18, 19, 20, 21, 22, 23, 24, 25, 26, 27, 28, 29, 30, 31, 32, 33, 34, 35, 36, 37, 38, 39, 40, 41] (by decide +kernel) (by decide +kernel)
set_option maxRecDepth 20000 in
theorem gX6_seats_X6_isSection : GoodIn wsX6_seats (wsV RX6 193 RX6 yX6_isSection wsX6_isSection) := goodIn_app (goodIn_of _ (by decide +kernel)) ggX6_seats_X6_isSection
set_option maxRecDepth 20000 in
theorem ggX6_seats_X6_in : GoodIn wsX6_seats wsX6_in := goodIn_r _ [12] (by decide +kernel) (by decide +kernel)
set_option maxRecDepth 20000 in
theorem gX6_seats_X6_in : GoodIn wsX6_seats (va_wsS RX6 81 yX6_in wsX6_in) := goodIn_app (goodIn_of _ (by decide +kernel)) ggX6_seats_X6_in
theorem dX6_seats_0 : decode cX6_seats 0 = .ok (.aload_n 0, 1) := by decide +kernel
theorem dX6_seats_1 : decode cX6_seats 1 = .ok (.iconst 0, 1) := by decide +kernel
theorem dX6_seats_2 : decode cX6_seats 2 = .ok (.putfield 62, 3) := by decide +kernel
theorem dX6_seats_5 : decode cX6_seats 5 = .ok (.aload_n 0, 1) := by decide +kernel
theorem dX6_seats_6 : decode cX6_seats 6 = .ok (.iload_n 1, 1) := by decide +kernel
theorem dX6_seats_7 : decode cX6_seats 7 = .ok (.invokevirtual 193, 3) := by decide +kernel
theorem dX6_seats_10 : decode cX6_seats 10 = .ok (.ifCond .eq 15, 3) := by decide +kernel
theorem dX6_seats_13 : decode cX6_seats 13 = .ok (.iload_n 2, 1) := by decide +kernel
theorem dX6_seats_14 : decode cX6_seats 14 = .ok (.i2l, 1) := by decide +kernel
theorem dX6_seats_15 : decode cX6_seats 15 = .ok (.lconst 1, 1) := by decide +kernel
theorem dX6_seats_16 : decode cX6_seats 16 = .ok (.ldc2_w 191, 3) := by decide +kernel
theorem dX6_seats_19 : decode cX6_seats 19 = .ok (.invokestatic 81, 3) := by decide +kernel
theorem dX6_seats_22 : decode cX6_seats 22 = .ok (.ifCond .ne 5, 3) := by decide +kernel
theorem dX6_seats_25 : decode cX6_seats 25 = .ok (.iconst (-1), 1) := by decide +kernel
theorem dX6_seats_26 : decode cX6_seats 26 = .ok (.ireturn, 1) := by decide +kernel
theorem dX6_seats_27 : decode cX6_seats 27 = .ok (.aload_n 0, 1) := by decide +kernel
theorem dX6_seats_28 : decode cX6_seats 28 = .ok (.getfield 26, 3) := by decide +kernel
theorem dX6_seats_31 : decode cX6_seats 31 = .ok (.iload_n 1, 1) := by decide +kernel
theorem dX6_seats_32 : decode cX6_seats 32 = .ok (.iaload, 1) := by decide +kernel
theorem dX6_seats_33 : decode cX6_seats 33 = .ok (.istore_n 3, 1) := by decide +kernel
theorem dX6_seats_34 : decode cX6_seats 34 = .ok (.aload_n 0, 1) := by decide +kernel
theorem dX6_seats_35 : decode cX6_seats 35 = .ok (.getfield 26, 3) := by decide +kernel
theorem dX6_seats_38 : decode cX6_seats 38 = .ok (.iload_n 1, 1) := by decide +kernel
theorem dX6_seats_39 : decode cX6_seats 39 = .ok (.iload_n 2, 1) := by decide +kernel
theorem dX6_seats_40 : decode cX6_seats 40 = .ok (.iastore, 1) := by decide +kernel
theorem dX6_seats_41 : decode cX6_seats 41 = .ok (.iload_n 3, 1) := by decide +kernel
theorem dX6_seats_42 : decode cX6_seats 42 = .ok (.ireturn, 1) := by decide +kernel
set_option maxRecDepth 20000 in
theorem ggX6_puts_X6_isSection : GoodIn wsX6_puts wsX6_isSection := goodIn_r _ [7, 8, 9, 10, 6, 11, 61, 62, 63, 64, 65, 66, 67, 68, 69, 70, 71, 72, 73, 74, 75, 76, 77, 78, 79, 80, 81, 82, 83, 84, 85, 86, 87, 88, 89] (by decide +kernel) (by decide +kernel)
set_option maxRecDepth 20000 in
theorem gX6_puts_X6_isSection : GoodIn wsX6_puts (wsV RX6 193 RX6 yX6_isSection wsX6_isSection) := goodIn_app (goodIn_of _ (by decide +kernel)) ggX6_puts_X6_isSection
set_option maxRecDepth 20000 in
theorem ggX6_puts_X6_isColumn : GoodIn wsX6_puts wsX6_isColumn := goodIn_r _ [15, 16, 9, 10, 6, 11, 61, 62, 63, 64, 65, 66, 67, 68, 69, 70, 71, 72, 73, 74, 75, 76, 77, 78, 79, 80, 81, 82, 83, 84, 85, 86, 87, 88, 89] (by decide +kernel) (by decide +kernel)
set_option maxRecDepth 20000 in
theorem gX6_puts_X6_isColumn : GoodIn wsX6_puts (wsV RX6 196 RX6 yX6_isColumn wsX6_isColumn) := goodIn_app (goodIn_of _ (by decide +kernel)) ggX6_puts_X6_isColumn
set_option maxRecDepth 20000 in
theorem ggX6_puts_X6_isLegal : GoodIn wsX6_puts wsX6_isLegal := goodIn_r _ [20, 21, 22, 23, 6, 24, 8, 2, 25, 26, 27, 28, 29, 30, 61, 62, 63, 64, 65, 66, 67, 68, 69, 70, 71, 72, 73, 74, 75, 76, 77, 78, 79, 80, 81, 82, 83, 84, 85, 86, 87, 88, 89] (by decide +kernel) (by decide +kernel)
set_option maxRecDepth 20000 in
theorem gX6_puts_X6_isLegal : GoodIn wsX6_puts (wsV RX6 137 RX6 yX6_isLegal wsX6_isLegal) := goodIn_app (goodIn_of _ (by decide +kernel)) ggX6_puts_X6_isLegal
set_option maxRecDepth 20000 in
theorem ggX6_puts_X6_fitting : GoodIn wsX6_puts wsX6_fitting := goodIn_r _ [34, 35, 36, 37, 38, 39, 6, 40, 41, 8, 42, 2, 43, 44, 45, 46, 47, 48, 49, 50, 51, 61, 62, 63, 64, 65, 66, 67, 68, 69, 70, 71, 72, 73, 74, 75, 76, 77, 78, 79, 80, 81, 82, 83, 84, 85, 86, 87, 88, 89] (by decide +kernel) (by decide +kernel)
set_option maxRecDepth 20000 in
theorem gX6_puts_X6_fitting : GoodIn wsX6_puts (wsV RX6 199 RX6 yX6_fitting wsX6_fitting) := goodIn_app (goodIn_of _ (by decide +kernel)) ggX6_puts_X6_fitting
set_option maxRecDepth 20000 in
theorem ggX6_puts_X6_bits : GoodIn wsX6_puts wsX6_bits := goodIn_r _ [54, 55, 56, 49, 57, 58, 59, 60] (by decide +kernel) (by decide +kernel)
set_option maxRecDepth 20000 in
theorem gX6_puts_X6_bits : GoodIn wsX6_puts (va_wsS RX6 161 yX6_bits wsX6_bits) := goodIn_app (goodIn_of _ (by decide +kernel)) ggX6_puts_X6_bits
theorem dX6_puts_0 : decode cX6_puts 0 = .ok (.aload_n 0, 1) := by decide +kernel
theorem dX6_puts_1 : decode cX6_puts 1 = .ok (.iconst 0, 1) := by decide +kernel
theorem dX6_puts_2 : decode cX6_puts 2 = .ok (.putfield 62, 3) := by decide +kernel
theorem dX6_puts_5 : decode cX6_puts 5 = .ok (.aload_n 0, 1) := by decide +kernel
theorem dX6_puts_6 : decode cX6_puts 6 = .ok (.iload_n 1, 1) := by decide +kernel
theorem dX6_puts_7 : decode cX6_puts 7 = .ok (.invokevirtual 193, 3) := by decide +kernel
theorem dX6_puts_10 : decode cX6_puts 10 = .ok (.ifCond .eq 11, 3) := by decide +kernel
theorem dX6_puts_13 : decode cX6_puts 13 = .ok (.aload_n 0, 1) := by decide +kernel
theorem dX6_puts_14 : decode cX6_puts 14 = .ok (.iload_n 2, 1) := by decide +kernel
theorem dX6_puts_15 : decode cX6_puts 15 = .ok (.invokevirtual 196, 3) := by decide +kernel
theorem dX6_puts_18 : decode cX6_puts 18 = .ok (.ifCond .ne 5, 3) := by decide +kernel
theorem dX6_puts_21 : decode cX6_puts 21 = .ok (.iconst (-1), 1) := by decide +kernel
theorem dX6_puts_22 : decode cX6_puts 22 = .ok (.ireturn, 1) := by decide +kernel
theorem dX6_puts_23 : decode cX6_puts 23 = .ok (.aload_n 0, 1) := by decide +kernel
theorem dX6_puts_24 : decode cX6_puts 24 = .ok (.getfield 29, 3) := by decide +kernel
theorem dX6_puts_27 : decode cX6_puts 27 = .ok (.iload_n 1, 1) := by decide +kernel
theorem dX6_puts_28 : decode cX6_puts 28 = .ok (.iaload, 1) := by decide +kernel
theorem dX6_puts_29 : decode cX6_puts 29 = .ok (.iload_n 2, 1) := by decide +kernel
theorem dX6_puts_30 : decode cX6_puts 30 = .ok (.if_icmp .ne 6, 3) := by decide +kernel
theorem dX6_puts_33 : decode cX6_puts 33 = .ok (.bipush (-2), 2) := by decide +kernel
theorem dX6_puts_35 : decode cX6_puts 35 = .ok (.ireturn, 1) := by decide +kernel
theorem dX6_puts_36 : decode cX6_puts 36 = .ok (.aload_n 0, 1) := by decide +kernel
theorem dX6_puts_37 : decode cX6_puts 37 = .ok (.iload_n 1, 1) := by decide +kernel
theorem dX6_puts_38 : decode cX6_puts 38 = .ok (.iload_n 2, 1) := by decide +kernel
theorem dX6_puts_39 : decode cX6_puts 39 = .ok (.invokevirtual 137, 3) := by decide +kernel
theorem dX6_puts_42 : decode cX6_puts 42 = .ok (.ifCond .ne 6, 3) := by decide +kernel
theorem dX6_puts_45 : decode cX6_puts 45 = .ok (.bipush (-3), 2) := by decide +kernel
theorem dX6_puts_47 : decode cX6_puts 47 = .ok (.ireturn, 1) := by decide +kernel
theorem dX6_puts_48 : decode cX6_puts 48 = .ok (.aload_n 0, 1) := by decide +kernel
theorem dX6_puts_49 : decode cX6_puts 49 = .ok (.getfield 29, 3) := by decide +kernel
theorem dX6_puts_52 : decode cX6_puts 52 = .ok (.iload_n 1, 1) := by decide +kernel
theorem dX6_puts_53 : decode cX6_puts 53 = .ok (.iload_n 2, 1) := by decide +kernel
theorem dX6_puts_54 : decode cX6_puts 54 = .ok (.iastore, 1) := by decide +kernel
theorem dX6_puts_55 : decode cX6_puts 55 = .ok (.aload_n 0, 1) := by decide +kernel
theorem dX6_puts_56 : decode cX6_puts 56 = .ok (.invokevirtual 199, 3) := by decide +kernel
theorem dX6_puts_59 : decode cX6_puts 59 = .ok (.invokestatic 161, 3) := by decide +kernel
theorem dX6_puts_62 : decode cX6_puts 62 = .ok (.ireturn, 1) := by decide +kernel
set_option maxRecDepth 20000 in
theorem ggX6_takes_X6_isSection : GoodIn wsX6_takes wsX6_isSection := goodIn_r _ [7, 8, 9, 10, 6, 11, 42, 43, 44, 45, 46, 47, 48, 49, 50, 51, 52, 53, 54, 55, 56, 57, 58, 59, 60, 61, 62, 63, 64, 65, 66, 67, 68, 69, 70] (by decide +kernel) (by decide +kernel)
set_option maxRecDepth 20000 in
theorem gX6_takes_X6_isSection : GoodIn wsX6_takes (wsV RX6 193 RX6 yX6_isSection wsX6_isSection) := goodIn_app (goodIn_of _ (by decide +kernel)) ggX6_takes_X6_isSection
set_option maxRecDepth 20000 in
theorem ggX6_takes_X6_fitting : GoodIn wsX6_takes wsX6_fitting := goodIn_r _ [15, 16, 17, 18, 19, 20, 6, 21, 22, 8, 23, 2, 24, 25, 26, 27, 28, 29, 30, 31, 32, 42, 43, 44, 45, 46, 47, 48, 49, 50, 51, 52, 53, 54, 55, 56, 57, 58, 59, 60, 61, 62, 63, 64, 65, 66, 67, 68, 69, 70] (by decide +kernel) (by decide +kernel)
set_option maxRecDepth 20000 in
theorem gX6_takes_X6_fitting : GoodIn wsX6_takes (wsV RX6 199 RX6 yX6_fitting wsX6_fitting) := goodIn_app (goodIn_of _ (by decide +kernel)) ggX6_takes_X6_fitting
set_option maxRecDepth 20000 in
theorem ggX6_takes_X6_bits : GoodIn wsX6_takes wsX6_bits := goodIn_r _ [35, 36, 37, 30, 38, 39, 40, 41] (by decide +kernel) (by decide +kernel)
set_option maxRecDepth 20000 in
theorem gX6_takes_X6_bits : GoodIn wsX6_takes (va_wsS RX6 161 yX6_bits wsX6_bits) := goodIn_app (goodIn_of _ (by decide +kernel)) ggX6_takes_X6_bits
theorem dX6_takes_0 : decode cX6_takes 0 = .ok (.aload_n 0, 1) := by decide +kernel
theorem dX6_takes_1 : decode cX6_takes 1 = .ok (.iconst 0, 1) := by decide +kernel
theorem dX6_takes_2 : decode cX6_takes 2 = .ok (.putfield 62, 3) := by decide +kernel
theorem dX6_takes_5 : decode cX6_takes 5 = .ok (.aload_n 0, 1) := by decide +kernel
theorem dX6_takes_6 : decode cX6_takes 6 = .ok (.iload_n 1, 1) := by decide +kernel
theorem dX6_takes_7 : decode cX6_takes 7 = .ok (.invokevirtual 193, 3) := by decide +kernel
theorem dX6_takes_10 : decode cX6_takes 10 = .ok (.ifCond .ne 5, 3) := by decide +kernel
theorem dX6_takes_13 : decode cX6_takes 13 = .ok (.iconst (-1), 1) := by decide +kernel
theorem dX6_takes_14 : decode cX6_takes 14 = .ok (.ireturn, 1) := by decide +kernel
theorem dX6_takes_15 : decode cX6_takes 15 = .ok (.aload_n 0, 1) := by decide +kernel
theorem dX6_takes_16 : decode cX6_takes 16 = .ok (.getfield 29, 3) := by decide +kernel
theorem dX6_takes_19 : decode cX6_takes 19 = .ok (.iload_n 1, 1) := by decide +kernel
theorem dX6_takes_20 : decode cX6_takes 20 = .ok (.iaload, 1) := by decide +kernel
theorem dX6_takes_21 : decode cX6_takes 21 = .ok (.bipush (-2), 2) := by decide +kernel
theorem dX6_takes_23 : decode cX6_takes 23 = .ok (.if_icmp .ne 6, 3) := by decide +kernel
theorem dX6_takes_26 : decode cX6_takes 26 = .ok (.bipush (-2), 2) := by decide +kernel
theorem dX6_takes_28 : decode cX6_takes 28 = .ok (.ireturn, 1) := by decide +kernel
theorem dX6_takes_29 : decode cX6_takes 29 = .ok (.aload_n 0, 1) := by decide +kernel
theorem dX6_takes_30 : decode cX6_takes 30 = .ok (.getfield 29, 3) := by decide +kernel
theorem dX6_takes_33 : decode cX6_takes 33 = .ok (.iload_n 1, 1) := by decide +kernel
theorem dX6_takes_34 : decode cX6_takes 34 = .ok (.bipush (-2), 2) := by decide +kernel
theorem dX6_takes_36 : decode cX6_takes 36 = .ok (.iastore, 1) := by decide +kernel
theorem dX6_takes_37 : decode cX6_takes 37 = .ok (.aload_n 0, 1) := by decide +kernel
theorem dX6_takes_38 : decode cX6_takes 38 = .ok (.invokevirtual 199, 3) := by decide +kernel
theorem dX6_takes_41 : decode cX6_takes 41 = .ok (.invokestatic 161, 3) := by decide +kernel
theorem dX6_takes_44 : decode cX6_takes 44 = .ok (.ireturn, 1) := by decide +kernel
theorem dX6_changes_0 : decode cX6_changes 0 = .ok (.aload_n 0, 1) := by decide +kernel
theorem dX6_changes_1 : decode cX6_changes 1 = .ok (.getfield 29, 3) := by decide +kernel
theorem dX6_changes_4 : decode cX6_changes 4 = .ok (.iload_n 1, 1) := by decide +kernel
theorem dX6_changes_5 : decode cX6_changes 5 = .ok (.iaload, 1) := by decide +kernel
theorem dX6_changes_6 : decode cX6_changes 6 = .ok (.istore_n 3, 1) := by decide +kernel
theorem dX6_changes_7 : decode cX6_changes 7 = .ok (.aload_n 0, 1) := by decide +kernel
theorem dX6_changes_8 : decode cX6_changes 8 = .ok (.getfield 29, 3) := by decide +kernel
theorem dX6_changes_11 : decode cX6_changes 11 = .ok (.iload_n 1, 1) := by decide +kernel
theorem dX6_changes_12 : decode cX6_changes 12 = .ok (.aload_n 0, 1) := by decide +kernel
theorem dX6_changes_13 : decode cX6_changes 13 = .ok (.getfield 29, 3) := by decide +kernel
theorem dX6_changes_16 : decode cX6_changes 16 = .ok (.iload_n 2, 1) := by decide +kernel
theorem dX6_changes_17 : decode cX6_changes 17 = .ok (.iaload, 1) := by decide +kernel
theorem dX6_changes_18 : decode cX6_changes 18 = .ok (.iastore, 1) := by decide +kernel
theorem dX6_changes_19 : decode cX6_changes 19 = .ok (.aload_n 0, 1) := by decide +kernel
theorem dX6_changes_20 : decode cX6_changes 20 = .ok (.getfield 29, 3) := by decide +kernel
theorem dX6_changes_23 : decode cX6_changes 23 = .ok (.iload_n 2, 1) := by decide +kernel
theorem dX6_changes_24 : decode cX6_changes 24 = .ok (.iload_n 3, 1) := by decide +kernel
theorem dX6_changes_25 : decode cX6_changes 25 = .ok (.iastore, 1) := by decide +kernel
theorem dX6_changes_26 : decode cX6_changes 26 = .ok (.return_, 1) := by decide +kernel
set_option maxRecDepth 20000 in
theorem ggX6_isRight_X6_isLegal : GoodIn wsX6_isRight wsX6_isLegal := goodIn_r _ [6, 7, 8, 9, 5, 10, 11, 1, 12, 13, 14, 15, 16, 17, 18, 19, 20, 21, 22, 23, 24, 25, 26, 27, 28, 29, 30, 31, 32, 33, 34, 35, 36, 37, 38, 39, 40, 41, 42, 43, 44, 45, 46] (by decide +kernel) (by decide +kernel)
set_option maxRecDepth 20000 in
theorem gX6_isRight_X6_isLegal : GoodIn wsX6_isRight (wsV RX6 137 RX6 yX6_isLegal wsX6_isLegal) := goodIn_app (goodIn_of _ (by decide +kernel)) ggX6_isRight_X6_isLegal
theorem dX6_isRight_0 : decode cX6_isRight 0 = .ok (.aload_n 0, 1) := by decide +kernel
theorem dX6_isRight_1 : decode cX6_isRight 1 = .ok (.getfield 29, 3) := by decide +kernel
theorem dX6_isRight_4 : decode cX6_isRight 4 = .ok (.iload_n 1, 1) := by decide +kernel
theorem dX6_isRight_5 : decode cX6_isRight 5 = .ok (.iaload, 1) := by decide +kernel
theorem dX6_isRight_6 : decode cX6_isRight 6 = .ok (.bipush (-2), 2) := by decide +kernel
theorem dX6_isRight_8 : decode cX6_isRight 8 = .ok (.if_icmp .eq 17, 3) := by decide +kernel
theorem dX6_isRight_11 : decode cX6_isRight 11 = .ok (.aload_n 0, 1) := by decide +kernel
theorem dX6_isRight_12 : decode cX6_isRight 12 = .ok (.iload_n 1, 1) := by decide +kernel
theorem dX6_isRight_13 : decode cX6_isRight 13 = .ok (.aload_n 0, 1) := by decide +kernel
theorem dX6_isRight_14 : decode cX6_isRight 14 = .ok (.getfield 29, 3) := by decide +kernel
theorem dX6_isRight_17 : decode cX6_isRight 17 = .ok (.iload_n 1, 1) := by decide +kernel
theorem dX6_isRight_18 : decode cX6_isRight 18 = .ok (.iaload, 1) := by decide +kernel
theorem dX6_isRight_19 : decode cX6_isRight 19 = .ok (.invokevirtual 137, 3) := by decide +kernel
theorem dX6_isRight_22 : decode cX6_isRight 22 = .ok (.ifCond .eq 7, 3) := by decide +kernel
theorem dX6_isRight_25 : decode cX6_isRight 25 = .ok (.iconst 1, 1) := by decide +kernel
theorem dX6_isRight_26 : decode cX6_isRight 26 = .ok (.goto 4, 3) := by decide +kernel
theorem dX6_isRight_29 : decode cX6_isRight 29 = .ok (.iconst 0, 1) := by decide +kernel
theorem dX6_isRight_30 : decode cX6_isRight 30 = .ok (.ireturn, 1) := by decide +kernel
set_option maxRecDepth 20000 in
theorem ggX6_swap_X6_changes : GoodIn wsX6_swap wsX6_changes := goodIn_r _ [5, 6, 26, 27, 28, 29, 30, 31, 32, 33, 34, 35, 36, 37, 38, 39, 40, 41, 42, 43, 44, 45, 46, 47, 48, 49, 50, 51, 52, 53, 54] (by decide +kernel) (by decide +kernel)
set_option maxRecDepth 20000 in
theorem gX6_swap_X6_changes : GoodIn wsX6_swap (wsV RX6 203 RX6 yX6_changes wsX6_changes) := goodIn_app (goodIn_of _ (by decide +kernel)) ggX6_swap_X6_changes
set_option maxRecDepth 20000 in
theorem ggX6_swap_X6_isRight : GoodIn wsX6_swap wsX6_isRight := goodIn_r _ [10, 6, 11, 12, 13, 4, 14, 15, 16, 17, 18, 19, 20, 21, 22, 23, 24, 25, 26, 27, 28, 29, 30, 31, 32, 33, 34, 35, 36, 37, 38, 39, 40, 41, 42, 43, 44, 45, 46, 47, 48, 49, 50, 51, 52, 53, 54] (by decide +kernel) (by decide +kernel)
set_option maxRecDepth 20000 in
theorem gX6_swap_X6_isRight : GoodIn wsX6_swap (wsV RX6 207 RX6 yX6_isRight wsX6_isRight) := goodIn_app (goodIn_of _ (by decide +kernel)) ggX6_swap_X6_isRight
theorem dX6_swap_0 : decode cX6_swap 0 = .ok (.aload_n 0, 1) := by decide +kernel
theorem dX6_swap_1 : decode cX6_swap 1 = .ok (.iload_n 1, 1) := by decide +kernel
theorem dX6_swap_2 : decode cX6_swap 2 = .ok (.iload_n 2, 1) := by decide +kernel
theorem dX6_swap_3 : decode cX6_swap 3 = .ok (.invokevirtual 203, 3) := by decide +kernel
theorem dX6_swap_6 : decode cX6_swap 6 = .ok (.aload_n 0, 1) := by decide +kernel
theorem dX6_swap_7 : decode cX6_swap 7 = .ok (.iload_n 1, 1) := by decide +kernel
theorem dX6_swap_8 : decode cX6_swap 8 = .ok (.invokevirtual 207, 3) := by decide +kernel
theorem dX6_swap_11 : decode cX6_swap 11 = .ok (.ifCond .eq 13, 3) := by decide +kernel
theorem dX6_swap_14 : decode cX6_swap 14 = .ok (.aload_n 0, 1) := by decide +kernel
theorem dX6_swap_15 : decode cX6_swap 15 = .ok (.iload_n 2, 1) := by decide +kernel
theorem dX6_swap_16 : decode cX6_swap 16 = .ok (.invokevirtual 207, 3) := by decide +kernel
theorem dX6_swap_19 : decode cX6_swap 19 = .ok (.ifCond .eq 5, 3) := by decide +kernel
theorem dX6_swap_22 : decode cX6_swap 22 = .ok (.iconst 1, 1) := by decide +kernel
theorem dX6_swap_23 : decode cX6_swap 23 = .ok (.ireturn, 1) := by decide +kernel
theorem dX6_swap_24 : decode cX6_swap 24 = .ok (.aload_n 0, 1) := by decide +kernel
theorem dX6_swap_25 : decode cX6_swap 25 = .ok (.iload_n 1, 1) := by decide +kernel
theorem dX6_swap_26 : decode cX6_swap 26 = .ok (.iload_n 2, 1) := by decide +kernel
theorem dX6_swap_27 : decode cX6_swap 27 = .ok (.invokevirtual 203, 3) := by decide +kernel
theorem dX6_swap_30 : decode cX6_swap 30 = .ok (.iconst 0, 1) := by decide +kernel
theorem dX6_swap_31 : decode cX6_swap 31 = .ok (.ireturn, 1) := by decide +kernel
set_option maxRecDepth 20000 in
theorem ggX6_swaps_X6_isSection : GoodIn wsX6_swaps wsX6_isSection := goodIn_r _ [7, 8, 9, 10, 6, 11, 68, 69, 70, 71, 72, 73, 74, 75, 76, 77, 78, 79, 80, 81, 82, 83, 84, 85, 86, 87, 88, 89, 90, 91, 92, 93, 94, 95, 96] (by decide +kernel) (by decide +kernel)
set_option maxRecDepth 20000 in
theorem gX6_swaps_X6_isSection : GoodIn wsX6_swaps (wsV RX6 193 RX6 yX6_isSection wsX6_isSection) := goodIn_app (goodIn_of _ (by decide +kernel)) ggX6_swaps_X6_isSection
set_option maxRecDepth 20000 in
theorem ggX6_swaps_X6_swap : GoodIn wsX6_swaps wsX6_swap := goodIn_r _ [15, 16, 17, 18, 6, 19, 2, 20, 21, 22, 23, 24, 25, 26, 27, 28, 29, 30, 31, 8, 32, 33, 34, 35, 36, 37, 68, 69, 70, 71, 72, 73, 74, 75, 76, 77, 78, 79, 80, 81, 82, 83, 84, 85, 86, 87, 88, 89, 90, 91, 92, 93, 94, 95, 96] (by decide +kernel) (by decide +kernel)
set_option maxRecDepth 20000 in
theorem gX6_swaps_X6_swap : GoodIn wsX6_swaps (wsV RX6 210 RX6 yX6_swap wsX6_swap) := goodIn_app (goodIn_of _ (by decide +kernel)) ggX6_swaps_X6_swap
set_option maxRecDepth 20000 in
theorem ggX6_swaps_X6_fitting : GoodIn wsX6_swaps wsX6_fitting := goodIn_r _ [41, 42, 43, 44, 45, 46, 6, 47, 48, 8, 49, 2, 50, 51, 52, 53, 54, 55, 56, 57, 58, 68, 69, 70, 71, 72, 73, 74, 75, 76, 77, 78, 79, 80, 81, 82, 83, 84, 85, 86, 87, 88, 89, 90, 91, 92, 93, 94, 95, 96] (by decide +kernel) (by decide +kernel)
set_option maxRecDepth 20000 in
theorem gX6_swaps_X6_fitting : GoodIn wsX6_swaps (wsV RX6 199 RX6 yX6_fitting wsX6_fitting) := goodIn_app (goodIn_of _ (by decide +kernel)) ggX6_swaps_X6_fitting
set_option maxRecDepth 20000 in
theorem ggX6_swaps_X6_bits : GoodIn wsX6_swaps wsX6_bits := goodIn_r _ [61, 62, 63, 56, 64, 65, 66, 67] (by decide +kernel) (by decide +kernel)
set_option maxRecDepth 20000 in
theorem gX6_swaps_X6_bits : GoodIn wsX6_swaps (va_wsS RX6 161 yX6_bits wsX6_bits) := goodIn_app (goodIn_of _ (by decide +kernel)) ggX6_swaps_X6_bits
theorem dX6_swaps_0 : decode cX6_swaps 0 = .ok (.aload_n 0, 1) := by decide +kernel
theorem dX6_swaps_1 : decode cX6_swaps 1 = .ok (.iconst 0, 1) := by decide +kernel
theorem dX6_swaps_2 : decode cX6_swaps 2 = .ok (.putfield 62, 3) := by decide +kernel
theorem dX6_swaps_5 : decode cX6_swaps 5 = .ok (.aload_n 0, 1) := by decide +kernel
theorem dX6_swaps_6 : decode cX6_swaps 6 = .ok (.iload_n 1, 1) := by decide +kernel
theorem dX6_swaps_7 : decode cX6_swaps 7 = .ok (.invokevirtual 193, 3) := by decide +kernel
theorem dX6_swaps_10 : decode cX6_swaps 10 = .ok (.ifCond .eq 11, 3) := by decide +kernel
theorem dX6_swaps_13 : decode cX6_swaps 13 = .ok (.aload_n 0, 1) := by decide +kernel
theorem dX6_swaps_14 : decode cX6_swaps 14 = .ok (.iload_n 2, 1) := by decide +kernel
theorem dX6_swaps_15 : decode cX6_swaps 15 = .ok (.invokevirtual 193, 3) := by decide +kernel
theorem dX6_swaps_18 : decode cX6_swaps 18 = .ok (.ifCond .ne 5, 3) := by decide +kernel
theorem dX6_swaps_21 : decode cX6_swaps 21 = .ok (.iconst (-1), 1) := by decide +kernel
theorem dX6_swaps_22 : decode cX6_swaps 22 = .ok (.ireturn, 1) := by decide +kernel
theorem dX6_swaps_23 : decode cX6_swaps 23 = .ok (.aload_n 0, 1) := by decide +kernel
theorem dX6_swaps_24 : decode cX6_swaps 24 = .ok (.getfield 29, 3) := by decide +kernel
theorem dX6_swaps_27 : decode cX6_swaps 27 = .ok (.iload_n 1, 1) := by decide +kernel
theorem dX6_swaps_28 : decode cX6_swaps 28 = .ok (.iaload, 1) := by decide +kernel
theorem dX6_swaps_29 : decode cX6_swaps 29 = .ok (.aload_n 0, 1) := by decide +kernel
theorem dX6_swaps_30 : decode cX6_swaps 30 = .ok (.getfield 29, 3) := by decide +kernel
theorem dX6_swaps_33 : decode cX6_swaps 33 = .ok (.iload_n 2, 1) := by decide +kernel
theorem dX6_swaps_34 : decode cX6_swaps 34 = .ok (.iaload, 1) := by decide +kernel
theorem dX6_swaps_35 : decode cX6_swaps 35 = .ok (.if_icmp .ne 6, 3) := by decide +kernel
theorem dX6_swaps_38 : decode cX6_swaps 38 = .ok (.bipush (-2), 2) := by decide +kernel
theorem dX6_swaps_40 : decode cX6_swaps 40 = .ok (.ireturn, 1) := by decide +kernel
theorem dX6_swaps_41 : decode cX6_swaps 41 = .ok (.aload_n 0, 1) := by decide +kernel
theorem dX6_swaps_42 : decode cX6_swaps 42 = .ok (.iload_n 1, 1) := by decide +kernel
theorem dX6_swaps_43 : decode cX6_swaps 43 = .ok (.iload_n 2, 1) := by decide +kernel
theorem dX6_swaps_44 : decode cX6_swaps 44 = .ok (.invokevirtual 210, 3) := by decide +kernel
theorem dX6_swaps_47 : decode cX6_swaps 47 = .ok (.ifCond .eq 13, 3) := by decide +kernel
theorem dX6_swaps_50 : decode cX6_swaps 50 = .ok (.aload_n 0, 1) := by decide +kernel
theorem dX6_swaps_51 : decode cX6_swaps 51 = .ok (.invokevirtual 199, 3) := by decide +kernel
theorem dX6_swaps_54 : decode cX6_swaps 54 = .ok (.invokestatic 161, 3) := by decide +kernel
theorem dX6_swaps_57 : decode cX6_swaps 57 = .ok (.goto 5, 3) := by decide +kernel
theorem dX6_swaps_60 : decode cX6_swaps 60 = .ok (.bipush (-3), 2) := by decide +kernel
theorem dX6_swaps_62 : decode cX6_swaps 62 = .ok (.ireturn, 1) := by decide +kernel
set_option maxRecDepth 20000 in
theorem ggX6_bars_X6_isTeacher : GoodIn wsX6_bars wsX6_isTeacher := goodIn_r _ [9, 10, 11, 12, 8, 13] (by decide +kernel) (by decide +kernel)
set_option maxRecDepth 20000 in
theorem gX6_bars_X6_isTeacher : GoodIn wsX6_bars (va_wsS RX6 188 yX6_isTeacher wsX6_isTeacher) := goodIn_app (goodIn_of _ (by decide +kernel)) ggX6_bars_X6_isTeacher
set_option maxRecDepth 20000 in
theorem ggX6_bars_X6_isColumn : GoodIn wsX6_bars wsX6_isColumn := goodIn_r _ [17, 18, 11, 12, 8, 13, 22, 23, 24, 25, 26, 27, 28, 29, 30, 31, 32, 33, 34, 35, 36, 37, 38, 39, 40, 41, 42, 43, 44, 45, 46, 47, 48, 49, 50] (by decide +kernel) (by decide +kernel)
set_option maxRecDepth 20000 in
theorem gX6_bars_X6_isColumn : GoodIn wsX6_bars (wsV RX6 196 RX6 yX6_isColumn wsX6_isColumn) := goodIn_app (goodIn_of _ (by decide +kernel)) ggX6_bars_X6_isColumn
set_option maxRecDepth 20000 in
theorem ggX6_bars_X6_has : GoodIn wsX6_bars wsX6_has := goodIn_r _ [21] (by decide +kernel) (by decide +kernel)
set_option maxRecDepth 20000 in
theorem gX6_bars_X6_has : GoodIn wsX6_bars (va_wsS RX6 93 yX6_has wsX6_has) := goodIn_app (goodIn_of _ (by decide +kernel)) ggX6_bars_X6_has
theorem dX6_bars_0 : decode cX6_bars 0 = .ok (.aload_n 0, 1) := by decide +kernel
theorem dX6_bars_1 : decode cX6_bars 1 = .ok (.iconst 0, 1) := by decide +kernel
theorem dX6_bars_2 : decode cX6_bars 2 = .ok (.putfield 62, 3) := by decide +kernel
theorem dX6_bars_5 : decode cX6_bars 5 = .ok (.iload_n 1, 1) := by decide +kernel
theorem dX6_bars_6 : decode cX6_bars 6 = .ok (.invokestatic 188, 3) := by decide +kernel
theorem dX6_bars_9 : decode cX6_bars 9 = .ok (.ifCond .eq 11, 3) := by decide +kernel
theorem dX6_bars_12 : decode cX6_bars 12 = .ok (.aload_n 0, 1) := by decide +kernel
theorem dX6_bars_13 : decode cX6_bars 13 = .ok (.iload_n 2, 1) := by decide +kernel
theorem dX6_bars_14 : decode cX6_bars 14 = .ok (.invokevirtual 196, 3) := by decide +kernel
theorem dX6_bars_17 : decode cX6_bars 17 = .ok (.ifCond .ne 5, 3) := by decide +kernel
theorem dX6_bars_20 : decode cX6_bars 20 = .ok (.iconst (-1), 1) := by decide +kernel
theorem dX6_bars_21 : decode cX6_bars 21 = .ok (.ireturn, 1) := by decide +kernel
theorem dX6_bars_22 : decode cX6_bars 22 = .ok (.aload_n 0, 1) := by decide +kernel
theorem dX6_bars_23 : decode cX6_bars 23 = .ok (.getfield 32, 3) := by decide +kernel
theorem dX6_bars_26 : decode cX6_bars 26 = .ok (.iload_n 1, 1) := by decide +kernel
theorem dX6_bars_27 : decode cX6_bars 27 = .ok (.iaload, 1) := by decide +kernel
theorem dX6_bars_28 : decode cX6_bars 28 = .ok (.iload_n 2, 1) := by decide +kernel
theorem dX6_bars_29 : decode cX6_bars 29 = .ok (.invokestatic 93, 3) := by decide +kernel
theorem dX6_bars_32 : decode cX6_bars 32 = .ok (.iload_n 3, 1) := by decide +kernel
theorem dX6_bars_33 : decode cX6_bars 33 = .ok (.if_icmp .ne 6, 3) := by decide +kernel
theorem dX6_bars_36 : decode cX6_bars 36 = .ok (.bipush (-2), 2) := by decide +kernel
theorem dX6_bars_38 : decode cX6_bars 38 = .ok (.ireturn, 1) := by decide +kernel
theorem dX6_bars_39 : decode cX6_bars 39 = .ok (.iconst 0, 1) := by decide +kernel
theorem dX6_bars_40 : decode cX6_bars 40 = .ok (.istore 4, 2) := by decide +kernel
theorem dX6_bars_42 : decode cX6_bars 42 = .ok (.iload 4, 2) := by decide +kernel
theorem dX6_bars_44 : decode cX6_bars 44 = .ok (.aload_n 0, 1) := by decide +kernel
theorem dX6_bars_45 : decode cX6_bars 45 = .ok (.getfield 87, 3) := by decide +kernel
theorem dX6_bars_48 : decode cX6_bars 48 = .ok (.if_icmp .ge 38, 3) := by decide +kernel
theorem dX6_bars_51 : decode cX6_bars 51 = .ok (.iload_n 3, 1) := by decide +kernel
theorem dX6_bars_52 : decode cX6_bars 52 = .ok (.ifCond .eq 28, 3) := by decide +kernel
theorem dX6_bars_55 : decode cX6_bars 55 = .ok (.aload_n 0, 1) := by decide +kernel
theorem dX6_bars_56 : decode cX6_bars 56 = .ok (.getfield 23, 3) := by decide +kernel
theorem dX6_bars_59 : decode cX6_bars 59 = .ok (.iload 4, 2) := by decide +kernel
theorem dX6_bars_61 : decode cX6_bars 61 = .ok (.iaload, 1) := by decide +kernel
theorem dX6_bars_62 : decode cX6_bars 62 = .ok (.iload_n 1, 1) := by decide +kernel
theorem dX6_bars_63 : decode cX6_bars 63 = .ok (.if_icmp .ne 17, 3) := by decide +kernel
theorem dX6_bars_66 : decode cX6_bars 66 = .ok (.aload_n 0, 1) := by decide +kernel
theorem dX6_bars_67 : decode cX6_bars 67 = .ok (.getfield 29, 3) := by decide +kernel
theorem dX6_bars_70 : decode cX6_bars 70 = .ok (.iload 4, 2) := by decide +kernel
theorem dX6_bars_72 : decode cX6_bars 72 = .ok (.iaload, 1) := by decide +kernel
theorem dX6_bars_73 : decode cX6_bars 73 = .ok (.iload_n 2, 1) := by decide +kernel
theorem dX6_bars_74 : decode cX6_bars 74 = .ok (.if_icmp .ne 6, 3) := by decide +kernel
theorem dX6_bars_77 : decode cX6_bars 77 = .ok (.bipush (-3), 2) := by decide +kernel
theorem dX6_bars_79 : decode cX6_bars 79 = .ok (.ireturn, 1) := by decide +kernel
theorem dX6_bars_80 : decode cX6_bars 80 = .ok (.iinc 4 1, 3) := by decide +kernel
theorem dX6_bars_83 : decode cX6_bars 83 = .ok (.goto (-41), 3) := by decide +kernel
theorem dX6_bars_86 : decode cX6_bars 86 = .ok (.aload_n 0, 1) := by decide +kernel
theorem dX6_bars_87 : decode cX6_bars 87 = .ok (.getfield 32, 3) := by decide +kernel
theorem dX6_bars_90 : decode cX6_bars 90 = .ok (.iload_n 1, 1) := by decide +kernel
theorem dX6_bars_91 : decode cX6_bars 91 = .ok (.dup2, 1) := by decide +kernel
theorem dX6_bars_92 : decode cX6_bars 92 = .ok (.iaload, 1) := by decide +kernel
theorem dX6_bars_93 : decode cX6_bars 93 = .ok (.iconst 1, 1) := by decide +kernel
theorem dX6_bars_94 : decode cX6_bars 94 = .ok (.iload_n 2, 1) := by decide +kernel
theorem dX6_bars_95 : decode cX6_bars 95 = .ok (.ishl, 1) := by decide +kernel
theorem dX6_bars_96 : decode cX6_bars 96 = .ok (.ixor, 1) := by decide +kernel
theorem dX6_bars_97 : decode cX6_bars 97 = .ok (.iastore, 1) := by decide +kernel
theorem dX6_bars_98 : decode cX6_bars 98 = .ok (.aload_n 0, 1) := by decide +kernel
theorem dX6_bars_99 : decode cX6_bars 99 = .ok (.getfield 32, 3) := by decide +kernel
theorem dX6_bars_102 : decode cX6_bars 102 = .ok (.iload_n 1, 1) := by decide +kernel
theorem dX6_bars_103 : decode cX6_bars 103 = .ok (.iaload, 1) := by decide +kernel
theorem dX6_bars_104 : decode cX6_bars 104 = .ok (.ireturn, 1) := by decide +kernel
theorem dX6_inColumn_0 : decode cX6_inColumn 0 = .ok (.iconst 0, 1) := by decide +kernel
theorem dX6_inColumn_1 : decode cX6_inColumn 1 = .ok (.istore_n 2, 1) := by decide +kernel
theorem dX6_inColumn_2 : decode cX6_inColumn 2 = .ok (.iconst 0, 1) := by decide +kernel
theorem dX6_inColumn_3 : decode cX6_inColumn 3 = .ok (.istore_n 3, 1) := by decide +kernel
theorem dX6_inColumn_4 : decode cX6_inColumn 4 = .ok (.iload_n 3, 1) := by decide +kernel
theorem dX6_inColumn_5 : decode cX6_inColumn 5 = .ok (.aload_n 0, 1) := by decide +kernel
theorem dX6_inColumn_6 : decode cX6_inColumn 6 = .ok (.getfield 87, 3) := by decide +kernel
theorem dX6_inColumn_9 : decode cX6_inColumn 9 = .ok (.if_icmp .ge 29, 3) := by decide +kernel
theorem dX6_inColumn_12 : decode cX6_inColumn 12 = .ok (.iload_n 2, 1) := by decide +kernel
theorem dX6_inColumn_13 : decode cX6_inColumn 13 = .ok (.aload_n 0, 1) := by decide +kernel
theorem dX6_inColumn_14 : decode cX6_inColumn 14 = .ok (.getfield 29, 3) := by decide +kernel
theorem dX6_inColumn_17 : decode cX6_inColumn 17 = .ok (.iload_n 3, 1) := by decide +kernel
theorem dX6_inColumn_18 : decode cX6_inColumn 18 = .ok (.iaload, 1) := by decide +kernel
theorem dX6_inColumn_19 : decode cX6_inColumn 19 = .ok (.iload_n 1, 1) := by decide +kernel
theorem dX6_inColumn_20 : decode cX6_inColumn 20 = .ok (.if_icmp .ne 9, 3) := by decide +kernel
theorem dX6_inColumn_23 : decode cX6_inColumn 23 = .ok (.iconst 1, 1) := by decide +kernel
theorem dX6_inColumn_24 : decode cX6_inColumn 24 = .ok (.iload_n 3, 1) := by decide +kernel
theorem dX6_inColumn_25 : decode cX6_inColumn 25 = .ok (.ishl, 1) := by decide +kernel
theorem dX6_inColumn_26 : decode cX6_inColumn 26 = .ok (.goto 4, 3) := by decide +kernel
theorem dX6_inColumn_29 : decode cX6_inColumn 29 = .ok (.iconst 0, 1) := by decide +kernel
theorem dX6_inColumn_30 : decode cX6_inColumn 30 = .ok (.ior, 1) := by decide +kernel
theorem dX6_inColumn_31 : decode cX6_inColumn 31 = .ok (.istore_n 2, 1) := by decide +kernel
theorem dX6_inColumn_32 : decode cX6_inColumn 32 = .ok (.iinc 3 1, 3) := by decide +kernel
theorem dX6_inColumn_35 : decode cX6_inColumn 35 = .ok (.goto (-31), 3) := by decide +kernel
theorem dX6_inColumn_38 : decode cX6_inColumn 38 = .ok (.iload_n 2, 1) := by decide +kernel
theorem dX6_inColumn_39 : decode cX6_inColumn 39 = .ok (.ireturn, 1) := by decide +kernel
set_option maxRecDepth 20000 in
theorem ggX6_rooms_X6_in : GoodIn wsX6_rooms wsX6_in := goodIn_r _ [8] (by decide +kernel) (by decide +kernel)
set_option maxRecDepth 20000 in
theorem gX6_rooms_X6_in : GoodIn wsX6_rooms (va_wsS RX6 81 yX6_in wsX6_in) := goodIn_app (goodIn_of _ (by decide +kernel)) ggX6_rooms_X6_in
set_option maxRecDepth 20000 in
theorem ggX6_rooms_X6_inColumn : GoodIn wsX6_rooms wsX6_inColumn := goodIn_r _ [12, 13, 14, 25, 26, 27, 28, 29, 30, 31, 32, 33, 34, 35, 36, 37, 38, 39, 40, 41, 42, 43, 44, 45, 46, 47, 48, 49, 50, 51, 52, 53] (by decide +kernel) (by decide +kernel)
set_option maxRecDepth 20000 in
theorem gX6_rooms_X6_inColumn : GoodIn wsX6_rooms (wsV RX6 213 RX6 yX6_inColumn wsX6_inColumn) := goodIn_app (goodIn_of _ (by decide +kernel)) ggX6_rooms_X6_inColumn
set_option maxRecDepth 20000 in
theorem ggX6_rooms_X6_bits : GoodIn wsX6_rooms wsX6_bits := goodIn_r _ [17, 18, 19, 20, 21, 22, 23, 24] (by decide +kernel) (by decide +kernel)
set_option maxRecDepth 20000 in
theorem gX6_rooms_X6_bits : GoodIn wsX6_rooms (va_wsS RX6 161 yX6_bits wsX6_bits) := goodIn_app (goodIn_of _ (by decide +kernel)) ggX6_rooms_X6_bits
theorem dX6_rooms_0 : decode cX6_rooms 0 = .ok (.aload_n 0, 1) := by decide +kernel
theorem dX6_rooms_1 : decode cX6_rooms 1 = .ok (.iconst 0, 1) := by decide +kernel
theorem dX6_rooms_2 : decode cX6_rooms 2 = .ok (.putfield 62, 3) := by decide +kernel
theorem dX6_rooms_5 : decode cX6_rooms 5 = .ok (.iload_n 1, 1) := by decide +kernel
theorem dX6_rooms_6 : decode cX6_rooms 6 = .ok (.i2l, 1) := by decide +kernel
theorem dX6_rooms_7 : decode cX6_rooms 7 = .ok (.lconst 1, 1) := by decide +kernel
theorem dX6_rooms_8 : decode cX6_rooms 8 = .ok (.ldc2_w 85, 3) := by decide +kernel
theorem dX6_rooms_11 : decode cX6_rooms 11 = .ok (.invokestatic 81, 3) := by decide +kernel
theorem dX6_rooms_14 : decode cX6_rooms 14 = .ok (.ifCond .ne 5, 3) := by decide +kernel
theorem dX6_rooms_17 : decode cX6_rooms 17 = .ok (.iconst (-1), 1) := by decide +kernel
theorem dX6_rooms_18 : decode cX6_rooms 18 = .ok (.ireturn, 1) := by decide +kernel
theorem dX6_rooms_19 : decode cX6_rooms 19 = .ok (.iconst 0, 1) := by decide +kernel
theorem dX6_rooms_20 : decode cX6_rooms 20 = .ok (.istore_n 2, 1) := by decide +kernel
theorem dX6_rooms_21 : decode cX6_rooms 21 = .ok (.iload_n 2, 1) := by decide +kernel
theorem dX6_rooms_22 : decode cX6_rooms 22 = .ok (.aload_n 0, 1) := by decide +kernel
theorem dX6_rooms_23 : decode cX6_rooms 23 = .ok (.getfield 13, 3) := by decide +kernel
theorem dX6_rooms_26 : decode cX6_rooms 26 = .ok (.if_icmp .ge 24, 3) := by decide +kernel
theorem dX6_rooms_29 : decode cX6_rooms 29 = .ok (.aload_n 0, 1) := by decide +kernel
theorem dX6_rooms_30 : decode cX6_rooms 30 = .ok (.iload_n 2, 1) := by decide +kernel
theorem dX6_rooms_31 : decode cX6_rooms 31 = .ok (.invokevirtual 213, 3) := by decide +kernel
theorem dX6_rooms_34 : decode cX6_rooms 34 = .ok (.invokestatic 161, 3) := by decide +kernel
theorem dX6_rooms_37 : decode cX6_rooms 37 = .ok (.iload_n 1, 1) := by decide +kernel
theorem dX6_rooms_38 : decode cX6_rooms 38 = .ok (.if_icmp .le 6, 3) := by decide +kernel
theorem dX6_rooms_41 : decode cX6_rooms 41 = .ok (.bipush (-3), 2) := by decide +kernel
theorem dX6_rooms_43 : decode cX6_rooms 43 = .ok (.ireturn, 1) := by decide +kernel
theorem dX6_rooms_44 : decode cX6_rooms 44 = .ok (.iinc 2 1, 3) := by decide +kernel
theorem dX6_rooms_47 : decode cX6_rooms 47 = .ok (.goto (-26), 3) := by decide +kernel
theorem dX6_rooms_50 : decode cX6_rooms 50 = .ok (.aload_n 0, 1) := by decide +kernel
theorem dX6_rooms_51 : decode cX6_rooms 51 = .ok (.getfield 17, 3) := by decide +kernel
theorem dX6_rooms_54 : decode cX6_rooms 54 = .ok (.istore_n 2, 1) := by decide +kernel
theorem dX6_rooms_55 : decode cX6_rooms 55 = .ok (.aload_n 0, 1) := by decide +kernel
theorem dX6_rooms_56 : decode cX6_rooms 56 = .ok (.iload_n 1, 1) := by decide +kernel
theorem dX6_rooms_57 : decode cX6_rooms 57 = .ok (.putfield 17, 3) := by decide +kernel
theorem dX6_rooms_60 : decode cX6_rooms 60 = .ok (.iload_n 2, 1) := by decide +kernel
theorem dX6_rooms_61 : decode cX6_rooms 61 = .ok (.ireturn, 1) := by decide +kernel
set_option maxRecDepth 20000 in
theorem ggX6_chooses_X6_isPupil : GoodIn wsX6_chooses wsX6_isPupil := goodIn_r _ [8, 9, 10, 11, 7, 12, 30, 31, 32, 33, 34, 35, 36, 37, 38, 39, 40, 41, 42, 43, 44, 45, 46, 47, 48, 49, 50, 51, 52, 53, 54, 55, 56, 57, 58] (by decide +kernel) (by decide +kernel)
set_option maxRecDepth 20000 in
theorem gX6_chooses_X6_isPupil : GoodIn wsX6_chooses (wsV RX6 216 RX6 yX6_isPupil wsX6_isPupil) := goodIn_app (goodIn_of _ (by decide +kernel)) ggX6_chooses_X6_isPupil
set_option maxRecDepth 20000 in
theorem ggX6_chooses_X6_isSubject : GoodIn wsX6_chooses wsX6_isSubject := goodIn_r _ [15, 16, 10, 11, 7, 12] (by decide +kernel) (by decide +kernel)
set_option maxRecDepth 20000 in
theorem gX6_chooses_X6_isSubject : GoodIn wsX6_chooses (va_wsS RX6 185 yX6_isSubject wsX6_isSubject) := goodIn_app (goodIn_of _ (by decide +kernel)) ggX6_chooses_X6_isSubject
set_option maxRecDepth 20000 in
theorem ggX6_chooses_X6_has : GoodIn wsX6_chooses wsX6_has := goodIn_r _ [19] (by decide +kernel) (by decide +kernel)
set_option maxRecDepth 20000 in
theorem gX6_chooses_X6_has : GoodIn wsX6_chooses (va_wsS RX6 93 yX6_has wsX6_has) := goodIn_app (goodIn_of _ (by decide +kernel)) ggX6_chooses_X6_has
set_option maxRecDepth 20000 in
theorem ggX6_chooses_X6_bits : GoodIn wsX6_chooses wsX6_bits := goodIn_r _ [22, 23, 24, 25, 26, 27, 28, 29] (by decide +kernel) (by decide +kernel)
set_option maxRecDepth 20000 in
theorem gX6_chooses_X6_bits : GoodIn wsX6_chooses (va_wsS RX6 161 yX6_bits wsX6_bits) := goodIn_app (goodIn_of _ (by decide +kernel)) ggX6_chooses_X6_bits
set_option maxRecDepth 20000 in
theorem ggX6_chooses_X6_in : GoodIn wsX6_chooses wsX6_in := goodIn_r _ [12] (by decide +kernel) (by decide +kernel)
set_option maxRecDepth 20000 in
theorem gX6_chooses_X6_in : GoodIn wsX6_chooses (va_wsS RX6 81 yX6_in wsX6_in) := goodIn_app (goodIn_of _ (by decide +kernel)) ggX6_chooses_X6_in
theorem dX6_chooses_0 : decode cX6_chooses 0 = .ok (.aload_n 0, 1) := by decide +kernel
theorem dX6_chooses_1 : decode cX6_chooses 1 = .ok (.iconst 0, 1) := by decide +kernel
theorem dX6_chooses_2 : decode cX6_chooses 2 = .ok (.putfield 62, 3) := by decide +kernel
theorem dX6_chooses_5 : decode cX6_chooses 5 = .ok (.aload_n 0, 1) := by decide +kernel
theorem dX6_chooses_6 : decode cX6_chooses 6 = .ok (.iload_n 1, 1) := by decide +kernel
theorem dX6_chooses_7 : decode cX6_chooses 7 = .ok (.invokevirtual 216, 3) := by decide +kernel
theorem dX6_chooses_10 : decode cX6_chooses 10 = .ok (.ifCond .eq 10, 3) := by decide +kernel
theorem dX6_chooses_13 : decode cX6_chooses 13 = .ok (.iload_n 2, 1) := by decide +kernel
theorem dX6_chooses_14 : decode cX6_chooses 14 = .ok (.invokestatic 185, 3) := by decide +kernel
theorem dX6_chooses_17 : decode cX6_chooses 17 = .ok (.ifCond .ne 5, 3) := by decide +kernel
theorem dX6_chooses_20 : decode cX6_chooses 20 = .ok (.iconst (-1), 1) := by decide +kernel
theorem dX6_chooses_21 : decode cX6_chooses 21 = .ok (.ireturn, 1) := by decide +kernel
theorem dX6_chooses_22 : decode cX6_chooses 22 = .ok (.aload_n 0, 1) := by decide +kernel
theorem dX6_chooses_23 : decode cX6_chooses 23 = .ok (.getfield 35, 3) := by decide +kernel
theorem dX6_chooses_26 : decode cX6_chooses 26 = .ok (.iload_n 1, 1) := by decide +kernel
theorem dX6_chooses_27 : decode cX6_chooses 27 = .ok (.iaload, 1) := by decide +kernel
theorem dX6_chooses_28 : decode cX6_chooses 28 = .ok (.iload_n 2, 1) := by decide +kernel
theorem dX6_chooses_29 : decode cX6_chooses 29 = .ok (.invokestatic 93, 3) := by decide +kernel
theorem dX6_chooses_32 : decode cX6_chooses 32 = .ok (.iload_n 3, 1) := by decide +kernel
theorem dX6_chooses_33 : decode cX6_chooses 33 = .ok (.if_icmp .ne 6, 3) := by decide +kernel
theorem dX6_chooses_36 : decode cX6_chooses 36 = .ok (.bipush (-2), 2) := by decide +kernel
theorem dX6_chooses_38 : decode cX6_chooses 38 = .ok (.ireturn, 1) := by decide +kernel
theorem dX6_chooses_39 : decode cX6_chooses 39 = .ok (.aload_n 0, 1) := by decide +kernel
theorem dX6_chooses_40 : decode cX6_chooses 40 = .ok (.getfield 35, 3) := by decide +kernel
theorem dX6_chooses_43 : decode cX6_chooses 43 = .ok (.iload_n 1, 1) := by decide +kernel
theorem dX6_chooses_44 : decode cX6_chooses 44 = .ok (.iaload, 1) := by decide +kernel
theorem dX6_chooses_45 : decode cX6_chooses 45 = .ok (.iconst 1, 1) := by decide +kernel
theorem dX6_chooses_46 : decode cX6_chooses 46 = .ok (.iload_n 2, 1) := by decide +kernel
theorem dX6_chooses_47 : decode cX6_chooses 47 = .ok (.ishl, 1) := by decide +kernel
theorem dX6_chooses_48 : decode cX6_chooses 48 = .ok (.ixor, 1) := by decide +kernel
theorem dX6_chooses_49 : decode cX6_chooses 49 = .ok (.istore 4, 2) := by decide +kernel
theorem dX6_chooses_51 : decode cX6_chooses 51 = .ok (.iload 4, 2) := by decide +kernel
theorem dX6_chooses_53 : decode cX6_chooses 53 = .ok (.invokestatic 161, 3) := by decide +kernel
theorem dX6_chooses_56 : decode cX6_chooses 56 = .ok (.i2l, 1) := by decide +kernel
theorem dX6_chooses_57 : decode cX6_chooses 57 = .ok (.lconst 1, 1) := by decide +kernel
theorem dX6_chooses_58 : decode cX6_chooses 58 = .ok (.ldc2_w 219, 3) := by decide +kernel
theorem dX6_chooses_61 : decode cX6_chooses 61 = .ok (.invokestatic 81, 3) := by decide +kernel
theorem dX6_chooses_64 : decode cX6_chooses 64 = .ok (.ifCond .ne 6, 3) := by decide +kernel
theorem dX6_chooses_67 : decode cX6_chooses 67 = .ok (.bipush (-3), 2) := by decide +kernel
theorem dX6_chooses_69 : decode cX6_chooses 69 = .ok (.ireturn, 1) := by decide +kernel
theorem dX6_chooses_70 : decode cX6_chooses 70 = .ok (.aload_n 0, 1) := by decide +kernel
theorem dX6_chooses_71 : decode cX6_chooses 71 = .ok (.getfield 35, 3) := by decide +kernel
theorem dX6_chooses_74 : decode cX6_chooses 74 = .ok (.iload_n 1, 1) := by decide +kernel
theorem dX6_chooses_75 : decode cX6_chooses 75 = .ok (.iload 4, 2) := by decide +kernel
theorem dX6_chooses_77 : decode cX6_chooses 77 = .ok (.iastore, 1) := by decide +kernel
theorem dX6_chooses_78 : decode cX6_chooses 78 = .ok (.iload 4, 2) := by decide +kernel
theorem dX6_chooses_80 : decode cX6_chooses 80 = .ok (.ireturn, 1) := by decide +kernel
set_option maxRecDepth 20000 in
theorem ggX6_keeps_X6_isPupil : GoodIn wsX6_keeps wsX6_isPupil := goodIn_r _ [7, 8, 9, 10, 6, 11, 25, 26, 27, 28, 29, 30, 31, 32, 33, 34, 35, 36, 37, 38, 39, 40, 41, 42, 43, 44, 45, 46, 47, 48, 49, 50, 51, 52, 53] (by decide +kernel) (by decide +kernel)
set_option maxRecDepth 20000 in
theorem gX6_keeps_X6_isPupil : GoodIn wsX6_keeps (wsV RX6 216 RX6 yX6_isPupil wsX6_isPupil) := goodIn_app (goodIn_of _ (by decide +kernel)) ggX6_keeps_X6_isPupil
set_option maxRecDepth 20000 in
theorem ggX6_keeps_X6_has : GoodIn wsX6_keeps wsX6_has := goodIn_r _ [14] (by decide +kernel) (by decide +kernel)
set_option maxRecDepth 20000 in
theorem gX6_keeps_X6_has : GoodIn wsX6_keeps (va_wsS RX6 93 yX6_has wsX6_has) := goodIn_app (goodIn_of _ (by decide +kernel)) ggX6_keeps_X6_has
set_option maxRecDepth 20000 in
theorem ggX6_keeps_X6_bits : GoodIn wsX6_keeps wsX6_bits := goodIn_r _ [17, 18, 19, 20, 21, 22, 23, 24] (by decide +kernel) (by decide +kernel)
set_option maxRecDepth 20000 in
theorem gX6_keeps_X6_bits : GoodIn wsX6_keeps (va_wsS RX6 161 yX6_bits wsX6_bits) := goodIn_app (goodIn_of _ (by decide +kernel)) ggX6_keeps_X6_bits
theorem dX6_keeps_0 : decode cX6_keeps 0 = .ok (.aload_n 0, 1) := by decide +kernel
theorem dX6_keeps_1 : decode cX6_keeps 1 = .ok (.iconst 0, 1) := by decide +kernel
theorem dX6_keeps_2 : decode cX6_keeps 2 = .ok (.putfield 62, 3) := by decide +kernel
theorem dX6_keeps_5 : decode cX6_keeps 5 = .ok (.aload_n 0, 1) := by decide +kernel
theorem dX6_keeps_6 : decode cX6_keeps 6 = .ok (.iload_n 1, 1) := by decide +kernel
theorem dX6_keeps_7 : decode cX6_keeps 7 = .ok (.invokevirtual 216, 3) := by decide +kernel
theorem dX6_keeps_10 : decode cX6_keeps 10 = .ok (.ifCond .ne 5, 3) := by decide +kernel
theorem dX6_keeps_13 : decode cX6_keeps 13 = .ok (.iconst (-1), 1) := by decide +kernel
theorem dX6_keeps_14 : decode cX6_keeps 14 = .ok (.ireturn, 1) := by decide +kernel
theorem dX6_keeps_15 : decode cX6_keeps 15 = .ok (.aload_n 0, 1) := by decide +kernel
theorem dX6_keeps_16 : decode cX6_keeps 16 = .ok (.getfield 158, 3) := by decide +kernel
theorem dX6_keeps_19 : decode cX6_keeps 19 = .ok (.iload_n 1, 1) := by decide +kernel
theorem dX6_keeps_20 : decode cX6_keeps 20 = .ok (.invokestatic 93, 3) := by decide +kernel
theorem dX6_keeps_23 : decode cX6_keeps 23 = .ok (.iload_n 2, 1) := by decide +kernel
theorem dX6_keeps_24 : decode cX6_keeps 24 = .ok (.if_icmp .ne 6, 3) := by decide +kernel
theorem dX6_keeps_27 : decode cX6_keeps 27 = .ok (.bipush (-2), 2) := by decide +kernel
theorem dX6_keeps_29 : decode cX6_keeps 29 = .ok (.ireturn, 1) := by decide +kernel
theorem dX6_keeps_30 : decode cX6_keeps 30 = .ok (.aload_n 0, 1) := by decide +kernel
theorem dX6_keeps_31 : decode cX6_keeps 31 = .ok (.dup, 1) := by decide +kernel
theorem dX6_keeps_32 : decode cX6_keeps 32 = .ok (.getfield 158, 3) := by decide +kernel
theorem dX6_keeps_35 : decode cX6_keeps 35 = .ok (.iconst 1, 1) := by decide +kernel
theorem dX6_keeps_36 : decode cX6_keeps 36 = .ok (.iload_n 1, 1) := by decide +kernel
theorem dX6_keeps_37 : decode cX6_keeps 37 = .ok (.ishl, 1) := by decide +kernel
theorem dX6_keeps_38 : decode cX6_keeps 38 = .ok (.ixor, 1) := by decide +kernel
theorem dX6_keeps_39 : decode cX6_keeps 39 = .ok (.putfield 158, 3) := by decide +kernel
theorem dX6_keeps_42 : decode cX6_keeps 42 = .ok (.aload_n 0, 1) := by decide +kernel
theorem dX6_keeps_43 : decode cX6_keeps 43 = .ok (.getfield 158, 3) := by decide +kernel
theorem dX6_keeps_46 : decode cX6_keeps 46 = .ok (.invokestatic 161, 3) := by decide +kernel
theorem dX6_keeps_49 : decode cX6_keeps 49 = .ok (.ireturn, 1) := by decide +kernel
set_option maxRecDepth 20000 in
theorem ggX6_section_X6_isSection : GoodIn wsX6_section wsX6_isSection := goodIn_r _ [10, 11, 12, 13, 9, 14, 15, 16, 17, 18, 19, 20, 21, 22, 23, 24, 25, 26, 27, 28, 29, 30, 31, 32, 33, 34, 35, 36, 37, 38, 39, 40, 41, 42, 43] (by decide +kernel) (by decide +kernel)
set_option maxRecDepth 20000 in
theorem gX6_section_X6_isSection : GoodIn wsX6_section (wsV RX6 193 RX6 yX6_isSection wsX6_isSection) := goodIn_app (goodIn_of _ (by decide +kernel)) ggX6_section_X6_isSection
theorem dX6_section_0 : decode cX6_section 0 = .ok (.aload_n 0, 1) := by decide +kernel
theorem dX6_section_1 : decode cX6_section 1 = .ok (.iconst 0, 1) := by decide +kernel
theorem dX6_section_2 : decode cX6_section 2 = .ok (.putfield 62, 3) := by decide +kernel
theorem dX6_section_5 : decode cX6_section 5 = .ok (.aload_n 0, 1) := by decide +kernel
theorem dX6_section_6 : decode cX6_section 6 = .ok (.iload_n 1, 1) := by decide +kernel
theorem dX6_section_7 : decode cX6_section 7 = .ok (.invokevirtual 193, 3) := by decide +kernel
theorem dX6_section_10 : decode cX6_section 10 = .ok (.ifCond .ne 5, 3) := by decide +kernel
theorem dX6_section_13 : decode cX6_section 13 = .ok (.iconst (-1), 1) := by decide +kernel
theorem dX6_section_14 : decode cX6_section 14 = .ok (.ireturn, 1) := by decide +kernel
theorem dX6_section_15 : decode cX6_section 15 = .ok (.iload_n 2, 1) := by decide +kernel
theorem dX6_section_16 : decode cX6_section 16 = .ok (.tableswitch 60 0 3 #[32, 39, 46, 53], 32) := by decide +kernel
theorem dX6_section_48 : decode cX6_section 48 = .ok (.aload_n 0, 1) := by decide +kernel
theorem dX6_section_49 : decode cX6_section 49 = .ok (.getfield 20, 3) := by decide +kernel
theorem dX6_section_52 : decode cX6_section 52 = .ok (.iload_n 1, 1) := by decide +kernel
theorem dX6_section_53 : decode cX6_section 53 = .ok (.iaload, 1) := by decide +kernel
theorem dX6_section_54 : decode cX6_section 54 = .ok (.ireturn, 1) := by decide +kernel
theorem dX6_section_55 : decode cX6_section 55 = .ok (.aload_n 0, 1) := by decide +kernel
theorem dX6_section_56 : decode cX6_section 56 = .ok (.getfield 23, 3) := by decide +kernel
theorem dX6_section_59 : decode cX6_section 59 = .ok (.iload_n 1, 1) := by decide +kernel
theorem dX6_section_60 : decode cX6_section 60 = .ok (.iaload, 1) := by decide +kernel
theorem dX6_section_61 : decode cX6_section 61 = .ok (.ireturn, 1) := by decide +kernel
theorem dX6_section_62 : decode cX6_section 62 = .ok (.aload_n 0, 1) := by decide +kernel
theorem dX6_section_63 : decode cX6_section 63 = .ok (.getfield 26, 3) := by decide +kernel
theorem dX6_section_66 : decode cX6_section 66 = .ok (.iload_n 1, 1) := by decide +kernel
theorem dX6_section_67 : decode cX6_section 67 = .ok (.iaload, 1) := by decide +kernel
theorem dX6_section_68 : decode cX6_section 68 = .ok (.ireturn, 1) := by decide +kernel
theorem dX6_section_69 : decode cX6_section 69 = .ok (.aload_n 0, 1) := by decide +kernel
theorem dX6_section_70 : decode cX6_section 70 = .ok (.getfield 29, 3) := by decide +kernel
theorem dX6_section_73 : decode cX6_section 73 = .ok (.iload_n 1, 1) := by decide +kernel
theorem dX6_section_74 : decode cX6_section 74 = .ok (.iaload, 1) := by decide +kernel
theorem dX6_section_75 : decode cX6_section 75 = .ok (.ireturn, 1) := by decide +kernel
theorem dX6_section_76 : decode cX6_section 76 = .ok (.iconst (-1), 1) := by decide +kernel
theorem dX6_section_77 : decode cX6_section 77 = .ok (.ireturn, 1) := by decide +kernel
set_option maxRecDepth 20000 in
theorem ggX6_column_X6_isColumn : GoodIn wsX6_column wsX6_isColumn := goodIn_r _ [8, 9, 10, 11, 7, 12, 45, 46, 47, 48, 49, 50, 51, 52, 53, 54, 55, 56, 57, 58, 59, 60, 61, 62, 63, 64, 65, 66, 67, 68, 69, 70, 71, 72, 73] (by decide +kernel) (by decide +kernel)
set_option maxRecDepth 20000 in
theorem gX6_column_X6_isColumn : GoodIn wsX6_column (wsV RX6 196 RX6 yX6_isColumn wsX6_isColumn) := goodIn_app (goodIn_of _ (by decide +kernel)) ggX6_column_X6_isColumn
set_option maxRecDepth 20000 in
theorem ggX6_column_X6_inColumn : GoodIn wsX6_column wsX6_inColumn := goodIn_r _ [16, 2, 17, 45, 46, 47, 48, 49, 50, 51, 52, 53, 54, 55, 56, 57, 58, 59, 60, 61, 62, 63, 64, 65, 66, 67, 68, 69, 70, 71, 72, 73] (by decide +kernel) (by decide +kernel)
set_option maxRecDepth 20000 in
theorem gX6_column_X6_inColumn : GoodIn wsX6_column (wsV RX6 213 RX6 yX6_inColumn wsX6_inColumn) := goodIn_app (goodIn_of _ (by decide +kernel)) ggX6_column_X6_inColumn
set_option maxRecDepth 20000 in
theorem ggX6_column_X6_has : GoodIn wsX6_column wsX6_has := goodIn_r _ [20] (by decide +kernel) (by decide +kernel)
set_option maxRecDepth 20000 in
theorem gX6_column_X6_has : GoodIn wsX6_column (va_wsS RX6 93 yX6_has wsX6_has) := goodIn_app (goodIn_of _ (by decide +kernel)) ggX6_column_X6_has
set_option maxRecDepth 20000 in
theorem ggX6_column_X6_bits : GoodIn wsX6_column wsX6_bits := goodIn_r _ [23, 24, 25, 26, 27, 28, 29, 30] (by decide +kernel) (by decide +kernel)
set_option maxRecDepth 20000 in
theorem gX6_column_X6_bits : GoodIn wsX6_column (va_wsS RX6 161 yX6_bits wsX6_bits) := goodIn_app (goodIn_of _ (by decide +kernel)) ggX6_column_X6_bits
set_option maxRecDepth 20000 in
theorem ggX6_column_X6_notesTwo : GoodIn wsX6_column wsX6_notesTwo := goodIn_r _ [34, 35, 36, 37, 7, 38, 39, 40, 41, 42, 43, 44, 45, 46, 47, 48, 49, 50, 51, 52, 53, 54, 55, 56, 57, 58, 59, 60, 61, 62, 63, 64, 65, 66, 67, 68, 69, 70, 71, 72, 73] (by decide +kernel) (by decide +kernel)
set_option maxRecDepth 20000 in
theorem gX6_column_X6_notesTwo : GoodIn wsX6_column (wsV RX6 221 RX6 yX6_notesTwo wsX6_notesTwo) := goodIn_app (goodIn_of _ (by decide +kernel)) ggX6_column_X6_notesTwo
theorem dX6_column_0 : decode cX6_column 0 = .ok (.aload_n 0, 1) := by decide +kernel
theorem dX6_column_1 : decode cX6_column 1 = .ok (.iconst 0, 1) := by decide +kernel
theorem dX6_column_2 : decode cX6_column 2 = .ok (.putfield 62, 3) := by decide +kernel
theorem dX6_column_5 : decode cX6_column 5 = .ok (.aload_n 0, 1) := by decide +kernel
theorem dX6_column_6 : decode cX6_column 6 = .ok (.iload_n 1, 1) := by decide +kernel
theorem dX6_column_7 : decode cX6_column 7 = .ok (.invokevirtual 196, 3) := by decide +kernel
theorem dX6_column_10 : decode cX6_column 10 = .ok (.ifCond .ne 5, 3) := by decide +kernel
theorem dX6_column_13 : decode cX6_column 13 = .ok (.iconst (-1), 1) := by decide +kernel
theorem dX6_column_14 : decode cX6_column 14 = .ok (.ireturn, 1) := by decide +kernel
theorem dX6_column_15 : decode cX6_column 15 = .ok (.aload_n 0, 1) := by decide +kernel
theorem dX6_column_16 : decode cX6_column 16 = .ok (.iload_n 1, 1) := by decide +kernel
theorem dX6_column_17 : decode cX6_column 17 = .ok (.invokevirtual 213, 3) := by decide +kernel
theorem dX6_column_20 : decode cX6_column 20 = .ok (.istore_n 2, 1) := by decide +kernel
theorem dX6_column_21 : decode cX6_column 21 = .ok (.iconst 0, 1) := by decide +kernel
theorem dX6_column_22 : decode cX6_column 22 = .ok (.istore_n 3, 1) := by decide +kernel
theorem dX6_column_23 : decode cX6_column 23 = .ok (.iconst 0, 1) := by decide +kernel
theorem dX6_column_24 : decode cX6_column 24 = .ok (.istore 4, 2) := by decide +kernel
theorem dX6_column_26 : decode cX6_column 26 = .ok (.iload 4, 2) := by decide +kernel
theorem dX6_column_28 : decode cX6_column 28 = .ok (.aload_n 0, 1) := by decide +kernel
theorem dX6_column_29 : decode cX6_column 29 = .ok (.getfield 87, 3) := by decide +kernel
theorem dX6_column_32 : decode cX6_column 32 = .ok (.if_icmp .ge 34, 3) := by decide +kernel
theorem dX6_column_35 : decode cX6_column 35 = .ok (.iload_n 3, 1) := by decide +kernel
theorem dX6_column_36 : decode cX6_column 36 = .ok (.iload_n 2, 1) := by decide +kernel
theorem dX6_column_37 : decode cX6_column 37 = .ok (.iload 4, 2) := by decide +kernel
theorem dX6_column_39 : decode cX6_column 39 = .ok (.invokestatic 93, 3) := by decide +kernel
theorem dX6_column_42 : decode cX6_column 42 = .ok (.ifCond .eq 15, 3) := by decide +kernel
theorem dX6_column_45 : decode cX6_column 45 = .ok (.iconst 1, 1) := by decide +kernel
theorem dX6_column_46 : decode cX6_column 46 = .ok (.aload_n 0, 1) := by decide +kernel
theorem dX6_column_47 : decode cX6_column 47 = .ok (.getfield 20, 3) := by decide +kernel
theorem dX6_column_50 : decode cX6_column 50 = .ok (.iload 4, 2) := by decide +kernel
theorem dX6_column_52 : decode cX6_column 52 = .ok (.iaload, 1) := by decide +kernel
theorem dX6_column_53 : decode cX6_column 53 = .ok (.ishl, 1) := by decide +kernel
theorem dX6_column_54 : decode cX6_column 54 = .ok (.goto 4, 3) := by decide +kernel
theorem dX6_column_57 : decode cX6_column 57 = .ok (.iconst 0, 1) := by decide +kernel
theorem dX6_column_58 : decode cX6_column 58 = .ok (.ior, 1) := by decide +kernel
theorem dX6_column_59 : decode cX6_column 59 = .ok (.istore_n 3, 1) := by decide +kernel
theorem dX6_column_60 : decode cX6_column 60 = .ok (.iinc 4 1, 3) := by decide +kernel
theorem dX6_column_63 : decode cX6_column 63 = .ok (.goto (-37), 3) := by decide +kernel
theorem dX6_column_66 : decode cX6_column 66 = .ok (.aload_n 0, 1) := by decide +kernel
theorem dX6_column_67 : decode cX6_column 67 = .ok (.iload_n 2, 1) := by decide +kernel
theorem dX6_column_68 : decode cX6_column 68 = .ok (.invokestatic 161, 3) := by decide +kernel
theorem dX6_column_71 : decode cX6_column 71 = .ok (.iload_n 3, 1) := by decide +kernel
theorem dX6_column_72 : decode cX6_column 72 = .ok (.invokevirtual 221, 3) := by decide +kernel
theorem dX6_column_75 : decode cX6_column 75 = .ok (.iload_n 2, 1) := by decide +kernel
theorem dX6_column_76 : decode cX6_column 76 = .ok (.ireturn, 1) := by decide +kernel
set_option maxRecDepth 20000 in
theorem ggX6_chose_X6_has : GoodIn wsX6_chose wsX6_has := goodIn_r _ [6] (by decide +kernel) (by decide +kernel)
set_option maxRecDepth 20000 in
theorem gX6_chose_X6_has : GoodIn wsX6_chose (va_wsS RX6 93 yX6_has wsX6_has) := goodIn_app (goodIn_of _ (by decide +kernel)) ggX6_chose_X6_has
theorem dX6_chose_0 : decode cX6_chose 0 = .ok (.iconst 0, 1) := by decide +kernel
theorem dX6_chose_1 : decode cX6_chose 1 = .ok (.istore_n 2, 1) := by decide +kernel
theorem dX6_chose_2 : decode cX6_chose 2 = .ok (.iconst 0, 1) := by decide +kernel
theorem dX6_chose_3 : decode cX6_chose 3 = .ok (.istore_n 3, 1) := by decide +kernel
theorem dX6_chose_4 : decode cX6_chose 4 = .ok (.iload_n 3, 1) := by decide +kernel
theorem dX6_chose_5 : decode cX6_chose 5 = .ok (.aload_n 0, 1) := by decide +kernel
theorem dX6_chose_6 : decode cX6_chose 6 = .ok (.getfield 90, 3) := by decide +kernel
theorem dX6_chose_9 : decode cX6_chose 9 = .ok (.if_icmp .ge 32, 3) := by decide +kernel
theorem dX6_chose_12 : decode cX6_chose 12 = .ok (.iload_n 2, 1) := by decide +kernel
theorem dX6_chose_13 : decode cX6_chose 13 = .ok (.aload_n 0, 1) := by decide +kernel
theorem dX6_chose_14 : decode cX6_chose 14 = .ok (.getfield 35, 3) := by decide +kernel
theorem dX6_chose_17 : decode cX6_chose 17 = .ok (.iload_n 3, 1) := by decide +kernel
theorem dX6_chose_18 : decode cX6_chose 18 = .ok (.iaload, 1) := by decide +kernel
theorem dX6_chose_19 : decode cX6_chose 19 = .ok (.iload_n 1, 1) := by decide +kernel
theorem dX6_chose_20 : decode cX6_chose 20 = .ok (.invokestatic 93, 3) := by decide +kernel
theorem dX6_chose_23 : decode cX6_chose 23 = .ok (.ifCond .eq 9, 3) := by decide +kernel
theorem dX6_chose_26 : decode cX6_chose 26 = .ok (.iconst 1, 1) := by decide +kernel
theorem dX6_chose_27 : decode cX6_chose 27 = .ok (.iload_n 3, 1) := by decide +kernel
theorem dX6_chose_28 : decode cX6_chose 28 = .ok (.ishl, 1) := by decide +kernel
theorem dX6_chose_29 : decode cX6_chose 29 = .ok (.goto 4, 3) := by decide +kernel
theorem dX6_chose_32 : decode cX6_chose 32 = .ok (.iconst 0, 1) := by decide +kernel
theorem dX6_chose_33 : decode cX6_chose 33 = .ok (.ior, 1) := by decide +kernel
theorem dX6_chose_34 : decode cX6_chose 34 = .ok (.istore_n 2, 1) := by decide +kernel
theorem dX6_chose_35 : decode cX6_chose 35 = .ok (.iinc 3 1, 3) := by decide +kernel
theorem dX6_chose_38 : decode cX6_chose 38 = .ok (.goto (-34), 3) := by decide +kernel
theorem dX6_chose_41 : decode cX6_chose 41 = .ok (.iload_n 2, 1) := by decide +kernel
theorem dX6_chose_42 : decode cX6_chose 42 = .ok (.ireturn, 1) := by decide +kernel
set_option maxRecDepth 20000 in
theorem ggX6_subject_X6_isSubject : GoodIn wsX6_subject wsX6_isSubject := goodIn_r _ [8, 9, 10, 11, 7, 12] (by decide +kernel) (by decide +kernel)
set_option maxRecDepth 20000 in
theorem gX6_subject_X6_isSubject : GoodIn wsX6_subject (va_wsS RX6 185 yX6_isSubject wsX6_isSubject) := goodIn_app (goodIn_of _ (by decide +kernel)) ggX6_subject_X6_isSubject
set_option maxRecDepth 20000 in
theorem ggX6_subject_X6_flag : GoodIn wsX6_subject wsX6_flag := goodIn_r _ [15] (by decide +kernel) (by decide +kernel)
set_option maxRecDepth 20000 in
theorem gX6_subject_X6_flag : GoodIn wsX6_subject (va_wsS RX6 224 yX6_flag wsX6_flag) := goodIn_app (goodIn_of _ (by decide +kernel)) ggX6_subject_X6_flag
set_option maxRecDepth 20000 in
theorem ggX6_subject_X6_chose : GoodIn wsX6_subject wsX6_chose := goodIn_r _ [19, 20, 21, 22, 23, 7, 24, 54, 55, 56, 57, 58, 59, 60, 61, 62, 63, 64, 65, 66, 67, 68, 69, 70, 71, 72, 73, 74, 75, 76, 77, 78, 79, 80, 81, 82] (by decide +kernel) (by decide +kernel)
set_option maxRecDepth 20000 in
theorem gX6_subject_X6_chose : GoodIn wsX6_subject (wsV RX6 228 RX6 yX6_chose wsX6_chose) := goodIn_app (goodIn_of _ (by decide +kernel)) ggX6_subject_X6_chose
set_option maxRecDepth 20000 in
theorem ggX6_subject_X6_bits : GoodIn wsX6_subject wsX6_bits := goodIn_r _ [27, 28, 29, 30, 31, 32, 33, 34] (by decide +kernel) (by decide +kernel)
set_option maxRecDepth 20000 in
theorem gX6_subject_X6_bits : GoodIn wsX6_subject (va_wsS RX6 161 yX6_bits wsX6_bits) := goodIn_app (goodIn_of _ (by decide +kernel)) ggX6_subject_X6_bits
set_option maxRecDepth 20000 in
theorem ggX6_subject_X6_notesTwo : GoodIn wsX6_subject wsX6_notesTwo := goodIn_r _ [38, 39, 40, 41, 7, 42, 43, 44, 45, 46, 47, 48, 54, 55, 56, 57, 58, 59, 60, 61, 62, 63, 64, 65, 66, 67, 68, 69, 70, 71, 72, 73, 74, 75, 76, 77, 78, 79, 80, 81, 82] (by decide +kernel) (by decide +kernel)
set_option maxRecDepth 20000 in
theorem gX6_subject_X6_notesTwo : GoodIn wsX6_subject (wsV RX6 221 RX6 yX6_notesTwo wsX6_notesTwo) := goodIn_app (goodIn_of _ (by decide +kernel)) ggX6_subject_X6_notesTwo
set_option maxRecDepth 20000 in
theorem ggX6_subject_X6_notes : GoodIn wsX6_subject wsX6_notes := goodIn_r _ [47, 48, 43, 54, 55, 56, 57, 58, 59, 60, 61, 62, 63, 64, 65, 66, 67, 68, 69, 70, 71, 72, 73, 74, 75, 76, 77, 78, 79, 80, 81, 82] (by decide +kernel) (by decide +kernel)
set_option maxRecDepth 20000 in
theorem gX6_subject_X6_notes : GoodIn wsX6_subject (wsV RX6 74 RX6 yX6_notes wsX6_notes) := goodIn_app (goodIn_of _ (by decide +kernel)) ggX6_subject_X6_notes
set_option maxRecDepth 20000 in
theorem ggX6_subject_X6_columnsOf : GoodIn wsX6_subject wsX6_columnsOf := goodIn_r _ [52, 2, 3, 53, 54, 55, 56, 57, 58, 59, 60, 61, 62, 63, 64, 65, 66, 67, 68, 69, 70, 71, 72, 73, 74, 75, 76, 77, 78, 79, 80, 81, 82] (by decide +kernel) (by decide +kernel)
set_option maxRecDepth 20000 in
theorem gX6_subject_X6_columnsOf : GoodIn wsX6_subject (wsV RX6 231 RX6 yX6_columnsOf wsX6_columnsOf) := goodIn_app (goodIn_of _ (by decide +kernel)) ggX6_subject_X6_columnsOf
theorem dX6_subject_0 : decode cX6_subject 0 = .ok (.aload_n 0, 1) := by decide +kernel
theorem dX6_subject_1 : decode cX6_subject 1 = .ok (.iconst 0, 1) := by decide +kernel
theorem dX6_subject_2 : decode cX6_subject 2 = .ok (.putfield 62, 3) := by decide +kernel
theorem dX6_subject_5 : decode cX6_subject 5 = .ok (.iload_n 1, 1) := by decide +kernel
theorem dX6_subject_6 : decode cX6_subject 6 = .ok (.invokestatic 185, 3) := by decide +kernel
theorem dX6_subject_9 : decode cX6_subject 9 = .ok (.ifCond .ne 5, 3) := by decide +kernel
theorem dX6_subject_12 : decode cX6_subject 12 = .ok (.iconst (-1), 1) := by decide +kernel
theorem dX6_subject_13 : decode cX6_subject 13 = .ok (.ireturn, 1) := by decide +kernel
theorem dX6_subject_14 : decode cX6_subject 14 = .ok (.iconst 0, 1) := by decide +kernel
theorem dX6_subject_15 : decode cX6_subject 15 = .ok (.istore_n 2, 1) := by decide +kernel
theorem dX6_subject_16 : decode cX6_subject 16 = .ok (.iconst 0, 1) := by decide +kernel
theorem dX6_subject_17 : decode cX6_subject 17 = .ok (.istore_n 3, 1) := by decide +kernel
theorem dX6_subject_18 : decode cX6_subject 18 = .ok (.iconst 0, 1) := by decide +kernel
theorem dX6_subject_19 : decode cX6_subject 19 = .ok (.istore 4, 2) := by decide +kernel
theorem dX6_subject_21 : decode cX6_subject 21 = .ok (.iload 4, 2) := by decide +kernel
theorem dX6_subject_23 : decode cX6_subject 23 = .ok (.aload_n 0, 1) := by decide +kernel
theorem dX6_subject_24 : decode cX6_subject 24 = .ok (.getfield 87, 3) := by decide +kernel
theorem dX6_subject_27 : decode cX6_subject 27 = .ok (.if_icmp .ge 56, 3) := by decide +kernel
theorem dX6_subject_30 : decode cX6_subject 30 = .ok (.iload_n 2, 1) := by decide +kernel
theorem dX6_subject_31 : decode cX6_subject 31 = .ok (.aload_n 0, 1) := by decide +kernel
theorem dX6_subject_32 : decode cX6_subject 32 = .ok (.getfield 20, 3) := by decide +kernel
theorem dX6_subject_35 : decode cX6_subject 35 = .ok (.iload 4, 2) := by decide +kernel
theorem dX6_subject_37 : decode cX6_subject 37 = .ok (.iaload, 1) := by decide +kernel
theorem dX6_subject_38 : decode cX6_subject 38 = .ok (.iload_n 1, 1) := by decide +kernel
theorem dX6_subject_39 : decode cX6_subject 39 = .ok (.if_icmp .ne 7, 3) := by decide +kernel
theorem dX6_subject_42 : decode cX6_subject 42 = .ok (.iconst 1, 1) := by decide +kernel
theorem dX6_subject_43 : decode cX6_subject 43 = .ok (.goto 4, 3) := by decide +kernel
theorem dX6_subject_46 : decode cX6_subject 46 = .ok (.iconst 0, 1) := by decide +kernel
theorem dX6_subject_47 : decode cX6_subject 47 = .ok (.invokestatic 224, 3) := by decide +kernel
theorem dX6_subject_50 : decode cX6_subject 50 = .ok (.iadd, 1) := by decide +kernel
theorem dX6_subject_51 : decode cX6_subject 51 = .ok (.istore_n 2, 1) := by decide +kernel
theorem dX6_subject_52 : decode cX6_subject 52 = .ok (.iload_n 3, 1) := by decide +kernel
theorem dX6_subject_53 : decode cX6_subject 53 = .ok (.aload_n 0, 1) := by decide +kernel
theorem dX6_subject_54 : decode cX6_subject 54 = .ok (.getfield 20, 3) := by decide +kernel
theorem dX6_subject_57 : decode cX6_subject 57 = .ok (.iload 4, 2) := by decide +kernel
theorem dX6_subject_59 : decode cX6_subject 59 = .ok (.iaload, 1) := by decide +kernel
theorem dX6_subject_60 : decode cX6_subject 60 = .ok (.iload_n 1, 1) := by decide +kernel
theorem dX6_subject_61 : decode cX6_subject 61 = .ok (.if_icmp .ne 13, 3) := by decide +kernel
theorem dX6_subject_64 : decode cX6_subject 64 = .ok (.aload_n 0, 1) := by decide +kernel
theorem dX6_subject_65 : decode cX6_subject 65 = .ok (.getfield 26, 3) := by decide +kernel
theorem dX6_subject_68 : decode cX6_subject 68 = .ok (.iload 4, 2) := by decide +kernel
theorem dX6_subject_70 : decode cX6_subject 70 = .ok (.iaload, 1) := by decide +kernel
theorem dX6_subject_71 : decode cX6_subject 71 = .ok (.goto 4, 3) := by decide +kernel
theorem dX6_subject_74 : decode cX6_subject 74 = .ok (.iconst 0, 1) := by decide +kernel
theorem dX6_subject_75 : decode cX6_subject 75 = .ok (.iadd, 1) := by decide +kernel
theorem dX6_subject_76 : decode cX6_subject 76 = .ok (.istore_n 3, 1) := by decide +kernel
theorem dX6_subject_77 : decode cX6_subject 77 = .ok (.iinc 4 1, 3) := by decide +kernel
theorem dX6_subject_80 : decode cX6_subject 80 = .ok (.goto (-59), 3) := by decide +kernel
theorem dX6_subject_83 : decode cX6_subject 83 = .ok (.aload_n 0, 1) := by decide +kernel
theorem dX6_subject_84 : decode cX6_subject 84 = .ok (.iload_n 2, 1) := by decide +kernel
theorem dX6_subject_85 : decode cX6_subject 85 = .ok (.aload_n 0, 1) := by decide +kernel
theorem dX6_subject_86 : decode cX6_subject 86 = .ok (.iload_n 1, 1) := by decide +kernel
theorem dX6_subject_87 : decode cX6_subject 87 = .ok (.invokevirtual 228, 3) := by decide +kernel
theorem dX6_subject_90 : decode cX6_subject 90 = .ok (.invokestatic 161, 3) := by decide +kernel
theorem dX6_subject_93 : decode cX6_subject 93 = .ok (.invokevirtual 221, 3) := by decide +kernel
theorem dX6_subject_96 : decode cX6_subject 96 = .ok (.aload_n 0, 1) := by decide +kernel
theorem dX6_subject_97 : decode cX6_subject 97 = .ok (.iload_n 3, 1) := by decide +kernel
theorem dX6_subject_98 : decode cX6_subject 98 = .ok (.invokevirtual 74, 3) := by decide +kernel
theorem dX6_subject_101 : decode cX6_subject 101 = .ok (.aload_n 0, 1) := by decide +kernel
theorem dX6_subject_102 : decode cX6_subject 102 = .ok (.iload_n 1, 1) := by decide +kernel
theorem dX6_subject_103 : decode cX6_subject 103 = .ok (.invokevirtual 231, 3) := by decide +kernel
theorem dX6_subject_106 : decode cX6_subject 106 = .ok (.ireturn, 1) := by decide +kernel
set_option maxRecDepth 20000 in
theorem ggX6_pupil_X6_isPupil : GoodIn wsX6_pupil wsX6_isPupil := goodIn_r _ [8, 9, 10, 11, 7, 12, 54, 55, 56, 57, 58, 59, 60, 61, 62, 63, 64, 65, 66, 67, 68, 69, 70, 71, 72, 73, 74, 75, 76, 77, 78, 79, 80, 81, 82] (by decide +kernel) (by decide +kernel)
set_option maxRecDepth 20000 in
theorem gX6_pupil_X6_isPupil : GoodIn wsX6_pupil (wsV RX6 216 RX6 yX6_isPupil wsX6_isPupil) := goodIn_app (goodIn_of _ (by decide +kernel)) ggX6_pupil_X6_isPupil
set_option maxRecDepth 20000 in
theorem ggX6_pupil_X6_doesFit : GoodIn wsX6_pupil wsX6_doesFit := goodIn_r _ [16, 3, 17, 18, 19, 7, 20, 21, 22, 23, 24, 25, 26, 27, 28, 29, 30, 31, 32, 33, 54, 55, 56, 57, 58, 59, 60, 61, 62, 63, 64, 65, 66, 67, 68, 69, 70, 71, 72, 73, 74, 75, 76, 77, 78, 79, 80, 81, 82] (by decide +kernel) (by decide +kernel)
set_option maxRecDepth 20000 in
theorem gX6_pupil_X6_doesFit : GoodIn wsX6_pupil (wsV RX6 234 RX6 yX6_doesFit wsX6_doesFit) := goodIn_app (goodIn_of _ (by decide +kernel)) ggX6_pupil_X6_doesFit
set_option maxRecDepth 20000 in
theorem ggX6_pupil_X6_flag : GoodIn wsX6_pupil wsX6_flag := goodIn_r _ [36] (by decide +kernel) (by decide +kernel)
set_option maxRecDepth 20000 in
theorem gX6_pupil_X6_flag : GoodIn wsX6_pupil (va_wsS RX6 224 yX6_flag wsX6_flag) := goodIn_app (goodIn_of _ (by decide +kernel)) ggX6_pupil_X6_flag
set_option maxRecDepth 20000 in
theorem ggX6_pupil_X6_has : GoodIn wsX6_pupil wsX6_has := goodIn_r _ [39] (by decide +kernel) (by decide +kernel)
set_option maxRecDepth 20000 in
theorem gX6_pupil_X6_has : GoodIn wsX6_pupil (va_wsS RX6 93 yX6_has wsX6_has) := goodIn_app (goodIn_of _ (by decide +kernel)) ggX6_pupil_X6_has
set_option maxRecDepth 20000 in
theorem ggX6_pupil_X6_notesTwo : GoodIn wsX6_pupil wsX6_notesTwo := goodIn_r _ [43, 44, 45, 46, 7, 47, 48, 49, 50, 51, 52, 53, 54, 55, 56, 57, 58, 59, 60, 61, 62, 63, 64, 65, 66, 67, 68, 69, 70, 71, 72, 73, 74, 75, 76, 77, 78, 79, 80, 81, 82] (by decide +kernel) (by decide +kernel)
set_option maxRecDepth 20000 in
theorem gX6_pupil_X6_notesTwo : GoodIn wsX6_pupil (wsV RX6 221 RX6 yX6_notesTwo wsX6_notesTwo) := goodIn_app (goodIn_of _ (by decide +kernel)) ggX6_pupil_X6_notesTwo
theorem dX6_pupil_0 : decode cX6_pupil 0 = .ok (.aload_n 0, 1) := by decide +kernel
theorem dX6_pupil_1 : decode cX6_pupil 1 = .ok (.iconst 0, 1) := by decide +kernel
theorem dX6_pupil_2 : decode cX6_pupil 2 = .ok (.putfield 62, 3) := by decide +kernel
theorem dX6_pupil_5 : decode cX6_pupil 5 = .ok (.aload_n 0, 1) := by decide +kernel
theorem dX6_pupil_6 : decode cX6_pupil 6 = .ok (.iload_n 1, 1) := by decide +kernel
theorem dX6_pupil_7 : decode cX6_pupil 7 = .ok (.invokevirtual 216, 3) := by decide +kernel
theorem dX6_pupil_10 : decode cX6_pupil 10 = .ok (.ifCond .ne 5, 3) := by decide +kernel
theorem dX6_pupil_13 : decode cX6_pupil 13 = .ok (.iconst (-1), 1) := by decide +kernel
theorem dX6_pupil_14 : decode cX6_pupil 14 = .ok (.ireturn, 1) := by decide +kernel
theorem dX6_pupil_15 : decode cX6_pupil 15 = .ok (.aload_n 0, 1) := by decide +kernel
theorem dX6_pupil_16 : decode cX6_pupil 16 = .ok (.aload_n 0, 1) := by decide +kernel
theorem dX6_pupil_17 : decode cX6_pupil 17 = .ok (.iload_n 1, 1) := by decide +kernel
theorem dX6_pupil_18 : decode cX6_pupil 18 = .ok (.invokevirtual 234, 3) := by decide +kernel
theorem dX6_pupil_21 : decode cX6_pupil 21 = .ok (.invokestatic 224, 3) := by decide +kernel
theorem dX6_pupil_24 : decode cX6_pupil 24 = .ok (.aload_n 0, 1) := by decide +kernel
theorem dX6_pupil_25 : decode cX6_pupil 25 = .ok (.getfield 158, 3) := by decide +kernel
theorem dX6_pupil_28 : decode cX6_pupil 28 = .ok (.iload_n 1, 1) := by decide +kernel
theorem dX6_pupil_29 : decode cX6_pupil 29 = .ok (.invokestatic 93, 3) := by decide +kernel
theorem dX6_pupil_32 : decode cX6_pupil 32 = .ok (.invokestatic 224, 3) := by decide +kernel
theorem dX6_pupil_35 : decode cX6_pupil 35 = .ok (.invokevirtual 221, 3) := by decide +kernel
theorem dX6_pupil_38 : decode cX6_pupil 38 = .ok (.aload_n 0, 1) := by decide +kernel
theorem dX6_pupil_39 : decode cX6_pupil 39 = .ok (.getfield 35, 3) := by decide +kernel
theorem dX6_pupil_42 : decode cX6_pupil 42 = .ok (.iload_n 1, 1) := by decide +kernel
theorem dX6_pupil_43 : decode cX6_pupil 43 = .ok (.iaload, 1) := by decide +kernel
theorem dX6_pupil_44 : decode cX6_pupil 44 = .ok (.ireturn, 1) := by decide +kernel
set_option maxRecDepth 20000 in
theorem ggX6_legals_X6_isLegal : GoodIn wsX6_legals wsX6_isLegal := goodIn_r _ [6, 7, 8, 9, 5, 10, 11, 12, 13, 14, 15, 16, 17, 18, 19, 20, 21, 22, 23, 24, 25, 26, 27, 28, 29, 30, 31, 32, 33, 34, 35, 36, 37, 38, 39, 40, 41, 42, 43, 44, 45, 46, 47] (by decide +kernel) (by decide +kernel)
set_option maxRecDepth 20000 in
theorem gX6_legals_X6_isLegal : GoodIn wsX6_legals (wsV RX6 137 RX6 yX6_isLegal wsX6_isLegal) := goodIn_app (goodIn_of _ (by decide +kernel)) ggX6_legals_X6_isLegal
theorem dX6_legals_0 : decode cX6_legals 0 = .ok (.iconst 0, 1) := by decide +kernel
theorem dX6_legals_1 : decode cX6_legals 1 = .ok (.istore_n 2, 1) := by decide +kernel
theorem dX6_legals_2 : decode cX6_legals 2 = .ok (.iconst 0, 1) := by decide +kernel
theorem dX6_legals_3 : decode cX6_legals 3 = .ok (.istore_n 3, 1) := by decide +kernel
theorem dX6_legals_4 : decode cX6_legals 4 = .ok (.iload_n 3, 1) := by decide +kernel
theorem dX6_legals_5 : decode cX6_legals 5 = .ok (.aload_n 0, 1) := by decide +kernel
theorem dX6_legals_6 : decode cX6_legals 6 = .ok (.getfield 13, 3) := by decide +kernel
theorem dX6_legals_9 : decode cX6_legals 9 = .ok (.if_icmp .ge 28, 3) := by decide +kernel
theorem dX6_legals_12 : decode cX6_legals 12 = .ok (.iload_n 2, 1) := by decide +kernel
theorem dX6_legals_13 : decode cX6_legals 13 = .ok (.aload_n 0, 1) := by decide +kernel
theorem dX6_legals_14 : decode cX6_legals 14 = .ok (.iload_n 1, 1) := by decide +kernel
theorem dX6_legals_15 : decode cX6_legals 15 = .ok (.iload_n 3, 1) := by decide +kernel
theorem dX6_legals_16 : decode cX6_legals 16 = .ok (.invokevirtual 137, 3) := by decide +kernel
theorem dX6_legals_19 : decode cX6_legals 19 = .ok (.ifCond .eq 9, 3) := by decide +kernel
theorem dX6_legals_22 : decode cX6_legals 22 = .ok (.iconst 1, 1) := by decide +kernel
theorem dX6_legals_23 : decode cX6_legals 23 = .ok (.iload_n 3, 1) := by decide +kernel
theorem dX6_legals_24 : decode cX6_legals 24 = .ok (.ishl, 1) := by decide +kernel
theorem dX6_legals_25 : decode cX6_legals 25 = .ok (.goto 4, 3) := by decide +kernel
theorem dX6_legals_28 : decode cX6_legals 28 = .ok (.iconst 0, 1) := by decide +kernel
theorem dX6_legals_29 : decode cX6_legals 29 = .ok (.ior, 1) := by decide +kernel
theorem dX6_legals_30 : decode cX6_legals 30 = .ok (.istore_n 2, 1) := by decide +kernel
theorem dX6_legals_31 : decode cX6_legals 31 = .ok (.iinc 3 1, 3) := by decide +kernel
theorem dX6_legals_34 : decode cX6_legals 34 = .ok (.goto (-30), 3) := by decide +kernel
theorem dX6_legals_37 : decode cX6_legals 37 = .ok (.iload_n 2, 1) := by decide +kernel
theorem dX6_legals_38 : decode cX6_legals 38 = .ok (.ireturn, 1) := by decide +kernel
set_option maxRecDepth 20000 in
theorem ggX6_legal_X6_isSection : GoodIn wsX6_legal wsX6_isSection := goodIn_r _ [6, 7, 8, 9, 5, 10, 51, 52, 53, 54, 55, 56, 57, 58, 59, 60, 61, 62, 63, 64, 65, 66, 67, 68, 69, 70, 71, 72, 73, 74, 75, 76, 77, 78, 79] (by decide +kernel) (by decide +kernel)
set_option maxRecDepth 20000 in
theorem gX6_legal_X6_isSection : GoodIn wsX6_legal (wsV RX6 193 RX6 yX6_isSection wsX6_isSection) := goodIn_app (goodIn_of _ (by decide +kernel)) ggX6_legal_X6_isSection
set_option maxRecDepth 20000 in
theorem ggX6_legal_X6_legals : GoodIn wsX6_legal wsX6_legals := goodIn_r _ [14, 15, 16, 17, 18, 5, 19, 20, 21, 22, 23, 7, 24, 25, 26, 27, 28, 29, 30, 51, 52, 53, 54, 55, 56, 57, 58, 59, 60, 61, 62, 63, 64, 65, 66, 67, 68, 69, 70, 71, 72, 73, 74, 75, 76, 77, 78, 79] (by decide +kernel) (by decide +kernel)
set_option maxRecDepth 20000 in
theorem gX6_legal_X6_legals : GoodIn wsX6_legal (wsV RX6 237 RX6 yX6_legals wsX6_legals) := goodIn_app (goodIn_of _ (by decide +kernel)) ggX6_legal_X6_legals
set_option maxRecDepth 20000 in
theorem ggX6_legal_X6_bits : GoodIn wsX6_legal wsX6_bits := goodIn_r _ [33, 34, 35, 36, 37, 38, 39, 40] (by decide +kernel) (by decide +kernel)
set_option maxRecDepth 20000 in
theorem gX6_legal_X6_bits : GoodIn wsX6_legal (va_wsS RX6 161 yX6_bits wsX6_bits) := goodIn_app (goodIn_of _ (by decide +kernel)) ggX6_legal_X6_bits
set_option maxRecDepth 20000 in
theorem ggX6_legal_X6_notesOne : GoodIn wsX6_legal wsX6_notesOne := goodIn_r _ [44, 45, 46, 47, 48, 5, 49, 50, 51, 52, 53, 54, 55, 56, 57, 58, 59, 60, 61, 62, 63, 64, 65, 66, 67, 68, 69, 70, 71, 72, 73, 74, 75, 76, 77, 78, 79] (by decide +kernel) (by decide +kernel)
set_option maxRecDepth 20000 in
theorem gX6_legal_X6_notesOne : GoodIn wsX6_legal (wsV RX6 78 RX6 yX6_notesOne wsX6_notesOne) := goodIn_app (goodIn_of _ (by decide +kernel)) ggX6_legal_X6_notesOne
theorem dX6_legal_0 : decode cX6_legal 0 = .ok (.aload_n 0, 1) := by decide +kernel
theorem dX6_legal_1 : decode cX6_legal 1 = .ok (.iconst 0, 1) := by decide +kernel
theorem dX6_legal_2 : decode cX6_legal 2 = .ok (.putfield 62, 3) := by decide +kernel
theorem dX6_legal_5 : decode cX6_legal 5 = .ok (.aload_n 0, 1) := by decide +kernel
theorem dX6_legal_6 : decode cX6_legal 6 = .ok (.iload_n 1, 1) := by decide +kernel
theorem dX6_legal_7 : decode cX6_legal 7 = .ok (.invokevirtual 193, 3) := by decide +kernel
theorem dX6_legal_10 : decode cX6_legal 10 = .ok (.ifCond .ne 5, 3) := by decide +kernel
theorem dX6_legal_13 : decode cX6_legal 13 = .ok (.iconst (-1), 1) := by decide +kernel
theorem dX6_legal_14 : decode cX6_legal 14 = .ok (.ireturn, 1) := by decide +kernel
theorem dX6_legal_15 : decode cX6_legal 15 = .ok (.aload_n 0, 1) := by decide +kernel
theorem dX6_legal_16 : decode cX6_legal 16 = .ok (.iload_n 1, 1) := by decide +kernel
theorem dX6_legal_17 : decode cX6_legal 17 = .ok (.invokevirtual 237, 3) := by decide +kernel
theorem dX6_legal_20 : decode cX6_legal 20 = .ok (.istore_n 2, 1) := by decide +kernel
theorem dX6_legal_21 : decode cX6_legal 21 = .ok (.aload_n 0, 1) := by decide +kernel
theorem dX6_legal_22 : decode cX6_legal 22 = .ok (.iload_n 2, 1) := by decide +kernel
theorem dX6_legal_23 : decode cX6_legal 23 = .ok (.invokestatic 161, 3) := by decide +kernel
theorem dX6_legal_26 : decode cX6_legal 26 = .ok (.invokevirtual 78, 3) := by decide +kernel
theorem dX6_legal_29 : decode cX6_legal 29 = .ok (.iload_n 2, 1) := by decide +kernel
theorem dX6_legal_30 : decode cX6_legal 30 = .ok (.ireturn, 1) := by decide +kernel
set_option maxRecDepth 20000 in
theorem ggX6_why_X6_isSection : GoodIn wsX6_why wsX6_isSection := goodIn_r _ [6, 7, 8, 9, 5, 10, 27, 28, 29, 30, 31, 32, 33, 34, 35, 36, 37, 38, 39, 40, 41, 42, 43, 44, 45, 46, 47, 48, 49, 50, 51, 52, 53, 54, 55] (by decide +kernel) (by decide +kernel)
set_option maxRecDepth 20000 in
theorem gX6_why_X6_isSection : GoodIn wsX6_why (wsV RX6 193 RX6 yX6_isSection wsX6_isSection) := goodIn_app (goodIn_of _ (by decide +kernel)) ggX6_why_X6_isSection
set_option maxRecDepth 20000 in
theorem ggX6_why_X6_isColumn : GoodIn wsX6_why wsX6_isColumn := goodIn_r _ [14, 15, 8, 9, 5, 10, 27, 28, 29, 30, 31, 32, 33, 34, 35, 36, 37, 38, 39, 40, 41, 42, 43, 44, 45, 46, 47, 48, 49, 50, 51, 52, 53, 54, 55] (by decide +kernel) (by decide +kernel)
set_option maxRecDepth 20000 in
theorem gX6_why_X6_isColumn : GoodIn wsX6_why (wsV RX6 196 RX6 yX6_isColumn wsX6_isColumn) := goodIn_app (goodIn_of _ (by decide +kernel)) ggX6_why_X6_isColumn
set_option maxRecDepth 20000 in
theorem ggX6_why_X6_whyNot : GoodIn wsX6_why wsX6_whyNot := goodIn_r _ [19, 7, 20, 21, 22, 23, 24, 25, 5, 26, 27, 28, 29, 30, 31, 32, 33, 34, 35, 36, 37, 38, 39, 40, 41, 42, 43, 44, 45, 46, 47, 48, 49, 50, 51, 52, 53, 54, 55] (by decide +kernel) (by decide +kernel)
set_option maxRecDepth 20000 in
theorem gX6_why_X6_whyNot : GoodIn wsX6_why (wsV RX6 97 RX6 yX6_whyNot wsX6_whyNot) := goodIn_app (goodIn_of _ (by decide +kernel)) ggX6_why_X6_whyNot
theorem dX6_why_0 : decode cX6_why 0 = .ok (.aload_n 0, 1) := by decide +kernel
theorem dX6_why_1 : decode cX6_why 1 = .ok (.iconst 0, 1) := by decide +kernel
theorem dX6_why_2 : decode cX6_why 2 = .ok (.putfield 62, 3) := by decide +kernel
theorem dX6_why_5 : decode cX6_why 5 = .ok (.aload_n 0, 1) := by decide +kernel
theorem dX6_why_6 : decode cX6_why 6 = .ok (.iload_n 1, 1) := by decide +kernel
theorem dX6_why_7 : decode cX6_why 7 = .ok (.invokevirtual 193, 3) := by decide +kernel
