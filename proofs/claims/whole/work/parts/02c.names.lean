theorem dX0_init_0 : decode cX0_init 0 = .ok (.aload_n 0, 1) := by decide +kernel
theorem dX0_init_1 : decode cX0_init 1 = .ok (.invokespecial 3, 3) := by decide +kernel
theorem dX0_init_4 : decode cX0_init 4 = .ok (.aload_n 0, 1) := by decide +kernel
theorem dX0_init_5 : decode cX0_init 5 = .ok (.iconst 4, 1) := by decide +kernel
theorem dX0_init_6 : decode cX0_init 6 = .ok (.putfield 9, 3) := by decide +kernel
theorem dX0_init_9 : decode cX0_init 9 = .ok (.aload_n 0, 1) := by decide +kernel
theorem dX0_init_10 : decode cX0_init 10 = .ok (.iconst 5, 1) := by decide +kernel
theorem dX0_init_11 : decode cX0_init 11 = .ok (.putfield 15, 3) := by decide +kernel
theorem dX0_init_14 : decode cX0_init 14 = .ok (.aload_n 0, 1) := by decide +kernel
theorem dX0_init_15 : decode cX0_init 15 = .ok (.iconst 0, 1) := by decide +kernel
theorem dX0_init_16 : decode cX0_init 16 = .ok (.putfield 18, 3) := by decide +kernel
theorem dX0_init_19 : decode cX0_init 19 = .ok (.aload_n 0, 1) := by decide +kernel
theorem dX0_init_20 : decode cX0_init 20 = .ok (.bipush 10, 2) := by decide +kernel
theorem dX0_init_22 : decode cX0_init 22 = .ok (.newarray .int, 2) := by decide +kernel
theorem dX0_init_24 : decode cX0_init 24 = .ok (.putfield 21, 3) := by decide +kernel
theorem dX0_init_27 : decode cX0_init 27 = .ok (.aload_n 0, 1) := by decide +kernel
theorem dX0_init_28 : decode cX0_init 28 = .ok (.bipush 16, 2) := by decide +kernel
theorem dX0_init_30 : decode cX0_init 30 = .ok (.newarray .int, 2) := by decide +kernel
theorem dX0_init_32 : decode cX0_init 32 = .ok (.putfield 25, 3) := by decide +kernel
theorem dX0_init_35 : decode cX0_init 35 = .ok (.aload_n 0, 1) := by decide +kernel
theorem dX0_init_36 : decode cX0_init 36 = .ok (.bipush 16, 2) := by decide +kernel
theorem dX0_init_38 : decode cX0_init 38 = .ok (.newarray .int, 2) := by decide +kernel
theorem dX0_init_40 : decode cX0_init 40 = .ok (.putfield 28, 3) := by decide +kernel
theorem dX0_init_43 : decode cX0_init 43 = .ok (.aload_n 0, 1) := by decide +kernel
theorem dX0_init_44 : decode cX0_init 44 = .ok (.bipush 16, 2) := by decide +kernel
theorem dX0_init_46 : decode cX0_init 46 = .ok (.newarray .int, 2) := by decide +kernel
theorem dX0_init_48 : decode cX0_init 48 = .ok (.putfield 31, 3) := by decide +kernel
theorem dX0_init_51 : decode cX0_init 51 = .ok (.aload_n 0, 1) := by decide +kernel
theorem dX0_init_52 : decode cX0_init 52 = .ok (.bipush 16, 2) := by decide +kernel
theorem dX0_init_54 : decode cX0_init 54 = .ok (.newarray .int, 2) := by decide +kernel
theorem dX0_init_56 : decode cX0_init 56 = .ok (.putfield 34, 3) := by decide +kernel
theorem dX0_init_59 : decode cX0_init 59 = .ok (.aload_n 0, 1) := by decide +kernel
theorem dX0_init_60 : decode cX0_init 60 = .ok (.bipush 10, 2) := by decide +kernel
theorem dX0_init_62 : decode cX0_init 62 = .ok (.newarray .int, 2) := by decide +kernel
theorem dX0_init_64 : decode cX0_init 64 = .ok (.putfield 37, 3) := by decide +kernel
theorem dX0_init_67 : decode cX0_init 67 = .ok (.return_, 1) := by decide +kernel
theorem dX0_has_0 : decode cX0_has 0 = .ok (.iload_n 1, 1) := by decide +kernel
theorem dX0_has_1 : decode cX0_has 1 = .ok (.ifCond .lt 15, 3) := by decide +kernel
theorem dX0_has_4 : decode cX0_has 4 = .ok (.iload_n 1, 1) := by decide +kernel
theorem dX0_has_5 : decode cX0_has 5 = .ok (.aload_n 0, 1) := by decide +kernel
theorem dX0_has_6 : decode cX0_has 6 = .ok (.getfield 18, 3) := by decide +kernel
theorem dX0_has_9 : decode cX0_has 9 = .ok (.if_icmp .ge 7, 3) := by decide +kernel
theorem dX0_has_12 : decode cX0_has 12 = .ok (.iconst 1, 1) := by decide +kernel
theorem dX0_has_13 : decode cX0_has 13 = .ok (.goto 4, 3) := by decide +kernel
theorem dX0_has_16 : decode cX0_has 16 = .ok (.iconst 0, 1) := by decide +kernel
theorem dX0_has_17 : decode cX0_has 17 = .ok (.ireturn, 1) := by decide +kernel
theorem dX0_hasColumn_0 : decode cX0_hasColumn 0 = .ok (.iload_n 1, 1) := by decide +kernel
theorem dX0_hasColumn_1 : decode cX0_hasColumn 1 = .ok (.ifCond .lt 15, 3) := by decide +kernel
theorem dX0_hasColumn_4 : decode cX0_hasColumn 4 = .ok (.iload_n 1, 1) := by decide +kernel
theorem dX0_hasColumn_5 : decode cX0_hasColumn 5 = .ok (.aload_n 0, 1) := by decide +kernel
theorem dX0_hasColumn_6 : decode cX0_hasColumn 6 = .ok (.getfield 9, 3) := by decide +kernel
theorem dX0_hasColumn_9 : decode cX0_hasColumn 9 = .ok (.if_icmp .ge 7, 3) := by decide +kernel
theorem dX0_hasColumn_12 : decode cX0_hasColumn 12 = .ok (.iconst 1, 1) := by decide +kernel
theorem dX0_hasColumn_13 : decode cX0_hasColumn 13 = .ok (.goto 4, 3) := by decide +kernel
theorem dX0_hasColumn_16 : decode cX0_hasColumn 16 = .ok (.iconst 0, 1) := by decide +kernel
theorem dX0_hasColumn_17 : decode cX0_hasColumn 17 = .ok (.ireturn, 1) := by decide +kernel
theorem dX0_become_0 : decode cX0_become 0 = .ok (.aload_n 0, 1) := by decide +kernel
theorem dX0_become_1 : decode cX0_become 1 = .ok (.aload_n 1, 1) := by decide +kernel
theorem dX0_become_2 : decode cX0_become 2 = .ok (.getfield 9, 3) := by decide +kernel
theorem dX0_become_5 : decode cX0_become 5 = .ok (.putfield 9, 3) := by decide +kernel
theorem dX0_become_8 : decode cX0_become 8 = .ok (.aload_n 0, 1) := by decide +kernel
theorem dX0_become_9 : decode cX0_become 9 = .ok (.aload_n 1, 1) := by decide +kernel
theorem dX0_become_10 : decode cX0_become 10 = .ok (.getfield 15, 3) := by decide +kernel
theorem dX0_become_13 : decode cX0_become 13 = .ok (.putfield 15, 3) := by decide +kernel
theorem dX0_become_16 : decode cX0_become 16 = .ok (.aload_n 0, 1) := by decide +kernel
theorem dX0_become_17 : decode cX0_become 17 = .ok (.aload_n 1, 1) := by decide +kernel
theorem dX0_become_18 : decode cX0_become 18 = .ok (.getfield 18, 3) := by decide +kernel
theorem dX0_become_21 : decode cX0_become 21 = .ok (.putfield 18, 3) := by decide +kernel
theorem dX0_become_24 : decode cX0_become 24 = .ok (.aload_n 1, 1) := by decide +kernel
theorem dX0_become_25 : decode cX0_become 25 = .ok (.getfield 21, 3) := by decide +kernel
theorem dX0_become_28 : decode cX0_become 28 = .ok (.iconst 0, 1) := by decide +kernel
theorem dX0_become_29 : decode cX0_become 29 = .ok (.aload_n 0, 1) := by decide +kernel
theorem dX0_become_30 : decode cX0_become 30 = .ok (.getfield 21, 3) := by decide +kernel
theorem dX0_become_33 : decode cX0_become 33 = .ok (.iconst 0, 1) := by decide +kernel
theorem dX0_become_34 : decode cX0_become 34 = .ok (.bipush 10, 2) := by decide +kernel
theorem dX0_become_36 : decode cX0_become 36 = .ok (.invokestatic 40, 3) := by decide +kernel
theorem dX0_become_39 : decode cX0_become 39 = .ok (.aload_n 1, 1) := by decide +kernel
theorem dX0_become_40 : decode cX0_become 40 = .ok (.getfield 25, 3) := by decide +kernel
theorem dX0_become_43 : decode cX0_become 43 = .ok (.iconst 0, 1) := by decide +kernel
theorem dX0_become_44 : decode cX0_become 44 = .ok (.aload_n 0, 1) := by decide +kernel
theorem dX0_become_45 : decode cX0_become 45 = .ok (.getfield 25, 3) := by decide +kernel
theorem dX0_become_48 : decode cX0_become 48 = .ok (.iconst 0, 1) := by decide +kernel
theorem dX0_become_49 : decode cX0_become 49 = .ok (.bipush 16, 2) := by decide +kernel
theorem dX0_become_51 : decode cX0_become 51 = .ok (.invokestatic 40, 3) := by decide +kernel
theorem dX0_become_54 : decode cX0_become 54 = .ok (.aload_n 1, 1) := by decide +kernel
theorem dX0_become_55 : decode cX0_become 55 = .ok (.getfield 28, 3) := by decide +kernel
theorem dX0_become_58 : decode cX0_become 58 = .ok (.iconst 0, 1) := by decide +kernel
theorem dX0_become_59 : decode cX0_become 59 = .ok (.aload_n 0, 1) := by decide +kernel
theorem dX0_become_60 : decode cX0_become 60 = .ok (.getfield 28, 3) := by decide +kernel
theorem dX0_become_63 : decode cX0_become 63 = .ok (.iconst 0, 1) := by decide +kernel
theorem dX0_become_64 : decode cX0_become 64 = .ok (.bipush 16, 2) := by decide +kernel
theorem dX0_become_66 : decode cX0_become 66 = .ok (.invokestatic 40, 3) := by decide +kernel
theorem dX0_become_69 : decode cX0_become 69 = .ok (.aload_n 1, 1) := by decide +kernel
theorem dX0_become_70 : decode cX0_become 70 = .ok (.getfield 31, 3) := by decide +kernel
theorem dX0_become_73 : decode cX0_become 73 = .ok (.iconst 0, 1) := by decide +kernel
theorem dX0_become_74 : decode cX0_become 74 = .ok (.aload_n 0, 1) := by decide +kernel
theorem dX0_become_75 : decode cX0_become 75 = .ok (.getfield 31, 3) := by decide +kernel
theorem dX0_become_78 : decode cX0_become 78 = .ok (.iconst 0, 1) := by decide +kernel
theorem dX0_become_79 : decode cX0_become 79 = .ok (.bipush 16, 2) := by decide +kernel
theorem dX0_become_81 : decode cX0_become 81 = .ok (.invokestatic 40, 3) := by decide +kernel
theorem dX0_become_84 : decode cX0_become 84 = .ok (.aload_n 1, 1) := by decide +kernel
theorem dX0_become_85 : decode cX0_become 85 = .ok (.getfield 34, 3) := by decide +kernel
theorem dX0_become_88 : decode cX0_become 88 = .ok (.iconst 0, 1) := by decide +kernel
theorem dX0_become_89 : decode cX0_become 89 = .ok (.aload_n 0, 1) := by decide +kernel
theorem dX0_become_90 : decode cX0_become 90 = .ok (.getfield 34, 3) := by decide +kernel
theorem dX0_become_93 : decode cX0_become 93 = .ok (.iconst 0, 1) := by decide +kernel
theorem dX0_become_94 : decode cX0_become 94 = .ok (.bipush 16, 2) := by decide +kernel
theorem dX0_become_96 : decode cX0_become 96 = .ok (.invokestatic 40, 3) := by decide +kernel
theorem dX0_become_99 : decode cX0_become 99 = .ok (.aload_n 1, 1) := by decide +kernel
theorem dX0_become_100 : decode cX0_become 100 = .ok (.getfield 37, 3) := by decide +kernel
theorem dX0_become_103 : decode cX0_become 103 = .ok (.iconst 0, 1) := by decide +kernel
theorem dX0_become_104 : decode cX0_become 104 = .ok (.aload_n 0, 1) := by decide +kernel
theorem dX0_become_105 : decode cX0_become 105 = .ok (.getfield 37, 3) := by decide +kernel
theorem dX0_become_108 : decode cX0_become 108 = .ok (.iconst 0, 1) := by decide +kernel
theorem dX0_become_109 : decode cX0_become 109 = .ok (.bipush 10, 2) := by decide +kernel
theorem dX0_become_111 : decode cX0_become 111 = .ok (.invokestatic 40, 3) := by decide +kernel
theorem dX0_become_114 : decode cX0_become 114 = .ok (.return_, 1) := by decide +kernel
set_option maxRecDepth 20000 in
theorem ggX0_add_X0_noteColumnsOf : GoodIn wsX0_add wsX0_noteColumnsOf := goodIn_r _ [10, 11, 12, 13, 14, 9, 15, 1, 2, 5, 16, 17, 18, 19, 20, 21, 22, 23, 24] (by decide +kernel) (by decide +kernel)
set_option maxRecDepth 20000 in
theorem gX0_add_X0_noteColumnsOf : GoodIn wsX0_add (wsV RX0 46 RX0 yX0_noteColumnsOf wsX0_noteColumnsOf) := goodIn_app (goodIn_of _ (by decide +kernel)) ggX0_add_X0_noteColumnsOf
theorem dX0_add_0 : decode cX0_add 0 = .ok (.aload_n 0, 1) := by decide +kernel
theorem dX0_add_1 : decode cX0_add 1 = .ok (.getfield 18, 3) := by decide +kernel
theorem dX0_add_4 : decode cX0_add 4 = .ok (.bipush 16, 2) := by decide +kernel
theorem dX0_add_6 : decode cX0_add 6 = .ok (.if_icmp .ge 59, 3) := by decide +kernel
theorem dX0_add_9 : decode cX0_add 9 = .ok (.aload_n 0, 1) := by decide +kernel
theorem dX0_add_10 : decode cX0_add 10 = .ok (.getfield 25, 3) := by decide +kernel
theorem dX0_add_13 : decode cX0_add 13 = .ok (.aload_n 0, 1) := by decide +kernel
theorem dX0_add_14 : decode cX0_add 14 = .ok (.getfield 18, 3) := by decide +kernel
theorem dX0_add_17 : decode cX0_add 17 = .ok (.iload_n 1, 1) := by decide +kernel
theorem dX0_add_18 : decode cX0_add 18 = .ok (.iastore, 1) := by decide +kernel
theorem dX0_add_19 : decode cX0_add 19 = .ok (.aload_n 0, 1) := by decide +kernel
theorem dX0_add_20 : decode cX0_add 20 = .ok (.getfield 28, 3) := by decide +kernel
theorem dX0_add_23 : decode cX0_add 23 = .ok (.aload_n 0, 1) := by decide +kernel
theorem dX0_add_24 : decode cX0_add 24 = .ok (.getfield 18, 3) := by decide +kernel
theorem dX0_add_27 : decode cX0_add 27 = .ok (.iload_n 2, 1) := by decide +kernel
theorem dX0_add_28 : decode cX0_add 28 = .ok (.iastore, 1) := by decide +kernel
theorem dX0_add_29 : decode cX0_add 29 = .ok (.aload_n 0, 1) := by decide +kernel
theorem dX0_add_30 : decode cX0_add 30 = .ok (.getfield 31, 3) := by decide +kernel
theorem dX0_add_33 : decode cX0_add 33 = .ok (.aload_n 0, 1) := by decide +kernel
theorem dX0_add_34 : decode cX0_add 34 = .ok (.getfield 18, 3) := by decide +kernel
theorem dX0_add_37 : decode cX0_add 37 = .ok (.iload_n 3, 1) := by decide +kernel
theorem dX0_add_38 : decode cX0_add 38 = .ok (.iastore, 1) := by decide +kernel
theorem dX0_add_39 : decode cX0_add 39 = .ok (.aload_n 0, 1) := by decide +kernel
theorem dX0_add_40 : decode cX0_add 40 = .ok (.getfield 34, 3) := by decide +kernel
theorem dX0_add_43 : decode cX0_add 43 = .ok (.aload_n 0, 1) := by decide +kernel
theorem dX0_add_44 : decode cX0_add 44 = .ok (.getfield 18, 3) := by decide +kernel
theorem dX0_add_47 : decode cX0_add 47 = .ok (.iload 4, 2) := by decide +kernel
theorem dX0_add_49 : decode cX0_add 49 = .ok (.iastore, 1) := by decide +kernel
theorem dX0_add_50 : decode cX0_add 50 = .ok (.aload_n 0, 1) := by decide +kernel
theorem dX0_add_51 : decode cX0_add 51 = .ok (.dup, 1) := by decide +kernel
theorem dX0_add_52 : decode cX0_add 52 = .ok (.getfield 18, 3) := by decide +kernel
theorem dX0_add_55 : decode cX0_add 55 = .ok (.iconst 1, 1) := by decide +kernel
theorem dX0_add_56 : decode cX0_add 56 = .ok (.iadd, 1) := by decide +kernel
theorem dX0_add_57 : decode cX0_add 57 = .ok (.putfield 18, 3) := by decide +kernel
theorem dX0_add_60 : decode cX0_add 60 = .ok (.aload_n 0, 1) := by decide +kernel
theorem dX0_add_61 : decode cX0_add 61 = .ok (.iload_n 1, 1) := by decide +kernel
theorem dX0_add_62 : decode cX0_add 62 = .ok (.invokevirtual 46, 3) := by decide +kernel
theorem dX0_add_65 : decode cX0_add 65 = .ok (.return_, 1) := by decide +kernel
set_option maxRecDepth 20000 in
theorem ggX0_remove_X0_noteColumnsOf : GoodIn wsX0_remove wsX0_noteColumnsOf := goodIn_r _ [10, 11, 12, 13, 14, 9, 15, 2, 1, 5, 16, 17, 18, 19, 20, 21, 22, 23, 24] (by decide +kernel) (by decide +kernel)
set_option maxRecDepth 20000 in
theorem gX0_remove_X0_noteColumnsOf : GoodIn wsX0_remove (wsV RX0 46 RX0 yX0_noteColumnsOf wsX0_noteColumnsOf) := goodIn_app (goodIn_of _ (by decide +kernel)) ggX0_remove_X0_noteColumnsOf
theorem dX0_remove_0 : decode cX0_remove 0 = .ok (.aload_n 0, 1) := by decide +kernel
theorem dX0_remove_1 : decode cX0_remove 1 = .ok (.getfield 25, 3) := by decide +kernel
theorem dX0_remove_4 : decode cX0_remove 4 = .ok (.iload_n 1, 1) := by decide +kernel
theorem dX0_remove_5 : decode cX0_remove 5 = .ok (.iaload, 1) := by decide +kernel
theorem dX0_remove_6 : decode cX0_remove 6 = .ok (.istore_n 2, 1) := by decide +kernel
theorem dX0_remove_7 : decode cX0_remove 7 = .ok (.aload_n 0, 1) := by decide +kernel
theorem dX0_remove_8 : decode cX0_remove 8 = .ok (.dup, 1) := by decide +kernel
theorem dX0_remove_9 : decode cX0_remove 9 = .ok (.getfield 18, 3) := by decide +kernel
theorem dX0_remove_12 : decode cX0_remove 12 = .ok (.iconst 1, 1) := by decide +kernel
theorem dX0_remove_13 : decode cX0_remove 13 = .ok (.isub, 1) := by decide +kernel
theorem dX0_remove_14 : decode cX0_remove 14 = .ok (.putfield 18, 3) := by decide +kernel
theorem dX0_remove_17 : decode cX0_remove 17 = .ok (.iload_n 1, 1) := by decide +kernel
theorem dX0_remove_18 : decode cX0_remove 18 = .ok (.istore_n 3, 1) := by decide +kernel
theorem dX0_remove_19 : decode cX0_remove 19 = .ok (.iload_n 3, 1) := by decide +kernel
theorem dX0_remove_20 : decode cX0_remove 20 = .ok (.aload_n 0, 1) := by decide +kernel
theorem dX0_remove_21 : decode cX0_remove 21 = .ok (.getfield 18, 3) := by decide +kernel
theorem dX0_remove_24 : decode cX0_remove 24 = .ok (.if_icmp .ge 65, 3) := by decide +kernel
theorem dX0_remove_27 : decode cX0_remove 27 = .ok (.aload_n 0, 1) := by decide +kernel
theorem dX0_remove_28 : decode cX0_remove 28 = .ok (.getfield 25, 3) := by decide +kernel
theorem dX0_remove_31 : decode cX0_remove 31 = .ok (.iload_n 3, 1) := by decide +kernel
theorem dX0_remove_32 : decode cX0_remove 32 = .ok (.aload_n 0, 1) := by decide +kernel
theorem dX0_remove_33 : decode cX0_remove 33 = .ok (.getfield 25, 3) := by decide +kernel
theorem dX0_remove_36 : decode cX0_remove 36 = .ok (.iload_n 3, 1) := by decide +kernel
theorem dX0_remove_37 : decode cX0_remove 37 = .ok (.iconst 1, 1) := by decide +kernel
theorem dX0_remove_38 : decode cX0_remove 38 = .ok (.iadd, 1) := by decide +kernel
theorem dX0_remove_39 : decode cX0_remove 39 = .ok (.iaload, 1) := by decide +kernel
theorem dX0_remove_40 : decode cX0_remove 40 = .ok (.iastore, 1) := by decide +kernel
theorem dX0_remove_41 : decode cX0_remove 41 = .ok (.aload_n 0, 1) := by decide +kernel
theorem dX0_remove_42 : decode cX0_remove 42 = .ok (.getfield 28, 3) := by decide +kernel
theorem dX0_remove_45 : decode cX0_remove 45 = .ok (.iload_n 3, 1) := by decide +kernel
theorem dX0_remove_46 : decode cX0_remove 46 = .ok (.aload_n 0, 1) := by decide +kernel
theorem dX0_remove_47 : decode cX0_remove 47 = .ok (.getfield 28, 3) := by decide +kernel
theorem dX0_remove_50 : decode cX0_remove 50 = .ok (.iload_n 3, 1) := by decide +kernel
theorem dX0_remove_51 : decode cX0_remove 51 = .ok (.iconst 1, 1) := by decide +kernel
theorem dX0_remove_52 : decode cX0_remove 52 = .ok (.iadd, 1) := by decide +kernel
theorem dX0_remove_53 : decode cX0_remove 53 = .ok (.iaload, 1) := by decide +kernel
theorem dX0_remove_54 : decode cX0_remove 54 = .ok (.iastore, 1) := by decide +kernel
theorem dX0_remove_55 : decode cX0_remove 55 = .ok (.aload_n 0, 1) := by decide +kernel
theorem dX0_remove_56 : decode cX0_remove 56 = .ok (.getfield 31, 3) := by decide +kernel
theorem dX0_remove_59 : decode cX0_remove 59 = .ok (.iload_n 3, 1) := by decide +kernel
theorem dX0_remove_60 : decode cX0_remove 60 = .ok (.aload_n 0, 1) := by decide +kernel
theorem dX0_remove_61 : decode cX0_remove 61 = .ok (.getfield 31, 3) := by decide +kernel
theorem dX0_remove_64 : decode cX0_remove 64 = .ok (.iload_n 3, 1) := by decide +kernel
theorem dX0_remove_65 : decode cX0_remove 65 = .ok (.iconst 1, 1) := by decide +kernel
theorem dX0_remove_66 : decode cX0_remove 66 = .ok (.iadd, 1) := by decide +kernel
theorem dX0_remove_67 : decode cX0_remove 67 = .ok (.iaload, 1) := by decide +kernel
theorem dX0_remove_68 : decode cX0_remove 68 = .ok (.iastore, 1) := by decide +kernel
theorem dX0_remove_69 : decode cX0_remove 69 = .ok (.aload_n 0, 1) := by decide +kernel
theorem dX0_remove_70 : decode cX0_remove 70 = .ok (.getfield 34, 3) := by decide +kernel
theorem dX0_remove_73 : decode cX0_remove 73 = .ok (.iload_n 3, 1) := by decide +kernel
theorem dX0_remove_74 : decode cX0_remove 74 = .ok (.aload_n 0, 1) := by decide +kernel
theorem dX0_remove_75 : decode cX0_remove 75 = .ok (.getfield 34, 3) := by decide +kernel
theorem dX0_remove_78 : decode cX0_remove 78 = .ok (.iload_n 3, 1) := by decide +kernel
theorem dX0_remove_79 : decode cX0_remove 79 = .ok (.iconst 1, 1) := by decide +kernel
theorem dX0_remove_80 : decode cX0_remove 80 = .ok (.iadd, 1) := by decide +kernel
theorem dX0_remove_81 : decode cX0_remove 81 = .ok (.iaload, 1) := by decide +kernel
theorem dX0_remove_82 : decode cX0_remove 82 = .ok (.iastore, 1) := by decide +kernel
theorem dX0_remove_83 : decode cX0_remove 83 = .ok (.iinc 3 1, 3) := by decide +kernel
theorem dX0_remove_86 : decode cX0_remove 86 = .ok (.goto (-67), 3) := by decide +kernel
theorem dX0_remove_89 : decode cX0_remove 89 = .ok (.aload_n 0, 1) := by decide +kernel
theorem dX0_remove_90 : decode cX0_remove 90 = .ok (.iload_n 2, 1) := by decide +kernel
theorem dX0_remove_91 : decode cX0_remove 91 = .ok (.invokevirtual 46, 3) := by decide +kernel
theorem dX0_remove_94 : decode cX0_remove 94 = .ok (.return_, 1) := by decide +kernel
set_option maxRecDepth 20000 in
theorem ggX0_place_X0_noteColumnsOf : GoodIn wsX0_place wsX0_noteColumnsOf := goodIn_r _ [7, 8, 9, 10, 11, 6, 12, 13, 2, 1, 14, 15, 16, 17, 18, 19, 20, 21, 22] (by decide +kernel) (by decide +kernel)
set_option maxRecDepth 20000 in
theorem gX0_place_X0_noteColumnsOf : GoodIn wsX0_place (wsV RX0 46 RX0 yX0_noteColumnsOf wsX0_noteColumnsOf) := goodIn_app (goodIn_of _ (by decide +kernel)) ggX0_place_X0_noteColumnsOf
theorem dX0_place_0 : decode cX0_place 0 = .ok (.aload_n 0, 1) := by decide +kernel
theorem dX0_place_1 : decode cX0_place 1 = .ok (.getfield 34, 3) := by decide +kernel
theorem dX0_place_4 : decode cX0_place 4 = .ok (.iload_n 1, 1) := by decide +kernel
theorem dX0_place_5 : decode cX0_place 5 = .ok (.iload_n 2, 1) := by decide +kernel
theorem dX0_place_6 : decode cX0_place 6 = .ok (.iastore, 1) := by decide +kernel
theorem dX0_place_7 : decode cX0_place 7 = .ok (.aload_n 0, 1) := by decide +kernel
theorem dX0_place_8 : decode cX0_place 8 = .ok (.aload_n 0, 1) := by decide +kernel
theorem dX0_place_9 : decode cX0_place 9 = .ok (.getfield 25, 3) := by decide +kernel
theorem dX0_place_12 : decode cX0_place 12 = .ok (.iload_n 1, 1) := by decide +kernel
theorem dX0_place_13 : decode cX0_place 13 = .ok (.iaload, 1) := by decide +kernel
theorem dX0_place_14 : decode cX0_place 14 = .ok (.invokevirtual 46, 3) := by decide +kernel
theorem dX0_place_17 : decode cX0_place 17 = .ok (.return_, 1) := by decide +kernel
set_option maxRecDepth 20000 in
theorem ggX0_trade_X0_place : GoodIn wsX0_trade wsX0_place := goodIn_r _ [6, 1, 7, 8, 9, 10, 5, 11, 12, 13, 14, 15, 16, 17, 18, 19, 20, 21, 22, 23, 24, 25, 26] (by decide +kernel) (by decide +kernel)
set_option maxRecDepth 20000 in
theorem gX0_trade_X0_place : GoodIn wsX0_trade (wsV RX0 50 RX0 yX0_place wsX0_place) := goodIn_app (goodIn_of _ (by decide +kernel)) ggX0_trade_X0_place
theorem dX0_trade_0 : decode cX0_trade 0 = .ok (.aload_n 0, 1) := by decide +kernel
theorem dX0_trade_1 : decode cX0_trade 1 = .ok (.getfield 34, 3) := by decide +kernel
theorem dX0_trade_4 : decode cX0_trade 4 = .ok (.iload_n 1, 1) := by decide +kernel
theorem dX0_trade_5 : decode cX0_trade 5 = .ok (.iaload, 1) := by decide +kernel
theorem dX0_trade_6 : decode cX0_trade 6 = .ok (.istore_n 3, 1) := by decide +kernel
theorem dX0_trade_7 : decode cX0_trade 7 = .ok (.aload_n 0, 1) := by decide +kernel
theorem dX0_trade_8 : decode cX0_trade 8 = .ok (.iload_n 1, 1) := by decide +kernel
theorem dX0_trade_9 : decode cX0_trade 9 = .ok (.aload_n 0, 1) := by decide +kernel
theorem dX0_trade_10 : decode cX0_trade 10 = .ok (.getfield 34, 3) := by decide +kernel
theorem dX0_trade_13 : decode cX0_trade 13 = .ok (.iload_n 2, 1) := by decide +kernel
theorem dX0_trade_14 : decode cX0_trade 14 = .ok (.iaload, 1) := by decide +kernel
theorem dX0_trade_15 : decode cX0_trade 15 = .ok (.invokevirtual 50, 3) := by decide +kernel
theorem dX0_trade_18 : decode cX0_trade 18 = .ok (.aload_n 0, 1) := by decide +kernel
theorem dX0_trade_19 : decode cX0_trade 19 = .ok (.iload_n 2, 1) := by decide +kernel
theorem dX0_trade_20 : decode cX0_trade 20 = .ok (.iload_n 3, 1) := by decide +kernel
theorem dX0_trade_21 : decode cX0_trade 21 = .ok (.invokevirtual 50, 3) := by decide +kernel
theorem dX0_trade_24 : decode cX0_trade 24 = .ok (.return_, 1) := by decide +kernel
set_option maxRecDepth 20000 in
theorem ggX0_noteColumnsOf_X0_columnsWithout : GoodIn wsX0_noteColumnsOf wsX0_columnsWithout := goodIn_r _ [6, 7, 8, 9, 10, 11, 12, 13, 14, 15, 16, 17, 18] (by decide +kernel) (by decide +kernel)
set_option maxRecDepth 20000 in
theorem gX0_noteColumnsOf_X0_columnsWithout : GoodIn wsX0_noteColumnsOf (wsV RX0 54 RX0 yX0_columnsWithout wsX0_columnsWithout) := goodIn_app (goodIn_of _ (by decide +kernel)) ggX0_noteColumnsOf_X0_columnsWithout
theorem dX0_noteColumnsOf_0 : decode cX0_noteColumnsOf 0 = .ok (.aload_n 0, 1) := by decide +kernel
theorem dX0_noteColumnsOf_1 : decode cX0_noteColumnsOf 1 = .ok (.getfield 37, 3) := by decide +kernel
theorem dX0_noteColumnsOf_4 : decode cX0_noteColumnsOf 4 = .ok (.iload_n 1, 1) := by decide +kernel
theorem dX0_noteColumnsOf_5 : decode cX0_noteColumnsOf 5 = .ok (.aload_n 0, 1) := by decide +kernel
theorem dX0_noteColumnsOf_6 : decode cX0_noteColumnsOf 6 = .ok (.iload_n 1, 1) := by decide +kernel
theorem dX0_noteColumnsOf_7 : decode cX0_noteColumnsOf 7 = .ok (.iconst (-1), 1) := by decide +kernel
theorem dX0_noteColumnsOf_8 : decode cX0_noteColumnsOf 8 = .ok (.invokevirtual 54, 3) := by decide +kernel
theorem dX0_noteColumnsOf_11 : decode cX0_noteColumnsOf 11 = .ok (.iastore, 1) := by decide +kernel
theorem dX0_noteColumnsOf_12 : decode cX0_noteColumnsOf 12 = .ok (.return_, 1) := by decide +kernel
theorem dX0_columnsWithout_0 : decode cX0_columnsWithout 0 = .ok (.iconst 0, 1) := by decide +kernel
theorem dX0_columnsWithout_1 : decode cX0_columnsWithout 1 = .ok (.istore_n 3, 1) := by decide +kernel
theorem dX0_columnsWithout_2 : decode cX0_columnsWithout 2 = .ok (.iconst 0, 1) := by decide +kernel
theorem dX0_columnsWithout_3 : decode cX0_columnsWithout 3 = .ok (.istore 4, 2) := by decide +kernel
theorem dX0_columnsWithout_5 : decode cX0_columnsWithout 5 = .ok (.iload 4, 2) := by decide +kernel
theorem dX0_columnsWithout_7 : decode cX0_columnsWithout 7 = .ok (.aload_n 0, 1) := by decide +kernel
theorem dX0_columnsWithout_8 : decode cX0_columnsWithout 8 = .ok (.getfield 18, 3) := by decide +kernel
theorem dX0_columnsWithout_11 : decode cX0_columnsWithout 11 = .ok (.if_icmp .ge 49, 3) := by decide +kernel
theorem dX0_columnsWithout_14 : decode cX0_columnsWithout 14 = .ok (.iload 4, 2) := by decide +kernel
theorem dX0_columnsWithout_16 : decode cX0_columnsWithout 16 = .ok (.iload_n 2, 1) := by decide +kernel
theorem dX0_columnsWithout_17 : decode cX0_columnsWithout 17 = .ok (.if_icmp .eq 37, 3) := by decide +kernel
theorem dX0_columnsWithout_20 : decode cX0_columnsWithout 20 = .ok (.aload_n 0, 1) := by decide +kernel
theorem dX0_columnsWithout_21 : decode cX0_columnsWithout 21 = .ok (.getfield 25, 3) := by decide +kernel
theorem dX0_columnsWithout_24 : decode cX0_columnsWithout 24 = .ok (.iload 4, 2) := by decide +kernel
theorem dX0_columnsWithout_26 : decode cX0_columnsWithout 26 = .ok (.iaload, 1) := by decide +kernel
theorem dX0_columnsWithout_27 : decode cX0_columnsWithout 27 = .ok (.iload_n 1, 1) := by decide +kernel
theorem dX0_columnsWithout_28 : decode cX0_columnsWithout 28 = .ok (.if_icmp .ne 26, 3) := by decide +kernel
theorem dX0_columnsWithout_31 : decode cX0_columnsWithout 31 = .ok (.aload_n 0, 1) := by decide +kernel
theorem dX0_columnsWithout_32 : decode cX0_columnsWithout 32 = .ok (.getfield 34, 3) := by decide +kernel
theorem dX0_columnsWithout_35 : decode cX0_columnsWithout 35 = .ok (.iload 4, 2) := by decide +kernel
theorem dX0_columnsWithout_37 : decode cX0_columnsWithout 37 = .ok (.iaload, 1) := by decide +kernel
theorem dX0_columnsWithout_38 : decode cX0_columnsWithout 38 = .ok (.iconst (-1), 1) := by decide +kernel
theorem dX0_columnsWithout_39 : decode cX0_columnsWithout 39 = .ok (.if_icmp .eq 15, 3) := by decide +kernel
theorem dX0_columnsWithout_42 : decode cX0_columnsWithout 42 = .ok (.iload_n 3, 1) := by decide +kernel
theorem dX0_columnsWithout_43 : decode cX0_columnsWithout 43 = .ok (.iconst 1, 1) := by decide +kernel
theorem dX0_columnsWithout_44 : decode cX0_columnsWithout 44 = .ok (.aload_n 0, 1) := by decide +kernel
theorem dX0_columnsWithout_45 : decode cX0_columnsWithout 45 = .ok (.getfield 34, 3) := by decide +kernel
theorem dX0_columnsWithout_48 : decode cX0_columnsWithout 48 = .ok (.iload 4, 2) := by decide +kernel
theorem dX0_columnsWithout_50 : decode cX0_columnsWithout 50 = .ok (.iaload, 1) := by decide +kernel
theorem dX0_columnsWithout_51 : decode cX0_columnsWithout 51 = .ok (.ishl, 1) := by decide +kernel
theorem dX0_columnsWithout_52 : decode cX0_columnsWithout 52 = .ok (.ior, 1) := by decide +kernel
theorem dX0_columnsWithout_53 : decode cX0_columnsWithout 53 = .ok (.istore_n 3, 1) := by decide +kernel
theorem dX0_columnsWithout_54 : decode cX0_columnsWithout 54 = .ok (.iinc 4 1, 3) := by decide +kernel
theorem dX0_columnsWithout_57 : decode cX0_columnsWithout 57 = .ok (.goto (-52), 3) := by decide +kernel
theorem dX0_columnsWithout_60 : decode cX0_columnsWithout 60 = .ok (.iload_n 3, 1) := by decide +kernel
theorem dX0_columnsWithout_61 : decode cX0_columnsWithout 61 = .ok (.ireturn, 1) := by decide +kernel
theorem dX0_sectionsIn_0 : decode cX0_sectionsIn 0 = .ok (.iconst 0, 1) := by decide +kernel
theorem dX0_sectionsIn_1 : decode cX0_sectionsIn 1 = .ok (.istore_n 2, 1) := by decide +kernel
theorem dX0_sectionsIn_2 : decode cX0_sectionsIn 2 = .ok (.iconst 0, 1) := by decide +kernel
theorem dX0_sectionsIn_3 : decode cX0_sectionsIn 3 = .ok (.istore_n 3, 1) := by decide +kernel
theorem dX0_sectionsIn_4 : decode cX0_sectionsIn 4 = .ok (.iload_n 3, 1) := by decide +kernel
theorem dX0_sectionsIn_5 : decode cX0_sectionsIn 5 = .ok (.aload_n 0, 1) := by decide +kernel
theorem dX0_sectionsIn_6 : decode cX0_sectionsIn 6 = .ok (.getfield 18, 3) := by decide +kernel
theorem dX0_sectionsIn_9 : decode cX0_sectionsIn 9 = .ok (.if_icmp .ge 29, 3) := by decide +kernel
theorem dX0_sectionsIn_12 : decode cX0_sectionsIn 12 = .ok (.iload_n 2, 1) := by decide +kernel
theorem dX0_sectionsIn_13 : decode cX0_sectionsIn 13 = .ok (.aload_n 0, 1) := by decide +kernel
theorem dX0_sectionsIn_14 : decode cX0_sectionsIn 14 = .ok (.getfield 34, 3) := by decide +kernel
theorem dX0_sectionsIn_17 : decode cX0_sectionsIn 17 = .ok (.iload_n 3, 1) := by decide +kernel
theorem dX0_sectionsIn_18 : decode cX0_sectionsIn 18 = .ok (.iaload, 1) := by decide +kernel
theorem dX0_sectionsIn_19 : decode cX0_sectionsIn 19 = .ok (.iload_n 1, 1) := by decide +kernel
theorem dX0_sectionsIn_20 : decode cX0_sectionsIn 20 = .ok (.if_icmp .ne 9, 3) := by decide +kernel
theorem dX0_sectionsIn_23 : decode cX0_sectionsIn 23 = .ok (.iconst 1, 1) := by decide +kernel
theorem dX0_sectionsIn_24 : decode cX0_sectionsIn 24 = .ok (.iload_n 3, 1) := by decide +kernel
theorem dX0_sectionsIn_25 : decode cX0_sectionsIn 25 = .ok (.ishl, 1) := by decide +kernel
theorem dX0_sectionsIn_26 : decode cX0_sectionsIn 26 = .ok (.goto 4, 3) := by decide +kernel
theorem dX0_sectionsIn_29 : decode cX0_sectionsIn 29 = .ok (.iconst 0, 1) := by decide +kernel
theorem dX0_sectionsIn_30 : decode cX0_sectionsIn 30 = .ok (.ior, 1) := by decide +kernel
theorem dX0_sectionsIn_31 : decode cX0_sectionsIn 31 = .ok (.istore_n 2, 1) := by decide +kernel
theorem dX0_sectionsIn_32 : decode cX0_sectionsIn 32 = .ok (.iinc 3 1, 3) := by decide +kernel
theorem dX0_sectionsIn_35 : decode cX0_sectionsIn 35 = .ok (.goto (-31), 3) := by decide +kernel
theorem dX0_sectionsIn_38 : decode cX0_sectionsIn 38 = .ok (.iload_n 2, 1) := by decide +kernel
theorem dX0_sectionsIn_39 : decode cX0_sectionsIn 39 = .ok (.ireturn, 1) := by decide +kernel
set_option maxRecDepth 20000 in
theorem ggX0_subjectsIn_X5_hasBit : GoodIn wsX0_subjectsIn wsX5_hasBit := goodIn_r _ [4] (by decide +kernel) (by decide +kernel)
set_option maxRecDepth 20000 in
theorem gX0_subjectsIn_X5_hasBit_n58 : GoodIn wsX0_subjectsIn (wsX5_hasBit) := ggX0_subjectsIn_X5_hasBit
theorem dX0_subjectsIn_0 : decode cX0_subjectsIn 0 = .ok (.iconst 0, 1) := by decide +kernel
theorem dX0_subjectsIn_1 : decode cX0_subjectsIn 1 = .ok (.istore_n 2, 1) := by decide +kernel
theorem dX0_subjectsIn_2 : decode cX0_subjectsIn 2 = .ok (.iconst 0, 1) := by decide +kernel
theorem dX0_subjectsIn_3 : decode cX0_subjectsIn 3 = .ok (.istore_n 3, 1) := by decide +kernel
theorem dX0_subjectsIn_4 : decode cX0_subjectsIn 4 = .ok (.iload_n 3, 1) := by decide +kernel
theorem dX0_subjectsIn_5 : decode cX0_subjectsIn 5 = .ok (.bipush 10, 2) := by decide +kernel
theorem dX0_subjectsIn_7 : decode cX0_subjectsIn 7 = .ok (.if_icmp .ge 32, 3) := by decide +kernel
theorem dX0_subjectsIn_10 : decode cX0_subjectsIn 10 = .ok (.iload_n 2, 1) := by decide +kernel
theorem dX0_subjectsIn_11 : decode cX0_subjectsIn 11 = .ok (.aload_n 0, 1) := by decide +kernel
theorem dX0_subjectsIn_12 : decode cX0_subjectsIn 12 = .ok (.getfield 37, 3) := by decide +kernel
theorem dX0_subjectsIn_15 : decode cX0_subjectsIn 15 = .ok (.iload_n 3, 1) := by decide +kernel
theorem dX0_subjectsIn_16 : decode cX0_subjectsIn 16 = .ok (.iaload, 1) := by decide +kernel
theorem dX0_subjectsIn_17 : decode cX0_subjectsIn 17 = .ok (.iload_n 1, 1) := by decide +kernel
theorem dX0_subjectsIn_18 : decode cX0_subjectsIn 18 = .ok (.invokestatic 58, 3) := by decide +kernel
theorem dX0_subjectsIn_21 : decode cX0_subjectsIn 21 = .ok (.ifCond .eq 9, 3) := by decide +kernel
theorem dX0_subjectsIn_24 : decode cX0_subjectsIn 24 = .ok (.iconst 1, 1) := by decide +kernel
theorem dX0_subjectsIn_25 : decode cX0_subjectsIn 25 = .ok (.iload_n 3, 1) := by decide +kernel
theorem dX0_subjectsIn_26 : decode cX0_subjectsIn 26 = .ok (.ishl, 1) := by decide +kernel
theorem dX0_subjectsIn_27 : decode cX0_subjectsIn 27 = .ok (.goto 4, 3) := by decide +kernel
theorem dX0_subjectsIn_30 : decode cX0_subjectsIn 30 = .ok (.iconst 0, 1) := by decide +kernel
theorem dX0_subjectsIn_31 : decode cX0_subjectsIn 31 = .ok (.ior, 1) := by decide +kernel
theorem dX0_subjectsIn_32 : decode cX0_subjectsIn 32 = .ok (.istore_n 2, 1) := by decide +kernel
theorem dX0_subjectsIn_33 : decode cX0_subjectsIn 33 = .ok (.iinc 3 1, 3) := by decide +kernel
theorem dX0_subjectsIn_36 : decode cX0_subjectsIn 36 = .ok (.goto (-32), 3) := by decide +kernel
theorem dX0_subjectsIn_39 : decode cX0_subjectsIn 39 = .ok (.iload_n 2, 1) := by decide +kernel
theorem dX0_subjectsIn_40 : decode cX0_subjectsIn 40 = .ok (.ireturn, 1) := by decide +kernel
set_option maxRecDepth 20000 in
theorem ggX0_fullColumns_X0_sectionsIn : GoodIn wsX0_fullColumns wsX0_sectionsIn := goodIn_r _ [7, 8, 9, 17, 18, 19, 20, 21, 22, 23, 24, 25] (by decide +kernel) (by decide +kernel)
set_option maxRecDepth 20000 in
theorem gX0_fullColumns_X0_sectionsIn : GoodIn wsX0_fullColumns (wsV RX0 62 RX0 yX0_sectionsIn wsX0_sectionsIn) := goodIn_app (goodIn_of _ (by decide +kernel)) ggX0_fullColumns_X0_sectionsIn
set_option maxRecDepth 20000 in
theorem ggX0_fullColumns_J6_bitCount_0f7a4 : GoodIn wsX0_fullColumns wsJ6_bitCount_0f7a4 := goodIn_r _ [13, 14, 15, 16] (by decide +kernel) (by decide +kernel)
set_option maxRecDepth 20000 in
theorem gX0_fullColumns_J6_bitCount_0f7a4 : GoodIn wsX0_fullColumns (va_wsS RX0 66 yJ6_bitCount_0f7a4 wsJ6_bitCount_0f7a4) := goodIn_app (goodIn_of _ (by decide +kernel)) ggX0_fullColumns_J6_bitCount_0f7a4
theorem dX0_fullColumns_0 : decode cX0_fullColumns 0 = .ok (.iconst 0, 1) := by decide +kernel
theorem dX0_fullColumns_1 : decode cX0_fullColumns 1 = .ok (.istore_n 1, 1) := by decide +kernel
theorem dX0_fullColumns_2 : decode cX0_fullColumns 2 = .ok (.iconst 0, 1) := by decide +kernel
theorem dX0_fullColumns_3 : decode cX0_fullColumns 3 = .ok (.istore_n 2, 1) := by decide +kernel
theorem dX0_fullColumns_4 : decode cX0_fullColumns 4 = .ok (.iload_n 2, 1) := by decide +kernel
theorem dX0_fullColumns_5 : decode cX0_fullColumns 5 = .ok (.aload_n 0, 1) := by decide +kernel
theorem dX0_fullColumns_6 : decode cX0_fullColumns 6 = .ok (.getfield 9, 3) := by decide +kernel
theorem dX0_fullColumns_9 : decode cX0_fullColumns 9 = .ok (.if_icmp .ge 34, 3) := by decide +kernel
theorem dX0_fullColumns_12 : decode cX0_fullColumns 12 = .ok (.iload_n 1, 1) := by decide +kernel
theorem dX0_fullColumns_13 : decode cX0_fullColumns 13 = .ok (.aload_n 0, 1) := by decide +kernel
theorem dX0_fullColumns_14 : decode cX0_fullColumns 14 = .ok (.iload_n 2, 1) := by decide +kernel
theorem dX0_fullColumns_15 : decode cX0_fullColumns 15 = .ok (.invokevirtual 62, 3) := by decide +kernel
theorem dX0_fullColumns_18 : decode cX0_fullColumns 18 = .ok (.invokestatic 66, 3) := by decide +kernel
theorem dX0_fullColumns_21 : decode cX0_fullColumns 21 = .ok (.aload_n 0, 1) := by decide +kernel
theorem dX0_fullColumns_22 : decode cX0_fullColumns 22 = .ok (.getfield 15, 3) := by decide +kernel
theorem dX0_fullColumns_25 : decode cX0_fullColumns 25 = .ok (.if_icmp .lt 9, 3) := by decide +kernel
theorem dX0_fullColumns_28 : decode cX0_fullColumns 28 = .ok (.iconst 1, 1) := by decide +kernel
theorem dX0_fullColumns_29 : decode cX0_fullColumns 29 = .ok (.iload_n 2, 1) := by decide +kernel
theorem dX0_fullColumns_30 : decode cX0_fullColumns 30 = .ok (.ishl, 1) := by decide +kernel
theorem dX0_fullColumns_31 : decode cX0_fullColumns 31 = .ok (.goto 4, 3) := by decide +kernel
theorem dX0_fullColumns_34 : decode cX0_fullColumns 34 = .ok (.iconst 0, 1) := by decide +kernel
theorem dX0_fullColumns_35 : decode cX0_fullColumns 35 = .ok (.ior, 1) := by decide +kernel
theorem dX0_fullColumns_36 : decode cX0_fullColumns 36 = .ok (.istore_n 1, 1) := by decide +kernel
theorem dX0_fullColumns_37 : decode cX0_fullColumns 37 = .ok (.iinc 2 1, 3) := by decide +kernel
theorem dX0_fullColumns_40 : decode cX0_fullColumns 40 = .ok (.goto (-36), 3) := by decide +kernel
theorem dX0_fullColumns_43 : decode cX0_fullColumns 43 = .ok (.iload_n 1, 1) := by decide +kernel
theorem dX0_fullColumns_44 : decode cX0_fullColumns 44 = .ok (.ireturn, 1) := by decide +kernel
theorem dX0_busyTeachers_0 : decode cX0_busyTeachers 0 = .ok (.iconst 0, 1) := by decide +kernel
theorem dX0_busyTeachers_1 : decode cX0_busyTeachers 1 = .ok (.istore_n 1, 1) := by decide +kernel
theorem dX0_busyTeachers_2 : decode cX0_busyTeachers 2 = .ok (.iconst 0, 1) := by decide +kernel
theorem dX0_busyTeachers_3 : decode cX0_busyTeachers 3 = .ok (.istore_n 2, 1) := by decide +kernel
theorem dX0_busyTeachers_4 : decode cX0_busyTeachers 4 = .ok (.iconst 0, 1) := by decide +kernel
theorem dX0_busyTeachers_5 : decode cX0_busyTeachers 5 = .ok (.istore_n 3, 1) := by decide +kernel
theorem dX0_busyTeachers_6 : decode cX0_busyTeachers 6 = .ok (.iload_n 3, 1) := by decide +kernel
theorem dX0_busyTeachers_7 : decode cX0_busyTeachers 7 = .ok (.aload_n 0, 1) := by decide +kernel
theorem dX0_busyTeachers_8 : decode cX0_busyTeachers 8 = .ok (.getfield 18, 3) := by decide +kernel
theorem dX0_busyTeachers_11 : decode cX0_busyTeachers 11 = .ok (.if_icmp .ge 31, 3) := by decide +kernel
theorem dX0_busyTeachers_14 : decode cX0_busyTeachers 14 = .ok (.iconst 1, 1) := by decide +kernel
theorem dX0_busyTeachers_15 : decode cX0_busyTeachers 15 = .ok (.aload_n 0, 1) := by decide +kernel
theorem dX0_busyTeachers_16 : decode cX0_busyTeachers 16 = .ok (.getfield 28, 3) := by decide +kernel
theorem dX0_busyTeachers_19 : decode cX0_busyTeachers 19 = .ok (.iload_n 3, 1) := by decide +kernel
theorem dX0_busyTeachers_20 : decode cX0_busyTeachers 20 = .ok (.iaload, 1) := by decide +kernel
theorem dX0_busyTeachers_21 : decode cX0_busyTeachers 21 = .ok (.ishl, 1) := by decide +kernel
theorem dX0_busyTeachers_22 : decode cX0_busyTeachers 22 = .ok (.istore 4, 2) := by decide +kernel
theorem dX0_busyTeachers_24 : decode cX0_busyTeachers 24 = .ok (.iload_n 2, 1) := by decide +kernel
theorem dX0_busyTeachers_25 : decode cX0_busyTeachers 25 = .ok (.iload_n 1, 1) := by decide +kernel
theorem dX0_busyTeachers_26 : decode cX0_busyTeachers 26 = .ok (.iload 4, 2) := by decide +kernel
theorem dX0_busyTeachers_28 : decode cX0_busyTeachers 28 = .ok (.iand, 1) := by decide +kernel
theorem dX0_busyTeachers_29 : decode cX0_busyTeachers 29 = .ok (.ior, 1) := by decide +kernel
theorem dX0_busyTeachers_30 : decode cX0_busyTeachers 30 = .ok (.istore_n 2, 1) := by decide +kernel
theorem dX0_busyTeachers_31 : decode cX0_busyTeachers 31 = .ok (.iload_n 1, 1) := by decide +kernel
theorem dX0_busyTeachers_32 : decode cX0_busyTeachers 32 = .ok (.iload 4, 2) := by decide +kernel
theorem dX0_busyTeachers_34 : decode cX0_busyTeachers 34 = .ok (.ior, 1) := by decide +kernel
theorem dX0_busyTeachers_35 : decode cX0_busyTeachers 35 = .ok (.istore_n 1, 1) := by decide +kernel
theorem dX0_busyTeachers_36 : decode cX0_busyTeachers 36 = .ok (.iinc 3 1, 3) := by decide +kernel
theorem dX0_busyTeachers_39 : decode cX0_busyTeachers 39 = .ok (.goto (-33), 3) := by decide +kernel
theorem dX0_busyTeachers_42 : decode cX0_busyTeachers 42 = .ok (.iload_n 2, 1) := by decide +kernel
theorem dX0_busyTeachers_43 : decode cX0_busyTeachers 43 = .ok (.ireturn, 1) := by decide +kernel
set_option maxRecDepth 20000 in
theorem ggX0_obstacle_X5_hasBit : GoodIn wsX0_obstacle wsX5_hasBit := goodIn_r _ [8] (by decide +kernel) (by decide +kernel)
set_option maxRecDepth 20000 in
theorem gX0_obstacle_X5_hasBit_n58 : GoodIn wsX0_obstacle (wsX5_hasBit) := ggX0_obstacle_X5_hasBit
theorem dX0_obstacle_0 : decode cX0_obstacle 0 = .ok (.iconst 0, 1) := by decide +kernel
theorem dX0_obstacle_1 : decode cX0_obstacle 1 = .ok (.istore 4, 2) := by decide +kernel
theorem dX0_obstacle_3 : decode cX0_obstacle 3 = .ok (.iconst 0, 1) := by decide +kernel
theorem dX0_obstacle_4 : decode cX0_obstacle 4 = .ok (.istore 5, 2) := by decide +kernel
theorem dX0_obstacle_6 : decode cX0_obstacle 6 = .ok (.iconst 0, 1) := by decide +kernel
theorem dX0_obstacle_7 : decode cX0_obstacle 7 = .ok (.istore 6, 2) := by decide +kernel
theorem dX0_obstacle_9 : decode cX0_obstacle 9 = .ok (.iload 6, 2) := by decide +kernel
theorem dX0_obstacle_11 : decode cX0_obstacle 11 = .ok (.aload_n 0, 1) := by decide +kernel
theorem dX0_obstacle_12 : decode cX0_obstacle 12 = .ok (.getfield 18, 3) := by decide +kernel
theorem dX0_obstacle_15 : decode cX0_obstacle 15 = .ok (.if_icmp .ge 52, 3) := by decide +kernel
theorem dX0_obstacle_18 : decode cX0_obstacle 18 = .ok (.iload 6, 2) := by decide +kernel
theorem dX0_obstacle_20 : decode cX0_obstacle 20 = .ok (.iload_n 1, 1) := by decide +kernel
theorem dX0_obstacle_21 : decode cX0_obstacle 21 = .ok (.if_icmp .eq 40, 3) := by decide +kernel
theorem dX0_obstacle_24 : decode cX0_obstacle 24 = .ok (.aload_n 0, 1) := by decide +kernel
theorem dX0_obstacle_25 : decode cX0_obstacle 25 = .ok (.getfield 34, 3) := by decide +kernel
theorem dX0_obstacle_28 : decode cX0_obstacle 28 = .ok (.iload 6, 2) := by decide +kernel
theorem dX0_obstacle_30 : decode cX0_obstacle 30 = .ok (.iaload, 1) := by decide +kernel
theorem dX0_obstacle_31 : decode cX0_obstacle 31 = .ok (.iload_n 3, 1) := by decide +kernel
theorem dX0_obstacle_32 : decode cX0_obstacle 32 = .ok (.if_icmp .ne 29, 3) := by decide +kernel
theorem dX0_obstacle_35 : decode cX0_obstacle 35 = .ok (.iinc 4 1, 3) := by decide +kernel
theorem dX0_obstacle_38 : decode cX0_obstacle 38 = .ok (.iload 5, 2) := by decide +kernel
theorem dX0_obstacle_40 : decode cX0_obstacle 40 = .ok (.ifCond .ne 14, 3) := by decide +kernel
theorem dX0_obstacle_43 : decode cX0_obstacle 43 = .ok (.aload_n 0, 1) := by decide +kernel
theorem dX0_obstacle_44 : decode cX0_obstacle 44 = .ok (.getfield 28, 3) := by decide +kernel
theorem dX0_obstacle_47 : decode cX0_obstacle 47 = .ok (.iload 6, 2) := by decide +kernel
theorem dX0_obstacle_49 : decode cX0_obstacle 49 = .ok (.iaload, 1) := by decide +kernel
theorem dX0_obstacle_50 : decode cX0_obstacle 50 = .ok (.iload_n 2, 1) := by decide +kernel
theorem dX0_obstacle_51 : decode cX0_obstacle 51 = .ok (.if_icmp .ne 7, 3) := by decide +kernel
theorem dX0_obstacle_54 : decode cX0_obstacle 54 = .ok (.iconst 1, 1) := by decide +kernel
theorem dX0_obstacle_55 : decode cX0_obstacle 55 = .ok (.goto 4, 3) := by decide +kernel
theorem dX0_obstacle_58 : decode cX0_obstacle 58 = .ok (.iconst 0, 1) := by decide +kernel
theorem dX0_obstacle_59 : decode cX0_obstacle 59 = .ok (.istore 5, 2) := by decide +kernel
theorem dX0_obstacle_61 : decode cX0_obstacle 61 = .ok (.iinc 6 1, 3) := by decide +kernel
theorem dX0_obstacle_64 : decode cX0_obstacle 64 = .ok (.goto (-55), 3) := by decide +kernel
theorem dX0_obstacle_67 : decode cX0_obstacle 67 = .ok (.iload 5, 2) := by decide +kernel
theorem dX0_obstacle_69 : decode cX0_obstacle 69 = .ok (.ifCond .eq 5, 3) := by decide +kernel
theorem dX0_obstacle_72 : decode cX0_obstacle 72 = .ok (.iconst 1, 1) := by decide +kernel
theorem dX0_obstacle_73 : decode cX0_obstacle 73 = .ok (.ireturn, 1) := by decide +kernel
theorem dX0_obstacle_74 : decode cX0_obstacle 74 = .ok (.aload_n 0, 1) := by decide +kernel
theorem dX0_obstacle_75 : decode cX0_obstacle 75 = .ok (.getfield 21, 3) := by decide +kernel
theorem dX0_obstacle_78 : decode cX0_obstacle 78 = .ok (.iload_n 2, 1) := by decide +kernel
theorem dX0_obstacle_79 : decode cX0_obstacle 79 = .ok (.iaload, 1) := by decide +kernel
theorem dX0_obstacle_80 : decode cX0_obstacle 80 = .ok (.iload_n 3, 1) := by decide +kernel
theorem dX0_obstacle_81 : decode cX0_obstacle 81 = .ok (.invokestatic 58, 3) := by decide +kernel
theorem dX0_obstacle_84 : decode cX0_obstacle 84 = .ok (.ifCond .eq 5, 3) := by decide +kernel
theorem dX0_obstacle_87 : decode cX0_obstacle 87 = .ok (.iconst 2, 1) := by decide +kernel
theorem dX0_obstacle_88 : decode cX0_obstacle 88 = .ok (.ireturn, 1) := by decide +kernel
theorem dX0_obstacle_89 : decode cX0_obstacle 89 = .ok (.iload 4, 2) := by decide +kernel
theorem dX0_obstacle_91 : decode cX0_obstacle 91 = .ok (.aload_n 0, 1) := by decide +kernel
theorem dX0_obstacle_92 : decode cX0_obstacle 92 = .ok (.getfield 15, 3) := by decide +kernel
theorem dX0_obstacle_95 : decode cX0_obstacle 95 = .ok (.if_icmp .ge 7, 3) := by decide +kernel
theorem dX0_obstacle_98 : decode cX0_obstacle 98 = .ok (.iconst 0, 1) := by decide +kernel
theorem dX0_obstacle_99 : decode cX0_obstacle 99 = .ok (.goto 4, 3) := by decide +kernel
theorem dX0_obstacle_102 : decode cX0_obstacle 102 = .ok (.iconst 3, 1) := by decide +kernel
theorem dX0_obstacle_103 : decode cX0_obstacle 103 = .ok (.ireturn, 1) := by decide +kernel
set_option maxRecDepth 20000 in
theorem ggX0_lawfulColumns_X0_obstacle : GoodIn wsX0_lawfulColumns wsX0_obstacle := goodIn_r _ [6, 7, 8, 9, 10, 11, 12, 13, 14, 15, 16, 17, 18, 19, 20, 21, 22, 23] (by decide +kernel) (by decide +kernel)
set_option maxRecDepth 20000 in
theorem gX0_lawfulColumns_X0_obstacle : GoodIn wsX0_lawfulColumns (wsV RX0 71 RX0 yX0_obstacle wsX0_obstacle) := goodIn_app (goodIn_of _ (by decide +kernel)) ggX0_lawfulColumns_X0_obstacle
theorem dX0_lawfulColumns_0 : decode cX0_lawfulColumns 0 = .ok (.iconst 0, 1) := by decide +kernel
theorem dX0_lawfulColumns_1 : decode cX0_lawfulColumns 1 = .ok (.istore_n 3, 1) := by decide +kernel
theorem dX0_lawfulColumns_2 : decode cX0_lawfulColumns 2 = .ok (.iconst 0, 1) := by decide +kernel
theorem dX0_lawfulColumns_3 : decode cX0_lawfulColumns 3 = .ok (.istore 4, 2) := by decide +kernel
theorem dX0_lawfulColumns_5 : decode cX0_lawfulColumns 5 = .ok (.iload 4, 2) := by decide +kernel
theorem dX0_lawfulColumns_7 : decode cX0_lawfulColumns 7 = .ok (.aload_n 0, 1) := by decide +kernel
theorem dX0_lawfulColumns_8 : decode cX0_lawfulColumns 8 = .ok (.getfield 9, 3) := by decide +kernel
theorem dX0_lawfulColumns_11 : decode cX0_lawfulColumns 11 = .ok (.if_icmp .ge 31, 3) := by decide +kernel
theorem dX0_lawfulColumns_14 : decode cX0_lawfulColumns 14 = .ok (.iload_n 3, 1) := by decide +kernel
theorem dX0_lawfulColumns_15 : decode cX0_lawfulColumns 15 = .ok (.aload_n 0, 1) := by decide +kernel
theorem dX0_lawfulColumns_16 : decode cX0_lawfulColumns 16 = .ok (.iload_n 1, 1) := by decide +kernel
theorem dX0_lawfulColumns_17 : decode cX0_lawfulColumns 17 = .ok (.iload_n 2, 1) := by decide +kernel
theorem dX0_lawfulColumns_18 : decode cX0_lawfulColumns 18 = .ok (.iload 4, 2) := by decide +kernel
theorem dX0_lawfulColumns_20 : decode cX0_lawfulColumns 20 = .ok (.invokevirtual 71, 3) := by decide +kernel
theorem dX0_lawfulColumns_23 : decode cX0_lawfulColumns 23 = .ok (.ifCond .ne 10, 3) := by decide +kernel
theorem dX0_lawfulColumns_26 : decode cX0_lawfulColumns 26 = .ok (.iconst 1, 1) := by decide +kernel
theorem dX0_lawfulColumns_27 : decode cX0_lawfulColumns 27 = .ok (.iload 4, 2) := by decide +kernel
theorem dX0_lawfulColumns_29 : decode cX0_lawfulColumns 29 = .ok (.ishl, 1) := by decide +kernel
theorem dX0_lawfulColumns_30 : decode cX0_lawfulColumns 30 = .ok (.goto 4, 3) := by decide +kernel
theorem dX0_lawfulColumns_33 : decode cX0_lawfulColumns 33 = .ok (.iconst 0, 1) := by decide +kernel
theorem dX0_lawfulColumns_34 : decode cX0_lawfulColumns 34 = .ok (.ior, 1) := by decide +kernel
theorem dX0_lawfulColumns_35 : decode cX0_lawfulColumns 35 = .ok (.istore_n 3, 1) := by decide +kernel
theorem dX0_lawfulColumns_36 : decode cX0_lawfulColumns 36 = .ok (.iinc 4 1, 3) := by decide +kernel
theorem dX0_lawfulColumns_39 : decode cX0_lawfulColumns 39 = .ok (.goto (-34), 3) := by decide +kernel
theorem dX0_lawfulColumns_42 : decode cX0_lawfulColumns 42 = .ok (.iload_n 3, 1) := by decide +kernel
theorem dX0_lawfulColumns_43 : decode cX0_lawfulColumns 43 = .ok (.ireturn, 1) := by decide +kernel
set_option maxRecDepth 20000 in
theorem ggX0_mayMove_X0_obstacle : GoodIn wsX0_mayMove wsX0_obstacle := goodIn_r _ [7, 8, 1, 2, 9, 10, 11, 12, 13, 14, 15, 16, 17, 18, 19, 20, 21, 22] (by decide +kernel) (by decide +kernel)
set_option maxRecDepth 20000 in
theorem gX0_mayMove_X0_obstacle : GoodIn wsX0_mayMove (wsV RX0 71 RX0 yX0_obstacle wsX0_obstacle) := goodIn_app (goodIn_of _ (by decide +kernel)) ggX0_mayMove_X0_obstacle
theorem dX0_mayMove_0 : decode cX0_mayMove 0 = .ok (.aload_n 0, 1) := by decide +kernel
theorem dX0_mayMove_1 : decode cX0_mayMove 1 = .ok (.getfield 34, 3) := by decide +kernel
theorem dX0_mayMove_4 : decode cX0_mayMove 4 = .ok (.iload_n 1, 1) := by decide +kernel
theorem dX0_mayMove_5 : decode cX0_mayMove 5 = .ok (.iaload, 1) := by decide +kernel
theorem dX0_mayMove_6 : decode cX0_mayMove 6 = .ok (.iload_n 2, 1) := by decide +kernel
theorem dX0_mayMove_7 : decode cX0_mayMove 7 = .ok (.if_icmp .eq 22, 3) := by decide +kernel
theorem dX0_mayMove_10 : decode cX0_mayMove 10 = .ok (.aload_n 0, 1) := by decide +kernel
theorem dX0_mayMove_11 : decode cX0_mayMove 11 = .ok (.iload_n 1, 1) := by decide +kernel
theorem dX0_mayMove_12 : decode cX0_mayMove 12 = .ok (.aload_n 0, 1) := by decide +kernel
theorem dX0_mayMove_13 : decode cX0_mayMove 13 = .ok (.getfield 28, 3) := by decide +kernel
theorem dX0_mayMove_16 : decode cX0_mayMove 16 = .ok (.iload_n 1, 1) := by decide +kernel
theorem dX0_mayMove_17 : decode cX0_mayMove 17 = .ok (.iaload, 1) := by decide +kernel
theorem dX0_mayMove_18 : decode cX0_mayMove 18 = .ok (.iload_n 2, 1) := by decide +kernel
theorem dX0_mayMove_19 : decode cX0_mayMove 19 = .ok (.invokevirtual 71, 3) := by decide +kernel
theorem dX0_mayMove_22 : decode cX0_mayMove 22 = .ok (.ifCond .ne 7, 3) := by decide +kernel
theorem dX0_mayMove_25 : decode cX0_mayMove 25 = .ok (.iconst 1, 1) := by decide +kernel
theorem dX0_mayMove_26 : decode cX0_mayMove 26 = .ok (.goto 4, 3) := by decide +kernel
theorem dX0_mayMove_29 : decode cX0_mayMove 29 = .ok (.iconst 0, 1) := by decide +kernel
theorem dX0_mayMove_30 : decode cX0_mayMove 30 = .ok (.ireturn, 1) := by decide +kernel
theorem dX0_teaches_0 : decode cX0_teaches 0 = .ok (.iconst 0, 1) := by decide +kernel
theorem dX0_teaches_1 : decode cX0_teaches 1 = .ok (.istore_n 3, 1) := by decide +kernel
theorem dX0_teaches_2 : decode cX0_teaches 2 = .ok (.iload_n 3, 1) := by decide +kernel
theorem dX0_teaches_3 : decode cX0_teaches 3 = .ok (.aload_n 0, 1) := by decide +kernel
theorem dX0_teaches_4 : decode cX0_teaches 4 = .ok (.getfield 18, 3) := by decide +kernel
theorem dX0_teaches_7 : decode cX0_teaches 7 = .ok (.if_icmp .ge 31, 3) := by decide +kernel
theorem dX0_teaches_10 : decode cX0_teaches 10 = .ok (.aload_n 0, 1) := by decide +kernel
theorem dX0_teaches_11 : decode cX0_teaches 11 = .ok (.getfield 28, 3) := by decide +kernel
theorem dX0_teaches_14 : decode cX0_teaches 14 = .ok (.iload_n 3, 1) := by decide +kernel
theorem dX0_teaches_15 : decode cX0_teaches 15 = .ok (.iaload, 1) := by decide +kernel
theorem dX0_teaches_16 : decode cX0_teaches 16 = .ok (.iload_n 1, 1) := by decide +kernel
theorem dX0_teaches_17 : decode cX0_teaches 17 = .ok (.if_icmp .ne 15, 3) := by decide +kernel
theorem dX0_teaches_20 : decode cX0_teaches 20 = .ok (.aload_n 0, 1) := by decide +kernel
theorem dX0_teaches_21 : decode cX0_teaches 21 = .ok (.getfield 34, 3) := by decide +kernel
theorem dX0_teaches_24 : decode cX0_teaches 24 = .ok (.iload_n 3, 1) := by decide +kernel
theorem dX0_teaches_25 : decode cX0_teaches 25 = .ok (.iaload, 1) := by decide +kernel
theorem dX0_teaches_26 : decode cX0_teaches 26 = .ok (.iload_n 2, 1) := by decide +kernel
theorem dX0_teaches_27 : decode cX0_teaches 27 = .ok (.if_icmp .ne 5, 3) := by decide +kernel
theorem dX0_teaches_30 : decode cX0_teaches 30 = .ok (.iconst 1, 1) := by decide +kernel
theorem dX0_teaches_31 : decode cX0_teaches 31 = .ok (.ireturn, 1) := by decide +kernel
theorem dX0_teaches_32 : decode cX0_teaches 32 = .ok (.iinc 3 1, 3) := by decide +kernel
theorem dX0_teaches_35 : decode cX0_teaches 35 = .ok (.goto (-33), 3) := by decide +kernel
theorem dX0_teaches_38 : decode cX0_teaches 38 = .ok (.iconst 0, 1) := by decide +kernel
theorem dX0_teaches_39 : decode cX0_teaches 39 = .ok (.ireturn, 1) := by decide +kernel
theorem dX0_areApart_0 : decode cX0_areApart 0 = .ok (.aload_n 0, 1) := by decide +kernel
theorem dX0_areApart_1 : decode cX0_areApart 1 = .ok (.getfield 34, 3) := by decide +kernel
theorem dX0_areApart_4 : decode cX0_areApart 4 = .ok (.iload_n 1, 1) := by decide +kernel
theorem dX0_areApart_5 : decode cX0_areApart 5 = .ok (.iaload, 1) := by decide +kernel
theorem dX0_areApart_6 : decode cX0_areApart 6 = .ok (.iconst (-1), 1) := by decide +kernel
theorem dX0_areApart_7 : decode cX0_areApart 7 = .ok (.if_icmp .eq 32, 3) := by decide +kernel
theorem dX0_areApart_10 : decode cX0_areApart 10 = .ok (.aload_n 0, 1) := by decide +kernel
theorem dX0_areApart_11 : decode cX0_areApart 11 = .ok (.getfield 34, 3) := by decide +kernel
theorem dX0_areApart_14 : decode cX0_areApart 14 = .ok (.iload_n 2, 1) := by decide +kernel
theorem dX0_areApart_15 : decode cX0_areApart 15 = .ok (.iaload, 1) := by decide +kernel
theorem dX0_areApart_16 : decode cX0_areApart 16 = .ok (.iconst (-1), 1) := by decide +kernel
theorem dX0_areApart_17 : decode cX0_areApart 17 = .ok (.if_icmp .eq 22, 3) := by decide +kernel
theorem dX0_areApart_20 : decode cX0_areApart 20 = .ok (.aload_n 0, 1) := by decide +kernel
theorem dX0_areApart_21 : decode cX0_areApart 21 = .ok (.getfield 34, 3) := by decide +kernel
theorem dX0_areApart_24 : decode cX0_areApart 24 = .ok (.iload_n 1, 1) := by decide +kernel
theorem dX0_areApart_25 : decode cX0_areApart 25 = .ok (.iaload, 1) := by decide +kernel
theorem dX0_areApart_26 : decode cX0_areApart 26 = .ok (.aload_n 0, 1) := by decide +kernel
theorem dX0_areApart_27 : decode cX0_areApart 27 = .ok (.getfield 34, 3) := by decide +kernel
theorem dX0_areApart_30 : decode cX0_areApart 30 = .ok (.iload_n 2, 1) := by decide +kernel
theorem dX0_areApart_31 : decode cX0_areApart 31 = .ok (.iaload, 1) := by decide +kernel
theorem dX0_areApart_32 : decode cX0_areApart 32 = .ok (.if_icmp .eq 7, 3) := by decide +kernel
theorem dX0_areApart_35 : decode cX0_areApart 35 = .ok (.iconst 1, 1) := by decide +kernel
theorem dX0_areApart_36 : decode cX0_areApart 36 = .ok (.goto 4, 3) := by decide +kernel
theorem dX0_areApart_39 : decode cX0_areApart 39 = .ok (.iconst 0, 1) := by decide +kernel
theorem dX0_areApart_40 : decode cX0_areApart 40 = .ok (.ireturn, 1) := by decide +kernel
set_option maxRecDepth 20000 in
theorem ggX0_mayTrade_X0_mayReplace : GoodIn wsX0_mayTrade wsX0_mayReplace := goodIn_r _ [5, 6, 7, 8, 9, 10, 4, 11, 12, 13, 14, 15, 16, 17, 18, 19, 20, 21, 22, 23, 24, 25, 26] (by decide +kernel) (by decide +kernel)
set_option maxRecDepth 20000 in
theorem gX0_mayTrade_X0_mayReplace : GoodIn wsX0_mayTrade (wsV RX0 75 RX0 yX0_mayReplace wsX0_mayReplace) := goodIn_app (goodIn_of _ (by decide +kernel)) ggX0_mayTrade_X0_mayReplace
theorem dX0_mayTrade_0 : decode cX0_mayTrade 0 = .ok (.aload_n 0, 1) := by decide +kernel
theorem dX0_mayTrade_1 : decode cX0_mayTrade 1 = .ok (.iload_n 1, 1) := by decide +kernel
theorem dX0_mayTrade_2 : decode cX0_mayTrade 2 = .ok (.iload_n 2, 1) := by decide +kernel
theorem dX0_mayTrade_3 : decode cX0_mayTrade 3 = .ok (.invokevirtual 75, 3) := by decide +kernel
theorem dX0_mayTrade_6 : decode cX0_mayTrade 6 = .ok (.ifCond .eq 16, 3) := by decide +kernel
theorem dX0_mayTrade_9 : decode cX0_mayTrade 9 = .ok (.aload_n 0, 1) := by decide +kernel
theorem dX0_mayTrade_10 : decode cX0_mayTrade 10 = .ok (.iload_n 2, 1) := by decide +kernel
theorem dX0_mayTrade_11 : decode cX0_mayTrade 11 = .ok (.iload_n 1, 1) := by decide +kernel
theorem dX0_mayTrade_12 : decode cX0_mayTrade 12 = .ok (.invokevirtual 75, 3) := by decide +kernel
theorem dX0_mayTrade_15 : decode cX0_mayTrade 15 = .ok (.ifCond .eq 7, 3) := by decide +kernel
theorem dX0_mayTrade_18 : decode cX0_mayTrade 18 = .ok (.iconst 1, 1) := by decide +kernel
theorem dX0_mayTrade_19 : decode cX0_mayTrade 19 = .ok (.goto 4, 3) := by decide +kernel
theorem dX0_mayTrade_22 : decode cX0_mayTrade 22 = .ok (.iconst 0, 1) := by decide +kernel
theorem dX0_mayTrade_23 : decode cX0_mayTrade 23 = .ok (.ireturn, 1) := by decide +kernel
set_option maxRecDepth 20000 in
theorem ggX0_mayReplace_X0_obstacle : GoodIn wsX0_mayReplace wsX0_obstacle := goodIn_r _ [7, 8, 1, 2, 9, 10, 11, 12, 13, 14, 15, 16, 17, 18, 19, 20, 21, 22] (by decide +kernel) (by decide +kernel)
set_option maxRecDepth 20000 in
theorem gX0_mayReplace_X0_obstacle : GoodIn wsX0_mayReplace (wsV RX0 71 RX0 yX0_obstacle wsX0_obstacle) := goodIn_app (goodIn_of _ (by decide +kernel)) ggX0_mayReplace_X0_obstacle
theorem dX0_mayReplace_0 : decode cX0_mayReplace 0 = .ok (.aload_n 0, 1) := by decide +kernel
theorem dX0_mayReplace_1 : decode cX0_mayReplace 1 = .ok (.getfield 34, 3) := by decide +kernel
theorem dX0_mayReplace_4 : decode cX0_mayReplace 4 = .ok (.iload_n 2, 1) := by decide +kernel
theorem dX0_mayReplace_5 : decode cX0_mayReplace 5 = .ok (.iaload, 1) := by decide +kernel
theorem dX0_mayReplace_6 : decode cX0_mayReplace 6 = .ok (.istore_n 3, 1) := by decide +kernel
theorem dX0_mayReplace_7 : decode cX0_mayReplace 7 = .ok (.iload_n 3, 1) := by decide +kernel
theorem dX0_mayReplace_8 : decode cX0_mayReplace 8 = .ok (.iconst (-1), 1) := by decide +kernel
theorem dX0_mayReplace_9 : decode cX0_mayReplace 9 = .ok (.if_icmp .ne 5, 3) := by decide +kernel
theorem dX0_mayReplace_12 : decode cX0_mayReplace 12 = .ok (.iconst 1, 1) := by decide +kernel
theorem dX0_mayReplace_13 : decode cX0_mayReplace 13 = .ok (.ireturn, 1) := by decide +kernel
theorem dX0_mayReplace_14 : decode cX0_mayReplace 14 = .ok (.aload_n 0, 1) := by decide +kernel
theorem dX0_mayReplace_15 : decode cX0_mayReplace 15 = .ok (.getfield 34, 3) := by decide +kernel
theorem dX0_mayReplace_18 : decode cX0_mayReplace 18 = .ok (.iload_n 2, 1) := by decide +kernel
theorem dX0_mayReplace_19 : decode cX0_mayReplace 19 = .ok (.iconst (-1), 1) := by decide +kernel
theorem dX0_mayReplace_20 : decode cX0_mayReplace 20 = .ok (.iastore, 1) := by decide +kernel
theorem dX0_mayReplace_21 : decode cX0_mayReplace 21 = .ok (.aload_n 0, 1) := by decide +kernel
theorem dX0_mayReplace_22 : decode cX0_mayReplace 22 = .ok (.iload_n 1, 1) := by decide +kernel
theorem dX0_mayReplace_23 : decode cX0_mayReplace 23 = .ok (.aload_n 0, 1) := by decide +kernel
theorem dX0_mayReplace_24 : decode cX0_mayReplace 24 = .ok (.getfield 28, 3) := by decide +kernel
theorem dX0_mayReplace_27 : decode cX0_mayReplace 27 = .ok (.iload_n 1, 1) := by decide +kernel
theorem dX0_mayReplace_28 : decode cX0_mayReplace 28 = .ok (.iaload, 1) := by decide +kernel
theorem dX0_mayReplace_29 : decode cX0_mayReplace 29 = .ok (.iload_n 3, 1) := by decide +kernel
theorem dX0_mayReplace_30 : decode cX0_mayReplace 30 = .ok (.invokevirtual 71, 3) := by decide +kernel
theorem dX0_mayReplace_33 : decode cX0_mayReplace 33 = .ok (.ifCond .ne 7, 3) := by decide +kernel
theorem dX0_mayReplace_36 : decode cX0_mayReplace 36 = .ok (.iconst 1, 1) := by decide +kernel
theorem dX0_mayReplace_37 : decode cX0_mayReplace 37 = .ok (.goto 4, 3) := by decide +kernel
theorem dX0_mayReplace_40 : decode cX0_mayReplace 40 = .ok (.iconst 0, 1) := by decide +kernel
theorem dX0_mayReplace_41 : decode cX0_mayReplace 41 = .ok (.istore 4, 2) := by decide +kernel
theorem dX0_mayReplace_43 : decode cX0_mayReplace 43 = .ok (.aload_n 0, 1) := by decide +kernel
theorem dX0_mayReplace_44 : decode cX0_mayReplace 44 = .ok (.getfield 34, 3) := by decide +kernel
theorem dX0_mayReplace_47 : decode cX0_mayReplace 47 = .ok (.iload_n 2, 1) := by decide +kernel
theorem dX0_mayReplace_48 : decode cX0_mayReplace 48 = .ok (.iload_n 3, 1) := by decide +kernel
theorem dX0_mayReplace_49 : decode cX0_mayReplace 49 = .ok (.iastore, 1) := by decide +kernel
theorem dX0_mayReplace_50 : decode cX0_mayReplace 50 = .ok (.iload 4, 2) := by decide +kernel
theorem dX0_mayReplace_52 : decode cX0_mayReplace 52 = .ok (.ireturn, 1) := by decide +kernel
set_option maxRecDepth 20000 in
theorem ggX0_hasWay_X4_startsFor : GoodIn wsX0_hasWay wsX4_startsFor := goodIn_r _ [5, 6, 7, 8, 9, 10, 11, 4, 12, 13] (by decide +kernel) (by decide +kernel)
set_option maxRecDepth 20000 in
theorem gX0_hasWay_X4_startsFor : GoodIn wsX0_hasWay (va_wsS RX0 78 yX4_startsFor wsX4_startsFor) := goodIn_app (goodIn_of _ (by decide +kernel)) ggX0_hasWay_X4_startsFor
set_option maxRecDepth 20000 in
theorem ggX0_hasWay_X4_isStart : GoodIn wsX0_hasWay wsX4_isStart := goodIn_r _ [16] (by decide +kernel) (by decide +kernel)
set_option maxRecDepth 20000 in
theorem gX0_hasWay_X4_isStart : GoodIn wsX0_hasWay (va_wsS RX0 84 yX4_isStart wsX4_isStart) := goodIn_app (goodIn_of _ (by decide +kernel)) ggX0_hasWay_X4_isStart
theorem dX0_hasWay_0 : decode cX0_hasWay 0 = .ok (.aload_n 0, 1) := by decide +kernel
theorem dX0_hasWay_1 : decode cX0_hasWay 1 = .ok (.getfield 37, 3) := by decide +kernel
theorem dX0_hasWay_4 : decode cX0_hasWay 4 = .ok (.iload_n 1, 1) := by decide +kernel
theorem dX0_hasWay_5 : decode cX0_hasWay 5 = .ok (.invokestatic 78, 3) := by decide +kernel
theorem dX0_hasWay_8 : decode cX0_hasWay 8 = .ok (.iconst 0, 1) := by decide +kernel
theorem dX0_hasWay_9 : decode cX0_hasWay 9 = .ok (.invokestatic 84, 3) := by decide +kernel
theorem dX0_hasWay_12 : decode cX0_hasWay 12 = .ok (.ireturn, 1) := by decide +kernel
set_option maxRecDepth 20000 in
theorem ggX0_columnsOfAny_X5_hasBit : GoodIn wsX0_columnsOfAny wsX5_hasBit := goodIn_r _ [4] (by decide +kernel) (by decide +kernel)
set_option maxRecDepth 20000 in
theorem gX0_columnsOfAny_X5_hasBit_n58 : GoodIn wsX0_columnsOfAny (wsX5_hasBit) := ggX0_columnsOfAny_X5_hasBit
theorem dX0_columnsOfAny_0 : decode cX0_columnsOfAny 0 = .ok (.iconst 0, 1) := by decide +kernel
theorem dX0_columnsOfAny_1 : decode cX0_columnsOfAny 1 = .ok (.istore_n 2, 1) := by decide +kernel
theorem dX0_columnsOfAny_2 : decode cX0_columnsOfAny 2 = .ok (.iconst 0, 1) := by decide +kernel
theorem dX0_columnsOfAny_3 : decode cX0_columnsOfAny 3 = .ok (.istore_n 3, 1) := by decide +kernel
theorem dX0_columnsOfAny_4 : decode cX0_columnsOfAny 4 = .ok (.iload_n 3, 1) := by decide +kernel
theorem dX0_columnsOfAny_5 : decode cX0_columnsOfAny 5 = .ok (.bipush 10, 2) := by decide +kernel
theorem dX0_columnsOfAny_7 : decode cX0_columnsOfAny 7 = .ok (.if_icmp .ge 30, 3) := by decide +kernel
theorem dX0_columnsOfAny_10 : decode cX0_columnsOfAny 10 = .ok (.iload_n 2, 1) := by decide +kernel
theorem dX0_columnsOfAny_11 : decode cX0_columnsOfAny 11 = .ok (.iload_n 1, 1) := by decide +kernel
theorem dX0_columnsOfAny_12 : decode cX0_columnsOfAny 12 = .ok (.iload_n 3, 1) := by decide +kernel
theorem dX0_columnsOfAny_13 : decode cX0_columnsOfAny 13 = .ok (.invokestatic 58, 3) := by decide +kernel
theorem dX0_columnsOfAny_16 : decode cX0_columnsOfAny 16 = .ok (.ifCond .eq 12, 3) := by decide +kernel
theorem dX0_columnsOfAny_19 : decode cX0_columnsOfAny 19 = .ok (.aload_n 0, 1) := by decide +kernel
theorem dX0_columnsOfAny_20 : decode cX0_columnsOfAny 20 = .ok (.getfield 37, 3) := by decide +kernel
theorem dX0_columnsOfAny_23 : decode cX0_columnsOfAny 23 = .ok (.iload_n 3, 1) := by decide +kernel
theorem dX0_columnsOfAny_24 : decode cX0_columnsOfAny 24 = .ok (.iaload, 1) := by decide +kernel
theorem dX0_columnsOfAny_25 : decode cX0_columnsOfAny 25 = .ok (.goto 4, 3) := by decide +kernel
theorem dX0_columnsOfAny_28 : decode cX0_columnsOfAny 28 = .ok (.iconst 0, 1) := by decide +kernel
theorem dX0_columnsOfAny_29 : decode cX0_columnsOfAny 29 = .ok (.ior, 1) := by decide +kernel
theorem dX0_columnsOfAny_30 : decode cX0_columnsOfAny 30 = .ok (.istore_n 2, 1) := by decide +kernel
theorem dX0_columnsOfAny_31 : decode cX0_columnsOfAny 31 = .ok (.iinc 3 1, 3) := by decide +kernel
theorem dX0_columnsOfAny_34 : decode cX0_columnsOfAny 34 = .ok (.goto (-30), 3) := by decide +kernel
theorem dX0_columnsOfAny_37 : decode cX0_columnsOfAny 37 = .ok (.iload_n 2, 1) := by decide +kernel
theorem dX0_columnsOfAny_38 : decode cX0_columnsOfAny 38 = .ok (.ireturn, 1) := by decide +kernel
set_option maxRecDepth 20000 in
theorem ggX0_isCrowded_X0_columnsOfAny : GoodIn wsX0_isCrowded wsX0_columnsOfAny := goodIn_r _ [5, 6, 7, 8, 9, 17, 18, 19, 20, 21, 22, 23, 24, 25] (by decide +kernel) (by decide +kernel)
set_option maxRecDepth 20000 in
theorem gX0_isCrowded_X0_columnsOfAny : GoodIn wsX0_isCrowded (wsV RX0 88 RX0 yX0_columnsOfAny wsX0_columnsOfAny) := goodIn_app (goodIn_of _ (by decide +kernel)) ggX0_isCrowded_X0_columnsOfAny
set_option maxRecDepth 20000 in
theorem ggX0_isCrowded_J6_bitCount_0f7a4 : GoodIn wsX0_isCrowded wsJ6_bitCount_0f7a4 := goodIn_r _ [13, 14, 15, 16] (by decide +kernel) (by decide +kernel)
set_option maxRecDepth 20000 in
theorem gX0_isCrowded_J6_bitCount_0f7a4 : GoodIn wsX0_isCrowded (va_wsS RX0 66 yJ6_bitCount_0f7a4 wsJ6_bitCount_0f7a4) := goodIn_app (goodIn_of _ (by decide +kernel)) ggX0_isCrowded_J6_bitCount_0f7a4
theorem dX0_isCrowded_0 : decode cX0_isCrowded 0 = .ok (.aload_n 0, 1) := by decide +kernel
theorem dX0_isCrowded_1 : decode cX0_isCrowded 1 = .ok (.iload_n 1, 1) := by decide +kernel
theorem dX0_isCrowded_2 : decode cX0_isCrowded 2 = .ok (.invokevirtual 88, 3) := by decide +kernel
theorem dX0_isCrowded_5 : decode cX0_isCrowded 5 = .ok (.invokestatic 66, 3) := by decide +kernel
theorem dX0_isCrowded_8 : decode cX0_isCrowded 8 = .ok (.iload_n 1, 1) := by decide +kernel
theorem dX0_isCrowded_9 : decode cX0_isCrowded 9 = .ok (.invokestatic 66, 3) := by decide +kernel
theorem dX0_isCrowded_12 : decode cX0_isCrowded 12 = .ok (.if_icmp .ge 7, 3) := by decide +kernel
theorem dX0_isCrowded_15 : decode cX0_isCrowded 15 = .ok (.iconst 1, 1) := by decide +kernel
theorem dX0_isCrowded_16 : decode cX0_isCrowded 16 = .ok (.goto 4, 3) := by decide +kernel
theorem dX0_isCrowded_19 : decode cX0_isCrowded 19 = .ok (.iconst 0, 1) := by decide +kernel
theorem dX0_isCrowded_20 : decode cX0_isCrowded 20 = .ok (.ireturn, 1) := by decide +kernel
set_option maxRecDepth 20000 in
theorem ggX0_shareTheirOnlyColumn_J6_bitCount_0f7a4 : GoodIn wsX0_shareTheirOnlyColumn wsJ6_bitCount_0f7a4 := goodIn_r _ [5, 6, 7, 8] (by decide +kernel) (by decide +kernel)
set_option maxRecDepth 20000 in
theorem gX0_shareTheirOnlyColumn_J6_bitCount_0f7a4 : GoodIn wsX0_shareTheirOnlyColumn (va_wsS RX0 66 yJ6_bitCount_0f7a4 wsJ6_bitCount_0f7a4) := goodIn_app (goodIn_of _ (by decide +kernel)) ggX0_shareTheirOnlyColumn_J6_bitCount_0f7a4
theorem dX0_shareTheirOnlyColumn_0 : decode cX0_shareTheirOnlyColumn 0 = .ok (.aload_n 0, 1) := by decide +kernel
theorem dX0_shareTheirOnlyColumn_1 : decode cX0_shareTheirOnlyColumn 1 = .ok (.getfield 37, 3) := by decide +kernel
theorem dX0_shareTheirOnlyColumn_4 : decode cX0_shareTheirOnlyColumn 4 = .ok (.iload_n 1, 1) := by decide +kernel
theorem dX0_shareTheirOnlyColumn_5 : decode cX0_shareTheirOnlyColumn 5 = .ok (.iaload, 1) := by decide +kernel
theorem dX0_shareTheirOnlyColumn_6 : decode cX0_shareTheirOnlyColumn 6 = .ok (.aload_n 0, 1) := by decide +kernel
theorem dX0_shareTheirOnlyColumn_7 : decode cX0_shareTheirOnlyColumn 7 = .ok (.getfield 37, 3) := by decide +kernel
theorem dX0_shareTheirOnlyColumn_10 : decode cX0_shareTheirOnlyColumn 10 = .ok (.iload_n 2, 1) := by decide +kernel
theorem dX0_shareTheirOnlyColumn_11 : decode cX0_shareTheirOnlyColumn 11 = .ok (.iaload, 1) := by decide +kernel
theorem dX0_shareTheirOnlyColumn_12 : decode cX0_shareTheirOnlyColumn 12 = .ok (.if_icmp .ne 20, 3) := by decide +kernel
theorem dX0_shareTheirOnlyColumn_15 : decode cX0_shareTheirOnlyColumn 15 = .ok (.aload_n 0, 1) := by decide +kernel
theorem dX0_shareTheirOnlyColumn_16 : decode cX0_shareTheirOnlyColumn 16 = .ok (.getfield 37, 3) := by decide +kernel
theorem dX0_shareTheirOnlyColumn_19 : decode cX0_shareTheirOnlyColumn 19 = .ok (.iload_n 1, 1) := by decide +kernel
theorem dX0_shareTheirOnlyColumn_20 : decode cX0_shareTheirOnlyColumn 20 = .ok (.iaload, 1) := by decide +kernel
theorem dX0_shareTheirOnlyColumn_21 : decode cX0_shareTheirOnlyColumn 21 = .ok (.invokestatic 66, 3) := by decide +kernel
theorem dX0_shareTheirOnlyColumn_24 : decode cX0_shareTheirOnlyColumn 24 = .ok (.iconst 1, 1) := by decide +kernel
theorem dX0_shareTheirOnlyColumn_25 : decode cX0_shareTheirOnlyColumn 25 = .ok (.if_icmp .ne 7, 3) := by decide +kernel
theorem dX0_shareTheirOnlyColumn_28 : decode cX0_shareTheirOnlyColumn 28 = .ok (.iconst 1, 1) := by decide +kernel
theorem dX0_shareTheirOnlyColumn_29 : decode cX0_shareTheirOnlyColumn 29 = .ok (.goto 4, 3) := by decide +kernel
theorem dX0_shareTheirOnlyColumn_32 : decode cX0_shareTheirOnlyColumn 32 = .ok (.iconst 0, 1) := by decide +kernel
theorem dX0_shareTheirOnlyColumn_33 : decode cX0_shareTheirOnlyColumn 33 = .ok (.ireturn, 1) := by decide +kernel
set_option maxRecDepth 20000 in
theorem ggX0_helpfulColumns_X5_hasBit : GoodIn wsX0_helpfulColumns wsX5_hasBit := goodIn_r _ [6] (by decide +kernel) (by decide +kernel)
set_option maxRecDepth 20000 in
theorem gX0_helpfulColumns_X5_hasBit_n58 : GoodIn wsX0_helpfulColumns (wsX5_hasBit) := ggX0_helpfulColumns_X5_hasBit
set_option maxRecDepth 20000 in
theorem ggX0_helpfulColumns_X0_hasWay : GoodIn wsX0_helpfulColumns wsX0_hasWay := goodIn_r _ [11, 2, 12, 13, 14, 15, 16, 4, 5, 6, 17, 18, 19, 20, 21, 22, 23, 30, 31, 32, 33, 34, 35, 36, 37, 38] (by decide +kernel) (by decide +kernel)
set_option maxRecDepth 20000 in
theorem gX0_helpfulColumns_X0_hasWay : GoodIn wsX0_helpfulColumns (wsV RX0 91 RX0 yX0_hasWay wsX0_hasWay) := goodIn_app (goodIn_of _ (by decide +kernel)) ggX0_helpfulColumns_X0_hasWay
set_option maxRecDepth 20000 in
theorem ggX0_helpfulColumns_X4_startsFor : GoodIn wsX0_helpfulColumns wsX4_startsFor := goodIn_r _ [15, 16, 4, 5, 6, 17, 18, 14, 19, 20] (by decide +kernel) (by decide +kernel)
set_option maxRecDepth 20000 in
theorem gX0_helpfulColumns_X4_startsFor : GoodIn wsX0_helpfulColumns (va_wsS RX0 78 yX4_startsFor wsX4_startsFor) := goodIn_app (goodIn_of _ (by decide +kernel)) ggX0_helpfulColumns_X4_startsFor
set_option maxRecDepth 20000 in
theorem ggX0_helpfulColumns_X4_isStart : GoodIn wsX0_helpfulColumns wsX4_isStart := goodIn_r _ [23] (by decide +kernel) (by decide +kernel)
set_option maxRecDepth 20000 in
theorem gX0_helpfulColumns_X4_isStart : GoodIn wsX0_helpfulColumns (va_wsS RX0 84 yX4_isStart wsX4_isStart) := goodIn_app (goodIn_of _ (by decide +kernel)) ggX0_helpfulColumns_X4_isStart
set_option maxRecDepth 20000 in
theorem ggX0_helpfulColumns_X0_columnsWithout : GoodIn wsX0_helpfulColumns wsX0_columnsWithout := goodIn_r _ [27, 28, 1, 29, 30, 31, 32, 33, 34, 35, 36, 37, 38] (by decide +kernel) (by decide +kernel)
set_option maxRecDepth 20000 in
theorem gX0_helpfulColumns_X0_columnsWithout : GoodIn wsX0_helpfulColumns (wsV RX0 54 RX0 yX0_columnsWithout wsX0_columnsWithout) := goodIn_app (goodIn_of _ (by decide +kernel)) ggX0_helpfulColumns_X0_columnsWithout
theorem dX0_helpfulColumns_0 : decode cX0_helpfulColumns 0 = .ok (.aload_n 0, 1) := by decide +kernel
theorem dX0_helpfulColumns_1 : decode cX0_helpfulColumns 1 = .ok (.getfield 25, 3) := by decide +kernel
theorem dX0_helpfulColumns_4 : decode cX0_helpfulColumns 4 = .ok (.iload_n 1, 1) := by decide +kernel
theorem dX0_helpfulColumns_5 : decode cX0_helpfulColumns 5 = .ok (.iaload, 1) := by decide +kernel
theorem dX0_helpfulColumns_6 : decode cX0_helpfulColumns 6 = .ok (.istore_n 3, 1) := by decide +kernel
theorem dX0_helpfulColumns_7 : decode cX0_helpfulColumns 7 = .ok (.iload_n 2, 1) := by decide +kernel
theorem dX0_helpfulColumns_8 : decode cX0_helpfulColumns 8 = .ok (.iload_n 3, 1) := by decide +kernel
theorem dX0_helpfulColumns_9 : decode cX0_helpfulColumns 9 = .ok (.invokestatic 58, 3) := by decide +kernel
theorem dX0_helpfulColumns_12 : decode cX0_helpfulColumns 12 = .ok (.ifCond .ne 18, 3) := by decide +kernel
theorem dX0_helpfulColumns_15 : decode cX0_helpfulColumns 15 = .ok (.aload_n 0, 1) := by decide +kernel
theorem dX0_helpfulColumns_16 : decode cX0_helpfulColumns 16 = .ok (.iload_n 2, 1) := by decide +kernel
theorem dX0_helpfulColumns_17 : decode cX0_helpfulColumns 17 = .ok (.invokevirtual 91, 3) := by decide +kernel
theorem dX0_helpfulColumns_20 : decode cX0_helpfulColumns 20 = .ok (.ifCond .eq 8, 3) := by decide +kernel
theorem dX0_helpfulColumns_23 : decode cX0_helpfulColumns 23 = .ok (.bipush 63, 2) := by decide +kernel
theorem dX0_helpfulColumns_25 : decode cX0_helpfulColumns 25 = .ok (.goto 4, 3) := by decide +kernel
theorem dX0_helpfulColumns_28 : decode cX0_helpfulColumns 28 = .ok (.iconst 0, 1) := by decide +kernel
theorem dX0_helpfulColumns_29 : decode cX0_helpfulColumns 29 = .ok (.ireturn, 1) := by decide +kernel
theorem dX0_helpfulColumns_30 : decode cX0_helpfulColumns 30 = .ok (.aload_n 0, 1) := by decide +kernel
theorem dX0_helpfulColumns_31 : decode cX0_helpfulColumns 31 = .ok (.getfield 37, 3) := by decide +kernel
theorem dX0_helpfulColumns_34 : decode cX0_helpfulColumns 34 = .ok (.iload_n 2, 1) := by decide +kernel
theorem dX0_helpfulColumns_35 : decode cX0_helpfulColumns 35 = .ok (.iconst 1, 1) := by decide +kernel
theorem dX0_helpfulColumns_36 : decode cX0_helpfulColumns 36 = .ok (.iload_n 3, 1) := by decide +kernel
theorem dX0_helpfulColumns_37 : decode cX0_helpfulColumns 37 = .ok (.ishl, 1) := by decide +kernel
theorem dX0_helpfulColumns_38 : decode cX0_helpfulColumns 38 = .ok (.iconst (-1), 1) := by decide +kernel
theorem dX0_helpfulColumns_39 : decode cX0_helpfulColumns 39 = .ok (.ixor, 1) := by decide +kernel
theorem dX0_helpfulColumns_40 : decode cX0_helpfulColumns 40 = .ok (.iand, 1) := by decide +kernel
theorem dX0_helpfulColumns_41 : decode cX0_helpfulColumns 41 = .ok (.invokestatic 78, 3) := by decide +kernel
theorem dX0_helpfulColumns_44 : decode cX0_helpfulColumns 44 = .ok (.lstore 4, 2) := by decide +kernel
theorem dX0_helpfulColumns_46 : decode cX0_helpfulColumns 46 = .ok (.iconst 0, 1) := by decide +kernel
theorem dX0_helpfulColumns_47 : decode cX0_helpfulColumns 47 = .ok (.istore 6, 2) := by decide +kernel
theorem dX0_helpfulColumns_49 : decode cX0_helpfulColumns 49 = .ok (.iconst 0, 1) := by decide +kernel
theorem dX0_helpfulColumns_50 : decode cX0_helpfulColumns 50 = .ok (.istore 7, 2) := by decide +kernel
theorem dX0_helpfulColumns_52 : decode cX0_helpfulColumns 52 = .ok (.iload 7, 2) := by decide +kernel
theorem dX0_helpfulColumns_54 : decode cX0_helpfulColumns 54 = .ok (.aload_n 0, 1) := by decide +kernel
theorem dX0_helpfulColumns_55 : decode cX0_helpfulColumns 55 = .ok (.getfield 9, 3) := by decide +kernel
theorem dX0_helpfulColumns_58 : decode cX0_helpfulColumns 58 = .ok (.if_icmp .ge 34, 3) := by decide +kernel
theorem dX0_helpfulColumns_61 : decode cX0_helpfulColumns 61 = .ok (.iload 6, 2) := by decide +kernel
theorem dX0_helpfulColumns_63 : decode cX0_helpfulColumns 63 = .ok (.lload 4, 2) := by decide +kernel
theorem dX0_helpfulColumns_65 : decode cX0_helpfulColumns 65 = .ok (.iconst 1, 1) := by decide +kernel
theorem dX0_helpfulColumns_66 : decode cX0_helpfulColumns 66 = .ok (.iload 7, 2) := by decide +kernel
theorem dX0_helpfulColumns_68 : decode cX0_helpfulColumns 68 = .ok (.ishl, 1) := by decide +kernel
theorem dX0_helpfulColumns_69 : decode cX0_helpfulColumns 69 = .ok (.invokestatic 84, 3) := by decide +kernel
theorem dX0_helpfulColumns_72 : decode cX0_helpfulColumns 72 = .ok (.ifCond .eq 10, 3) := by decide +kernel
theorem dX0_helpfulColumns_75 : decode cX0_helpfulColumns 75 = .ok (.iconst 1, 1) := by decide +kernel
theorem dX0_helpfulColumns_76 : decode cX0_helpfulColumns 76 = .ok (.iload 7, 2) := by decide +kernel
theorem dX0_helpfulColumns_78 : decode cX0_helpfulColumns 78 = .ok (.ishl, 1) := by decide +kernel
theorem dX0_helpfulColumns_79 : decode cX0_helpfulColumns 79 = .ok (.goto 4, 3) := by decide +kernel
theorem dX0_helpfulColumns_82 : decode cX0_helpfulColumns 82 = .ok (.iconst 0, 1) := by decide +kernel
theorem dX0_helpfulColumns_83 : decode cX0_helpfulColumns 83 = .ok (.ior, 1) := by decide +kernel
theorem dX0_helpfulColumns_84 : decode cX0_helpfulColumns 84 = .ok (.istore 6, 2) := by decide +kernel
theorem dX0_helpfulColumns_86 : decode cX0_helpfulColumns 86 = .ok (.iinc 7 1, 3) := by decide +kernel
theorem dX0_helpfulColumns_89 : decode cX0_helpfulColumns 89 = .ok (.goto (-37), 3) := by decide +kernel
theorem dX0_helpfulColumns_92 : decode cX0_helpfulColumns 92 = .ok (.aload_n 0, 1) := by decide +kernel
theorem dX0_helpfulColumns_93 : decode cX0_helpfulColumns 93 = .ok (.iload_n 3, 1) := by decide +kernel
theorem dX0_helpfulColumns_94 : decode cX0_helpfulColumns 94 = .ok (.iload_n 1, 1) := by decide +kernel
theorem dX0_helpfulColumns_95 : decode cX0_helpfulColumns 95 = .ok (.invokevirtual 54, 3) := by decide +kernel
theorem dX0_helpfulColumns_98 : decode cX0_helpfulColumns 98 = .ok (.iload 6, 2) := by decide +kernel
theorem dX0_helpfulColumns_100 : decode cX0_helpfulColumns 100 = .ok (.iand, 1) := by decide +kernel
theorem dX0_helpfulColumns_101 : decode cX0_helpfulColumns 101 = .ok (.ifCond .eq 8, 3) := by decide +kernel
theorem dX0_helpfulColumns_104 : decode cX0_helpfulColumns 104 = .ok (.bipush 63, 2) := by decide +kernel
theorem dX0_helpfulColumns_106 : decode cX0_helpfulColumns 106 = .ok (.goto 5, 3) := by decide +kernel
theorem dX0_helpfulColumns_109 : decode cX0_helpfulColumns 109 = .ok (.iload 6, 2) := by decide +kernel
theorem dX0_helpfulColumns_111 : decode cX0_helpfulColumns 111 = .ok (.ireturn, 1) := by decide +kernel
set_option maxRecDepth 20000 in
theorem ggX0_readFrom_X5_digitsAbove : GoodIn wsX0_readFrom wsX5_digitsAbove := goodIn_r _ [8] (by decide +kernel) (by decide +kernel)
set_option maxRecDepth 20000 in
theorem gX0_readFrom_X5_digitsAbove_n95 : GoodIn wsX0_readFrom (wsX5_digitsAbove) := ggX0_readFrom_X5_digitsAbove
set_option maxRecDepth 20000 in
theorem ggX0_readFrom_X3_takeDigit : GoodIn wsX0_readFrom wsX3_takeDigit := goodIn_r _ [13, 14, 15, 16, 17, 7, 18, 84, 85, 86] (by decide +kernel) (by decide +kernel)
set_option maxRecDepth 20000 in
theorem gX0_readFrom_X3_takeDigit : GoodIn wsX0_readFrom (wsV RX0 98 RX3 yX3_takeDigit wsX3_takeDigit) := goodIn_app (goodIn_of _ (by decide +kernel)) ggX0_readFrom_X3_takeDigit
set_option maxRecDepth 20000 in
theorem ggX0_readFrom_X3_takeSign : GoodIn wsX0_readFrom wsX3_takeSign := goodIn_r _ [22, 14, 15, 16, 84, 85, 86] (by decide +kernel) (by decide +kernel)
set_option maxRecDepth 20000 in
theorem gX0_readFrom_X3_takeSign : GoodIn wsX0_readFrom (wsV RX0 103 RX3 yX3_takeSign wsX3_takeSign) := goodIn_app (goodIn_of _ (by decide +kernel)) ggX0_readFrom_X3_takeSign
set_option maxRecDepth 20000 in
theorem ggX0_readFrom_X3_isRead : GoodIn wsX0_readFrom wsX3_isRead := goodIn_r _ [26, 14, 15, 84, 85, 86] (by decide +kernel) (by decide +kernel)
set_option maxRecDepth 20000 in
theorem gX0_readFrom_X3_isRead : GoodIn wsX0_readFrom (wsV RX0 107 RX3 yX3_isRead wsX3_isRead) := goodIn_app (goodIn_of _ (by decide +kernel)) ggX0_readFrom_X3_isRead
set_option maxRecDepth 20000 in
theorem ggX0_readFrom_X0_readLine : GoodIn wsX0_readFrom wsX0_readLine := goodIn_r _ [31, 19, 20, 21, 12, 22, 14, 15, 16, 32, 33, 34, 30, 35, 2, 4, 36, 37, 38, 39, 1, 40, 9, 10, 11, 13, 17, 7, 18, 6, 8, 41, 42, 43, 44, 45, 46, 47, 48, 49, 50, 51, 52, 53, 54, 55, 56, 57, 58, 59, 60, 3, 61, 62, 63, 64, 65, 66, 67, 68, 69, 70, 5, 71, 72, 73, 74, 84, 85, 86, 75, 76, 77, 78, 79, 80, 81, 82, 83] (by decide +kernel) (by decide +kernel)
set_option maxRecDepth 20000 in
theorem gX0_readFrom_X0_readLine : GoodIn wsX0_readFrom (wsV RX0 111 RX0 yX0_readLine wsX0_readLine) := goodIn_app (goodIn_of _ (by decide +kernel)) ggX0_readFrom_X0_readLine
theorem dX0_readFrom_0 : decode cX0_readFrom 0 = .ok (.aload_n 0, 1) := by decide +kernel
theorem dX0_readFrom_1 : decode cX0_readFrom 1 = .ok (.iconst 0, 1) := by decide +kernel
theorem dX0_readFrom_2 : decode cX0_readFrom 2 = .ok (.putfield 18, 3) := by decide +kernel
theorem dX0_readFrom_5 : decode cX0_readFrom 5 = .ok (.aload_n 0, 1) := by decide +kernel
theorem dX0_readFrom_6 : decode cX0_readFrom 6 = .ok (.aload_n 1, 1) := by decide +kernel
theorem dX0_readFrom_7 : decode cX0_readFrom 7 = .ok (.iconst 0, 1) := by decide +kernel
theorem dX0_readFrom_8 : decode cX0_readFrom 8 = .ok (.invokestatic 95, 3) := by decide +kernel
theorem dX0_readFrom_11 : decode cX0_readFrom 11 = .ok (.bipush 6, 2) := by decide +kernel
theorem dX0_readFrom_13 : decode cX0_readFrom 13 = .ok (.invokestatic 95, 3) := by decide +kernel
theorem dX0_readFrom_16 : decode cX0_readFrom 16 = .ok (.iconst (-1), 1) := by decide +kernel
theorem dX0_readFrom_17 : decode cX0_readFrom 17 = .ok (.ixor, 1) := by decide +kernel
theorem dX0_readFrom_18 : decode cX0_readFrom 18 = .ok (.iand, 1) := by decide +kernel
theorem dX0_readFrom_19 : decode cX0_readFrom 19 = .ok (.invokevirtual 98, 3) := by decide +kernel
theorem dX0_readFrom_22 : decode cX0_readFrom 22 = .ok (.putfield 9, 3) := by decide +kernel
theorem dX0_readFrom_25 : decode cX0_readFrom 25 = .ok (.aload_n 0, 1) := by decide +kernel
theorem dX0_readFrom_26 : decode cX0_readFrom 26 = .ok (.getfield 9, 3) := by decide +kernel
theorem dX0_readFrom_29 : decode cX0_readFrom 29 = .ok (.iconst (-1), 1) := by decide +kernel
theorem dX0_readFrom_30 : decode cX0_readFrom 30 = .ok (.if_icmp .eq 12, 3) := by decide +kernel
theorem dX0_readFrom_33 : decode cX0_readFrom 33 = .ok (.aload_n 1, 1) := by decide +kernel
theorem dX0_readFrom_34 : decode cX0_readFrom 34 = .ok (.bipush 120, 2) := by decide +kernel
theorem dX0_readFrom_36 : decode cX0_readFrom 36 = .ok (.invokevirtual 103, 3) := by decide +kernel
theorem dX0_readFrom_39 : decode cX0_readFrom 39 = .ok (.ifCond .ne 5, 3) := by decide +kernel
theorem dX0_readFrom_42 : decode cX0_readFrom 42 = .ok (.iconst 0, 1) := by decide +kernel
theorem dX0_readFrom_43 : decode cX0_readFrom 43 = .ok (.ireturn, 1) := by decide +kernel
theorem dX0_readFrom_44 : decode cX0_readFrom 44 = .ok (.aload_n 0, 1) := by decide +kernel
theorem dX0_readFrom_45 : decode cX0_readFrom 45 = .ok (.aload_n 1, 1) := by decide +kernel
theorem dX0_readFrom_46 : decode cX0_readFrom 46 = .ok (.iconst 0, 1) := by decide +kernel
theorem dX0_readFrom_47 : decode cX0_readFrom 47 = .ok (.invokestatic 95, 3) := by decide +kernel
theorem dX0_readFrom_50 : decode cX0_readFrom 50 = .ok (.invokevirtual 98, 3) := by decide +kernel
theorem dX0_readFrom_53 : decode cX0_readFrom 53 = .ok (.putfield 15, 3) := by decide +kernel
theorem dX0_readFrom_56 : decode cX0_readFrom 56 = .ok (.aload_n 0, 1) := by decide +kernel
theorem dX0_readFrom_57 : decode cX0_readFrom 57 = .ok (.getfield 15, 3) := by decide +kernel
theorem dX0_readFrom_60 : decode cX0_readFrom 60 = .ok (.iconst (-1), 1) := by decide +kernel
theorem dX0_readFrom_61 : decode cX0_readFrom 61 = .ok (.if_icmp .ne 5, 3) := by decide +kernel
theorem dX0_readFrom_64 : decode cX0_readFrom 64 = .ok (.iconst 0, 1) := by decide +kernel
theorem dX0_readFrom_65 : decode cX0_readFrom 65 = .ok (.ireturn, 1) := by decide +kernel
theorem dX0_readFrom_66 : decode cX0_readFrom 66 = .ok (.iconst 0, 1) := by decide +kernel
theorem dX0_readFrom_67 : decode cX0_readFrom 67 = .ok (.istore_n 2, 1) := by decide +kernel
theorem dX0_readFrom_68 : decode cX0_readFrom 68 = .ok (.iload_n 2, 1) := by decide +kernel
theorem dX0_readFrom_69 : decode cX0_readFrom 69 = .ok (.bipush 10, 2) := by decide +kernel
theorem dX0_readFrom_71 : decode cX0_readFrom 71 = .ok (.if_icmp .ge 16, 3) := by decide +kernel
theorem dX0_readFrom_74 : decode cX0_readFrom 74 = .ok (.aload_n 0, 1) := by decide +kernel
theorem dX0_readFrom_75 : decode cX0_readFrom 75 = .ok (.getfield 21, 3) := by decide +kernel
theorem dX0_readFrom_78 : decode cX0_readFrom 78 = .ok (.iload_n 2, 1) := by decide +kernel
theorem dX0_readFrom_79 : decode cX0_readFrom 79 = .ok (.iconst 0, 1) := by decide +kernel
theorem dX0_readFrom_80 : decode cX0_readFrom 80 = .ok (.iastore, 1) := by decide +kernel
theorem dX0_readFrom_81 : decode cX0_readFrom 81 = .ok (.iinc 2 1, 3) := by decide +kernel
theorem dX0_readFrom_84 : decode cX0_readFrom 84 = .ok (.goto (-16), 3) := by decide +kernel
theorem dX0_readFrom_87 : decode cX0_readFrom 87 = .ok (.iconst 0, 1) := by decide +kernel
theorem dX0_readFrom_88 : decode cX0_readFrom 88 = .ok (.istore_n 2, 1) := by decide +kernel
theorem dX0_readFrom_89 : decode cX0_readFrom 89 = .ok (.iload_n 2, 1) := by decide +kernel
theorem dX0_readFrom_90 : decode cX0_readFrom 90 = .ok (.bipush 10, 2) := by decide +kernel
theorem dX0_readFrom_92 : decode cX0_readFrom 92 = .ok (.if_icmp .ge 16, 3) := by decide +kernel
theorem dX0_readFrom_95 : decode cX0_readFrom 95 = .ok (.aload_n 0, 1) := by decide +kernel
theorem dX0_readFrom_96 : decode cX0_readFrom 96 = .ok (.getfield 37, 3) := by decide +kernel
theorem dX0_readFrom_99 : decode cX0_readFrom 99 = .ok (.iload_n 2, 1) := by decide +kernel
theorem dX0_readFrom_100 : decode cX0_readFrom 100 = .ok (.iconst 0, 1) := by decide +kernel
theorem dX0_readFrom_101 : decode cX0_readFrom 101 = .ok (.iastore, 1) := by decide +kernel
theorem dX0_readFrom_102 : decode cX0_readFrom 102 = .ok (.iinc 2 1, 3) := by decide +kernel
theorem dX0_readFrom_105 : decode cX0_readFrom 105 = .ok (.goto (-16), 3) := by decide +kernel
theorem dX0_readFrom_108 : decode cX0_readFrom 108 = .ok (.iconst 0, 1) := by decide +kernel
theorem dX0_readFrom_109 : decode cX0_readFrom 109 = .ok (.istore_n 2, 1) := by decide +kernel
theorem dX0_readFrom_110 : decode cX0_readFrom 110 = .ok (.iload_n 2, 1) := by decide +kernel
theorem dX0_readFrom_111 : decode cX0_readFrom 111 = .ok (.sipush 240, 3) := by decide +kernel
theorem dX0_readFrom_114 : decode cX0_readFrom 114 = .ok (.if_icmp .ge 35, 3) := by decide +kernel
theorem dX0_readFrom_117 : decode cX0_readFrom 117 = .ok (.aload_n 1, 1) := by decide +kernel
theorem dX0_readFrom_118 : decode cX0_readFrom 118 = .ok (.invokevirtual 107, 3) := by decide +kernel
theorem dX0_readFrom_121 : decode cX0_readFrom 121 = .ok (.ifCond .ne 28, 3) := by decide +kernel
theorem dX0_readFrom_124 : decode cX0_readFrom 124 = .ok (.aload_n 1, 1) := by decide +kernel
theorem dX0_readFrom_125 : decode cX0_readFrom 125 = .ok (.bipush 59, 2) := by decide +kernel
theorem dX0_readFrom_127 : decode cX0_readFrom 127 = .ok (.invokevirtual 103, 3) := by decide +kernel
theorem dX0_readFrom_130 : decode cX0_readFrom 130 = .ok (.ifCond .eq 11, 3) := by decide +kernel
theorem dX0_readFrom_133 : decode cX0_readFrom 133 = .ok (.aload_n 0, 1) := by decide +kernel
theorem dX0_readFrom_134 : decode cX0_readFrom 134 = .ok (.aload_n 1, 1) := by decide +kernel
theorem dX0_readFrom_135 : decode cX0_readFrom 135 = .ok (.invokevirtual 111, 3) := by decide +kernel
theorem dX0_readFrom_138 : decode cX0_readFrom 138 = .ok (.ifCond .ne 5, 3) := by decide +kernel
theorem dX0_readFrom_141 : decode cX0_readFrom 141 = .ok (.iconst 0, 1) := by decide +kernel
theorem dX0_readFrom_142 : decode cX0_readFrom 142 = .ok (.ireturn, 1) := by decide +kernel
theorem dX0_readFrom_143 : decode cX0_readFrom 143 = .ok (.iinc 2 1, 3) := by decide +kernel
theorem dX0_readFrom_146 : decode cX0_readFrom 146 = .ok (.goto (-36), 3) := by decide +kernel
theorem dX0_readFrom_149 : decode cX0_readFrom 149 = .ok (.iconst 1, 1) := by decide +kernel
theorem dX0_readFrom_150 : decode cX0_readFrom 150 = .ok (.ireturn, 1) := by decide +kernel
set_option maxRecDepth 20000 in
theorem ggX0_readLine_X3_takeSign : GoodIn wsX0_readLine wsX3_takeSign := goodIn_r _ [5, 6, 7, 8, 67, 68, 69] (by decide +kernel) (by decide +kernel)
set_option maxRecDepth 20000 in
theorem gX0_readLine_X3_takeSign : GoodIn wsX0_readLine (wsV RX0 103 RX3 yX3_takeSign wsX3_takeSign) := goodIn_app (goodIn_of _ (by decide +kernel)) ggX0_readLine_X3_takeSign
set_option maxRecDepth 20000 in
theorem ggX0_readLine_X0_readBars : GoodIn wsX0_readLine wsX0_readBars := goodIn_r _ [13, 14, 15, 16, 17, 18, 12, 19, 20, 21, 22, 23, 24, 4, 25, 6, 7, 8, 26, 27, 28, 29, 30, 70, 71, 72, 73, 74, 75, 76, 77, 78, 67, 68, 69] (by decide +kernel) (by decide +kernel)
set_option maxRecDepth 20000 in
theorem gX0_readLine_X0_readBars : GoodIn wsX0_readLine (wsV RX0 115 RX0 yX0_readBars wsX0_readBars) := goodIn_app (goodIn_of _ (by decide +kernel)) ggX0_readLine_X0_readBars
set_option maxRecDepth 20000 in
theorem ggX0_readLine_X0_readSection : GoodIn wsX0_readLine wsX0_readSection := goodIn_r _ [34, 20, 22, 23, 24, 4, 25, 6, 7, 8, 26, 27, 28, 1, 2, 3, 5, 35, 36, 12, 37, 38, 39, 40, 41, 29, 30, 42, 43, 44, 45, 14, 46, 47, 48, 49, 50, 21, 15, 51, 52, 53, 54, 55, 56, 57, 58, 59, 60, 61, 62, 63, 64, 65, 66, 70, 71, 72, 73, 74, 75, 76, 77, 78, 67, 68, 69] (by decide +kernel) (by decide +kernel)
set_option maxRecDepth 20000 in
theorem gX0_readLine_X0_readSection : GoodIn wsX0_readLine (wsV RX0 118 RX0 yX0_readSection wsX0_readSection) := goodIn_app (goodIn_of _ (by decide +kernel)) ggX0_readLine_X0_readSection
theorem dX0_readLine_0 : decode cX0_readLine 0 = .ok (.aload_n 1, 1) := by decide +kernel
theorem dX0_readLine_1 : decode cX0_readLine 1 = .ok (.bipush 98, 2) := by decide +kernel
theorem dX0_readLine_3 : decode cX0_readLine 3 = .ok (.invokevirtual 103, 3) := by decide +kernel
theorem dX0_readLine_6 : decode cX0_readLine 6 = .ok (.ifCond .eq 11, 3) := by decide +kernel
theorem dX0_readLine_9 : decode cX0_readLine 9 = .ok (.aload_n 0, 1) := by decide +kernel
theorem dX0_readLine_10 : decode cX0_readLine 10 = .ok (.aload_n 1, 1) := by decide +kernel
theorem dX0_readLine_11 : decode cX0_readLine 11 = .ok (.invokevirtual 115, 3) := by decide +kernel
theorem dX0_readLine_14 : decode cX0_readLine 14 = .ok (.goto 8, 3) := by decide +kernel
theorem dX0_readLine_17 : decode cX0_readLine 17 = .ok (.aload_n 0, 1) := by decide +kernel
theorem dX0_readLine_18 : decode cX0_readLine 18 = .ok (.aload_n 1, 1) := by decide +kernel
theorem dX0_readLine_19 : decode cX0_readLine 19 = .ok (.invokevirtual 118, 3) := by decide +kernel
theorem dX0_readLine_22 : decode cX0_readLine 22 = .ok (.ireturn, 1) := by decide +kernel
set_option maxRecDepth 20000 in
theorem ggX0_readBars_X0_teachersTold : GoodIn wsX0_readBars wsX0_teachersTold := goodIn_r _ [7, 2, 8, 9, 23, 24, 25, 26, 27, 28, 29, 30, 31] (by decide +kernel) (by decide +kernel)
set_option maxRecDepth 20000 in
theorem gX0_readBars_X0_teachersTold : GoodIn wsX0_readBars (wsV RX0 121 RX0 yX0_teachersTold wsX0_teachersTold) := goodIn_app (goodIn_of _ (by decide +kernel)) ggX0_readBars_X0_teachersTold
set_option maxRecDepth 20000 in
theorem ggX0_readBars_X3_takeDigit : GoodIn wsX0_readBars wsX3_takeDigit := goodIn_r _ [14, 15, 16, 17, 18, 19, 20, 32, 33, 34] (by decide +kernel) (by decide +kernel)
set_option maxRecDepth 20000 in
theorem gX0_readBars_X3_takeDigit : GoodIn wsX0_readBars (wsV RX0 98 RX3 yX3_takeDigit wsX3_takeDigit) := goodIn_app (goodIn_of _ (by decide +kernel)) ggX0_readBars_X3_takeDigit
set_option maxRecDepth 20000 in
theorem ggX0_readBars_X5_digitsAbove : GoodIn wsX0_readBars wsX5_digitsAbove := goodIn_r _ [22] (by decide +kernel) (by decide +kernel)
set_option maxRecDepth 20000 in
theorem gX0_readBars_X5_digitsAbove_n95 : GoodIn wsX0_readBars (wsX5_digitsAbove) := ggX0_readBars_X5_digitsAbove
theorem dX0_readBars_0 : decode cX0_readBars 0 = .ok (.aload_n 1, 1) := by decide +kernel
theorem dX0_readBars_1 : decode cX0_readBars 1 = .ok (.sipush 1023, 3) := by decide +kernel
theorem dX0_readBars_4 : decode cX0_readBars 4 = .ok (.aload_n 0, 1) := by decide +kernel
theorem dX0_readBars_5 : decode cX0_readBars 5 = .ok (.invokevirtual 121, 3) := by decide +kernel
theorem dX0_readBars_8 : decode cX0_readBars 8 = .ok (.iconst (-1), 1) := by decide +kernel
theorem dX0_readBars_9 : decode cX0_readBars 9 = .ok (.ixor, 1) := by decide +kernel
theorem dX0_readBars_10 : decode cX0_readBars 10 = .ok (.iand, 1) := by decide +kernel
theorem dX0_readBars_11 : decode cX0_readBars 11 = .ok (.invokevirtual 98, 3) := by decide +kernel
theorem dX0_readBars_14 : decode cX0_readBars 14 = .ok (.istore_n 2, 1) := by decide +kernel
theorem dX0_readBars_15 : decode cX0_readBars 15 = .ok (.iload_n 2, 1) := by decide +kernel
theorem dX0_readBars_16 : decode cX0_readBars 16 = .ok (.iconst (-1), 1) := by decide +kernel
theorem dX0_readBars_17 : decode cX0_readBars 17 = .ok (.if_icmp .ne 5, 3) := by decide +kernel
theorem dX0_readBars_20 : decode cX0_readBars 20 = .ok (.iconst 0, 1) := by decide +kernel
theorem dX0_readBars_21 : decode cX0_readBars 21 = .ok (.ireturn, 1) := by decide +kernel
theorem dX0_readBars_22 : decode cX0_readBars 22 = .ok (.iconst 1, 1) := by decide +kernel
theorem dX0_readBars_23 : decode cX0_readBars 23 = .ok (.aload_n 0, 1) := by decide +kernel
theorem dX0_readBars_24 : decode cX0_readBars 24 = .ok (.getfield 9, 3) := by decide +kernel
theorem dX0_readBars_27 : decode cX0_readBars 27 = .ok (.ishl, 1) := by decide +kernel
theorem dX0_readBars_28 : decode cX0_readBars 28 = .ok (.iconst 1, 1) := by decide +kernel
theorem dX0_readBars_29 : decode cX0_readBars 29 = .ok (.isub, 1) := by decide +kernel
theorem dX0_readBars_30 : decode cX0_readBars 30 = .ok (.istore_n 3, 1) := by decide +kernel
theorem dX0_readBars_31 : decode cX0_readBars 31 = .ok (.iconst 0, 1) := by decide +kernel
theorem dX0_readBars_32 : decode cX0_readBars 32 = .ok (.istore 4, 2) := by decide +kernel
theorem dX0_readBars_34 : decode cX0_readBars 34 = .ok (.iload 4, 2) := by decide +kernel
theorem dX0_readBars_36 : decode cX0_readBars 36 = .ok (.bipush 6, 2) := by decide +kernel
theorem dX0_readBars_38 : decode cX0_readBars 38 = .ok (.if_icmp .ge 46, 3) := by decide +kernel
theorem dX0_readBars_41 : decode cX0_readBars 41 = .ok (.aload_n 1, 1) := by decide +kernel
theorem dX0_readBars_42 : decode cX0_readBars 42 = .ok (.iload_n 3, 1) := by decide +kernel
theorem dX0_readBars_43 : decode cX0_readBars 43 = .ok (.invokevirtual 98, 3) := by decide +kernel
theorem dX0_readBars_46 : decode cX0_readBars 46 = .ok (.istore 5, 2) := by decide +kernel
theorem dX0_readBars_48 : decode cX0_readBars 48 = .ok (.iload 5, 2) := by decide +kernel
theorem dX0_readBars_50 : decode cX0_readBars 50 = .ok (.iconst (-1), 1) := by decide +kernel
theorem dX0_readBars_51 : decode cX0_readBars 51 = .ok (.if_icmp .ne 6, 3) := by decide +kernel
theorem dX0_readBars_54 : decode cX0_readBars 54 = .ok (.goto 30, 3) := by decide +kernel
theorem dX0_readBars_57 : decode cX0_readBars 57 = .ok (.aload_n 0, 1) := by decide +kernel
theorem dX0_readBars_58 : decode cX0_readBars 58 = .ok (.getfield 21, 3) := by decide +kernel
theorem dX0_readBars_61 : decode cX0_readBars 61 = .ok (.iload_n 2, 1) := by decide +kernel
theorem dX0_readBars_62 : decode cX0_readBars 62 = .ok (.dup2, 1) := by decide +kernel
theorem dX0_readBars_63 : decode cX0_readBars 63 = .ok (.iaload, 1) := by decide +kernel
theorem dX0_readBars_64 : decode cX0_readBars 64 = .ok (.iconst 1, 1) := by decide +kernel
theorem dX0_readBars_65 : decode cX0_readBars 65 = .ok (.iload 5, 2) := by decide +kernel
theorem dX0_readBars_67 : decode cX0_readBars 67 = .ok (.ishl, 1) := by decide +kernel
theorem dX0_readBars_68 : decode cX0_readBars 68 = .ok (.ior, 1) := by decide +kernel
theorem dX0_readBars_69 : decode cX0_readBars 69 = .ok (.iastore, 1) := by decide +kernel
theorem dX0_readBars_70 : decode cX0_readBars 70 = .ok (.iload_n 3, 1) := by decide +kernel
theorem dX0_readBars_71 : decode cX0_readBars 71 = .ok (.iload 5, 2) := by decide +kernel
theorem dX0_readBars_73 : decode cX0_readBars 73 = .ok (.invokestatic 95, 3) := by decide +kernel
theorem dX0_readBars_76 : decode cX0_readBars 76 = .ok (.iand, 1) := by decide +kernel
theorem dX0_readBars_77 : decode cX0_readBars 77 = .ok (.istore_n 3, 1) := by decide +kernel
theorem dX0_readBars_78 : decode cX0_readBars 78 = .ok (.iinc 4 1, 3) := by decide +kernel
theorem dX0_readBars_81 : decode cX0_readBars 81 = .ok (.goto (-47), 3) := by decide +kernel
theorem dX0_readBars_84 : decode cX0_readBars 84 = .ok (.aload_n 0, 1) := by decide +kernel
theorem dX0_readBars_85 : decode cX0_readBars 85 = .ok (.getfield 21, 3) := by decide +kernel
theorem dX0_readBars_88 : decode cX0_readBars 88 = .ok (.iload_n 2, 1) := by decide +kernel
theorem dX0_readBars_89 : decode cX0_readBars 89 = .ok (.iaload, 1) := by decide +kernel
theorem dX0_readBars_90 : decode cX0_readBars 90 = .ok (.ifCond .eq 7, 3) := by decide +kernel
theorem dX0_readBars_93 : decode cX0_readBars 93 = .ok (.iconst 1, 1) := by decide +kernel
theorem dX0_readBars_94 : decode cX0_readBars 94 = .ok (.goto 4, 3) := by decide +kernel
theorem dX0_readBars_97 : decode cX0_readBars 97 = .ok (.iconst 0, 1) := by decide +kernel
theorem dX0_readBars_98 : decode cX0_readBars 98 = .ok (.ireturn, 1) := by decide +kernel
theorem dX0_teachersTold_0 : decode cX0_teachersTold 0 = .ok (.iconst 0, 1) := by decide +kernel
theorem dX0_teachersTold_1 : decode cX0_teachersTold 1 = .ok (.istore_n 1, 1) := by decide +kernel
theorem dX0_teachersTold_2 : decode cX0_teachersTold 2 = .ok (.iconst 0, 1) := by decide +kernel
theorem dX0_teachersTold_3 : decode cX0_teachersTold 3 = .ok (.istore_n 2, 1) := by decide +kernel
theorem dX0_teachersTold_4 : decode cX0_teachersTold 4 = .ok (.iload_n 2, 1) := by decide +kernel
theorem dX0_teachersTold_5 : decode cX0_teachersTold 5 = .ok (.bipush 10, 2) := by decide +kernel
theorem dX0_teachersTold_7 : decode cX0_teachersTold 7 = .ok (.if_icmp .ge 28, 3) := by decide +kernel
theorem dX0_teachersTold_10 : decode cX0_teachersTold 10 = .ok (.iload_n 1, 1) := by decide +kernel
theorem dX0_teachersTold_11 : decode cX0_teachersTold 11 = .ok (.aload_n 0, 1) := by decide +kernel
theorem dX0_teachersTold_12 : decode cX0_teachersTold 12 = .ok (.getfield 21, 3) := by decide +kernel
theorem dX0_teachersTold_15 : decode cX0_teachersTold 15 = .ok (.iload_n 2, 1) := by decide +kernel
theorem dX0_teachersTold_16 : decode cX0_teachersTold 16 = .ok (.iaload, 1) := by decide +kernel
theorem dX0_teachersTold_17 : decode cX0_teachersTold 17 = .ok (.ifCond .eq 9, 3) := by decide +kernel
theorem dX0_teachersTold_20 : decode cX0_teachersTold 20 = .ok (.iconst 1, 1) := by decide +kernel
theorem dX0_teachersTold_21 : decode cX0_teachersTold 21 = .ok (.iload_n 2, 1) := by decide +kernel
theorem dX0_teachersTold_22 : decode cX0_teachersTold 22 = .ok (.ishl, 1) := by decide +kernel
theorem dX0_teachersTold_23 : decode cX0_teachersTold 23 = .ok (.goto 4, 3) := by decide +kernel
theorem dX0_teachersTold_26 : decode cX0_teachersTold 26 = .ok (.iconst 0, 1) := by decide +kernel
theorem dX0_teachersTold_27 : decode cX0_teachersTold 27 = .ok (.ior, 1) := by decide +kernel
theorem dX0_teachersTold_28 : decode cX0_teachersTold 28 = .ok (.istore_n 1, 1) := by decide +kernel
theorem dX0_teachersTold_29 : decode cX0_teachersTold 29 = .ok (.iinc 2 1, 3) := by decide +kernel
theorem dX0_teachersTold_32 : decode cX0_teachersTold 32 = .ok (.goto (-28), 3) := by decide +kernel
theorem dX0_teachersTold_35 : decode cX0_teachersTold 35 = .ok (.iconst 0, 1) := by decide +kernel
theorem dX0_teachersTold_36 : decode cX0_teachersTold 36 = .ok (.istore_n 2, 1) := by decide +kernel
theorem dX0_teachersTold_37 : decode cX0_teachersTold 37 = .ok (.iload_n 2, 1) := by decide +kernel
theorem dX0_teachersTold_38 : decode cX0_teachersTold 38 = .ok (.aload_n 0, 1) := by decide +kernel
theorem dX0_teachersTold_39 : decode cX0_teachersTold 39 = .ok (.getfield 18, 3) := by decide +kernel
theorem dX0_teachersTold_42 : decode cX0_teachersTold 42 = .ok (.if_icmp .ge 20, 3) := by decide +kernel
theorem dX0_teachersTold_45 : decode cX0_teachersTold 45 = .ok (.iload_n 1, 1) := by decide +kernel
theorem dX0_teachersTold_46 : decode cX0_teachersTold 46 = .ok (.iconst 1, 1) := by decide +kernel
theorem dX0_teachersTold_47 : decode cX0_teachersTold 47 = .ok (.aload_n 0, 1) := by decide +kernel
theorem dX0_teachersTold_48 : decode cX0_teachersTold 48 = .ok (.getfield 28, 3) := by decide +kernel
theorem dX0_teachersTold_51 : decode cX0_teachersTold 51 = .ok (.iload_n 2, 1) := by decide +kernel
theorem dX0_teachersTold_52 : decode cX0_teachersTold 52 = .ok (.iaload, 1) := by decide +kernel
theorem dX0_teachersTold_53 : decode cX0_teachersTold 53 = .ok (.ishl, 1) := by decide +kernel
theorem dX0_teachersTold_54 : decode cX0_teachersTold 54 = .ok (.ior, 1) := by decide +kernel
theorem dX0_teachersTold_55 : decode cX0_teachersTold 55 = .ok (.istore_n 1, 1) := by decide +kernel
theorem dX0_teachersTold_56 : decode cX0_teachersTold 56 = .ok (.iinc 2 1, 3) := by decide +kernel
theorem dX0_teachersTold_59 : decode cX0_teachersTold 59 = .ok (.goto (-22), 3) := by decide +kernel
theorem dX0_teachersTold_62 : decode cX0_teachersTold 62 = .ok (.iload_n 1, 1) := by decide +kernel
theorem dX0_teachersTold_63 : decode cX0_teachersTold 63 = .ok (.ireturn, 1) := by decide +kernel
set_option maxRecDepth 20000 in
theorem ggX0_readSection_X3_takeDigit : GoodIn wsX0_readSection wsX3_takeDigit := goodIn_r _ [6, 7, 8, 9, 10, 11, 12, 64, 65, 66] (by decide +kernel) (by decide +kernel)
set_option maxRecDepth 20000 in
theorem gX0_readSection_X3_takeDigit : GoodIn wsX0_readSection (wsV RX0 98 RX3 yX3_takeDigit wsX3_takeDigit) := goodIn_app (goodIn_of _ (by decide +kernel)) ggX0_readSection_X3_takeDigit
set_option maxRecDepth 20000 in
theorem ggX0_readSection_X3_takeSign : GoodIn wsX0_readSection wsX3_takeSign := goodIn_r _ [16, 7, 8, 9, 64, 65, 66] (by decide +kernel) (by decide +kernel)
set_option maxRecDepth 20000 in
theorem gX0_readSection_X3_takeSign : GoodIn wsX0_readSection (wsV RX0 103 RX3 yX3_takeSign wsX3_takeSign) := goodIn_app (goodIn_of _ (by decide +kernel)) ggX0_readSection_X3_takeSign
set_option maxRecDepth 20000 in
theorem ggX0_readSection_X0_readSeats : GoodIn wsX0_readSection wsX0_readSeats := goodIn_r _ [20, 21, 22, 23, 24, 25, 11, 26, 2, 3, 4, 5, 6, 7, 8, 9, 10, 12, 64, 65, 66] (by decide +kernel) (by decide +kernel)
set_option maxRecDepth 20000 in
theorem gX0_readSection_X0_readSeats : GoodIn wsX0_readSection (va_wsS RX0 125 yX0_readSeats wsX0_readSeats) := goodIn_app (goodIn_of _ (by decide +kernel)) ggX0_readSection_X0_readSeats
set_option maxRecDepth 20000 in
theorem ggX0_readSection_X0_lawfulColumns : GoodIn wsX0_readSection wsX0_lawfulColumns := goodIn_r _ [30, 31, 32, 33, 34, 19, 35, 1, 36, 37, 38, 39, 10, 11, 12, 55, 56, 57, 58, 59, 60, 61, 62, 63] (by decide +kernel) (by decide +kernel)
set_option maxRecDepth 20000 in
theorem gX0_readSection_X0_lawfulColumns : GoodIn wsX0_readSection (wsV RX0 129 RX0 yX0_lawfulColumns wsX0_lawfulColumns) := goodIn_app (goodIn_of _ (by decide +kernel)) ggX0_readSection_X0_lawfulColumns
set_option maxRecDepth 20000 in
theorem ggX0_readSection_X0_add : GoodIn wsX0_readSection wsX0_add := goodIn_r _ [43, 1, 44, 37, 45, 36, 46, 47, 48, 19, 49, 50, 51, 52, 53, 54, 55, 56, 57, 58, 59, 60, 61, 62, 63] (by decide +kernel) (by decide +kernel)
set_option maxRecDepth 20000 in
theorem gX0_readSection_X0_add : GoodIn wsX0_readSection (wsV RX0 132 RX0 yX0_add wsX0_add) := goodIn_app (goodIn_of _ (by decide +kernel)) ggX0_readSection_X0_add
theorem dX0_readSection_0 : decode cX0_readSection 0 = .ok (.aload_n 1, 1) := by decide +kernel
theorem dX0_readSection_1 : decode cX0_readSection 1 = .ok (.aload_n 0, 1) := by decide +kernel
theorem dX0_readSection_2 : decode cX0_readSection 2 = .ok (.getfield 18, 3) := by decide +kernel
theorem dX0_readSection_5 : decode cX0_readSection 5 = .ok (.bipush 16, 2) := by decide +kernel
theorem dX0_readSection_7 : decode cX0_readSection 7 = .ok (.if_icmp .ge 9, 3) := by decide +kernel
theorem dX0_readSection_10 : decode cX0_readSection 10 = .ok (.sipush 1023, 3) := by decide +kernel
theorem dX0_readSection_13 : decode cX0_readSection 13 = .ok (.goto 4, 3) := by decide +kernel
theorem dX0_readSection_16 : decode cX0_readSection 16 = .ok (.iconst 0, 1) := by decide +kernel
theorem dX0_readSection_17 : decode cX0_readSection 17 = .ok (.invokevirtual 98, 3) := by decide +kernel
theorem dX0_readSection_20 : decode cX0_readSection 20 = .ok (.istore_n 2, 1) := by decide +kernel
theorem dX0_readSection_21 : decode cX0_readSection 21 = .ok (.iload_n 2, 1) := by decide +kernel
theorem dX0_readSection_22 : decode cX0_readSection 22 = .ok (.iconst (-1), 1) := by decide +kernel
theorem dX0_readSection_23 : decode cX0_readSection 23 = .ok (.if_icmp .eq 12, 3) := by decide +kernel
theorem dX0_readSection_26 : decode cX0_readSection 26 = .ok (.aload_n 1, 1) := by decide +kernel
theorem dX0_readSection_27 : decode cX0_readSection 27 = .ok (.bipush 116, 2) := by decide +kernel
theorem dX0_readSection_29 : decode cX0_readSection 29 = .ok (.invokevirtual 103, 3) := by decide +kernel
theorem dX0_readSection_32 : decode cX0_readSection 32 = .ok (.ifCond .ne 5, 3) := by decide +kernel
theorem dX0_readSection_35 : decode cX0_readSection 35 = .ok (.iconst 0, 1) := by decide +kernel
theorem dX0_readSection_36 : decode cX0_readSection 36 = .ok (.ireturn, 1) := by decide +kernel
theorem dX0_readSection_37 : decode cX0_readSection 37 = .ok (.aload_n 1, 1) := by decide +kernel
theorem dX0_readSection_38 : decode cX0_readSection 38 = .ok (.sipush 1023, 3) := by decide +kernel
theorem dX0_readSection_41 : decode cX0_readSection 41 = .ok (.invokevirtual 98, 3) := by decide +kernel
theorem dX0_readSection_44 : decode cX0_readSection 44 = .ok (.istore_n 3, 1) := by decide +kernel
theorem dX0_readSection_45 : decode cX0_readSection 45 = .ok (.iload_n 3, 1) := by decide +kernel
theorem dX0_readSection_46 : decode cX0_readSection 46 = .ok (.iconst (-1), 1) := by decide +kernel
theorem dX0_readSection_47 : decode cX0_readSection 47 = .ok (.if_icmp .eq 12, 3) := by decide +kernel
theorem dX0_readSection_50 : decode cX0_readSection 50 = .ok (.aload_n 1, 1) := by decide +kernel
theorem dX0_readSection_51 : decode cX0_readSection 51 = .ok (.bipush 122, 2) := by decide +kernel
theorem dX0_readSection_53 : decode cX0_readSection 53 = .ok (.invokevirtual 103, 3) := by decide +kernel
theorem dX0_readSection_56 : decode cX0_readSection 56 = .ok (.ifCond .ne 5, 3) := by decide +kernel
theorem dX0_readSection_59 : decode cX0_readSection 59 = .ok (.iconst 0, 1) := by decide +kernel
theorem dX0_readSection_60 : decode cX0_readSection 60 = .ok (.ireturn, 1) := by decide +kernel
theorem dX0_readSection_61 : decode cX0_readSection 61 = .ok (.aload_n 1, 1) := by decide +kernel
theorem dX0_readSection_62 : decode cX0_readSection 62 = .ok (.invokestatic 125, 3) := by decide +kernel
theorem dX0_readSection_65 : decode cX0_readSection 65 = .ok (.istore 4, 2) := by decide +kernel
theorem dX0_readSection_67 : decode cX0_readSection 67 = .ok (.iload 4, 2) := by decide +kernel
theorem dX0_readSection_69 : decode cX0_readSection 69 = .ok (.iconst (-1), 1) := by decide +kernel
theorem dX0_readSection_70 : decode cX0_readSection 70 = .ok (.if_icmp .ne 5, 3) := by decide +kernel
theorem dX0_readSection_73 : decode cX0_readSection 73 = .ok (.iconst 0, 1) := by decide +kernel
theorem dX0_readSection_74 : decode cX0_readSection 74 = .ok (.ireturn, 1) := by decide +kernel
theorem dX0_readSection_75 : decode cX0_readSection 75 = .ok (.iconst (-1), 1) := by decide +kernel
theorem dX0_readSection_76 : decode cX0_readSection 76 = .ok (.istore 5, 2) := by decide +kernel
theorem dX0_readSection_78 : decode cX0_readSection 78 = .ok (.aload_n 1, 1) := by decide +kernel
theorem dX0_readSection_79 : decode cX0_readSection 79 = .ok (.bipush 64, 2) := by decide +kernel
theorem dX0_readSection_81 : decode cX0_readSection 81 = .ok (.invokevirtual 103, 3) := by decide +kernel
theorem dX0_readSection_84 : decode cX0_readSection 84 = .ok (.ifCond .eq 23, 3) := by decide +kernel
theorem dX0_readSection_87 : decode cX0_readSection 87 = .ok (.aload_n 1, 1) := by decide +kernel
theorem dX0_readSection_88 : decode cX0_readSection 88 = .ok (.aload_n 0, 1) := by decide +kernel
theorem dX0_readSection_89 : decode cX0_readSection 89 = .ok (.iconst (-1), 1) := by decide +kernel
theorem dX0_readSection_90 : decode cX0_readSection 90 = .ok (.iload_n 3, 1) := by decide +kernel
theorem dX0_readSection_91 : decode cX0_readSection 91 = .ok (.invokevirtual 129, 3) := by decide +kernel
theorem dX0_readSection_94 : decode cX0_readSection 94 = .ok (.invokevirtual 98, 3) := by decide +kernel
theorem dX0_readSection_97 : decode cX0_readSection 97 = .ok (.istore 5, 2) := by decide +kernel
theorem dX0_readSection_99 : decode cX0_readSection 99 = .ok (.iload 5, 2) := by decide +kernel
theorem dX0_readSection_101 : decode cX0_readSection 101 = .ok (.iconst (-1), 1) := by decide +kernel
theorem dX0_readSection_102 : decode cX0_readSection 102 = .ok (.if_icmp .ne 5, 3) := by decide +kernel
theorem dX0_readSection_105 : decode cX0_readSection 105 = .ok (.iconst 0, 1) := by decide +kernel
theorem dX0_readSection_106 : decode cX0_readSection 106 = .ok (.ireturn, 1) := by decide +kernel
theorem dX0_readSection_107 : decode cX0_readSection 107 = .ok (.aload_n 0, 1) := by decide +kernel
theorem dX0_readSection_108 : decode cX0_readSection 108 = .ok (.iload_n 2, 1) := by decide +kernel
theorem dX0_readSection_109 : decode cX0_readSection 109 = .ok (.iload_n 3, 1) := by decide +kernel
theorem dX0_readSection_110 : decode cX0_readSection 110 = .ok (.iload 4, 2) := by decide +kernel
theorem dX0_readSection_112 : decode cX0_readSection 112 = .ok (.iload 5, 2) := by decide +kernel
theorem dX0_readSection_114 : decode cX0_readSection 114 = .ok (.invokevirtual 132, 3) := by decide +kernel
theorem dX0_readSection_117 : decode cX0_readSection 117 = .ok (.iconst 1, 1) := by decide +kernel
theorem dX0_readSection_118 : decode cX0_readSection 118 = .ok (.ireturn, 1) := by decide +kernel
set_option maxRecDepth 20000 in
theorem ggX0_readSeats_X5_digitsAbove : GoodIn wsX0_readSeats wsX5_digitsAbove := goodIn_r _ [7] (by decide +kernel) (by decide +kernel)
set_option maxRecDepth 20000 in
theorem gX0_readSeats_X5_digitsAbove_n95 : GoodIn wsX0_readSeats (wsX5_digitsAbove) := ggX0_readSeats_X5_digitsAbove
set_option maxRecDepth 20000 in
theorem ggX0_readSeats_X3_takeDigit : GoodIn wsX0_readSeats wsX3_takeDigit := goodIn_r _ [12, 13, 14, 15, 16, 6, 17, 18, 19, 20] (by decide +kernel) (by decide +kernel)
set_option maxRecDepth 20000 in
theorem gX0_readSeats_X3_takeDigit : GoodIn wsX0_readSeats (wsV RX0 98 RX3 yX3_takeDigit wsX3_takeDigit) := goodIn_app (goodIn_of _ (by decide +kernel)) ggX0_readSeats_X3_takeDigit
theorem dX0_readSeats_0 : decode cX0_readSeats 0 = .ok (.aload_n 0, 1) := by decide +kernel
theorem dX0_readSeats_1 : decode cX0_readSeats 1 = .ok (.iconst 0, 1) := by decide +kernel
theorem dX0_readSeats_2 : decode cX0_readSeats 2 = .ok (.invokestatic 95, 3) := by decide +kernel
theorem dX0_readSeats_5 : decode cX0_readSeats 5 = .ok (.invokevirtual 98, 3) := by decide +kernel
theorem dX0_readSeats_8 : decode cX0_readSeats 8 = .ok (.istore_n 1, 1) := by decide +kernel
theorem dX0_readSeats_9 : decode cX0_readSeats 9 = .ok (.iload_n 1, 1) := by decide +kernel
theorem dX0_readSeats_10 : decode cX0_readSeats 10 = .ok (.iconst (-1), 1) := by decide +kernel
theorem dX0_readSeats_11 : decode cX0_readSeats 11 = .ok (.if_icmp .ne 5, 3) := by decide +kernel
theorem dX0_readSeats_14 : decode cX0_readSeats 14 = .ok (.iconst (-1), 1) := by decide +kernel
theorem dX0_readSeats_15 : decode cX0_readSeats 15 = .ok (.ireturn, 1) := by decide +kernel
theorem dX0_readSeats_16 : decode cX0_readSeats 16 = .ok (.bipush 9, 2) := by decide +kernel
theorem dX0_readSeats_18 : decode cX0_readSeats 18 = .ok (.bipush 30, 2) := by decide +kernel
theorem dX0_readSeats_20 : decode cX0_readSeats 20 = .ok (.bipush 10, 2) := by decide +kernel
theorem dX0_readSeats_22 : decode cX0_readSeats 22 = .ok (.iload_n 1, 1) := by decide +kernel
theorem dX0_readSeats_23 : decode cX0_readSeats 23 = .ok (.imul, 1) := by decide +kernel
theorem dX0_readSeats_24 : decode cX0_readSeats 24 = .ok (.isub, 1) := by decide +kernel
theorem dX0_readSeats_25 : decode cX0_readSeats 25 = .ok (.invokestatic 136, 3) := by decide +kernel
theorem dX0_readSeats_28 : decode cX0_readSeats 28 = .ok (.istore_n 2, 1) := by decide +kernel
theorem dX0_readSeats_29 : decode cX0_readSeats 29 = .ok (.aload_n 0, 1) := by decide +kernel
theorem dX0_readSeats_30 : decode cX0_readSeats 30 = .ok (.iload_n 2, 1) := by decide +kernel
theorem dX0_readSeats_31 : decode cX0_readSeats 31 = .ok (.ifCond .ge 7, 3) := by decide +kernel
theorem dX0_readSeats_34 : decode cX0_readSeats 34 = .ok (.iconst 0, 1) := by decide +kernel
theorem dX0_readSeats_35 : decode cX0_readSeats 35 = .ok (.goto 13, 3) := by decide +kernel
theorem dX0_readSeats_38 : decode cX0_readSeats 38 = .ok (.sipush 1023, 3) := by decide +kernel
theorem dX0_readSeats_41 : decode cX0_readSeats 41 = .ok (.iload_n 2, 1) := by decide +kernel
theorem dX0_readSeats_42 : decode cX0_readSeats 42 = .ok (.invokestatic 95, 3) := by decide +kernel
theorem dX0_readSeats_45 : decode cX0_readSeats 45 = .ok (.iconst (-1), 1) := by decide +kernel
theorem dX0_readSeats_46 : decode cX0_readSeats 46 = .ok (.ixor, 1) := by decide +kernel
theorem dX0_readSeats_47 : decode cX0_readSeats 47 = .ok (.iand, 1) := by decide +kernel
theorem dX0_readSeats_48 : decode cX0_readSeats 48 = .ok (.invokevirtual 98, 3) := by decide +kernel
theorem dX0_readSeats_51 : decode cX0_readSeats 51 = .ok (.istore_n 3, 1) := by decide +kernel
theorem dX0_readSeats_52 : decode cX0_readSeats 52 = .ok (.iload_n 3, 1) := by decide +kernel
theorem dX0_readSeats_53 : decode cX0_readSeats 53 = .ok (.iconst (-1), 1) := by decide +kernel
theorem dX0_readSeats_54 : decode cX0_readSeats 54 = .ok (.if_icmp .ne 7, 3) := by decide +kernel
theorem dX0_readSeats_57 : decode cX0_readSeats 57 = .ok (.iload_n 1, 1) := by decide +kernel
theorem dX0_readSeats_58 : decode cX0_readSeats 58 = .ok (.goto 9, 3) := by decide +kernel
theorem dX0_readSeats_61 : decode cX0_readSeats 61 = .ok (.bipush 10, 2) := by decide +kernel
theorem dX0_readSeats_63 : decode cX0_readSeats 63 = .ok (.iload_n 1, 1) := by decide +kernel
theorem dX0_readSeats_64 : decode cX0_readSeats 64 = .ok (.imul, 1) := by decide +kernel
theorem dX0_readSeats_65 : decode cX0_readSeats 65 = .ok (.iload_n 3, 1) := by decide +kernel
theorem dX0_readSeats_66 : decode cX0_readSeats 66 = .ok (.iadd, 1) := by decide +kernel
theorem dX0_readSeats_67 : decode cX0_readSeats 67 = .ok (.ireturn, 1) := by decide +kernel
theorem dX1_init_0 : decode cX1_init 0 = .ok (.aload_n 0, 1) := by decide +kernel
theorem dX1_init_1 : decode cX1_init 1 = .ok (.invokespecial 3, 3) := by decide +kernel
theorem dX1_init_4 : decode cX1_init 4 = .ok (.aload_n 0, 1) := by decide +kernel
theorem dX1_init_5 : decode cX1_init 5 = .ok (.bipush 24, 2) := by decide +kernel
theorem dX1_init_7 : decode cX1_init 7 = .ok (.newarray .int, 2) := by decide +kernel
theorem dX1_init_9 : decode cX1_init 9 = .ok (.putfield 9, 3) := by decide +kernel
theorem dX1_init_12 : decode cX1_init 12 = .ok (.aload_n 0, 1) := by decide +kernel
theorem dX1_init_13 : decode cX1_init 13 = .ok (.iconst 0, 1) := by decide +kernel
theorem dX1_init_14 : decode cX1_init 14 = .ok (.putfield 15, 3) := by decide +kernel
theorem dX1_init_17 : decode cX1_init 17 = .ok (.aload_n 0, 1) := by decide +kernel
theorem dX1_init_18 : decode cX1_init 18 = .ok (.iconst 0, 1) := by decide +kernel
theorem dX1_init_19 : decode cX1_init 19 = .ok (.putfield 19, 3) := by decide +kernel
theorem dX1_init_22 : decode cX1_init 22 = .ok (.return_, 1) := by decide +kernel
theorem dX1_has_0 : decode cX1_has 0 = .ok (.iload_n 1, 1) := by decide +kernel
theorem dX1_has_1 : decode cX1_has 1 = .ok (.ifCond .lt 15, 3) := by decide +kernel
theorem dX1_has_4 : decode cX1_has 4 = .ok (.iload_n 1, 1) := by decide +kernel
theorem dX1_has_5 : decode cX1_has 5 = .ok (.aload_n 0, 1) := by decide +kernel
theorem dX1_has_6 : decode cX1_has 6 = .ok (.getfield 15, 3) := by decide +kernel
theorem dX1_has_9 : decode cX1_has 9 = .ok (.if_icmp .ge 7, 3) := by decide +kernel
theorem dX1_has_12 : decode cX1_has 12 = .ok (.iconst 1, 1) := by decide +kernel
theorem dX1_has_13 : decode cX1_has 13 = .ok (.goto 4, 3) := by decide +kernel
theorem dX1_has_16 : decode cX1_has 16 = .ok (.iconst 0, 1) := by decide +kernel
theorem dX1_has_17 : decode cX1_has 17 = .ok (.ireturn, 1) := by decide +kernel
theorem dX1_empty_0 : decode cX1_empty 0 = .ok (.aload_n 0, 1) := by decide +kernel
theorem dX1_empty_1 : decode cX1_empty 1 = .ok (.iconst 0, 1) := by decide +kernel
theorem dX1_empty_2 : decode cX1_empty 2 = .ok (.putfield 15, 3) := by decide +kernel
theorem dX1_empty_5 : decode cX1_empty 5 = .ok (.aload_n 0, 1) := by decide +kernel
theorem dX1_empty_6 : decode cX1_empty 6 = .ok (.iconst 0, 1) := by decide +kernel
theorem dX1_empty_7 : decode cX1_empty 7 = .ok (.putfield 19, 3) := by decide +kernel
theorem dX1_empty_10 : decode cX1_empty 10 = .ok (.return_, 1) := by decide +kernel
theorem dX1_become_0 : decode cX1_become 0 = .ok (.aload_n 0, 1) := by decide +kernel
theorem dX1_become_1 : decode cX1_become 1 = .ok (.aload_n 1, 1) := by decide +kernel
theorem dX1_become_2 : decode cX1_become 2 = .ok (.getfield 15, 3) := by decide +kernel
theorem dX1_become_5 : decode cX1_become 5 = .ok (.putfield 15, 3) := by decide +kernel
theorem dX1_become_8 : decode cX1_become 8 = .ok (.aload_n 0, 1) := by decide +kernel
theorem dX1_become_9 : decode cX1_become 9 = .ok (.aload_n 1, 1) := by decide +kernel
theorem dX1_become_10 : decode cX1_become 10 = .ok (.getfield 19, 3) := by decide +kernel
theorem dX1_become_13 : decode cX1_become 13 = .ok (.putfield 19, 3) := by decide +kernel
theorem dX1_become_16 : decode cX1_become 16 = .ok (.aload_n 1, 1) := by decide +kernel
theorem dX1_become_17 : decode cX1_become 17 = .ok (.getfield 9, 3) := by decide +kernel
theorem dX1_become_20 : decode cX1_become 20 = .ok (.iconst 0, 1) := by decide +kernel
theorem dX1_become_21 : decode cX1_become 21 = .ok (.aload_n 0, 1) := by decide +kernel
theorem dX1_become_22 : decode cX1_become 22 = .ok (.getfield 9, 3) := by decide +kernel
theorem dX1_become_25 : decode cX1_become 25 = .ok (.iconst 0, 1) := by decide +kernel
theorem dX1_become_26 : decode cX1_become 26 = .ok (.bipush 24, 2) := by decide +kernel
theorem dX1_become_28 : decode cX1_become 28 = .ok (.invokestatic 22, 3) := by decide +kernel
theorem dX1_become_31 : decode cX1_become 31 = .ok (.return_, 1) := by decide +kernel
theorem dX1_choosersOf_0 : decode cX1_choosersOf 0 = .ok (.iconst 0, 1) := by decide +kernel
theorem dX1_choosersOf_1 : decode cX1_choosersOf 1 = .ok (.istore_n 2, 1) := by decide +kernel
theorem dX1_choosersOf_2 : decode cX1_choosersOf 2 = .ok (.iconst 0, 1) := by decide +kernel
theorem dX1_choosersOf_3 : decode cX1_choosersOf 3 = .ok (.istore_n 3, 1) := by decide +kernel
theorem dX1_choosersOf_4 : decode cX1_choosersOf 4 = .ok (.iload_n 3, 1) := by decide +kernel
theorem dX1_choosersOf_5 : decode cX1_choosersOf 5 = .ok (.aload_n 0, 1) := by decide +kernel
theorem dX1_choosersOf_6 : decode cX1_choosersOf 6 = .ok (.getfield 15, 3) := by decide +kernel
theorem dX1_choosersOf_9 : decode cX1_choosersOf 9 = .ok (.if_icmp .ge 31, 3) := by decide +kernel
theorem dX1_choosersOf_12 : decode cX1_choosersOf 12 = .ok (.iload_n 2, 1) := by decide +kernel
theorem dX1_choosersOf_13 : decode cX1_choosersOf 13 = .ok (.aload_n 0, 1) := by decide +kernel
theorem dX1_choosersOf_14 : decode cX1_choosersOf 14 = .ok (.getfield 9, 3) := by decide +kernel
theorem dX1_choosersOf_17 : decode cX1_choosersOf 17 = .ok (.iload_n 3, 1) := by decide +kernel
theorem dX1_choosersOf_18 : decode cX1_choosersOf 18 = .ok (.iaload, 1) := by decide +kernel
theorem dX1_choosersOf_19 : decode cX1_choosersOf 19 = .ok (.iload_n 1, 1) := by decide +kernel
theorem dX1_choosersOf_20 : decode cX1_choosersOf 20 = .ok (.iand, 1) := by decide +kernel
theorem dX1_choosersOf_21 : decode cX1_choosersOf 21 = .ok (.iload_n 1, 1) := by decide +kernel
theorem dX1_choosersOf_22 : decode cX1_choosersOf 22 = .ok (.if_icmp .ne 9, 3) := by decide +kernel
theorem dX1_choosersOf_25 : decode cX1_choosersOf 25 = .ok (.iconst 1, 1) := by decide +kernel
theorem dX1_choosersOf_26 : decode cX1_choosersOf 26 = .ok (.iload_n 3, 1) := by decide +kernel
theorem dX1_choosersOf_27 : decode cX1_choosersOf 27 = .ok (.ishl, 1) := by decide +kernel
theorem dX1_choosersOf_28 : decode cX1_choosersOf 28 = .ok (.goto 4, 3) := by decide +kernel
theorem dX1_choosersOf_31 : decode cX1_choosersOf 31 = .ok (.iconst 0, 1) := by decide +kernel
theorem dX1_choosersOf_32 : decode cX1_choosersOf 32 = .ok (.ior, 1) := by decide +kernel
theorem dX1_choosersOf_33 : decode cX1_choosersOf 33 = .ok (.istore_n 2, 1) := by decide +kernel
theorem dX1_choosersOf_34 : decode cX1_choosersOf 34 = .ok (.iinc 3 1, 3) := by decide +kernel
theorem dX1_choosersOf_37 : decode cX1_choosersOf 37 = .ok (.goto (-33), 3) := by decide +kernel
theorem dX1_choosersOf_40 : decode cX1_choosersOf 40 = .ok (.iload_n 2, 1) := by decide +kernel
theorem dX1_choosersOf_41 : decode cX1_choosersOf 41 = .ok (.ireturn, 1) := by decide +kernel
set_option maxRecDepth 20000 in
theorem ggX1_readFrom_X1_empty : GoodIn wsX1_readFrom wsX1_empty := goodIn_r _ [7, 1, 8, 33, 34, 35] (by decide +kernel) (by decide +kernel)
set_option maxRecDepth 20000 in
theorem gX1_readFrom_X1_empty : GoodIn wsX1_readFrom (wsV RX1 28 RX1 yX1_empty wsX1_empty) := goodIn_app (goodIn_of _ (by decide +kernel)) ggX1_readFrom_X1_empty
set_option maxRecDepth 20000 in
theorem ggX1_readFrom_X3_isRead : GoodIn wsX1_readFrom wsX3_isRead := goodIn_r _ [13, 14, 15, 36, 37, 38] (by decide +kernel) (by decide +kernel)
set_option maxRecDepth 20000 in
theorem gX1_readFrom_X3_isRead : GoodIn wsX1_readFrom (wsV RX1 31 RX3 yX3_isRead wsX3_isRead) := goodIn_app (goodIn_of _ (by decide +kernel)) ggX1_readFrom_X3_isRead
set_option maxRecDepth 20000 in
theorem ggX1_readFrom_X1_readChoices : GoodIn wsX1_readFrom wsX1_readChoices := goodIn_r _ [18, 19, 20, 21, 12, 22, 14, 15, 23, 24, 25, 26, 27, 28, 36, 37, 38] (by decide +kernel) (by decide +kernel)
set_option maxRecDepth 20000 in
theorem gX1_readFrom_X1_readChoices : GoodIn wsX1_readFrom (va_wsS RX1 37 yX1_readChoices wsX1_readChoices) := goodIn_app (goodIn_of _ (by decide +kernel)) ggX1_readFrom_X1_readChoices
set_option maxRecDepth 20000 in
theorem ggX1_readFrom_X3_takeSign : GoodIn wsX1_readFrom wsX3_takeSign := goodIn_r _ [32, 14, 15, 23, 36, 37, 38] (by decide +kernel) (by decide +kernel)
set_option maxRecDepth 20000 in
theorem gX1_readFrom_X3_takeSign : GoodIn wsX1_readFrom (wsV RX1 41 RX3 yX3_takeSign wsX3_takeSign) := goodIn_app (goodIn_of _ (by decide +kernel)) ggX1_readFrom_X3_takeSign
theorem dX1_readFrom_0 : decode cX1_readFrom 0 = .ok (.aload_n 0, 1) := by decide +kernel
theorem dX1_readFrom_1 : decode cX1_readFrom 1 = .ok (.invokevirtual 28, 3) := by decide +kernel
theorem dX1_readFrom_4 : decode cX1_readFrom 4 = .ok (.aload_n 1, 1) := by decide +kernel
theorem dX1_readFrom_5 : decode cX1_readFrom 5 = .ok (.invokevirtual 31, 3) := by decide +kernel
theorem dX1_readFrom_8 : decode cX1_readFrom 8 = .ok (.ifCond .eq 5, 3) := by decide +kernel
theorem dX1_readFrom_11 : decode cX1_readFrom 11 = .ok (.iconst 1, 1) := by decide +kernel
theorem dX1_readFrom_12 : decode cX1_readFrom 12 = .ok (.ireturn, 1) := by decide +kernel
theorem dX1_readFrom_13 : decode cX1_readFrom 13 = .ok (.aload_n 0, 1) := by decide +kernel
theorem dX1_readFrom_14 : decode cX1_readFrom 14 = .ok (.getfield 15, 3) := by decide +kernel
theorem dX1_readFrom_17 : decode cX1_readFrom 17 = .ok (.bipush 24, 2) := by decide +kernel
theorem dX1_readFrom_19 : decode cX1_readFrom 19 = .ok (.if_icmp .ge 66, 3) := by decide +kernel
theorem dX1_readFrom_22 : decode cX1_readFrom 22 = .ok (.aload_n 1, 1) := by decide +kernel
theorem dX1_readFrom_23 : decode cX1_readFrom 23 = .ok (.invokestatic 37, 3) := by decide +kernel
theorem dX1_readFrom_26 : decode cX1_readFrom 26 = .ok (.istore_n 2, 1) := by decide +kernel
theorem dX1_readFrom_27 : decode cX1_readFrom 27 = .ok (.iload_n 2, 1) := by decide +kernel
theorem dX1_readFrom_28 : decode cX1_readFrom 28 = .ok (.ifCond .ne 5, 3) := by decide +kernel
theorem dX1_readFrom_31 : decode cX1_readFrom 31 = .ok (.iconst 0, 1) := by decide +kernel
theorem dX1_readFrom_32 : decode cX1_readFrom 32 = .ok (.ireturn, 1) := by decide +kernel
theorem dX1_readFrom_33 : decode cX1_readFrom 33 = .ok (.aload_n 0, 1) := by decide +kernel
theorem dX1_readFrom_34 : decode cX1_readFrom 34 = .ok (.getfield 9, 3) := by decide +kernel
theorem dX1_readFrom_37 : decode cX1_readFrom 37 = .ok (.aload_n 0, 1) := by decide +kernel
theorem dX1_readFrom_38 : decode cX1_readFrom 38 = .ok (.getfield 15, 3) := by decide +kernel
theorem dX1_readFrom_41 : decode cX1_readFrom 41 = .ok (.iload_n 2, 1) := by decide +kernel
theorem dX1_readFrom_42 : decode cX1_readFrom 42 = .ok (.iastore, 1) := by decide +kernel
theorem dX1_readFrom_43 : decode cX1_readFrom 43 = .ok (.aload_n 0, 1) := by decide +kernel
theorem dX1_readFrom_44 : decode cX1_readFrom 44 = .ok (.dup, 1) := by decide +kernel
theorem dX1_readFrom_45 : decode cX1_readFrom 45 = .ok (.getfield 15, 3) := by decide +kernel
theorem dX1_readFrom_48 : decode cX1_readFrom 48 = .ok (.iconst 1, 1) := by decide +kernel
theorem dX1_readFrom_49 : decode cX1_readFrom 49 = .ok (.iadd, 1) := by decide +kernel
theorem dX1_readFrom_50 : decode cX1_readFrom 50 = .ok (.putfield 15, 3) := by decide +kernel
theorem dX1_readFrom_53 : decode cX1_readFrom 53 = .ok (.aload_n 1, 1) := by decide +kernel
theorem dX1_readFrom_54 : decode cX1_readFrom 54 = .ok (.invokevirtual 31, 3) := by decide +kernel
theorem dX1_readFrom_57 : decode cX1_readFrom 57 = .ok (.ifCond .eq 5, 3) := by decide +kernel
theorem dX1_readFrom_60 : decode cX1_readFrom 60 = .ok (.iconst 1, 1) := by decide +kernel
theorem dX1_readFrom_61 : decode cX1_readFrom 61 = .ok (.ireturn, 1) := by decide +kernel
theorem dX1_readFrom_62 : decode cX1_readFrom 62 = .ok (.aload_n 0, 1) := by decide +kernel
theorem dX1_readFrom_63 : decode cX1_readFrom 63 = .ok (.getfield 15, 3) := by decide +kernel
theorem dX1_readFrom_66 : decode cX1_readFrom 66 = .ok (.bipush 24, 2) := by decide +kernel
theorem dX1_readFrom_68 : decode cX1_readFrom 68 = .ok (.if_icmp .ge 14, 3) := by decide +kernel
theorem dX1_readFrom_71 : decode cX1_readFrom 71 = .ok (.aload_n 1, 1) := by decide +kernel
theorem dX1_readFrom_72 : decode cX1_readFrom 72 = .ok (.bipush 44, 2) := by decide +kernel
theorem dX1_readFrom_74 : decode cX1_readFrom 74 = .ok (.invokevirtual 41, 3) := by decide +kernel
theorem dX1_readFrom_77 : decode cX1_readFrom 77 = .ok (.ifCond .ne 5, 3) := by decide +kernel
theorem dX1_readFrom_80 : decode cX1_readFrom 80 = .ok (.iconst 0, 1) := by decide +kernel
theorem dX1_readFrom_81 : decode cX1_readFrom 81 = .ok (.ireturn, 1) := by decide +kernel
theorem dX1_readFrom_82 : decode cX1_readFrom 82 = .ok (.goto (-69), 3) := by decide +kernel
theorem dX1_readFrom_85 : decode cX1_readFrom 85 = .ok (.iconst 0, 1) := by decide +kernel
theorem dX1_readFrom_86 : decode cX1_readFrom 86 = .ok (.ireturn, 1) := by decide +kernel
set_option maxRecDepth 20000 in
theorem ggX1_readChoices_X3_takeDigit : GoodIn wsX1_readChoices wsX3_takeDigit := goodIn_r _ [5, 6, 7, 8, 9, 10, 11, 14, 15, 16] (by decide +kernel) (by decide +kernel)
set_option maxRecDepth 20000 in
theorem gX1_readChoices_X3_takeDigit : GoodIn wsX1_readChoices (wsV RX1 45 RX3 yX3_takeDigit wsX3_takeDigit) := goodIn_app (goodIn_of _ (by decide +kernel)) ggX1_readChoices_X3_takeDigit
set_option maxRecDepth 20000 in
theorem ggX1_readChoices_X5_digitsAbove : GoodIn wsX1_readChoices wsX5_digitsAbove := goodIn_r _ [13] (by decide +kernel) (by decide +kernel)
set_option maxRecDepth 20000 in
theorem gX1_readChoices_X5_digitsAbove_n49 : GoodIn wsX1_readChoices (wsX5_digitsAbove) := ggX1_readChoices_X5_digitsAbove
theorem dX1_readChoices_0 : decode cX1_readChoices 0 = .ok (.iconst 0, 1) := by decide +kernel
theorem dX1_readChoices_1 : decode cX1_readChoices 1 = .ok (.istore_n 1, 1) := by decide +kernel
theorem dX1_readChoices_2 : decode cX1_readChoices 2 = .ok (.sipush 1023, 3) := by decide +kernel
theorem dX1_readChoices_5 : decode cX1_readChoices 5 = .ok (.istore_n 2, 1) := by decide +kernel
theorem dX1_readChoices_6 : decode cX1_readChoices 6 = .ok (.iconst 0, 1) := by decide +kernel
theorem dX1_readChoices_7 : decode cX1_readChoices 7 = .ok (.istore_n 3, 1) := by decide +kernel
theorem dX1_readChoices_8 : decode cX1_readChoices 8 = .ok (.iload_n 3, 1) := by decide +kernel
theorem dX1_readChoices_9 : decode cX1_readChoices 9 = .ok (.bipush 6, 2) := by decide +kernel
theorem dX1_readChoices_11 : decode cX1_readChoices 11 = .ok (.if_icmp .ge 38, 3) := by decide +kernel
theorem dX1_readChoices_14 : decode cX1_readChoices 14 = .ok (.aload_n 0, 1) := by decide +kernel
theorem dX1_readChoices_15 : decode cX1_readChoices 15 = .ok (.iload_n 2, 1) := by decide +kernel
theorem dX1_readChoices_16 : decode cX1_readChoices 16 = .ok (.invokevirtual 45, 3) := by decide +kernel
theorem dX1_readChoices_19 : decode cX1_readChoices 19 = .ok (.istore 4, 2) := by decide +kernel
theorem dX1_readChoices_21 : decode cX1_readChoices 21 = .ok (.iload 4, 2) := by decide +kernel
theorem dX1_readChoices_23 : decode cX1_readChoices 23 = .ok (.iconst (-1), 1) := by decide +kernel
theorem dX1_readChoices_24 : decode cX1_readChoices 24 = .ok (.if_icmp .ne 6, 3) := by decide +kernel
theorem dX1_readChoices_27 : decode cX1_readChoices 27 = .ok (.goto 22, 3) := by decide +kernel
theorem dX1_readChoices_30 : decode cX1_readChoices 30 = .ok (.iload_n 1, 1) := by decide +kernel
theorem dX1_readChoices_31 : decode cX1_readChoices 31 = .ok (.iconst 1, 1) := by decide +kernel
theorem dX1_readChoices_32 : decode cX1_readChoices 32 = .ok (.iload 4, 2) := by decide +kernel
theorem dX1_readChoices_34 : decode cX1_readChoices 34 = .ok (.ishl, 1) := by decide +kernel
theorem dX1_readChoices_35 : decode cX1_readChoices 35 = .ok (.ior, 1) := by decide +kernel
theorem dX1_readChoices_36 : decode cX1_readChoices 36 = .ok (.istore_n 1, 1) := by decide +kernel
theorem dX1_readChoices_37 : decode cX1_readChoices 37 = .ok (.iload 4, 2) := by decide +kernel
theorem dX1_readChoices_39 : decode cX1_readChoices 39 = .ok (.invokestatic 49, 3) := by decide +kernel
theorem dX1_readChoices_42 : decode cX1_readChoices 42 = .ok (.istore_n 2, 1) := by decide +kernel
theorem dX1_readChoices_43 : decode cX1_readChoices 43 = .ok (.iinc 3 1, 3) := by decide +kernel
theorem dX1_readChoices_46 : decode cX1_readChoices 46 = .ok (.goto (-38), 3) := by decide +kernel
theorem dX1_readChoices_49 : decode cX1_readChoices 49 = .ok (.iload_n 1, 1) := by decide +kernel
theorem dX1_readChoices_50 : decode cX1_readChoices 50 = .ok (.ireturn, 1) := by decide +kernel
set_option maxRecDepth 20000 in
theorem ggX2_init_X4_init : GoodIn wsX2_init wsX4_init := goodIn_r _ [13, 14, 2, 3, 4, 15, 16, 17, 18, 23, 24, 25] (by decide +kernel) (by decide +kernel)
set_option maxRecDepth 20000 in
theorem gX2_init_X4_init_n23 : GoodIn wsX2_init (wsX4_init) := ggX2_init_X4_init
theorem dX2_init_0 : decode cX2_init 0 = .ok (.aload_n 0, 1) := by decide +kernel
theorem dX2_init_1 : decode cX2_init 1 = .ok (.invokespecial 3, 3) := by decide +kernel
theorem dX2_init_4 : decode cX2_init 4 = .ok (.aload_n 0, 1) := by decide +kernel
theorem dX2_init_5 : decode cX2_init 5 = .ok (.bipush 16, 2) := by decide +kernel
theorem dX2_init_7 : decode cX2_init 7 = .ok (.newarray .int, 2) := by decide +kernel
theorem dX2_init_9 : decode cX2_init 9 = .ok (.putfield 9, 3) := by decide +kernel
theorem dX2_init_12 : decode cX2_init 12 = .ok (.aload_n 0, 1) := by decide +kernel
theorem dX2_init_13 : decode cX2_init 13 = .ok (.bipush 16, 2) := by decide +kernel
theorem dX2_init_15 : decode cX2_init 15 = .ok (.newarray .int, 2) := by decide +kernel
theorem dX2_init_17 : decode cX2_init 17 = .ok (.putfield 15, 3) := by decide +kernel
theorem dX2_init_20 : decode cX2_init 20 = .ok (.aload_n 0, 1) := by decide +kernel
theorem dX2_init_21 : decode cX2_init 21 = .ok (.bipush 10, 2) := by decide +kernel
theorem dX2_init_23 : decode cX2_init 23 = .ok (.newarray .int, 2) := by decide +kernel
theorem dX2_init_25 : decode cX2_init 25 = .ok (.putfield 18, 3) := by decide +kernel
theorem dX2_init_28 : decode cX2_init 28 = .ok (.aload_n 0, 1) := by decide +kernel
theorem dX2_init_29 : decode cX2_init 29 = .ok (.new 21, 3) := by decide +kernel
theorem dX2_init_32 : decode cX2_init 32 = .ok (.dup, 1) := by decide +kernel
theorem dX2_init_33 : decode cX2_init 33 = .ok (.invokespecial 23, 3) := by decide +kernel
theorem dX2_init_36 : decode cX2_init 36 = .ok (.putfield 24, 3) := by decide +kernel
theorem dX2_init_39 : decode cX2_init 39 = .ok (.return_, 1) := by decide +kernel
set_option maxRecDepth 20000 in
theorem ggX2_seatAll_X2_clear : GoodIn wsX2_seatAll wsX2_clear := goodIn_r _ [7, 8, 9, 2, 50, 51, 52, 53, 54, 55, 56, 57, 58, 46, 47, 48, 49] (by decide +kernel) (by decide +kernel)
set_option maxRecDepth 20000 in
theorem gX2_seatAll_X2_clear : GoodIn wsX2_seatAll (wsV RX2 28 RX2 yX2_clear wsX2_clear) := goodIn_app (goodIn_of _ (by decide +kernel)) ggX2_seatAll_X2_clear
set_option maxRecDepth 20000 in
theorem ggX2_seatAll_X4_findFirst : GoodIn wsX2_seatAll wsX4_findFirst := goodIn_r _ [14, 15, 16, 17, 18, 19, 20, 21, 22, 13, 23, 24, 25, 26, 27, 28, 29, 30, 59, 60, 61] (by decide +kernel) (by decide +kernel)
set_option maxRecDepth 20000 in
theorem gX2_seatAll_X4_findFirst : GoodIn wsX2_seatAll (wsV RX2 41 RX4 yX4_findFirst wsX4_findFirst) := goodIn_app (goodIn_of _ (by decide +kernel)) ggX2_seatAll_X4_findFirst
set_option maxRecDepth 20000 in
theorem ggX2_seatAll_X2_seatOne : GoodIn wsX2_seatAll wsX2_seatOne := goodIn_r _ [34, 1, 2, 18, 19, 20, 35, 36, 37, 6, 38, 8, 9, 39, 40, 41, 42, 46, 47, 48, 49, 59, 60, 61, 50, 51, 52, 53, 54, 55, 56, 57, 58] (by decide +kernel) (by decide +kernel)
set_option maxRecDepth 20000 in
theorem gX2_seatAll_X2_seatOne : GoodIn wsX2_seatAll (wsV RX2 45 RX2 yX2_seatOne wsX2_seatOne) := goodIn_app (goodIn_of _ (by decide +kernel)) ggX2_seatAll_X2_seatOne
theorem dX2_seatAll_0 : decode cX2_seatAll 0 = .ok (.aload_n 0, 1) := by decide +kernel
theorem dX2_seatAll_1 : decode cX2_seatAll 1 = .ok (.aload_n 1, 1) := by decide +kernel
theorem dX2_seatAll_2 : decode cX2_seatAll 2 = .ok (.invokevirtual 28, 3) := by decide +kernel
theorem dX2_seatAll_5 : decode cX2_seatAll 5 = .ok (.iconst 0, 1) := by decide +kernel
theorem dX2_seatAll_6 : decode cX2_seatAll 6 = .ok (.istore 4, 2) := by decide +kernel
theorem dX2_seatAll_8 : decode cX2_seatAll 8 = .ok (.iconst 0, 1) := by decide +kernel
theorem dX2_seatAll_9 : decode cX2_seatAll 9 = .ok (.istore 5, 2) := by decide +kernel
theorem dX2_seatAll_11 : decode cX2_seatAll 11 = .ok (.iload 5, 2) := by decide +kernel
theorem dX2_seatAll_13 : decode cX2_seatAll 13 = .ok (.aload_n 2, 1) := by decide +kernel
theorem dX2_seatAll_14 : decode cX2_seatAll 14 = .ok (.getfield 32, 3) := by decide +kernel
theorem dX2_seatAll_17 : decode cX2_seatAll 17 = .ok (.if_icmp .ge 72, 3) := by decide +kernel
theorem dX2_seatAll_20 : decode cX2_seatAll 20 = .ok (.iload_n 3, 1) := by decide +kernel
theorem dX2_seatAll_21 : decode cX2_seatAll 21 = .ok (.ifCond .eq 15, 3) := by decide +kernel
theorem dX2_seatAll_24 : decode cX2_seatAll 24 = .ok (.aload_n 2, 1) := by decide +kernel
theorem dX2_seatAll_25 : decode cX2_seatAll 25 = .ok (.getfield 32, 3) := by decide +kernel
theorem dX2_seatAll_28 : decode cX2_seatAll 28 = .ok (.iconst 1, 1) := by decide +kernel
theorem dX2_seatAll_29 : decode cX2_seatAll 29 = .ok (.isub, 1) := by decide +kernel
theorem dX2_seatAll_30 : decode cX2_seatAll 30 = .ok (.iload 5, 2) := by decide +kernel
theorem dX2_seatAll_32 : decode cX2_seatAll 32 = .ok (.isub, 1) := by decide +kernel
theorem dX2_seatAll_33 : decode cX2_seatAll 33 = .ok (.goto 5, 3) := by decide +kernel
theorem dX2_seatAll_36 : decode cX2_seatAll 36 = .ok (.iload 5, 2) := by decide +kernel
theorem dX2_seatAll_38 : decode cX2_seatAll 38 = .ok (.istore 6, 2) := by decide +kernel
theorem dX2_seatAll_40 : decode cX2_seatAll 40 = .ok (.aload_n 2, 1) := by decide +kernel
theorem dX2_seatAll_41 : decode cX2_seatAll 41 = .ok (.getfield 38, 3) := by decide +kernel
theorem dX2_seatAll_44 : decode cX2_seatAll 44 = .ok (.iload 6, 2) := by decide +kernel
theorem dX2_seatAll_46 : decode cX2_seatAll 46 = .ok (.iaload, 1) := by decide +kernel
theorem dX2_seatAll_47 : decode cX2_seatAll 47 = .ok (.istore 7, 2) := by decide +kernel
theorem dX2_seatAll_49 : decode cX2_seatAll 49 = .ok (.aload_n 0, 1) := by decide +kernel
theorem dX2_seatAll_50 : decode cX2_seatAll 50 = .ok (.getfield 24, 3) := by decide +kernel
theorem dX2_seatAll_53 : decode cX2_seatAll 53 = .ok (.aload_n 0, 1) := by decide +kernel
theorem dX2_seatAll_54 : decode cX2_seatAll 54 = .ok (.getfield 18, 3) := by decide +kernel
theorem dX2_seatAll_57 : decode cX2_seatAll 57 = .ok (.iload 7, 2) := by decide +kernel
theorem dX2_seatAll_59 : decode cX2_seatAll 59 = .ok (.invokevirtual 41, 3) := by decide +kernel
theorem dX2_seatAll_62 : decode cX2_seatAll 62 = .ok (.ifCond .eq 21, 3) := by decide +kernel
theorem dX2_seatAll_65 : decode cX2_seatAll 65 = .ok (.aload_n 0, 1) := by decide +kernel
theorem dX2_seatAll_66 : decode cX2_seatAll 66 = .ok (.aload_n 1, 1) := by decide +kernel
theorem dX2_seatAll_67 : decode cX2_seatAll 67 = .ok (.iload 6, 2) := by decide +kernel
theorem dX2_seatAll_69 : decode cX2_seatAll 69 = .ok (.iload 7, 2) := by decide +kernel
theorem dX2_seatAll_71 : decode cX2_seatAll 71 = .ok (.invokevirtual 45, 3) := by decide +kernel
theorem dX2_seatAll_74 : decode cX2_seatAll 74 = .ok (.iload 4, 2) := by decide +kernel
theorem dX2_seatAll_76 : decode cX2_seatAll 76 = .ok (.iconst 1, 1) := by decide +kernel
theorem dX2_seatAll_77 : decode cX2_seatAll 77 = .ok (.iload 6, 2) := by decide +kernel
theorem dX2_seatAll_79 : decode cX2_seatAll 79 = .ok (.ishl, 1) := by decide +kernel
theorem dX2_seatAll_80 : decode cX2_seatAll 80 = .ok (.ior, 1) := by decide +kernel
theorem dX2_seatAll_81 : decode cX2_seatAll 81 = .ok (.istore 4, 2) := by decide +kernel
theorem dX2_seatAll_83 : decode cX2_seatAll 83 = .ok (.iinc 5 1, 3) := by decide +kernel
theorem dX2_seatAll_86 : decode cX2_seatAll 86 = .ok (.goto (-75), 3) := by decide +kernel
theorem dX2_seatAll_89 : decode cX2_seatAll 89 = .ok (.iload 4, 2) := by decide +kernel
theorem dX2_seatAll_91 : decode cX2_seatAll 91 = .ok (.ireturn, 1) := by decide +kernel
theorem dX2_clear_0 : decode cX2_clear 0 = .ok (.iconst 0, 1) := by decide +kernel
theorem dX2_clear_1 : decode cX2_clear 1 = .ok (.istore_n 2, 1) := by decide +kernel
theorem dX2_clear_2 : decode cX2_clear 2 = .ok (.iload_n 2, 1) := by decide +kernel
theorem dX2_clear_3 : decode cX2_clear 3 = .ok (.aload_n 1, 1) := by decide +kernel
theorem dX2_clear_4 : decode cX2_clear 4 = .ok (.getfield 49, 3) := by decide +kernel
theorem dX2_clear_7 : decode cX2_clear 7 = .ok (.if_icmp .ge 28, 3) := by decide +kernel
theorem dX2_clear_10 : decode cX2_clear 10 = .ok (.aload_n 0, 1) := by decide +kernel
theorem dX2_clear_11 : decode cX2_clear 11 = .ok (.getfield 9, 3) := by decide +kernel
theorem dX2_clear_14 : decode cX2_clear 14 = .ok (.iload_n 2, 1) := by decide +kernel
theorem dX2_clear_15 : decode cX2_clear 15 = .ok (.aload_n 1, 1) := by decide +kernel
theorem dX2_clear_16 : decode cX2_clear 16 = .ok (.getfield 52, 3) := by decide +kernel
theorem dX2_clear_19 : decode cX2_clear 19 = .ok (.iload_n 2, 1) := by decide +kernel
theorem dX2_clear_20 : decode cX2_clear 20 = .ok (.iaload, 1) := by decide +kernel
theorem dX2_clear_21 : decode cX2_clear 21 = .ok (.iastore, 1) := by decide +kernel
theorem dX2_clear_22 : decode cX2_clear 22 = .ok (.aload_n 0, 1) := by decide +kernel
theorem dX2_clear_23 : decode cX2_clear 23 = .ok (.getfield 15, 3) := by decide +kernel
theorem dX2_clear_26 : decode cX2_clear 26 = .ok (.iload_n 2, 1) := by decide +kernel
theorem dX2_clear_27 : decode cX2_clear 27 = .ok (.iconst 0, 1) := by decide +kernel
theorem dX2_clear_28 : decode cX2_clear 28 = .ok (.iastore, 1) := by decide +kernel
theorem dX2_clear_29 : decode cX2_clear 29 = .ok (.iinc 2 1, 3) := by decide +kernel
theorem dX2_clear_32 : decode cX2_clear 32 = .ok (.goto (-30), 3) := by decide +kernel
theorem dX2_clear_35 : decode cX2_clear 35 = .ok (.iconst 0, 1) := by decide +kernel
theorem dX2_clear_36 : decode cX2_clear 36 = .ok (.istore_n 2, 1) := by decide +kernel
theorem dX2_clear_37 : decode cX2_clear 37 = .ok (.iload_n 2, 1) := by decide +kernel
theorem dX2_clear_38 : decode cX2_clear 38 = .ok (.bipush 10, 2) := by decide +kernel
theorem dX2_clear_40 : decode cX2_clear 40 = .ok (.if_icmp .ge 21, 3) := by decide +kernel
theorem dX2_clear_43 : decode cX2_clear 43 = .ok (.aload_n 0, 1) := by decide +kernel
theorem dX2_clear_44 : decode cX2_clear 44 = .ok (.getfield 18, 3) := by decide +kernel
theorem dX2_clear_47 : decode cX2_clear 47 = .ok (.iload_n 2, 1) := by decide +kernel
theorem dX2_clear_48 : decode cX2_clear 48 = .ok (.aload_n 1, 1) := by decide +kernel
theorem dX2_clear_49 : decode cX2_clear 49 = .ok (.getfield 55, 3) := by decide +kernel
theorem dX2_clear_52 : decode cX2_clear 52 = .ok (.iload_n 2, 1) := by decide +kernel
theorem dX2_clear_53 : decode cX2_clear 53 = .ok (.iaload, 1) := by decide +kernel
theorem dX2_clear_54 : decode cX2_clear 54 = .ok (.iastore, 1) := by decide +kernel
theorem dX2_clear_55 : decode cX2_clear 55 = .ok (.iinc 2 1, 3) := by decide +kernel
theorem dX2_clear_58 : decode cX2_clear 58 = .ok (.goto (-21), 3) := by decide +kernel
theorem dX2_clear_61 : decode cX2_clear 61 = .ok (.return_, 1) := by decide +kernel
set_option maxRecDepth 20000 in
theorem ggX2_seatOne_X5_hasBit : GoodIn wsX2_seatOne wsX5_hasBit := goodIn_r _ [5] (by decide +kernel) (by decide +kernel)
set_option maxRecDepth 20000 in
theorem gX2_seatOne_X5_hasBit_n58 : GoodIn wsX2_seatOne (wsX5_hasBit) := ggX2_seatOne_X5_hasBit
set_option maxRecDepth 20000 in
theorem ggX2_seatOne_X2_takeSeat : GoodIn wsX2_seatOne wsX2_takeSeat := goodIn_r _ [10, 11, 12, 24, 25, 26, 27, 28, 29, 30, 31, 32, 17, 18, 19, 20] (by decide +kernel) (by decide +kernel)
set_option maxRecDepth 20000 in
theorem gX2_seatOne_X2_takeSeat : GoodIn wsX2_seatOne (wsV RX2 65 RX2 yX2_takeSeat wsX2_takeSeat) := goodIn_app (goodIn_of _ (by decide +kernel)) ggX2_seatOne_X2_takeSeat
set_option maxRecDepth 20000 in
theorem ggX2_seatOne_X2_columnsLeft : GoodIn wsX2_seatOne wsX2_columnsLeft := goodIn_r _ [16, 11, 24, 25, 26, 27, 28, 29, 30, 31, 32, 17, 18, 19, 20] (by decide +kernel) (by decide +kernel)
set_option maxRecDepth 20000 in
theorem gX2_seatOne_X2_columnsLeft : GoodIn wsX2_seatOne (wsV RX2 69 RX2 yX2_columnsLeft wsX2_columnsLeft) := goodIn_app (goodIn_of _ (by decide +kernel)) ggX2_seatOne_X2_columnsLeft
