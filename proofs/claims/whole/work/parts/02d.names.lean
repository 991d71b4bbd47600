theorem dX2_seatOne_0 : decode cX2_seatOne 0 = .ok (.iconst 0, 1) := by decide +kernel
theorem dX2_seatOne_1 : decode cX2_seatOne 1 = .ok (.istore 4, 2) := by decide +kernel
theorem dX2_seatOne_3 : decode cX2_seatOne 3 = .ok (.iconst 0, 1) := by decide +kernel
theorem dX2_seatOne_4 : decode cX2_seatOne 4 = .ok (.istore 5, 2) := by decide +kernel
theorem dX2_seatOne_6 : decode cX2_seatOne 6 = .ok (.iload 5, 2) := by decide +kernel
theorem dX2_seatOne_8 : decode cX2_seatOne 8 = .ok (.bipush 10, 2) := by decide +kernel
theorem dX2_seatOne_10 : decode cX2_seatOne 10 = .ok (.if_icmp .ge 60, 3) := by decide +kernel
theorem dX2_seatOne_13 : decode cX2_seatOne 13 = .ok (.iload 4, 2) := by decide +kernel
theorem dX2_seatOne_15 : decode cX2_seatOne 15 = .ok (.bipush 6, 2) := by decide +kernel
theorem dX2_seatOne_17 : decode cX2_seatOne 17 = .ok (.if_icmp .ge 53, 3) := by decide +kernel
theorem dX2_seatOne_20 : decode cX2_seatOne 20 = .ok (.iload_n 3, 1) := by decide +kernel
theorem dX2_seatOne_21 : decode cX2_seatOne 21 = .ok (.iload 5, 2) := by decide +kernel
theorem dX2_seatOne_23 : decode cX2_seatOne 23 = .ok (.invokestatic 58, 3) := by decide +kernel
theorem dX2_seatOne_26 : decode cX2_seatOne 26 = .ok (.ifCond .eq 38, 3) := by decide +kernel
theorem dX2_seatOne_29 : decode cX2_seatOne 29 = .ok (.aload_n 0, 1) := by decide +kernel
theorem dX2_seatOne_30 : decode cX2_seatOne 30 = .ok (.aload_n 1, 1) := by decide +kernel
theorem dX2_seatOne_31 : decode cX2_seatOne 31 = .ok (.iload_n 2, 1) := by decide +kernel
theorem dX2_seatOne_32 : decode cX2_seatOne 32 = .ok (.iload 5, 2) := by decide +kernel
theorem dX2_seatOne_34 : decode cX2_seatOne 34 = .ok (.aload_n 0, 1) := by decide +kernel
theorem dX2_seatOne_35 : decode cX2_seatOne 35 = .ok (.getfield 24, 3) := by decide +kernel
theorem dX2_seatOne_38 : decode cX2_seatOne 38 = .ok (.getfield 62, 3) := by decide +kernel
theorem dX2_seatOne_41 : decode cX2_seatOne 41 = .ok (.iload 4, 2) := by decide +kernel
theorem dX2_seatOne_43 : decode cX2_seatOne 43 = .ok (.iaload, 1) := by decide +kernel
theorem dX2_seatOne_44 : decode cX2_seatOne 44 = .ok (.invokevirtual 65, 3) := by decide +kernel
theorem dX2_seatOne_47 : decode cX2_seatOne 47 = .ok (.aload_n 0, 1) := by decide +kernel
theorem dX2_seatOne_48 : decode cX2_seatOne 48 = .ok (.getfield 18, 3) := by decide +kernel
theorem dX2_seatOne_51 : decode cX2_seatOne 51 = .ok (.iload 5, 2) := by decide +kernel
theorem dX2_seatOne_53 : decode cX2_seatOne 53 = .ok (.aload_n 0, 1) := by decide +kernel
theorem dX2_seatOne_54 : decode cX2_seatOne 54 = .ok (.aload_n 1, 1) := by decide +kernel
theorem dX2_seatOne_55 : decode cX2_seatOne 55 = .ok (.iload 5, 2) := by decide +kernel
theorem dX2_seatOne_57 : decode cX2_seatOne 57 = .ok (.invokevirtual 69, 3) := by decide +kernel
theorem dX2_seatOne_60 : decode cX2_seatOne 60 = .ok (.iastore, 1) := by decide +kernel
theorem dX2_seatOne_61 : decode cX2_seatOne 61 = .ok (.iinc 4 1, 3) := by decide +kernel
theorem dX2_seatOne_64 : decode cX2_seatOne 64 = .ok (.iinc 5 1, 3) := by decide +kernel
theorem dX2_seatOne_67 : decode cX2_seatOne 67 = .ok (.goto (-61), 3) := by decide +kernel
theorem dX2_seatOne_70 : decode cX2_seatOne 70 = .ok (.return_, 1) := by decide +kernel
theorem dX2_takeSeat_0 : decode cX2_takeSeat 0 = .ok (.iconst 0, 1) := by decide +kernel
theorem dX2_takeSeat_1 : decode cX2_takeSeat 1 = .ok (.istore 5, 2) := by decide +kernel
theorem dX2_takeSeat_3 : decode cX2_takeSeat 3 = .ok (.iload 5, 2) := by decide +kernel
theorem dX2_takeSeat_5 : decode cX2_takeSeat 5 = .ok (.aload_n 1, 1) := by decide +kernel
theorem dX2_takeSeat_6 : decode cX2_takeSeat 6 = .ok (.getfield 49, 3) := by decide +kernel
theorem dX2_takeSeat_9 : decode cX2_takeSeat 9 = .ok (.if_icmp .ge 67, 3) := by decide +kernel
theorem dX2_takeSeat_12 : decode cX2_takeSeat 12 = .ok (.aload_n 1, 1) := by decide +kernel
theorem dX2_takeSeat_13 : decode cX2_takeSeat 13 = .ok (.getfield 73, 3) := by decide +kernel
theorem dX2_takeSeat_16 : decode cX2_takeSeat 16 = .ok (.iload 5, 2) := by decide +kernel
theorem dX2_takeSeat_18 : decode cX2_takeSeat 18 = .ok (.iaload, 1) := by decide +kernel
theorem dX2_takeSeat_19 : decode cX2_takeSeat 19 = .ok (.iload_n 3, 1) := by decide +kernel
theorem dX2_takeSeat_20 : decode cX2_takeSeat 20 = .ok (.if_icmp .ne 50, 3) := by decide +kernel
theorem dX2_takeSeat_23 : decode cX2_takeSeat 23 = .ok (.aload_n 1, 1) := by decide +kernel
theorem dX2_takeSeat_24 : decode cX2_takeSeat 24 = .ok (.getfield 76, 3) := by decide +kernel
theorem dX2_takeSeat_27 : decode cX2_takeSeat 27 = .ok (.iload 5, 2) := by decide +kernel
theorem dX2_takeSeat_29 : decode cX2_takeSeat 29 = .ok (.iaload, 1) := by decide +kernel
theorem dX2_takeSeat_30 : decode cX2_takeSeat 30 = .ok (.iload 4, 2) := by decide +kernel
theorem dX2_takeSeat_32 : decode cX2_takeSeat 32 = .ok (.if_icmp .ne 38, 3) := by decide +kernel
theorem dX2_takeSeat_35 : decode cX2_takeSeat 35 = .ok (.aload_n 0, 1) := by decide +kernel
theorem dX2_takeSeat_36 : decode cX2_takeSeat 36 = .ok (.getfield 9, 3) := by decide +kernel
theorem dX2_takeSeat_39 : decode cX2_takeSeat 39 = .ok (.iload 5, 2) := by decide +kernel
theorem dX2_takeSeat_41 : decode cX2_takeSeat 41 = .ok (.iaload, 1) := by decide +kernel
theorem dX2_takeSeat_42 : decode cX2_takeSeat 42 = .ok (.ifCond .le 28, 3) := by decide +kernel
theorem dX2_takeSeat_45 : decode cX2_takeSeat 45 = .ok (.aload_n 0, 1) := by decide +kernel
theorem dX2_takeSeat_46 : decode cX2_takeSeat 46 = .ok (.getfield 9, 3) := by decide +kernel
theorem dX2_takeSeat_49 : decode cX2_takeSeat 49 = .ok (.iload 5, 2) := by decide +kernel
theorem dX2_takeSeat_51 : decode cX2_takeSeat 51 = .ok (.dup2, 1) := by decide +kernel
theorem dX2_takeSeat_52 : decode cX2_takeSeat 52 = .ok (.iaload, 1) := by decide +kernel
theorem dX2_takeSeat_53 : decode cX2_takeSeat 53 = .ok (.iconst 1, 1) := by decide +kernel
theorem dX2_takeSeat_54 : decode cX2_takeSeat 54 = .ok (.isub, 1) := by decide +kernel
theorem dX2_takeSeat_55 : decode cX2_takeSeat 55 = .ok (.iastore, 1) := by decide +kernel
theorem dX2_takeSeat_56 : decode cX2_takeSeat 56 = .ok (.aload_n 0, 1) := by decide +kernel
theorem dX2_takeSeat_57 : decode cX2_takeSeat 57 = .ok (.getfield 15, 3) := by decide +kernel
theorem dX2_takeSeat_60 : decode cX2_takeSeat 60 = .ok (.iload 5, 2) := by decide +kernel
theorem dX2_takeSeat_62 : decode cX2_takeSeat 62 = .ok (.dup2, 1) := by decide +kernel
theorem dX2_takeSeat_63 : decode cX2_takeSeat 63 = .ok (.iaload, 1) := by decide +kernel
theorem dX2_takeSeat_64 : decode cX2_takeSeat 64 = .ok (.iconst 1, 1) := by decide +kernel
theorem dX2_takeSeat_65 : decode cX2_takeSeat 65 = .ok (.iload_n 2, 1) := by decide +kernel
theorem dX2_takeSeat_66 : decode cX2_takeSeat 66 = .ok (.ishl, 1) := by decide +kernel
theorem dX2_takeSeat_67 : decode cX2_takeSeat 67 = .ok (.ior, 1) := by decide +kernel
theorem dX2_takeSeat_68 : decode cX2_takeSeat 68 = .ok (.iastore, 1) := by decide +kernel
theorem dX2_takeSeat_69 : decode cX2_takeSeat 69 = .ok (.return_, 1) := by decide +kernel
theorem dX2_takeSeat_70 : decode cX2_takeSeat 70 = .ok (.iinc 5 1, 3) := by decide +kernel
theorem dX2_takeSeat_73 : decode cX2_takeSeat 73 = .ok (.goto (-70), 3) := by decide +kernel
theorem dX2_takeSeat_76 : decode cX2_takeSeat 76 = .ok (.return_, 1) := by decide +kernel
theorem dX2_columnsLeft_0 : decode cX2_columnsLeft 0 = .ok (.iconst 0, 1) := by decide +kernel
theorem dX2_columnsLeft_1 : decode cX2_columnsLeft 1 = .ok (.istore_n 3, 1) := by decide +kernel
theorem dX2_columnsLeft_2 : decode cX2_columnsLeft 2 = .ok (.iconst 0, 1) := by decide +kernel
theorem dX2_columnsLeft_3 : decode cX2_columnsLeft 3 = .ok (.istore 4, 2) := by decide +kernel
theorem dX2_columnsLeft_5 : decode cX2_columnsLeft 5 = .ok (.iload 4, 2) := by decide +kernel
theorem dX2_columnsLeft_7 : decode cX2_columnsLeft 7 = .ok (.aload_n 1, 1) := by decide +kernel
theorem dX2_columnsLeft_8 : decode cX2_columnsLeft 8 = .ok (.getfield 49, 3) := by decide +kernel
theorem dX2_columnsLeft_11 : decode cX2_columnsLeft 11 = .ok (.if_icmp .ge 53, 3) := by decide +kernel
theorem dX2_columnsLeft_14 : decode cX2_columnsLeft 14 = .ok (.aload_n 1, 1) := by decide +kernel
theorem dX2_columnsLeft_15 : decode cX2_columnsLeft 15 = .ok (.getfield 73, 3) := by decide +kernel
theorem dX2_columnsLeft_18 : decode cX2_columnsLeft 18 = .ok (.iload 4, 2) := by decide +kernel
theorem dX2_columnsLeft_20 : decode cX2_columnsLeft 20 = .ok (.iaload, 1) := by decide +kernel
theorem dX2_columnsLeft_21 : decode cX2_columnsLeft 21 = .ok (.iload_n 2, 1) := by decide +kernel
theorem dX2_columnsLeft_22 : decode cX2_columnsLeft 22 = .ok (.if_icmp .ne 36, 3) := by decide +kernel
theorem dX2_columnsLeft_25 : decode cX2_columnsLeft 25 = .ok (.aload_n 1, 1) := by decide +kernel
theorem dX2_columnsLeft_26 : decode cX2_columnsLeft 26 = .ok (.getfield 76, 3) := by decide +kernel
theorem dX2_columnsLeft_29 : decode cX2_columnsLeft 29 = .ok (.iload 4, 2) := by decide +kernel
theorem dX2_columnsLeft_31 : decode cX2_columnsLeft 31 = .ok (.iaload, 1) := by decide +kernel
theorem dX2_columnsLeft_32 : decode cX2_columnsLeft 32 = .ok (.iconst (-1), 1) := by decide +kernel
theorem dX2_columnsLeft_33 : decode cX2_columnsLeft 33 = .ok (.if_icmp .eq 25, 3) := by decide +kernel
theorem dX2_columnsLeft_36 : decode cX2_columnsLeft 36 = .ok (.aload_n 0, 1) := by decide +kernel
theorem dX2_columnsLeft_37 : decode cX2_columnsLeft 37 = .ok (.getfield 9, 3) := by decide +kernel
theorem dX2_columnsLeft_40 : decode cX2_columnsLeft 40 = .ok (.iload 4, 2) := by decide +kernel
theorem dX2_columnsLeft_42 : decode cX2_columnsLeft 42 = .ok (.iaload, 1) := by decide +kernel
theorem dX2_columnsLeft_43 : decode cX2_columnsLeft 43 = .ok (.ifCond .le 15, 3) := by decide +kernel
theorem dX2_columnsLeft_46 : decode cX2_columnsLeft 46 = .ok (.iload_n 3, 1) := by decide +kernel
theorem dX2_columnsLeft_47 : decode cX2_columnsLeft 47 = .ok (.iconst 1, 1) := by decide +kernel
theorem dX2_columnsLeft_48 : decode cX2_columnsLeft 48 = .ok (.aload_n 1, 1) := by decide +kernel
theorem dX2_columnsLeft_49 : decode cX2_columnsLeft 49 = .ok (.getfield 76, 3) := by decide +kernel
theorem dX2_columnsLeft_52 : decode cX2_columnsLeft 52 = .ok (.iload 4, 2) := by decide +kernel
theorem dX2_columnsLeft_54 : decode cX2_columnsLeft 54 = .ok (.iaload, 1) := by decide +kernel
theorem dX2_columnsLeft_55 : decode cX2_columnsLeft 55 = .ok (.ishl, 1) := by decide +kernel
theorem dX2_columnsLeft_56 : decode cX2_columnsLeft 56 = .ok (.ior, 1) := by decide +kernel
theorem dX2_columnsLeft_57 : decode cX2_columnsLeft 57 = .ok (.istore_n 3, 1) := by decide +kernel
theorem dX2_columnsLeft_58 : decode cX2_columnsLeft 58 = .ok (.iinc 4 1, 3) := by decide +kernel
theorem dX2_columnsLeft_61 : decode cX2_columnsLeft 61 = .ok (.goto (-56), 3) := by decide +kernel
theorem dX2_columnsLeft_64 : decode cX2_columnsLeft 64 = .ok (.iload_n 3, 1) := by decide +kernel
theorem dX2_columnsLeft_65 : decode cX2_columnsLeft 65 = .ok (.ireturn, 1) := by decide +kernel
set_option maxRecDepth 20000 in
theorem ggX2_firstFull_X5_hasBit : GoodIn wsX2_firstFull wsX5_hasBit := goodIn_r _ [3] (by decide +kernel) (by decide +kernel)
set_option maxRecDepth 20000 in
theorem gX2_firstFull_X5_hasBit_n58 : GoodIn wsX2_firstFull (wsX5_hasBit) := ggX2_firstFull_X5_hasBit
set_option maxRecDepth 20000 in
theorem ggX2_firstFull_X2_columnsLeft : GoodIn wsX2_firstFull wsX2_columnsLeft := goodIn_r _ [8, 9, 10, 11, 12, 13, 14, 15, 16, 17, 18, 19, 20, 21, 22] (by decide +kernel) (by decide +kernel)
set_option maxRecDepth 20000 in
theorem gX2_firstFull_X2_columnsLeft : GoodIn wsX2_firstFull (wsV RX2 69 RX2 yX2_columnsLeft wsX2_columnsLeft) := goodIn_app (goodIn_of _ (by decide +kernel)) ggX2_firstFull_X2_columnsLeft
theorem dX2_firstFull_0 : decode cX2_firstFull 0 = .ok (.iconst 0, 1) := by decide +kernel
theorem dX2_firstFull_1 : decode cX2_firstFull 1 = .ok (.istore_n 3, 1) := by decide +kernel
theorem dX2_firstFull_2 : decode cX2_firstFull 2 = .ok (.iload_n 3, 1) := by decide +kernel
theorem dX2_firstFull_3 : decode cX2_firstFull 3 = .ok (.bipush 10, 2) := by decide +kernel
theorem dX2_firstFull_5 : decode cX2_firstFull 5 = .ok (.if_icmp .ge 28, 3) := by decide +kernel
theorem dX2_firstFull_8 : decode cX2_firstFull 8 = .ok (.iload_n 2, 1) := by decide +kernel
theorem dX2_firstFull_9 : decode cX2_firstFull 9 = .ok (.iload_n 3, 1) := by decide +kernel
theorem dX2_firstFull_10 : decode cX2_firstFull 10 = .ok (.invokestatic 58, 3) := by decide +kernel
theorem dX2_firstFull_13 : decode cX2_firstFull 13 = .ok (.ifCond .eq 14, 3) := by decide +kernel
theorem dX2_firstFull_16 : decode cX2_firstFull 16 = .ok (.aload_n 0, 1) := by decide +kernel
theorem dX2_firstFull_17 : decode cX2_firstFull 17 = .ok (.aload_n 1, 1) := by decide +kernel
theorem dX2_firstFull_18 : decode cX2_firstFull 18 = .ok (.iload_n 3, 1) := by decide +kernel
theorem dX2_firstFull_19 : decode cX2_firstFull 19 = .ok (.invokevirtual 69, 3) := by decide +kernel
theorem dX2_firstFull_22 : decode cX2_firstFull 22 = .ok (.ifCond .ne 5, 3) := by decide +kernel
theorem dX2_firstFull_25 : decode cX2_firstFull 25 = .ok (.iload_n 3, 1) := by decide +kernel
theorem dX2_firstFull_26 : decode cX2_firstFull 26 = .ok (.ireturn, 1) := by decide +kernel
theorem dX2_firstFull_27 : decode cX2_firstFull 27 = .ok (.iinc 3 1, 3) := by decide +kernel
theorem dX2_firstFull_30 : decode cX2_firstFull 30 = .ok (.goto (-28), 3) := by decide +kernel
theorem dX2_firstFull_33 : decode cX2_firstFull 33 = .ok (.iconst (-1), 1) := by decide +kernel
theorem dX2_firstFull_34 : decode cX2_firstFull 34 = .ok (.ireturn, 1) := by decide +kernel
theorem dX3_init_0 : decode cX3_init 0 = .ok (.aload_n 0, 1) := by decide +kernel
theorem dX3_init_1 : decode cX3_init 1 = .ok (.invokespecial 3, 3) := by decide +kernel
theorem dX3_init_4 : decode cX3_init 4 = .ok (.aload_n 0, 1) := by decide +kernel
theorem dX3_init_5 : decode cX3_init 5 = .ok (.sipush 240, 3) := by decide +kernel
theorem dX3_init_8 : decode cX3_init 8 = .ok (.newarray .char, 2) := by decide +kernel
theorem dX3_init_10 : decode cX3_init 10 = .ok (.putfield 9, 3) := by decide +kernel
theorem dX3_init_13 : decode cX3_init 13 = .ok (.aload_n 0, 1) := by decide +kernel
theorem dX3_init_14 : decode cX3_init 14 = .ok (.iconst 0, 1) := by decide +kernel
theorem dX3_init_15 : decode cX3_init 15 = .ok (.putfield 15, 3) := by decide +kernel
theorem dX3_init_18 : decode cX3_init 18 = .ok (.aload_n 0, 1) := by decide +kernel
theorem dX3_init_19 : decode cX3_init 19 = .ok (.iconst 0, 1) := by decide +kernel
theorem dX3_init_20 : decode cX3_init 20 = .ok (.putfield 19, 3) := by decide +kernel
theorem dX3_init_23 : decode cX3_init 23 = .ok (.return_, 1) := by decide +kernel
theorem dX3_append_0 : decode cX3_append 0 = .ok (.aload_n 0, 1) := by decide +kernel
theorem dX3_append_1 : decode cX3_append 1 = .ok (.getfield 15, 3) := by decide +kernel
theorem dX3_append_4 : decode cX3_append 4 = .ok (.sipush 236, 3) := by decide +kernel
theorem dX3_append_7 : decode cX3_append 7 = .ok (.if_icmp .le 5, 3) := by decide +kernel
theorem dX3_append_10 : decode cX3_append 10 = .ok (.iconst 0, 1) := by decide +kernel
theorem dX3_append_11 : decode cX3_append 11 = .ok (.ireturn, 1) := by decide +kernel
theorem dX3_append_12 : decode cX3_append 12 = .ok (.bipush 24, 2) := by decide +kernel
theorem dX3_append_14 : decode cX3_append 14 = .ok (.istore_n 2, 1) := by decide +kernel
theorem dX3_append_15 : decode cX3_append 15 = .ok (.iload_n 2, 1) := by decide +kernel
theorem dX3_append_16 : decode cX3_append 16 = .ok (.ifCond .lt 36, 3) := by decide +kernel
theorem dX3_append_19 : decode cX3_append 19 = .ok (.aload_n 0, 1) := by decide +kernel
theorem dX3_append_20 : decode cX3_append 20 = .ok (.getfield 9, 3) := by decide +kernel
theorem dX3_append_23 : decode cX3_append 23 = .ok (.aload_n 0, 1) := by decide +kernel
theorem dX3_append_24 : decode cX3_append 24 = .ok (.getfield 15, 3) := by decide +kernel
theorem dX3_append_27 : decode cX3_append 27 = .ok (.iload_n 1, 1) := by decide +kernel
theorem dX3_append_28 : decode cX3_append 28 = .ok (.iload_n 2, 1) := by decide +kernel
theorem dX3_append_29 : decode cX3_append 29 = .ok (.iushr, 1) := by decide +kernel
theorem dX3_append_30 : decode cX3_append 30 = .ok (.sipush 255, 3) := by decide +kernel
theorem dX3_append_33 : decode cX3_append 33 = .ok (.iand, 1) := by decide +kernel
theorem dX3_append_34 : decode cX3_append 34 = .ok (.i2c, 1) := by decide +kernel
theorem dX3_append_35 : decode cX3_append 35 = .ok (.castore, 1) := by decide +kernel
theorem dX3_append_36 : decode cX3_append 36 = .ok (.aload_n 0, 1) := by decide +kernel
theorem dX3_append_37 : decode cX3_append 37 = .ok (.dup, 1) := by decide +kernel
theorem dX3_append_38 : decode cX3_append 38 = .ok (.getfield 15, 3) := by decide +kernel
theorem dX3_append_41 : decode cX3_append 41 = .ok (.iconst 1, 1) := by decide +kernel
theorem dX3_append_42 : decode cX3_append 42 = .ok (.iadd, 1) := by decide +kernel
theorem dX3_append_43 : decode cX3_append 43 = .ok (.putfield 15, 3) := by decide +kernel
theorem dX3_append_46 : decode cX3_append 46 = .ok (.iinc 2 (-8), 3) := by decide +kernel
theorem dX3_append_49 : decode cX3_append 49 = .ok (.goto (-34), 3) := by decide +kernel
theorem dX3_append_52 : decode cX3_append 52 = .ok (.iconst 1, 1) := by decide +kernel
theorem dX3_append_53 : decode cX3_append 53 = .ok (.ireturn, 1) := by decide +kernel
theorem dX3_cutTo_0 : decode cX3_cutTo 0 = .ok (.iload_n 1, 1) := by decide +kernel
theorem dX3_cutTo_1 : decode cX3_cutTo 1 = .ok (.ifCond .lt 11, 3) := by decide +kernel
theorem dX3_cutTo_4 : decode cX3_cutTo 4 = .ok (.iload_n 1, 1) := by decide +kernel
theorem dX3_cutTo_5 : decode cX3_cutTo 5 = .ok (.aload_n 0, 1) := by decide +kernel
theorem dX3_cutTo_6 : decode cX3_cutTo 6 = .ok (.getfield 15, 3) := by decide +kernel
theorem dX3_cutTo_9 : decode cX3_cutTo 9 = .ok (.if_icmp .le 5, 3) := by decide +kernel
theorem dX3_cutTo_12 : decode cX3_cutTo 12 = .ok (.iconst 0, 1) := by decide +kernel
theorem dX3_cutTo_13 : decode cX3_cutTo 13 = .ok (.ireturn, 1) := by decide +kernel
theorem dX3_cutTo_14 : decode cX3_cutTo 14 = .ok (.aload_n 0, 1) := by decide +kernel
theorem dX3_cutTo_15 : decode cX3_cutTo 15 = .ok (.iload_n 1, 1) := by decide +kernel
theorem dX3_cutTo_16 : decode cX3_cutTo 16 = .ok (.putfield 15, 3) := by decide +kernel
theorem dX3_cutTo_19 : decode cX3_cutTo 19 = .ok (.iconst 1, 1) := by decide +kernel
theorem dX3_cutTo_20 : decode cX3_cutTo 20 = .ok (.ireturn, 1) := by decide +kernel
theorem dX3_empty_0 : decode cX3_empty 0 = .ok (.aload_n 0, 1) := by decide +kernel
theorem dX3_empty_1 : decode cX3_empty 1 = .ok (.iconst 0, 1) := by decide +kernel
theorem dX3_empty_2 : decode cX3_empty 2 = .ok (.putfield 15, 3) := by decide +kernel
theorem dX3_empty_5 : decode cX3_empty 5 = .ok (.return_, 1) := by decide +kernel
theorem dX3_rewind_0 : decode cX3_rewind 0 = .ok (.aload_n 0, 1) := by decide +kernel
theorem dX3_rewind_1 : decode cX3_rewind 1 = .ok (.iconst 0, 1) := by decide +kernel
theorem dX3_rewind_2 : decode cX3_rewind 2 = .ok (.putfield 19, 3) := by decide +kernel
theorem dX3_rewind_5 : decode cX3_rewind 5 = .ok (.return_, 1) := by decide +kernel
theorem dX3_isRead_0 : decode cX3_isRead 0 = .ok (.aload_n 0, 1) := by decide +kernel
theorem dX3_isRead_1 : decode cX3_isRead 1 = .ok (.getfield 19, 3) := by decide +kernel
theorem dX3_isRead_4 : decode cX3_isRead 4 = .ok (.aload_n 0, 1) := by decide +kernel
theorem dX3_isRead_5 : decode cX3_isRead 5 = .ok (.getfield 15, 3) := by decide +kernel
theorem dX3_isRead_8 : decode cX3_isRead 8 = .ok (.if_icmp .lt 7, 3) := by decide +kernel
theorem dX3_isRead_11 : decode cX3_isRead 11 = .ok (.iconst 1, 1) := by decide +kernel
theorem dX3_isRead_12 : decode cX3_isRead 12 = .ok (.goto 4, 3) := by decide +kernel
theorem dX3_isRead_15 : decode cX3_isRead 15 = .ok (.iconst 0, 1) := by decide +kernel
theorem dX3_isRead_16 : decode cX3_isRead 16 = .ok (.ireturn, 1) := by decide +kernel
theorem dX3_takeSign_0 : decode cX3_takeSign 0 = .ok (.aload_n 0, 1) := by decide +kernel
theorem dX3_takeSign_1 : decode cX3_takeSign 1 = .ok (.getfield 19, 3) := by decide +kernel
theorem dX3_takeSign_4 : decode cX3_takeSign 4 = .ok (.aload_n 0, 1) := by decide +kernel
theorem dX3_takeSign_5 : decode cX3_takeSign 5 = .ok (.getfield 15, 3) := by decide +kernel
theorem dX3_takeSign_8 : decode cX3_takeSign 8 = .ok (.if_icmp .ge 16, 3) := by decide +kernel
theorem dX3_takeSign_11 : decode cX3_takeSign 11 = .ok (.aload_n 0, 1) := by decide +kernel
theorem dX3_takeSign_12 : decode cX3_takeSign 12 = .ok (.getfield 9, 3) := by decide +kernel
theorem dX3_takeSign_15 : decode cX3_takeSign 15 = .ok (.aload_n 0, 1) := by decide +kernel
theorem dX3_takeSign_16 : decode cX3_takeSign 16 = .ok (.getfield 19, 3) := by decide +kernel
theorem dX3_takeSign_19 : decode cX3_takeSign 19 = .ok (.caload, 1) := by decide +kernel
theorem dX3_takeSign_20 : decode cX3_takeSign 20 = .ok (.iload_n 1, 1) := by decide +kernel
theorem dX3_takeSign_21 : decode cX3_takeSign 21 = .ok (.if_icmp .eq 5, 3) := by decide +kernel
theorem dX3_takeSign_24 : decode cX3_takeSign 24 = .ok (.iconst 0, 1) := by decide +kernel
theorem dX3_takeSign_25 : decode cX3_takeSign 25 = .ok (.ireturn, 1) := by decide +kernel
theorem dX3_takeSign_26 : decode cX3_takeSign 26 = .ok (.aload_n 0, 1) := by decide +kernel
theorem dX3_takeSign_27 : decode cX3_takeSign 27 = .ok (.dup, 1) := by decide +kernel
theorem dX3_takeSign_28 : decode cX3_takeSign 28 = .ok (.getfield 19, 3) := by decide +kernel
theorem dX3_takeSign_31 : decode cX3_takeSign 31 = .ok (.iconst 1, 1) := by decide +kernel
theorem dX3_takeSign_32 : decode cX3_takeSign 32 = .ok (.iadd, 1) := by decide +kernel
theorem dX3_takeSign_33 : decode cX3_takeSign 33 = .ok (.putfield 19, 3) := by decide +kernel
theorem dX3_takeSign_36 : decode cX3_takeSign 36 = .ok (.iconst 1, 1) := by decide +kernel
theorem dX3_takeSign_37 : decode cX3_takeSign 37 = .ok (.ireturn, 1) := by decide +kernel
set_option maxRecDepth 20000 in
theorem ggX3_takeDigit_X5_hasBit : GoodIn wsX3_takeDigit wsX5_hasBit := goodIn_r _ [6] (by decide +kernel) (by decide +kernel)
set_option maxRecDepth 20000 in
theorem gX3_takeDigit_X5_hasBit_n22 : GoodIn wsX3_takeDigit (wsX5_hasBit) := ggX3_takeDigit_X5_hasBit
theorem dX3_takeDigit_0 : decode cX3_takeDigit 0 = .ok (.aload_n 0, 1) := by decide +kernel
theorem dX3_takeDigit_1 : decode cX3_takeDigit 1 = .ok (.getfield 19, 3) := by decide +kernel
theorem dX3_takeDigit_4 : decode cX3_takeDigit 4 = .ok (.aload_n 0, 1) := by decide +kernel
theorem dX3_takeDigit_5 : decode cX3_takeDigit 5 = .ok (.getfield 15, 3) := by decide +kernel
theorem dX3_takeDigit_8 : decode cX3_takeDigit 8 = .ok (.if_icmp .ge 18, 3) := by decide +kernel
theorem dX3_takeDigit_11 : decode cX3_takeDigit 11 = .ok (.aload_n 0, 1) := by decide +kernel
theorem dX3_takeDigit_12 : decode cX3_takeDigit 12 = .ok (.getfield 9, 3) := by decide +kernel
theorem dX3_takeDigit_15 : decode cX3_takeDigit 15 = .ok (.aload_n 0, 1) := by decide +kernel
theorem dX3_takeDigit_16 : decode cX3_takeDigit 16 = .ok (.getfield 19, 3) := by decide +kernel
theorem dX3_takeDigit_19 : decode cX3_takeDigit 19 = .ok (.caload, 1) := by decide +kernel
theorem dX3_takeDigit_20 : decode cX3_takeDigit 20 = .ok (.bipush 48, 2) := by decide +kernel
theorem dX3_takeDigit_22 : decode cX3_takeDigit 22 = .ok (.isub, 1) := by decide +kernel
theorem dX3_takeDigit_23 : decode cX3_takeDigit 23 = .ok (.goto 4, 3) := by decide +kernel
theorem dX3_takeDigit_26 : decode cX3_takeDigit 26 = .ok (.iconst (-1), 1) := by decide +kernel
theorem dX3_takeDigit_27 : decode cX3_takeDigit 27 = .ok (.istore_n 2, 1) := by decide +kernel
theorem dX3_takeDigit_28 : decode cX3_takeDigit 28 = .ok (.iload_n 2, 1) := by decide +kernel
theorem dX3_takeDigit_29 : decode cX3_takeDigit 29 = .ok (.ifCond .lt 17, 3) := by decide +kernel
theorem dX3_takeDigit_32 : decode cX3_takeDigit 32 = .ok (.iload_n 2, 1) := by decide +kernel
theorem dX3_takeDigit_33 : decode cX3_takeDigit 33 = .ok (.bipush 9, 2) := by decide +kernel
theorem dX3_takeDigit_35 : decode cX3_takeDigit 35 = .ok (.if_icmp .gt 11, 3) := by decide +kernel
theorem dX3_takeDigit_38 : decode cX3_takeDigit 38 = .ok (.iload_n 1, 1) := by decide +kernel
theorem dX3_takeDigit_39 : decode cX3_takeDigit 39 = .ok (.iload_n 2, 1) := by decide +kernel
theorem dX3_takeDigit_40 : decode cX3_takeDigit 40 = .ok (.invokestatic 22, 3) := by decide +kernel
theorem dX3_takeDigit_43 : decode cX3_takeDigit 43 = .ok (.ifCond .ne 5, 3) := by decide +kernel
theorem dX3_takeDigit_46 : decode cX3_takeDigit 46 = .ok (.iconst (-1), 1) := by decide +kernel
theorem dX3_takeDigit_47 : decode cX3_takeDigit 47 = .ok (.ireturn, 1) := by decide +kernel
theorem dX3_takeDigit_48 : decode cX3_takeDigit 48 = .ok (.aload_n 0, 1) := by decide +kernel
theorem dX3_takeDigit_49 : decode cX3_takeDigit 49 = .ok (.dup, 1) := by decide +kernel
theorem dX3_takeDigit_50 : decode cX3_takeDigit 50 = .ok (.getfield 19, 3) := by decide +kernel
theorem dX3_takeDigit_53 : decode cX3_takeDigit 53 = .ok (.iconst 1, 1) := by decide +kernel
theorem dX3_takeDigit_54 : decode cX3_takeDigit 54 = .ok (.iadd, 1) := by decide +kernel
theorem dX3_takeDigit_55 : decode cX3_takeDigit 55 = .ok (.putfield 19, 3) := by decide +kernel
theorem dX3_takeDigit_58 : decode cX3_takeDigit 58 = .ok (.iload_n 2, 1) := by decide +kernel
theorem dX3_takeDigit_59 : decode cX3_takeDigit 59 = .ok (.ireturn, 1) := by decide +kernel
theorem dX4_init_0 : decode cX4_init 0 = .ok (.aload_n 0, 1) := by decide +kernel
theorem dX4_init_1 : decode cX4_init 1 = .ok (.invokespecial 3, 3) := by decide +kernel
theorem dX4_init_4 : decode cX4_init 4 = .ok (.aload_n 0, 1) := by decide +kernel
theorem dX4_init_5 : decode cX4_init 5 = .ok (.bipush 6, 2) := by decide +kernel
theorem dX4_init_7 : decode cX4_init 7 = .ok (.newarray .int, 2) := by decide +kernel
theorem dX4_init_9 : decode cX4_init 9 = .ok (.putfield 9, 3) := by decide +kernel
theorem dX4_init_12 : decode cX4_init 12 = .ok (.aload_n 0, 1) := by decide +kernel
theorem dX4_init_13 : decode cX4_init 13 = .ok (.bipush 11, 2) := by decide +kernel
theorem dX4_init_15 : decode cX4_init 15 = .ok (.newarray .long, 2) := by decide +kernel
theorem dX4_init_17 : decode cX4_init 17 = .ok (.putfield 15, 3) := by decide +kernel
theorem dX4_init_20 : decode cX4_init 20 = .ok (.aload_n 0, 1) := by decide +kernel
theorem dX4_init_21 : decode cX4_init 21 = .ok (.bipush 64, 2) := by decide +kernel
theorem dX4_init_23 : decode cX4_init 23 = .ok (.newarray .int, 2) := by decide +kernel
theorem dX4_init_25 : decode cX4_init 25 = .ok (.putfield 19, 3) := by decide +kernel
theorem dX4_init_28 : decode cX4_init 28 = .ok (.return_, 1) := by decide +kernel
theorem dX4_isStart_0 : decode cX4_isStart 0 = .ok (.lload_n 0, 1) := by decide +kernel
theorem dX4_isStart_1 : decode cX4_isStart 1 = .ok (.iload_n 2, 1) := by decide +kernel
theorem dX4_isStart_2 : decode cX4_isStart 2 = .ok (.lushr, 1) := by decide +kernel
theorem dX4_isStart_3 : decode cX4_isStart 3 = .ok (.lconst 1, 1) := by decide +kernel
theorem dX4_isStart_4 : decode cX4_isStart 4 = .ok (.land, 1) := by decide +kernel
theorem dX4_isStart_5 : decode cX4_isStart 5 = .ok (.lconst 0, 1) := by decide +kernel
theorem dX4_isStart_6 : decode cX4_isStart 6 = .ok (.lcmp, 1) := by decide +kernel
theorem dX4_isStart_7 : decode cX4_isStart 7 = .ok (.ifCond .eq 7, 3) := by decide +kernel
theorem dX4_isStart_10 : decode cX4_isStart 10 = .ok (.iconst 1, 1) := by decide +kernel
theorem dX4_isStart_11 : decode cX4_isStart 11 = .ok (.goto 4, 3) := by decide +kernel
theorem dX4_isStart_14 : decode cX4_isStart 14 = .ok (.iconst 0, 1) := by decide +kernel
theorem dX4_isStart_15 : decode cX4_isStart 15 = .ok (.ireturn, 1) := by decide +kernel
set_option maxRecDepth 20000 in
theorem ggX4_startsFor_X5_hasBit : GoodIn wsX4_startsFor wsX5_hasBit := goodIn_r _ [4] (by decide +kernel) (by decide +kernel)
set_option maxRecDepth 20000 in
theorem gX4_startsFor_X5_hasBit_n24 : GoodIn wsX4_startsFor (wsX5_hasBit) := ggX4_startsFor_X5_hasBit
set_option maxRecDepth 20000 in
theorem ggX4_startsFor_X4_startsBefore : GoodIn wsX4_startsFor wsX4_startsBefore := goodIn_r _ [8, 9, 2, 3, 4] (by decide +kernel) (by decide +kernel)
set_option maxRecDepth 20000 in
theorem gX4_startsFor_X4_startsBefore : GoodIn wsX4_startsFor (va_wsS RX4 28 yX4_startsBefore wsX4_startsBefore) := goodIn_app (goodIn_of _ (by decide +kernel)) ggX4_startsFor_X4_startsBefore
theorem dX4_startsFor_0 : decode cX4_startsFor 0 = .ok (.ldc2_w 22, 3) := by decide +kernel
theorem dX4_startsFor_3 : decode cX4_startsFor 3 = .ok (.lstore_n 2, 1) := by decide +kernel
theorem dX4_startsFor_4 : decode cX4_startsFor 4 = .ok (.iconst 0, 1) := by decide +kernel
theorem dX4_startsFor_5 : decode cX4_startsFor 5 = .ok (.istore 4, 2) := by decide +kernel
theorem dX4_startsFor_7 : decode cX4_startsFor 7 = .ok (.iload 4, 2) := by decide +kernel
theorem dX4_startsFor_9 : decode cX4_startsFor 9 = .ok (.bipush 10, 2) := by decide +kernel
theorem dX4_startsFor_11 : decode cX4_startsFor 11 = .ok (.if_icmp .ge 33, 3) := by decide +kernel
theorem dX4_startsFor_14 : decode cX4_startsFor 14 = .ok (.lload_n 2, 1) := by decide +kernel
theorem dX4_startsFor_15 : decode cX4_startsFor 15 = .ok (.lconst 0, 1) := by decide +kernel
theorem dX4_startsFor_16 : decode cX4_startsFor 16 = .ok (.lcmp, 1) := by decide +kernel
theorem dX4_startsFor_17 : decode cX4_startsFor 17 = .ok (.ifCond .eq 27, 3) := by decide +kernel
theorem dX4_startsFor_20 : decode cX4_startsFor 20 = .ok (.iload_n 1, 1) := by decide +kernel
theorem dX4_startsFor_21 : decode cX4_startsFor 21 = .ok (.iload 4, 2) := by decide +kernel
theorem dX4_startsFor_23 : decode cX4_startsFor 23 = .ok (.invokestatic 24, 3) := by decide +kernel
theorem dX4_startsFor_26 : decode cX4_startsFor 26 = .ok (.ifCond .eq 12, 3) := by decide +kernel
theorem dX4_startsFor_29 : decode cX4_startsFor 29 = .ok (.lload_n 2, 1) := by decide +kernel
theorem dX4_startsFor_30 : decode cX4_startsFor 30 = .ok (.aload_n 0, 1) := by decide +kernel
theorem dX4_startsFor_31 : decode cX4_startsFor 31 = .ok (.iload 4, 2) := by decide +kernel
theorem dX4_startsFor_33 : decode cX4_startsFor 33 = .ok (.iaload, 1) := by decide +kernel
theorem dX4_startsFor_34 : decode cX4_startsFor 34 = .ok (.invokestatic 28, 3) := by decide +kernel
theorem dX4_startsFor_37 : decode cX4_startsFor 37 = .ok (.lstore_n 2, 1) := by decide +kernel
theorem dX4_startsFor_38 : decode cX4_startsFor 38 = .ok (.iinc 4 1, 3) := by decide +kernel
theorem dX4_startsFor_41 : decode cX4_startsFor 41 = .ok (.goto (-34), 3) := by decide +kernel
theorem dX4_startsFor_44 : decode cX4_startsFor 44 = .ok (.lload_n 2, 1) := by decide +kernel
theorem dX4_startsFor_45 : decode cX4_startsFor 45 = .ok (.lreturn, 1) := by decide +kernel
set_option maxRecDepth 20000 in
theorem ggX4_startsBefore_X5_hasBit : GoodIn wsX4_startsBefore wsX5_hasBit := goodIn_r _ [4] (by decide +kernel) (by decide +kernel)
set_option maxRecDepth 20000 in
theorem gX4_startsBefore_X5_hasBit_n24 : GoodIn wsX4_startsBefore (wsX5_hasBit) := ggX4_startsBefore_X5_hasBit
theorem dX4_startsBefore_0 : decode cX4_startsBefore 0 = .ok (.lconst 0, 1) := by decide +kernel
theorem dX4_startsBefore_1 : decode cX4_startsBefore 1 = .ok (.lstore_n 3, 1) := by decide +kernel
theorem dX4_startsBefore_2 : decode cX4_startsBefore 2 = .ok (.iconst 0, 1) := by decide +kernel
theorem dX4_startsBefore_3 : decode cX4_startsBefore 3 = .ok (.istore 5, 2) := by decide +kernel
theorem dX4_startsBefore_5 : decode cX4_startsBefore 5 = .ok (.iload 5, 2) := by decide +kernel
theorem dX4_startsBefore_7 : decode cX4_startsBefore 7 = .ok (.bipush 6, 2) := by decide +kernel
theorem dX4_startsBefore_9 : decode cX4_startsBefore 9 = .ok (.if_icmp .ge 34, 3) := by decide +kernel
theorem dX4_startsBefore_12 : decode cX4_startsBefore 12 = .ok (.iload_n 2, 1) := by decide +kernel
theorem dX4_startsBefore_13 : decode cX4_startsBefore 13 = .ok (.iload 5, 2) := by decide +kernel
theorem dX4_startsBefore_15 : decode cX4_startsBefore 15 = .ok (.invokestatic 24, 3) := by decide +kernel
theorem dX4_startsBefore_18 : decode cX4_startsBefore 18 = .ok (.ifCond .eq 19, 3) := by decide +kernel
theorem dX4_startsBefore_21 : decode cX4_startsBefore 21 = .ok (.lload_n 3, 1) := by decide +kernel
theorem dX4_startsBefore_22 : decode cX4_startsBefore 22 = .ok (.lload_n 0, 1) := by decide +kernel
theorem dX4_startsBefore_23 : decode cX4_startsBefore 23 = .ok (.iconst 1, 1) := by decide +kernel
theorem dX4_startsBefore_24 : decode cX4_startsBefore 24 = .ok (.iload 5, 2) := by decide +kernel
theorem dX4_startsBefore_26 : decode cX4_startsBefore 26 = .ok (.ishl, 1) := by decide +kernel
theorem dX4_startsBefore_27 : decode cX4_startsBefore 27 = .ok (.lushr, 1) := by decide +kernel
theorem dX4_startsBefore_28 : decode cX4_startsBefore 28 = .ok (.getstatic 32, 3) := by decide +kernel
theorem dX4_startsBefore_31 : decode cX4_startsBefore 31 = .ok (.iload 5, 2) := by decide +kernel
theorem dX4_startsBefore_33 : decode cX4_startsBefore 33 = .ok (.laload, 1) := by decide +kernel
theorem dX4_startsBefore_34 : decode cX4_startsBefore 34 = .ok (.land, 1) := by decide +kernel
theorem dX4_startsBefore_35 : decode cX4_startsBefore 35 = .ok (.lor, 1) := by decide +kernel
theorem dX4_startsBefore_36 : decode cX4_startsBefore 36 = .ok (.lstore_n 3, 1) := by decide +kernel
theorem dX4_startsBefore_37 : decode cX4_startsBefore 37 = .ok (.iinc 5 1, 3) := by decide +kernel
theorem dX4_startsBefore_40 : decode cX4_startsBefore 40 = .ok (.goto (-35), 3) := by decide +kernel
theorem dX4_startsBefore_43 : decode cX4_startsBefore 43 = .ok (.lload_n 3, 1) := by decide +kernel
theorem dX4_startsBefore_44 : decode cX4_startsBefore 44 = .ok (.lreturn, 1) := by decide +kernel
set_option maxRecDepth 20000 in
theorem ggX4_findFirst_X5_hasBit : GoodIn wsX4_findFirst wsX5_hasBit := goodIn_r _ [6] (by decide +kernel) (by decide +kernel)
set_option maxRecDepth 20000 in
theorem gX4_findFirst_X5_hasBit_n24 : GoodIn wsX4_findFirst (wsX5_hasBit) := ggX4_findFirst_X5_hasBit
set_option maxRecDepth 20000 in
theorem ggX4_findFirst_X4_startsBefore : GoodIn wsX4_findFirst wsX4_startsBefore := goodIn_r _ [10, 11, 4, 5, 6] (by decide +kernel) (by decide +kernel)
set_option maxRecDepth 20000 in
theorem gX4_findFirst_X4_startsBefore : GoodIn wsX4_findFirst (va_wsS RX4 28 yX4_startsBefore wsX4_startsBefore) := goodIn_app (goodIn_of _ (by decide +kernel)) ggX4_findFirst_X4_startsBefore
set_option maxRecDepth 20000 in
theorem ggX4_findFirst_X4_isStart : GoodIn wsX4_findFirst wsX4_isStart := goodIn_r _ [14] (by decide +kernel) (by decide +kernel)
set_option maxRecDepth 20000 in
theorem gX4_findFirst_X4_isStart : GoodIn wsX4_findFirst (va_wsS RX4 35 yX4_isStart wsX4_isStart) := goodIn_app (goodIn_of _ (by decide +kernel)) ggX4_findFirst_X4_isStart
set_option maxRecDepth 20000 in
theorem ggX4_findFirst_X4_firstColumn : GoodIn wsX4_findFirst wsX4_firstColumn := goodIn_r _ [17, 4, 5, 6, 12, 13, 9, 14] (by decide +kernel) (by decide +kernel)
set_option maxRecDepth 20000 in
theorem gX4_findFirst_X4_firstColumn : GoodIn wsX4_findFirst (va_wsS RX4 39 yX4_firstColumn wsX4_firstColumn) := goodIn_app (goodIn_of _ (by decide +kernel)) ggX4_findFirst_X4_firstColumn
theorem dX4_findFirst_0 : decode cX4_findFirst 0 = .ok (.aload_n 0, 1) := by decide +kernel
theorem dX4_findFirst_1 : decode cX4_findFirst 1 = .ok (.getfield 15, 3) := by decide +kernel
theorem dX4_findFirst_4 : decode cX4_findFirst 4 = .ok (.bipush 10, 2) := by decide +kernel
theorem dX4_findFirst_6 : decode cX4_findFirst 6 = .ok (.ldc2_w 22, 3) := by decide +kernel
theorem dX4_findFirst_9 : decode cX4_findFirst 9 = .ok (.lastore, 1) := by decide +kernel
theorem dX4_findFirst_10 : decode cX4_findFirst 10 = .ok (.bipush 9, 2) := by decide +kernel
theorem dX4_findFirst_12 : decode cX4_findFirst 12 = .ok (.istore_n 3, 1) := by decide +kernel
theorem dX4_findFirst_13 : decode cX4_findFirst 13 = .ok (.iload_n 3, 1) := by decide +kernel
theorem dX4_findFirst_14 : decode cX4_findFirst 14 = .ok (.ifCond .lt 46, 3) := by decide +kernel
theorem dX4_findFirst_17 : decode cX4_findFirst 17 = .ok (.aload_n 0, 1) := by decide +kernel
theorem dX4_findFirst_18 : decode cX4_findFirst 18 = .ok (.getfield 15, 3) := by decide +kernel
theorem dX4_findFirst_21 : decode cX4_findFirst 21 = .ok (.iload_n 3, 1) := by decide +kernel
theorem dX4_findFirst_22 : decode cX4_findFirst 22 = .ok (.iconst 1, 1) := by decide +kernel
theorem dX4_findFirst_23 : decode cX4_findFirst 23 = .ok (.iadd, 1) := by decide +kernel
theorem dX4_findFirst_24 : decode cX4_findFirst 24 = .ok (.laload, 1) := by decide +kernel
theorem dX4_findFirst_25 : decode cX4_findFirst 25 = .ok (.lstore 4, 2) := by decide +kernel
theorem dX4_findFirst_27 : decode cX4_findFirst 27 = .ok (.aload_n 0, 1) := by decide +kernel
theorem dX4_findFirst_28 : decode cX4_findFirst 28 = .ok (.getfield 15, 3) := by decide +kernel
theorem dX4_findFirst_31 : decode cX4_findFirst 31 = .ok (.iload_n 3, 1) := by decide +kernel
theorem dX4_findFirst_32 : decode cX4_findFirst 32 = .ok (.iload_n 2, 1) := by decide +kernel
theorem dX4_findFirst_33 : decode cX4_findFirst 33 = .ok (.iload_n 3, 1) := by decide +kernel
theorem dX4_findFirst_34 : decode cX4_findFirst 34 = .ok (.invokestatic 24, 3) := by decide +kernel
theorem dX4_findFirst_37 : decode cX4_findFirst 37 = .ok (.ifCond .eq 14, 3) := by decide +kernel
theorem dX4_findFirst_40 : decode cX4_findFirst 40 = .ok (.lload 4, 2) := by decide +kernel
theorem dX4_findFirst_42 : decode cX4_findFirst 42 = .ok (.aload_n 1, 1) := by decide +kernel
theorem dX4_findFirst_43 : decode cX4_findFirst 43 = .ok (.iload_n 3, 1) := by decide +kernel
theorem dX4_findFirst_44 : decode cX4_findFirst 44 = .ok (.iaload, 1) := by decide +kernel
theorem dX4_findFirst_45 : decode cX4_findFirst 45 = .ok (.invokestatic 28, 3) := by decide +kernel
theorem dX4_findFirst_48 : decode cX4_findFirst 48 = .ok (.goto 5, 3) := by decide +kernel
theorem dX4_findFirst_51 : decode cX4_findFirst 51 = .ok (.lload 4, 2) := by decide +kernel
theorem dX4_findFirst_53 : decode cX4_findFirst 53 = .ok (.lastore, 1) := by decide +kernel
theorem dX4_findFirst_54 : decode cX4_findFirst 54 = .ok (.iinc 3 (-1), 3) := by decide +kernel
theorem dX4_findFirst_57 : decode cX4_findFirst 57 = .ok (.goto (-44), 3) := by decide +kernel
theorem dX4_findFirst_60 : decode cX4_findFirst 60 = .ok (.aload_n 0, 1) := by decide +kernel
theorem dX4_findFirst_61 : decode cX4_findFirst 61 = .ok (.getfield 15, 3) := by decide +kernel
theorem dX4_findFirst_64 : decode cX4_findFirst 64 = .ok (.iconst 0, 1) := by decide +kernel
theorem dX4_findFirst_65 : decode cX4_findFirst 65 = .ok (.laload, 1) := by decide +kernel
theorem dX4_findFirst_66 : decode cX4_findFirst 66 = .ok (.iconst 0, 1) := by decide +kernel
theorem dX4_findFirst_67 : decode cX4_findFirst 67 = .ok (.invokestatic 35, 3) := by decide +kernel
theorem dX4_findFirst_70 : decode cX4_findFirst 70 = .ok (.ifCond .ne 5, 3) := by decide +kernel
theorem dX4_findFirst_73 : decode cX4_findFirst 73 = .ok (.iconst 0, 1) := by decide +kernel
theorem dX4_findFirst_74 : decode cX4_findFirst 74 = .ok (.ireturn, 1) := by decide +kernel
theorem dX4_findFirst_75 : decode cX4_findFirst 75 = .ok (.iconst 0, 1) := by decide +kernel
theorem dX4_findFirst_76 : decode cX4_findFirst 76 = .ok (.istore_n 3, 1) := by decide +kernel
theorem dX4_findFirst_77 : decode cX4_findFirst 77 = .ok (.iconst 0, 1) := by decide +kernel
theorem dX4_findFirst_78 : decode cX4_findFirst 78 = .ok (.istore 4, 2) := by decide +kernel
theorem dX4_findFirst_80 : decode cX4_findFirst 80 = .ok (.iconst 0, 1) := by decide +kernel
theorem dX4_findFirst_81 : decode cX4_findFirst 81 = .ok (.istore 5, 2) := by decide +kernel
theorem dX4_findFirst_83 : decode cX4_findFirst 83 = .ok (.iload 5, 2) := by decide +kernel
theorem dX4_findFirst_85 : decode cX4_findFirst 85 = .ok (.bipush 10, 2) := by decide +kernel
theorem dX4_findFirst_87 : decode cX4_findFirst 87 = .ok (.if_icmp .ge 67, 3) := by decide +kernel
theorem dX4_findFirst_90 : decode cX4_findFirst 90 = .ok (.iload 4, 2) := by decide +kernel
theorem dX4_findFirst_92 : decode cX4_findFirst 92 = .ok (.bipush 6, 2) := by decide +kernel
theorem dX4_findFirst_94 : decode cX4_findFirst 94 = .ok (.if_icmp .ge 60, 3) := by decide +kernel
theorem dX4_findFirst_97 : decode cX4_findFirst 97 = .ok (.iload_n 2, 1) := by decide +kernel
theorem dX4_findFirst_98 : decode cX4_findFirst 98 = .ok (.iload 5, 2) := by decide +kernel
theorem dX4_findFirst_100 : decode cX4_findFirst 100 = .ok (.invokestatic 24, 3) := by decide +kernel
theorem dX4_findFirst_103 : decode cX4_findFirst 103 = .ok (.ifCond .eq 45, 3) := by decide +kernel
theorem dX4_findFirst_106 : decode cX4_findFirst 106 = .ok (.aload_n 1, 1) := by decide +kernel
theorem dX4_findFirst_107 : decode cX4_findFirst 107 = .ok (.iload 5, 2) := by decide +kernel
theorem dX4_findFirst_109 : decode cX4_findFirst 109 = .ok (.iaload, 1) := by decide +kernel
theorem dX4_findFirst_110 : decode cX4_findFirst 110 = .ok (.iload_n 3, 1) := by decide +kernel
theorem dX4_findFirst_111 : decode cX4_findFirst 111 = .ok (.iconst (-1), 1) := by decide +kernel
theorem dX4_findFirst_112 : decode cX4_findFirst 112 = .ok (.ixor, 1) := by decide +kernel
theorem dX4_findFirst_113 : decode cX4_findFirst 113 = .ok (.iand, 1) := by decide +kernel
theorem dX4_findFirst_114 : decode cX4_findFirst 114 = .ok (.iload_n 3, 1) := by decide +kernel
theorem dX4_findFirst_115 : decode cX4_findFirst 115 = .ok (.aload_n 0, 1) := by decide +kernel
theorem dX4_findFirst_116 : decode cX4_findFirst 116 = .ok (.getfield 15, 3) := by decide +kernel
theorem dX4_findFirst_119 : decode cX4_findFirst 119 = .ok (.iload 5, 2) := by decide +kernel
theorem dX4_findFirst_121 : decode cX4_findFirst 121 = .ok (.iconst 1, 1) := by decide +kernel
theorem dX4_findFirst_122 : decode cX4_findFirst 122 = .ok (.iadd, 1) := by decide +kernel
theorem dX4_findFirst_123 : decode cX4_findFirst 123 = .ok (.laload, 1) := by decide +kernel
theorem dX4_findFirst_124 : decode cX4_findFirst 124 = .ok (.invokestatic 39, 3) := by decide +kernel
theorem dX4_findFirst_127 : decode cX4_findFirst 127 = .ok (.istore 6, 2) := by decide +kernel
theorem dX4_findFirst_129 : decode cX4_findFirst 129 = .ok (.aload_n 0, 1) := by decide +kernel
theorem dX4_findFirst_130 : decode cX4_findFirst 130 = .ok (.getfield 9, 3) := by decide +kernel
theorem dX4_findFirst_133 : decode cX4_findFirst 133 = .ok (.iload 4, 2) := by decide +kernel
theorem dX4_findFirst_135 : decode cX4_findFirst 135 = .ok (.iload 6, 2) := by decide +kernel
theorem dX4_findFirst_137 : decode cX4_findFirst 137 = .ok (.iastore, 1) := by decide +kernel
theorem dX4_findFirst_138 : decode cX4_findFirst 138 = .ok (.iload_n 3, 1) := by decide +kernel
theorem dX4_findFirst_139 : decode cX4_findFirst 139 = .ok (.iconst 1, 1) := by decide +kernel
theorem dX4_findFirst_140 : decode cX4_findFirst 140 = .ok (.iload 6, 2) := by decide +kernel
theorem dX4_findFirst_142 : decode cX4_findFirst 142 = .ok (.ishl, 1) := by decide +kernel
theorem dX4_findFirst_143 : decode cX4_findFirst 143 = .ok (.ior, 1) := by decide +kernel
theorem dX4_findFirst_144 : decode cX4_findFirst 144 = .ok (.istore_n 3, 1) := by decide +kernel
theorem dX4_findFirst_145 : decode cX4_findFirst 145 = .ok (.iinc 4 1, 3) := by decide +kernel
theorem dX4_findFirst_148 : decode cX4_findFirst 148 = .ok (.iinc 5 1, 3) := by decide +kernel
theorem dX4_findFirst_151 : decode cX4_findFirst 151 = .ok (.goto (-68), 3) := by decide +kernel
theorem dX4_findFirst_154 : decode cX4_findFirst 154 = .ok (.iconst 1, 1) := by decide +kernel
theorem dX4_findFirst_155 : decode cX4_findFirst 155 = .ok (.ireturn, 1) := by decide +kernel
set_option maxRecDepth 20000 in
theorem ggX4_firstColumn_X5_hasBit : GoodIn wsX4_firstColumn wsX5_hasBit := goodIn_r _ [3] (by decide +kernel) (by decide +kernel)
set_option maxRecDepth 20000 in
theorem gX4_firstColumn_X5_hasBit_n24 : GoodIn wsX4_firstColumn (wsX5_hasBit) := ggX4_firstColumn_X5_hasBit
set_option maxRecDepth 20000 in
theorem ggX4_firstColumn_X4_isStart : GoodIn wsX4_firstColumn wsX4_isStart := goodIn_r _ [7] (by decide +kernel) (by decide +kernel)
set_option maxRecDepth 20000 in
theorem gX4_firstColumn_X4_isStart : GoodIn wsX4_firstColumn (va_wsS RX4 35 yX4_isStart wsX4_isStart) := goodIn_app (goodIn_of _ (by decide +kernel)) ggX4_firstColumn_X4_isStart
theorem dX4_firstColumn_0 : decode cX4_firstColumn 0 = .ok (.iconst 0, 1) := by decide +kernel
theorem dX4_firstColumn_1 : decode cX4_firstColumn 1 = .ok (.istore 4, 2) := by decide +kernel
theorem dX4_firstColumn_3 : decode cX4_firstColumn 3 = .ok (.iload 4, 2) := by decide +kernel
theorem dX4_firstColumn_5 : decode cX4_firstColumn 5 = .ok (.bipush 6, 2) := by decide +kernel
theorem dX4_firstColumn_7 : decode cX4_firstColumn 7 = .ok (.if_icmp .ge 34, 3) := by decide +kernel
theorem dX4_firstColumn_10 : decode cX4_firstColumn 10 = .ok (.iload_n 0, 1) := by decide +kernel
theorem dX4_firstColumn_11 : decode cX4_firstColumn 11 = .ok (.iload 4, 2) := by decide +kernel
theorem dX4_firstColumn_13 : decode cX4_firstColumn 13 = .ok (.invokestatic 24, 3) := by decide +kernel
theorem dX4_firstColumn_16 : decode cX4_firstColumn 16 = .ok (.ifCond .eq 19, 3) := by decide +kernel
theorem dX4_firstColumn_19 : decode cX4_firstColumn 19 = .ok (.lload_n 2, 1) := by decide +kernel
theorem dX4_firstColumn_20 : decode cX4_firstColumn 20 = .ok (.iload_n 1, 1) := by decide +kernel
theorem dX4_firstColumn_21 : decode cX4_firstColumn 21 = .ok (.iconst 1, 1) := by decide +kernel
theorem dX4_firstColumn_22 : decode cX4_firstColumn 22 = .ok (.iload 4, 2) := by decide +kernel
theorem dX4_firstColumn_24 : decode cX4_firstColumn 24 = .ok (.ishl, 1) := by decide +kernel
theorem dX4_firstColumn_25 : decode cX4_firstColumn 25 = .ok (.ior, 1) := by decide +kernel
theorem dX4_firstColumn_26 : decode cX4_firstColumn 26 = .ok (.invokestatic 35, 3) := by decide +kernel
theorem dX4_firstColumn_29 : decode cX4_firstColumn 29 = .ok (.ifCond .eq 6, 3) := by decide +kernel
theorem dX4_firstColumn_32 : decode cX4_firstColumn 32 = .ok (.iload 4, 2) := by decide +kernel
theorem dX4_firstColumn_34 : decode cX4_firstColumn 34 = .ok (.ireturn, 1) := by decide +kernel
theorem dX4_firstColumn_35 : decode cX4_firstColumn 35 = .ok (.iinc 4 1, 3) := by decide +kernel
theorem dX4_firstColumn_38 : decode cX4_firstColumn 38 = .ok (.goto (-35), 3) := by decide +kernel
theorem dX4_firstColumn_41 : decode cX4_firstColumn 41 = .ok (.iconst 0, 1) := by decide +kernel
theorem dX4_firstColumn_42 : decode cX4_firstColumn 42 = .ok (.ireturn, 1) := by decide +kernel
set_option maxRecDepth 20000 in
theorem ggX4_numberOf_X5_hasBit : GoodIn wsX4_numberOf wsX5_hasBit := goodIn_r _ [4] (by decide +kernel) (by decide +kernel)
set_option maxRecDepth 20000 in
theorem gX4_numberOf_X5_hasBit_n24 : GoodIn wsX4_numberOf (wsX5_hasBit) := ggX4_numberOf_X5_hasBit
set_option maxRecDepth 20000 in
theorem ggX4_numberOf_X4_placeOneMore : GoodIn wsX4_numberOf wsX4_placeOneMore := goodIn_r _ [9, 1, 10, 11, 12, 13, 14, 15, 16, 2, 3, 4, 17, 18, 19] (by decide +kernel) (by decide +kernel)
set_option maxRecDepth 20000 in
theorem gX4_numberOf_X4_placeOneMore : GoodIn wsX4_numberOf (wsV RX4 43 RX4 yX4_placeOneMore wsX4_placeOneMore) := goodIn_app (goodIn_of _ (by decide +kernel)) ggX4_numberOf_X4_placeOneMore
set_option maxRecDepth 20000 in
theorem ggX4_numberOf_J6_bitCount_0f7a4 : GoodIn wsX4_numberOf wsJ6_bitCount_0f7a4 := goodIn_r _ [13, 14, 15, 16] (by decide +kernel) (by decide +kernel)
set_option maxRecDepth 20000 in
theorem gX4_numberOf_J6_bitCount_0f7a4 : GoodIn wsX4_numberOf (va_wsS RX4 47 yJ6_bitCount_0f7a4 wsJ6_bitCount_0f7a4) := goodIn_app (goodIn_of _ (by decide +kernel)) ggX4_numberOf_J6_bitCount_0f7a4
theorem dX4_numberOf_0 : decode cX4_numberOf 0 = .ok (.iconst 0, 1) := by decide +kernel
theorem dX4_numberOf_1 : decode cX4_numberOf 1 = .ok (.istore_n 3, 1) := by decide +kernel
theorem dX4_numberOf_2 : decode cX4_numberOf 2 = .ok (.iload_n 3, 1) := by decide +kernel
theorem dX4_numberOf_3 : decode cX4_numberOf 3 = .ok (.bipush 63, 2) := by decide +kernel
theorem dX4_numberOf_5 : decode cX4_numberOf 5 = .ok (.if_icmp .gt 16, 3) := by decide +kernel
theorem dX4_numberOf_8 : decode cX4_numberOf 8 = .ok (.aload_n 0, 1) := by decide +kernel
theorem dX4_numberOf_9 : decode cX4_numberOf 9 = .ok (.getfield 19, 3) := by decide +kernel
theorem dX4_numberOf_12 : decode cX4_numberOf 12 = .ok (.iload_n 3, 1) := by decide +kernel
theorem dX4_numberOf_13 : decode cX4_numberOf 13 = .ok (.iconst 0, 1) := by decide +kernel
theorem dX4_numberOf_14 : decode cX4_numberOf 14 = .ok (.iastore, 1) := by decide +kernel
theorem dX4_numberOf_15 : decode cX4_numberOf 15 = .ok (.iinc 3 1, 3) := by decide +kernel
theorem dX4_numberOf_18 : decode cX4_numberOf 18 = .ok (.goto (-16), 3) := by decide +kernel
theorem dX4_numberOf_21 : decode cX4_numberOf 21 = .ok (.aload_n 0, 1) := by decide +kernel
theorem dX4_numberOf_22 : decode cX4_numberOf 22 = .ok (.getfield 19, 3) := by decide +kernel
theorem dX4_numberOf_25 : decode cX4_numberOf 25 = .ok (.iconst 0, 1) := by decide +kernel
theorem dX4_numberOf_26 : decode cX4_numberOf 26 = .ok (.iconst 1, 1) := by decide +kernel
theorem dX4_numberOf_27 : decode cX4_numberOf 27 = .ok (.iastore, 1) := by decide +kernel
theorem dX4_numberOf_28 : decode cX4_numberOf 28 = .ok (.iconst 0, 1) := by decide +kernel
theorem dX4_numberOf_29 : decode cX4_numberOf 29 = .ok (.istore_n 3, 1) := by decide +kernel
theorem dX4_numberOf_30 : decode cX4_numberOf 30 = .ok (.iconst 0, 1) := by decide +kernel
theorem dX4_numberOf_31 : decode cX4_numberOf 31 = .ok (.istore 4, 2) := by decide +kernel
theorem dX4_numberOf_33 : decode cX4_numberOf 33 = .ok (.iload 4, 2) := by decide +kernel
theorem dX4_numberOf_35 : decode cX4_numberOf 35 = .ok (.bipush 10, 2) := by decide +kernel
theorem dX4_numberOf_37 : decode cX4_numberOf 37 = .ok (.if_icmp .ge 30, 3) := by decide +kernel
theorem dX4_numberOf_40 : decode cX4_numberOf 40 = .ok (.iload_n 2, 1) := by decide +kernel
theorem dX4_numberOf_41 : decode cX4_numberOf 41 = .ok (.iload 4, 2) := by decide +kernel
theorem dX4_numberOf_43 : decode cX4_numberOf 43 = .ok (.invokestatic 24, 3) := by decide +kernel
theorem dX4_numberOf_46 : decode cX4_numberOf 46 = .ok (.ifCond .eq 15, 3) := by decide +kernel
theorem dX4_numberOf_49 : decode cX4_numberOf 49 = .ok (.aload_n 0, 1) := by decide +kernel
theorem dX4_numberOf_50 : decode cX4_numberOf 50 = .ok (.iload_n 3, 1) := by decide +kernel
theorem dX4_numberOf_51 : decode cX4_numberOf 51 = .ok (.aload_n 1, 1) := by decide +kernel
theorem dX4_numberOf_52 : decode cX4_numberOf 52 = .ok (.iload 4, 2) := by decide +kernel
theorem dX4_numberOf_54 : decode cX4_numberOf 54 = .ok (.iaload, 1) := by decide +kernel
theorem dX4_numberOf_55 : decode cX4_numberOf 55 = .ok (.invokevirtual 43, 3) := by decide +kernel
theorem dX4_numberOf_58 : decode cX4_numberOf 58 = .ok (.iinc 3 1, 3) := by decide +kernel
theorem dX4_numberOf_61 : decode cX4_numberOf 61 = .ok (.iinc 4 1, 3) := by decide +kernel
theorem dX4_numberOf_64 : decode cX4_numberOf 64 = .ok (.goto (-31), 3) := by decide +kernel
theorem dX4_numberOf_67 : decode cX4_numberOf 67 = .ok (.iconst 0, 1) := by decide +kernel
theorem dX4_numberOf_68 : decode cX4_numberOf 68 = .ok (.istore 4, 2) := by decide +kernel
theorem dX4_numberOf_70 : decode cX4_numberOf 70 = .ok (.iconst 0, 1) := by decide +kernel
theorem dX4_numberOf_71 : decode cX4_numberOf 71 = .ok (.istore 5, 2) := by decide +kernel
theorem dX4_numberOf_73 : decode cX4_numberOf 73 = .ok (.iload 5, 2) := by decide +kernel
theorem dX4_numberOf_75 : decode cX4_numberOf 75 = .ok (.bipush 63, 2) := by decide +kernel
theorem dX4_numberOf_77 : decode cX4_numberOf 77 = .ok (.if_icmp .gt 34, 3) := by decide +kernel
theorem dX4_numberOf_80 : decode cX4_numberOf 80 = .ok (.iload 4, 2) := by decide +kernel
theorem dX4_numberOf_82 : decode cX4_numberOf 82 = .ok (.iload 5, 2) := by decide +kernel
theorem dX4_numberOf_84 : decode cX4_numberOf 84 = .ok (.invokestatic 47, 3) := by decide +kernel
theorem dX4_numberOf_87 : decode cX4_numberOf 87 = .ok (.iload_n 3, 1) := by decide +kernel
theorem dX4_numberOf_88 : decode cX4_numberOf 88 = .ok (.if_icmp .ne 13, 3) := by decide +kernel
theorem dX4_numberOf_91 : decode cX4_numberOf 91 = .ok (.aload_n 0, 1) := by decide +kernel
theorem dX4_numberOf_92 : decode cX4_numberOf 92 = .ok (.getfield 19, 3) := by decide +kernel
theorem dX4_numberOf_95 : decode cX4_numberOf 95 = .ok (.iload 5, 2) := by decide +kernel
theorem dX4_numberOf_97 : decode cX4_numberOf 97 = .ok (.iaload, 1) := by decide +kernel
theorem dX4_numberOf_98 : decode cX4_numberOf 98 = .ok (.goto 4, 3) := by decide +kernel
theorem dX4_numberOf_101 : decode cX4_numberOf 101 = .ok (.iconst 0, 1) := by decide +kernel
theorem dX4_numberOf_102 : decode cX4_numberOf 102 = .ok (.iadd, 1) := by decide +kernel
theorem dX4_numberOf_103 : decode cX4_numberOf 103 = .ok (.istore 4, 2) := by decide +kernel
theorem dX4_numberOf_105 : decode cX4_numberOf 105 = .ok (.iinc 5 1, 3) := by decide +kernel
theorem dX4_numberOf_108 : decode cX4_numberOf 108 = .ok (.goto (-35), 3) := by decide +kernel
theorem dX4_numberOf_111 : decode cX4_numberOf 111 = .ok (.iload 4, 2) := by decide +kernel
theorem dX4_numberOf_113 : decode cX4_numberOf 113 = .ok (.ireturn, 1) := by decide +kernel
set_option maxRecDepth 20000 in
theorem ggX4_placeOneMore_J6_bitCount_0f7a4 : GoodIn wsX4_placeOneMore wsJ6_bitCount_0f7a4 := goodIn_r _ [5, 6, 7, 8] (by decide +kernel) (by decide +kernel)
set_option maxRecDepth 20000 in
theorem gX4_placeOneMore_J6_bitCount_0f7a4 : GoodIn wsX4_placeOneMore (va_wsS RX4 47 yJ6_bitCount_0f7a4 wsJ6_bitCount_0f7a4) := goodIn_app (goodIn_of _ (by decide +kernel)) ggX4_placeOneMore_J6_bitCount_0f7a4
set_option maxRecDepth 20000 in
theorem ggX4_placeOneMore_X5_hasBit : GoodIn wsX4_placeOneMore wsX5_hasBit := goodIn_r _ [11] (by decide +kernel) (by decide +kernel)
set_option maxRecDepth 20000 in
theorem gX4_placeOneMore_X5_hasBit_n24 : GoodIn wsX4_placeOneMore (wsX5_hasBit) := ggX4_placeOneMore_X5_hasBit
theorem dX4_placeOneMore_0 : decode cX4_placeOneMore 0 = .ok (.iconst 0, 1) := by decide +kernel
theorem dX4_placeOneMore_1 : decode cX4_placeOneMore 1 = .ok (.istore_n 3, 1) := by decide +kernel
theorem dX4_placeOneMore_2 : decode cX4_placeOneMore 2 = .ok (.iload_n 3, 1) := by decide +kernel
theorem dX4_placeOneMore_3 : decode cX4_placeOneMore 3 = .ok (.bipush 63, 2) := by decide +kernel
theorem dX4_placeOneMore_5 : decode cX4_placeOneMore 5 = .ok (.if_icmp .gt 75, 3) := by decide +kernel
theorem dX4_placeOneMore_8 : decode cX4_placeOneMore 8 = .ok (.iload_n 3, 1) := by decide +kernel
theorem dX4_placeOneMore_9 : decode cX4_placeOneMore 9 = .ok (.invokestatic 47, 3) := by decide +kernel
theorem dX4_placeOneMore_12 : decode cX4_placeOneMore 12 = .ok (.iload_n 1, 1) := by decide +kernel
theorem dX4_placeOneMore_13 : decode cX4_placeOneMore 13 = .ok (.if_icmp .ne 61, 3) := by decide +kernel
theorem dX4_placeOneMore_16 : decode cX4_placeOneMore 16 = .ok (.aload_n 0, 1) := by decide +kernel
theorem dX4_placeOneMore_17 : decode cX4_placeOneMore 17 = .ok (.getfield 19, 3) := by decide +kernel
theorem dX4_placeOneMore_20 : decode cX4_placeOneMore 20 = .ok (.iload_n 3, 1) := by decide +kernel
theorem dX4_placeOneMore_21 : decode cX4_placeOneMore 21 = .ok (.iaload, 1) := by decide +kernel
theorem dX4_placeOneMore_22 : decode cX4_placeOneMore 22 = .ok (.ifCond .eq 52, 3) := by decide +kernel
theorem dX4_placeOneMore_25 : decode cX4_placeOneMore 25 = .ok (.iconst 0, 1) := by decide +kernel
theorem dX4_placeOneMore_26 : decode cX4_placeOneMore 26 = .ok (.istore 4, 2) := by decide +kernel
theorem dX4_placeOneMore_28 : decode cX4_placeOneMore 28 = .ok (.iload 4, 2) := by decide +kernel
theorem dX4_placeOneMore_30 : decode cX4_placeOneMore 30 = .ok (.bipush 6, 2) := by decide +kernel
theorem dX4_placeOneMore_32 : decode cX4_placeOneMore 32 = .ok (.if_icmp .ge 42, 3) := by decide +kernel
theorem dX4_placeOneMore_35 : decode cX4_placeOneMore 35 = .ok (.iload_n 2, 1) := by decide +kernel
theorem dX4_placeOneMore_36 : decode cX4_placeOneMore 36 = .ok (.iload_n 3, 1) := by decide +kernel
theorem dX4_placeOneMore_37 : decode cX4_placeOneMore 37 = .ok (.iconst (-1), 1) := by decide +kernel
theorem dX4_placeOneMore_38 : decode cX4_placeOneMore 38 = .ok (.ixor, 1) := by decide +kernel
theorem dX4_placeOneMore_39 : decode cX4_placeOneMore 39 = .ok (.iand, 1) := by decide +kernel
theorem dX4_placeOneMore_40 : decode cX4_placeOneMore 40 = .ok (.iload 4, 2) := by decide +kernel
theorem dX4_placeOneMore_42 : decode cX4_placeOneMore 42 = .ok (.invokestatic 24, 3) := by decide +kernel
theorem dX4_placeOneMore_45 : decode cX4_placeOneMore 45 = .ok (.ifCond .eq 23, 3) := by decide +kernel
theorem dX4_placeOneMore_48 : decode cX4_placeOneMore 48 = .ok (.aload_n 0, 1) := by decide +kernel
theorem dX4_placeOneMore_49 : decode cX4_placeOneMore 49 = .ok (.getfield 19, 3) := by decide +kernel
theorem dX4_placeOneMore_52 : decode cX4_placeOneMore 52 = .ok (.iload_n 3, 1) := by decide +kernel
theorem dX4_placeOneMore_53 : decode cX4_placeOneMore 53 = .ok (.iconst 1, 1) := by decide +kernel
theorem dX4_placeOneMore_54 : decode cX4_placeOneMore 54 = .ok (.iload 4, 2) := by decide +kernel
theorem dX4_placeOneMore_56 : decode cX4_placeOneMore 56 = .ok (.ishl, 1) := by decide +kernel
theorem dX4_placeOneMore_57 : decode cX4_placeOneMore 57 = .ok (.ior, 1) := by decide +kernel
theorem dX4_placeOneMore_58 : decode cX4_placeOneMore 58 = .ok (.dup2, 1) := by decide +kernel
theorem dX4_placeOneMore_59 : decode cX4_placeOneMore 59 = .ok (.iaload, 1) := by decide +kernel
theorem dX4_placeOneMore_60 : decode cX4_placeOneMore 60 = .ok (.aload_n 0, 1) := by decide +kernel
theorem dX4_placeOneMore_61 : decode cX4_placeOneMore 61 = .ok (.getfield 19, 3) := by decide +kernel
theorem dX4_placeOneMore_64 : decode cX4_placeOneMore 64 = .ok (.iload_n 3, 1) := by decide +kernel
theorem dX4_placeOneMore_65 : decode cX4_placeOneMore 65 = .ok (.iaload, 1) := by decide +kernel
theorem dX4_placeOneMore_66 : decode cX4_placeOneMore 66 = .ok (.iadd, 1) := by decide +kernel
theorem dX4_placeOneMore_67 : decode cX4_placeOneMore 67 = .ok (.iastore, 1) := by decide +kernel
theorem dX4_placeOneMore_68 : decode cX4_placeOneMore 68 = .ok (.iinc 4 1, 3) := by decide +kernel
theorem dX4_placeOneMore_71 : decode cX4_placeOneMore 71 = .ok (.goto (-43), 3) := by decide +kernel
theorem dX4_placeOneMore_74 : decode cX4_placeOneMore 74 = .ok (.iinc 3 1, 3) := by decide +kernel
theorem dX4_placeOneMore_77 : decode cX4_placeOneMore 77 = .ok (.goto (-75), 3) := by decide +kernel
theorem dX4_placeOneMore_80 : decode cX4_placeOneMore 80 = .ok (.return_, 1) := by decide +kernel
set_option maxRecDepth 20000 in
theorem ggX5_init_X3_init : GoodIn wsX5_init wsX3_init := goodIn_r _ [32, 33, 2, 3, 34, 35, 36, 37, 70, 71, 72] (by decide +kernel) (by decide +kernel)
set_option maxRecDepth 20000 in
theorem gX5_init_X3_init_n9 : GoodIn wsX5_init (wsX3_init) := ggX5_init_X3_init
set_option maxRecDepth 20000 in
theorem ggX5_init_X0_init : GoodIn wsX5_init wsX0_init := goodIn_r _ [39, 40, 2, 3, 41, 42, 43, 26, 44, 45, 46, 47, 48, 49, 83, 84, 85, 86, 87, 88, 89, 90, 91] (by decide +kernel) (by decide +kernel)
set_option maxRecDepth 20000 in
theorem gX5_init_X0_init_n18 : GoodIn wsX5_init (wsX0_init) := ggX5_init_X0_init
set_option maxRecDepth 20000 in
theorem ggX5_init_X1_init : GoodIn wsX5_init wsX1_init := goodIn_r _ [51, 52, 2, 3, 26, 53, 54, 55, 92, 93, 94] (by decide +kernel) (by decide +kernel)
set_option maxRecDepth 20000 in
theorem gX5_init_X1_init_n28 : GoodIn wsX5_init (wsX1_init) := ggX5_init_X1_init
set_option maxRecDepth 20000 in
theorem ggX5_init_X4_init : GoodIn wsX5_init wsX4_init := goodIn_r _ [57, 58, 2, 3, 26, 59, 28, 60, 61, 95, 96, 97] (by decide +kernel) (by decide +kernel)
set_option maxRecDepth 20000 in
theorem gX5_init_X4_init_n38 : GoodIn wsX5_init (wsX4_init) := ggX5_init_X4_init
set_option maxRecDepth 20000 in
theorem ggX5_init_X2_init : GoodIn wsX5_init wsX2_init := goodIn_r _ [63, 64, 2, 3, 26, 65, 66, 67, 68, 19, 20, 69, 56, 57, 58, 59, 28, 60, 61, 98, 99, 100, 101, 95, 96, 97] (by decide +kernel) (by decide +kernel)
set_option maxRecDepth 20000 in
theorem gX5_init_X2_init_n45 : GoodIn wsX5_init (wsX2_init) := ggX5_init_X2_init
theorem dX5_init_0 : decode cX5_init 0 = .ok (.aload_n 0, 1) := by decide +kernel
theorem dX5_init_1 : decode cX5_init 1 = .ok (.invokespecial 1, 3) := by decide +kernel
theorem dX5_init_4 : decode cX5_init 4 = .ok (.aload_n 0, 1) := by decide +kernel
theorem dX5_init_5 : decode cX5_init 5 = .ok (.new 7, 3) := by decide +kernel
theorem dX5_init_8 : decode cX5_init 8 = .ok (.dup, 1) := by decide +kernel
theorem dX5_init_9 : decode cX5_init 9 = .ok (.invokespecial 9, 3) := by decide +kernel
theorem dX5_init_12 : decode cX5_init 12 = .ok (.putfield 10, 3) := by decide +kernel
theorem dX5_init_15 : decode cX5_init 15 = .ok (.aload_n 0, 1) := by decide +kernel
theorem dX5_init_16 : decode cX5_init 16 = .ok (.new 16, 3) := by decide +kernel
theorem dX5_init_19 : decode cX5_init 19 = .ok (.dup, 1) := by decide +kernel
theorem dX5_init_20 : decode cX5_init 20 = .ok (.invokespecial 18, 3) := by decide +kernel
theorem dX5_init_23 : decode cX5_init 23 = .ok (.putfield 19, 3) := by decide +kernel
theorem dX5_init_26 : decode cX5_init 26 = .ok (.aload_n 0, 1) := by decide +kernel
theorem dX5_init_27 : decode cX5_init 27 = .ok (.new 16, 3) := by decide +kernel
theorem dX5_init_30 : decode cX5_init 30 = .ok (.dup, 1) := by decide +kernel
theorem dX5_init_31 : decode cX5_init 31 = .ok (.invokespecial 18, 3) := by decide +kernel
theorem dX5_init_34 : decode cX5_init 34 = .ok (.putfield 23, 3) := by decide +kernel
theorem dX5_init_37 : decode cX5_init 37 = .ok (.aload_n 0, 1) := by decide +kernel
theorem dX5_init_38 : decode cX5_init 38 = .ok (.new 26, 3) := by decide +kernel
theorem dX5_init_41 : decode cX5_init 41 = .ok (.dup, 1) := by decide +kernel
theorem dX5_init_42 : decode cX5_init 42 = .ok (.invokespecial 28, 3) := by decide +kernel
theorem dX5_init_45 : decode cX5_init 45 = .ok (.putfield 29, 3) := by decide +kernel
theorem dX5_init_48 : decode cX5_init 48 = .ok (.aload_n 0, 1) := by decide +kernel
theorem dX5_init_49 : decode cX5_init 49 = .ok (.new 26, 3) := by decide +kernel
theorem dX5_init_52 : decode cX5_init 52 = .ok (.dup, 1) := by decide +kernel
theorem dX5_init_53 : decode cX5_init 53 = .ok (.invokespecial 28, 3) := by decide +kernel
theorem dX5_init_56 : decode cX5_init 56 = .ok (.putfield 33, 3) := by decide +kernel
theorem dX5_init_59 : decode cX5_init 59 = .ok (.aload_n 0, 1) := by decide +kernel
theorem dX5_init_60 : decode cX5_init 60 = .ok (.new 36, 3) := by decide +kernel
theorem dX5_init_63 : decode cX5_init 63 = .ok (.dup, 1) := by decide +kernel
theorem dX5_init_64 : decode cX5_init 64 = .ok (.invokespecial 38, 3) := by decide +kernel
theorem dX5_init_67 : decode cX5_init 67 = .ok (.putfield 39, 3) := by decide +kernel
theorem dX5_init_70 : decode cX5_init 70 = .ok (.aload_n 0, 1) := by decide +kernel
theorem dX5_init_71 : decode cX5_init 71 = .ok (.new 43, 3) := by decide +kernel
theorem dX5_init_74 : decode cX5_init 74 = .ok (.dup, 1) := by decide +kernel
theorem dX5_init_75 : decode cX5_init 75 = .ok (.invokespecial 45, 3) := by decide +kernel
theorem dX5_init_78 : decode cX5_init 78 = .ok (.putfield 46, 3) := by decide +kernel
theorem dX5_init_81 : decode cX5_init 81 = .ok (.aload_n 0, 1) := by decide +kernel
theorem dX5_init_82 : decode cX5_init 82 = .ok (.bipush 16, 2) := by decide +kernel
theorem dX5_init_84 : decode cX5_init 84 = .ok (.newarray .int, 2) := by decide +kernel
theorem dX5_init_86 : decode cX5_init 86 = .ok (.putfield 50, 3) := by decide +kernel
theorem dX5_init_89 : decode cX5_init 89 = .ok (.aload_n 0, 1) := by decide +kernel
theorem dX5_init_90 : decode cX5_init 90 = .ok (.bipush 6, 2) := by decide +kernel
theorem dX5_init_92 : decode cX5_init 92 = .ok (.newarray .long, 2) := by decide +kernel
theorem dX5_init_94 : decode cX5_init 94 = .ok (.putfield 54, 3) := by decide +kernel
theorem dX5_init_97 : decode cX5_init 97 = .ok (.aload_n 0, 1) := by decide +kernel
theorem dX5_init_98 : decode cX5_init 98 = .ok (.iconst 0, 1) := by decide +kernel
theorem dX5_init_99 : decode cX5_init 99 = .ok (.putfield 58, 3) := by decide +kernel
theorem dX5_init_102 : decode cX5_init 102 = .ok (.return_, 1) := by decide +kernel
set_option maxRecDepth 20000 in
theorem ggX5_sign_X3_append : GoodIn wsX5_sign wsX3_append := goodIn_r _ [6, 7, 8, 19, 20, 21] (by decide +kernel) (by decide +kernel)
set_option maxRecDepth 20000 in
theorem gX5_sign_X3_append : GoodIn wsX5_sign (wsV RX5 62 RX3 yX3_append wsX3_append) := goodIn_app (goodIn_of _ (by decide +kernel)) ggX5_sign_X3_append
theorem dX5_sign_0 : decode cX5_sign 0 = .ok (.aload_n 0, 1) := by decide +kernel
theorem dX5_sign_1 : decode cX5_sign 1 = .ok (.getfield 10, 3) := by decide +kernel
theorem dX5_sign_4 : decode cX5_sign 4 = .ok (.iload_n 1, 1) := by decide +kernel
theorem dX5_sign_5 : decode cX5_sign 5 = .ok (.invokevirtual 62, 3) := by decide +kernel
theorem dX5_sign_8 : decode cX5_sign 8 = .ok (.ifCond .eq 13, 3) := by decide +kernel
theorem dX5_sign_11 : decode cX5_sign 11 = .ok (.aload_n 0, 1) := by decide +kernel
theorem dX5_sign_12 : decode cX5_sign 12 = .ok (.getfield 10, 3) := by decide +kernel
theorem dX5_sign_15 : decode cX5_sign 15 = .ok (.getfield 66, 3) := by decide +kernel
theorem dX5_sign_18 : decode cX5_sign 18 = .ok (.goto 4, 3) := by decide +kernel
theorem dX5_sign_21 : decode cX5_sign 21 = .ok (.iconst (-1), 1) := by decide +kernel
theorem dX5_sign_22 : decode cX5_sign 22 = .ok (.ireturn, 1) := by decide +kernel
set_option maxRecDepth 20000 in
theorem ggX5_end_X3_cutTo : GoodIn wsX5_end wsX3_cutTo := goodIn_r _ [6, 7, 18, 19, 20] (by decide +kernel) (by decide +kernel)
set_option maxRecDepth 20000 in
theorem gX5_end_X3_cutTo : GoodIn wsX5_end (wsV RX5 69 RX3 yX3_cutTo wsX3_cutTo) := goodIn_app (goodIn_of _ (by decide +kernel)) ggX5_end_X3_cutTo
theorem dX5_end_0 : decode cX5_end 0 = .ok (.aload_n 0, 1) := by decide +kernel
theorem dX5_end_1 : decode cX5_end 1 = .ok (.getfield 10, 3) := by decide +kernel
theorem dX5_end_4 : decode cX5_end 4 = .ok (.iload_n 1, 1) := by decide +kernel
theorem dX5_end_5 : decode cX5_end 5 = .ok (.invokevirtual 69, 3) := by decide +kernel
theorem dX5_end_8 : decode cX5_end 8 = .ok (.ireturn, 1) := by decide +kernel
set_option maxRecDepth 20000 in
theorem ggX5_desk_X3_rewind : GoodIn wsX5_desk wsX3_rewind := goodIn_r _ [9, 10, 125, 126, 127] (by decide +kernel) (by decide +kernel)
set_option maxRecDepth 20000 in
theorem gX5_desk_X3_rewind : GoodIn wsX5_desk (wsV RX5 72 RX3 yX3_rewind wsX3_rewind) := goodIn_app (goodIn_of _ (by decide +kernel)) ggX5_desk_X3_rewind
set_option maxRecDepth 20000 in
theorem ggX5_desk_X0_readFrom : GoodIn wsX5_desk wsX0_readFrom := goodIn_r _ [15, 16, 17, 18, 19, 20, 21, 22, 23, 24, 25, 26, 8, 27, 10, 28, 29, 30, 31, 32, 33, 34, 35, 36, 37, 38, 39, 40, 41, 42, 14, 43, 44, 45, 46, 47, 48, 49, 50, 51, 52, 53, 54, 55, 56, 57, 58, 59, 60, 61, 62, 63, 64, 65, 66, 67, 68, 69, 70, 71, 72, 73, 74, 75, 76, 77, 78, 79, 80, 81, 82, 83, 84, 85, 86, 116, 117, 118, 119, 120, 121, 122, 123, 124, 125, 126, 127] (by decide +kernel) (by decide +kernel)
set_option maxRecDepth 20000 in
theorem gX5_desk_X0_readFrom : GoodIn wsX5_desk (wsV RX5 75 RX0 yX0_readFrom wsX0_readFrom) := goodIn_app (goodIn_of _ (by decide +kernel)) ggX5_desk_X0_readFrom
set_option maxRecDepth 20000 in
theorem ggX5_desk_X0_become : GoodIn wsX5_desk wsX0_become := goodIn_r _ [90, 17, 18, 16, 19, 91, 92, 93, 94, 77, 52, 78, 72, 20, 116, 117, 118, 119, 120, 121, 122, 123, 124] (by decide +kernel) (by decide +kernel)
set_option maxRecDepth 20000 in
theorem gX5_desk_X0_become : GoodIn wsX5_desk (wsV RX5 83 RX0 yX0_become wsX0_become) := goodIn_app (goodIn_of _ (by decide +kernel)) ggX5_desk_X0_become
set_option maxRecDepth 20000 in
theorem ggX5_desk_X1_empty : GoodIn wsX5_desk wsX1_empty := goodIn_r _ [99, 100, 101, 128, 129, 130] (by decide +kernel) (by decide +kernel)
set_option maxRecDepth 20000 in
theorem gX5_desk_X1_empty : GoodIn wsX5_desk (wsV RX5 87 RX1 yX1_empty wsX1_empty) := goodIn_app (goodIn_of _ (by decide +kernel)) ggX5_desk_X1_empty
set_option maxRecDepth 20000 in
theorem ggX5_desk_X3_empty : GoodIn wsX5_desk wsX3_empty := goodIn_r _ [105, 28, 125, 126, 127] (by decide +kernel) (by decide +kernel)
set_option maxRecDepth 20000 in
theorem gX5_desk_X3_empty : GoodIn wsX5_desk (wsV RX5 90 RX3 yX3_empty wsX3_empty) := goodIn_app (goodIn_of _ (by decide +kernel)) ggX5_desk_X3_empty
theorem dX5_desk_0 : decode cX5_desk 0 = .ok (.aload_n 0, 1) := by decide +kernel
theorem dX5_desk_1 : decode cX5_desk 1 = .ok (.getfield 10, 3) := by decide +kernel
theorem dX5_desk_4 : decode cX5_desk 4 = .ok (.invokevirtual 72, 3) := by decide +kernel
theorem dX5_desk_7 : decode cX5_desk 7 = .ok (.aload_n 0, 1) := by decide +kernel
theorem dX5_desk_8 : decode cX5_desk 8 = .ok (.getfield 23, 3) := by decide +kernel
theorem dX5_desk_11 : decode cX5_desk 11 = .ok (.aload_n 0, 1) := by decide +kernel
theorem dX5_desk_12 : decode cX5_desk 12 = .ok (.getfield 10, 3) := by decide +kernel
theorem dX5_desk_15 : decode cX5_desk 15 = .ok (.invokevirtual 75, 3) := by decide +kernel
theorem dX5_desk_18 : decode cX5_desk 18 = .ok (.istore_n 1, 1) := by decide +kernel
theorem dX5_desk_19 : decode cX5_desk 19 = .ok (.iload_n 1, 1) := by decide +kernel
theorem dX5_desk_20 : decode cX5_desk 20 = .ok (.ifCond .eq 13, 3) := by decide +kernel
theorem dX5_desk_23 : decode cX5_desk 23 = .ok (.aload_n 0, 1) := by decide +kernel
theorem dX5_desk_24 : decode cX5_desk 24 = .ok (.getfield 23, 3) := by decide +kernel
theorem dX5_desk_27 : decode cX5_desk 27 = .ok (.getfield 79, 3) := by decide +kernel
theorem dX5_desk_30 : decode cX5_desk 30 = .ok (.goto 13, 3) := by decide +kernel
theorem dX5_desk_33 : decode cX5_desk 33 = .ok (.bipush (-21), 2) := by decide +kernel
theorem dX5_desk_35 : decode cX5_desk 35 = .ok (.aload_n 0, 1) := by decide +kernel
theorem dX5_desk_36 : decode cX5_desk 36 = .ok (.getfield 10, 3) := by decide +kernel
theorem dX5_desk_39 : decode cX5_desk 39 = .ok (.getfield 80, 3) := by decide +kernel
theorem dX5_desk_42 : decode cX5_desk 42 = .ok (.isub, 1) := by decide +kernel
theorem dX5_desk_43 : decode cX5_desk 43 = .ok (.istore_n 2, 1) := by decide +kernel
theorem dX5_desk_44 : decode cX5_desk 44 = .ok (.iload_n 1, 1) := by decide +kernel
theorem dX5_desk_45 : decode cX5_desk 45 = .ok (.ifCond .eq 21, 3) := by decide +kernel
theorem dX5_desk_48 : decode cX5_desk 48 = .ok (.aload_n 0, 1) := by decide +kernel
theorem dX5_desk_49 : decode cX5_desk 49 = .ok (.getfield 19, 3) := by decide +kernel
theorem dX5_desk_52 : decode cX5_desk 52 = .ok (.aload_n 0, 1) := by decide +kernel
theorem dX5_desk_53 : decode cX5_desk 53 = .ok (.getfield 23, 3) := by decide +kernel
theorem dX5_desk_56 : decode cX5_desk 56 = .ok (.invokevirtual 83, 3) := by decide +kernel
theorem dX5_desk_59 : decode cX5_desk 59 = .ok (.aload_n 0, 1) := by decide +kernel
theorem dX5_desk_60 : decode cX5_desk 60 = .ok (.getfield 29, 3) := by decide +kernel
theorem dX5_desk_63 : decode cX5_desk 63 = .ok (.invokevirtual 87, 3) := by decide +kernel
theorem dX5_desk_66 : decode cX5_desk 66 = .ok (.aload_n 0, 1) := by decide +kernel
theorem dX5_desk_67 : decode cX5_desk 67 = .ok (.getfield 10, 3) := by decide +kernel
theorem dX5_desk_70 : decode cX5_desk 70 = .ok (.invokevirtual 90, 3) := by decide +kernel
theorem dX5_desk_73 : decode cX5_desk 73 = .ok (.iload_n 2, 1) := by decide +kernel
theorem dX5_desk_74 : decode cX5_desk 74 = .ok (.ireturn, 1) := by decide +kernel
set_option maxRecDepth 20000 in
theorem ggX5_pupils_X3_rewind : GoodIn wsX5_pupils wsX3_rewind := goodIn_r _ [8, 9, 69, 70, 71] (by decide +kernel) (by decide +kernel)
set_option maxRecDepth 20000 in
theorem gX5_pupils_X3_rewind : GoodIn wsX5_pupils (wsV RX5 72 RX3 yX3_rewind wsX3_rewind) := goodIn_app (goodIn_of _ (by decide +kernel)) ggX5_pupils_X3_rewind
set_option maxRecDepth 20000 in
theorem ggX5_pupils_X1_readFrom : GoodIn wsX5_pupils wsX1_readFrom := goodIn_r _ [14, 15, 16, 17, 18, 19, 13, 20, 21, 22, 23, 24, 7, 25, 9, 26, 27, 28, 29, 30, 31, 32, 33, 34, 35, 36, 37, 38, 39, 40, 41, 42, 43, 66, 67, 68, 69, 70, 71] (by decide +kernel) (by decide +kernel)
set_option maxRecDepth 20000 in
theorem gX5_pupils_X1_readFrom : GoodIn wsX5_pupils (wsV RX5 91 RX1 yX1_readFrom wsX1_readFrom) := goodIn_app (goodIn_of _ (by decide +kernel)) ggX5_pupils_X1_readFrom
set_option maxRecDepth 20000 in
theorem ggX5_pupils_X1_become : GoodIn wsX5_pupils wsX1_become := goodIn_r _ [47, 15, 21, 16, 48, 49, 50, 51, 66, 67, 68] (by decide +kernel) (by decide +kernel)
set_option maxRecDepth 20000 in
theorem gX5_pupils_X1_become : GoodIn wsX5_pupils (wsV RX5 93 RX1 yX1_become wsX1_become) := goodIn_app (goodIn_of _ (by decide +kernel)) ggX5_pupils_X1_become
set_option maxRecDepth 20000 in
theorem ggX5_pupils_X3_empty : GoodIn wsX5_pupils wsX3_empty := goodIn_r _ [55, 26, 69, 70, 71] (by decide +kernel) (by decide +kernel)
set_option maxRecDepth 20000 in
theorem gX5_pupils_X3_empty : GoodIn wsX5_pupils (wsV RX5 90 RX3 yX3_empty wsX3_empty) := goodIn_app (goodIn_of _ (by decide +kernel)) ggX5_pupils_X3_empty
theorem dX5_pupils_0 : decode cX5_pupils 0 = .ok (.aload_n 0, 1) := by decide +kernel
theorem dX5_pupils_1 : decode cX5_pupils 1 = .ok (.getfield 10, 3) := by decide +kernel
theorem dX5_pupils_4 : decode cX5_pupils 4 = .ok (.invokevirtual 72, 3) := by decide +kernel
theorem dX5_pupils_7 : decode cX5_pupils 7 = .ok (.aload_n 0, 1) := by decide +kernel
theorem dX5_pupils_8 : decode cX5_pupils 8 = .ok (.getfield 33, 3) := by decide +kernel
theorem dX5_pupils_11 : decode cX5_pupils 11 = .ok (.aload_n 0, 1) := by decide +kernel
theorem dX5_pupils_12 : decode cX5_pupils 12 = .ok (.getfield 10, 3) := by decide +kernel
theorem dX5_pupils_15 : decode cX5_pupils 15 = .ok (.invokevirtual 91, 3) := by decide +kernel
theorem dX5_pupils_18 : decode cX5_pupils 18 = .ok (.istore_n 1, 1) := by decide +kernel
theorem dX5_pupils_19 : decode cX5_pupils 19 = .ok (.iload_n 1, 1) := by decide +kernel
theorem dX5_pupils_20 : decode cX5_pupils 20 = .ok (.ifCond .eq 13, 3) := by decide +kernel
theorem dX5_pupils_23 : decode cX5_pupils 23 = .ok (.aload_n 0, 1) := by decide +kernel
theorem dX5_pupils_24 : decode cX5_pupils 24 = .ok (.getfield 33, 3) := by decide +kernel
theorem dX5_pupils_27 : decode cX5_pupils 27 = .ok (.getfield 92, 3) := by decide +kernel
theorem dX5_pupils_30 : decode cX5_pupils 30 = .ok (.goto 13, 3) := by decide +kernel
theorem dX5_pupils_33 : decode cX5_pupils 33 = .ok (.bipush (-21), 2) := by decide +kernel
theorem dX5_pupils_35 : decode cX5_pupils 35 = .ok (.aload_n 0, 1) := by decide +kernel
theorem dX5_pupils_36 : decode cX5_pupils 36 = .ok (.getfield 10, 3) := by decide +kernel
theorem dX5_pupils_39 : decode cX5_pupils 39 = .ok (.getfield 80, 3) := by decide +kernel
theorem dX5_pupils_42 : decode cX5_pupils 42 = .ok (.isub, 1) := by decide +kernel
theorem dX5_pupils_43 : decode cX5_pupils 43 = .ok (.istore_n 2, 1) := by decide +kernel
theorem dX5_pupils_44 : decode cX5_pupils 44 = .ok (.iload_n 1, 1) := by decide +kernel
theorem dX5_pupils_45 : decode cX5_pupils 45 = .ok (.ifCond .eq 14, 3) := by decide +kernel
theorem dX5_pupils_48 : decode cX5_pupils 48 = .ok (.aload_n 0, 1) := by decide +kernel
theorem dX5_pupils_49 : decode cX5_pupils 49 = .ok (.getfield 29, 3) := by decide +kernel
theorem dX5_pupils_52 : decode cX5_pupils 52 = .ok (.aload_n 0, 1) := by decide +kernel
theorem dX5_pupils_53 : decode cX5_pupils 53 = .ok (.getfield 33, 3) := by decide +kernel
theorem dX5_pupils_56 : decode cX5_pupils 56 = .ok (.invokevirtual 93, 3) := by decide +kernel
theorem dX5_pupils_59 : decode cX5_pupils 59 = .ok (.aload_n 0, 1) := by decide +kernel
theorem dX5_pupils_60 : decode cX5_pupils 60 = .ok (.getfield 10, 3) := by decide +kernel
theorem dX5_pupils_63 : decode cX5_pupils 63 = .ok (.invokevirtual 90, 3) := by decide +kernel
theorem dX5_pupils_66 : decode cX5_pupils 66 = .ok (.iload_n 2, 1) := by decide +kernel
theorem dX5_pupils_67 : decode cX5_pupils 67 = .ok (.ireturn, 1) := by decide +kernel
set_option maxRecDepth 20000 in
theorem ggX5_opens_X5_isSubject : GoodIn wsX5_opens wsX5_isSubject := goodIn_r _ [5] (by decide +kernel) (by decide +kernel)
set_option maxRecDepth 20000 in
theorem gX5_opens_X5_isSubject : GoodIn wsX5_opens (va_wsS RX5 96 yX5_isSubject wsX5_isSubject) := goodIn_app (goodIn_of _ (by decide +kernel)) ggX5_opens_X5_isSubject
set_option maxRecDepth 20000 in
theorem ggX5_opens_X5_isTeacher : GoodIn wsX5_opens wsX5_isTeacher := goodIn_r _ [8] (by decide +kernel) (by decide +kernel)
set_option maxRecDepth 20000 in
theorem gX5_opens_X5_isTeacher : GoodIn wsX5_opens (va_wsS RX5 99 yX5_isTeacher wsX5_isTeacher) := goodIn_app (goodIn_of _ (by decide +kernel)) ggX5_opens_X5_isTeacher
set_option maxRecDepth 20000 in
theorem ggX5_opens_X5_areSeats : GoodIn wsX5_opens wsX5_areSeats := goodIn_r _ [11] (by decide +kernel) (by decide +kernel)
set_option maxRecDepth 20000 in
theorem gX5_opens_X5_areSeats : GoodIn wsX5_opens (va_wsS RX5 102 yX5_areSeats wsX5_areSeats) := goodIn_app (goodIn_of _ (by decide +kernel)) ggX5_opens_X5_areSeats
set_option maxRecDepth 20000 in
theorem ggX5_opens_X0_add : GoodIn wsX5_opens wsX0_add := goodIn_r _ [16, 17, 18, 19, 20, 21, 22, 23, 24, 15, 25, 26, 27, 28, 29, 30, 41, 42, 43, 44, 45, 46, 47, 48, 49] (by decide +kernel) (by decide +kernel)
set_option maxRecDepth 20000 in
theorem gX5_opens_X0_add : GoodIn wsX5_opens (wsV RX5 105 RX0 yX0_add wsX0_add) := goodIn_app (goodIn_of _ (by decide +kernel)) ggX5_opens_X0_add
theorem dX5_opens_0 : decode cX5_opens 0 = .ok (.iload_n 1, 1) := by decide +kernel
theorem dX5_opens_1 : decode cX5_opens 1 = .ok (.invokestatic 96, 3) := by decide +kernel
theorem dX5_opens_4 : decode cX5_opens 4 = .ok (.ifCond .eq 17, 3) := by decide +kernel
theorem dX5_opens_7 : decode cX5_opens 7 = .ok (.iload_n 2, 1) := by decide +kernel
theorem dX5_opens_8 : decode cX5_opens 8 = .ok (.invokestatic 99, 3) := by decide +kernel
theorem dX5_opens_11 : decode cX5_opens 11 = .ok (.ifCond .eq 10, 3) := by decide +kernel
theorem dX5_opens_14 : decode cX5_opens 14 = .ok (.iload_n 3, 1) := by decide +kernel
theorem dX5_opens_15 : decode cX5_opens 15 = .ok (.invokestatic 102, 3) := by decide +kernel
theorem dX5_opens_18 : decode cX5_opens 18 = .ok (.ifCond .ne 5, 3) := by decide +kernel
theorem dX5_opens_21 : decode cX5_opens 21 = .ok (.iconst (-1), 1) := by decide +kernel
theorem dX5_opens_22 : decode cX5_opens 22 = .ok (.ireturn, 1) := by decide +kernel
theorem dX5_opens_23 : decode cX5_opens 23 = .ok (.aload_n 0, 1) := by decide +kernel
theorem dX5_opens_24 : decode cX5_opens 24 = .ok (.getfield 19, 3) := by decide +kernel
theorem dX5_opens_27 : decode cX5_opens 27 = .ok (.getfield 79, 3) := by decide +kernel
theorem dX5_opens_30 : decode cX5_opens 30 = .ok (.bipush 16, 2) := by decide +kernel
theorem dX5_opens_32 : decode cX5_opens 32 = .ok (.if_icmp .lt 6, 3) := by decide +kernel
theorem dX5_opens_35 : decode cX5_opens 35 = .ok (.bipush (-2), 2) := by decide +kernel
theorem dX5_opens_37 : decode cX5_opens 37 = .ok (.ireturn, 1) := by decide +kernel
theorem dX5_opens_38 : decode cX5_opens 38 = .ok (.aload_n 0, 1) := by decide +kernel
theorem dX5_opens_39 : decode cX5_opens 39 = .ok (.getfield 19, 3) := by decide +kernel
theorem dX5_opens_42 : decode cX5_opens 42 = .ok (.iload_n 1, 1) := by decide +kernel
theorem dX5_opens_43 : decode cX5_opens 43 = .ok (.iload_n 2, 1) := by decide +kernel
theorem dX5_opens_44 : decode cX5_opens 44 = .ok (.iload_n 3, 1) := by decide +kernel
theorem dX5_opens_45 : decode cX5_opens 45 = .ok (.iconst (-1), 1) := by decide +kernel
theorem dX5_opens_46 : decode cX5_opens 46 = .ok (.invokevirtual 105, 3) := by decide +kernel
theorem dX5_opens_49 : decode cX5_opens 49 = .ok (.aload_n 0, 1) := by decide +kernel
theorem dX5_opens_50 : decode cX5_opens 50 = .ok (.getfield 19, 3) := by decide +kernel
theorem dX5_opens_53 : decode cX5_opens 53 = .ok (.getfield 79, 3) := by decide +kernel
theorem dX5_opens_56 : decode cX5_opens 56 = .ok (.iconst 1, 1) := by decide +kernel
theorem dX5_opens_57 : decode cX5_opens 57 = .ok (.isub, 1) := by decide +kernel
theorem dX5_opens_58 : decode cX5_opens 58 = .ok (.ireturn, 1) := by decide +kernel
set_option maxRecDepth 20000 in
theorem ggX5_closes_X0_has : GoodIn wsX5_closes wsX0_has := goodIn_r _ [6, 7, 35, 36, 37, 38, 39, 40, 41, 42, 43] (by decide +kernel) (by decide +kernel)
set_option maxRecDepth 20000 in
theorem gX5_closes_X0_has : GoodIn wsX5_closes (wsV RX5 109 RX0 yX0_has wsX0_has) := goodIn_app (goodIn_of _ (by decide +kernel)) ggX5_closes_X0_has
set_option maxRecDepth 20000 in
theorem ggX5_closes_X0_remove : GoodIn wsX5_closes wsX0_remove := goodIn_r _ [11, 12, 7, 13, 14, 15, 16, 17, 18, 5, 19, 20, 21, 22, 23, 24, 35, 36, 37, 38, 39, 40, 41, 42, 43] (by decide +kernel) (by decide +kernel)
set_option maxRecDepth 20000 in
theorem gX5_closes_X0_remove : GoodIn wsX5_closes (wsV RX5 112 RX0 yX0_remove wsX0_remove) := goodIn_app (goodIn_of _ (by decide +kernel)) ggX5_closes_X0_remove
theorem dX5_closes_0 : decode cX5_closes 0 = .ok (.aload_n 0, 1) := by decide +kernel
theorem dX5_closes_1 : decode cX5_closes 1 = .ok (.getfield 19, 3) := by decide +kernel
theorem dX5_closes_4 : decode cX5_closes 4 = .ok (.iload_n 1, 1) := by decide +kernel
theorem dX5_closes_5 : decode cX5_closes 5 = .ok (.invokevirtual 109, 3) := by decide +kernel
theorem dX5_closes_8 : decode cX5_closes 8 = .ok (.ifCond .ne 5, 3) := by decide +kernel
theorem dX5_closes_11 : decode cX5_closes 11 = .ok (.iconst (-1), 1) := by decide +kernel
theorem dX5_closes_12 : decode cX5_closes 12 = .ok (.ireturn, 1) := by decide +kernel
theorem dX5_closes_13 : decode cX5_closes 13 = .ok (.aload_n 0, 1) := by decide +kernel
theorem dX5_closes_14 : decode cX5_closes 14 = .ok (.getfield 19, 3) := by decide +kernel
theorem dX5_closes_17 : decode cX5_closes 17 = .ok (.iload_n 1, 1) := by decide +kernel
theorem dX5_closes_18 : decode cX5_closes 18 = .ok (.invokevirtual 112, 3) := by decide +kernel
theorem dX5_closes_21 : decode cX5_closes 21 = .ok (.aload_n 0, 1) := by decide +kernel
theorem dX5_closes_22 : decode cX5_closes 22 = .ok (.getfield 19, 3) := by decide +kernel
theorem dX5_closes_25 : decode cX5_closes 25 = .ok (.getfield 79, 3) := by decide +kernel
theorem dX5_closes_28 : decode cX5_closes 28 = .ok (.ireturn, 1) := by decide +kernel
set_option maxRecDepth 20000 in
theorem ggX5_seats_X0_has : GoodIn wsX5_seats wsX0_has := goodIn_r _ [6, 7, 22, 23, 24, 25, 26, 27, 28, 29, 30] (by decide +kernel) (by decide +kernel)
set_option maxRecDepth 20000 in
theorem gX5_seats_X0_has : GoodIn wsX5_seats (wsV RX5 109 RX0 yX0_has wsX0_has) := goodIn_app (goodIn_of _ (by decide +kernel)) ggX5_seats_X0_has
set_option maxRecDepth 20000 in
theorem ggX5_seats_X5_areSeats : GoodIn wsX5_seats wsX5_areSeats := goodIn_r _ [11] (by decide +kernel) (by decide +kernel)
set_option maxRecDepth 20000 in
theorem gX5_seats_X5_areSeats : GoodIn wsX5_seats (va_wsS RX5 102 yX5_areSeats wsX5_areSeats) := goodIn_app (goodIn_of _ (by decide +kernel)) ggX5_seats_X5_areSeats
theorem dX5_seats_0 : decode cX5_seats 0 = .ok (.aload_n 0, 1) := by decide +kernel
theorem dX5_seats_1 : decode cX5_seats 1 = .ok (.getfield 19, 3) := by decide +kernel
theorem dX5_seats_4 : decode cX5_seats 4 = .ok (.iload_n 1, 1) := by decide +kernel
theorem dX5_seats_5 : decode cX5_seats 5 = .ok (.invokevirtual 109, 3) := by decide +kernel
theorem dX5_seats_8 : decode cX5_seats 8 = .ok (.ifCond .eq 10, 3) := by decide +kernel
theorem dX5_seats_11 : decode cX5_seats 11 = .ok (.iload_n 2, 1) := by decide +kernel
theorem dX5_seats_12 : decode cX5_seats 12 = .ok (.invokestatic 102, 3) := by decide +kernel
theorem dX5_seats_15 : decode cX5_seats 15 = .ok (.ifCond .ne 5, 3) := by decide +kernel
theorem dX5_seats_18 : decode cX5_seats 18 = .ok (.iconst (-1), 1) := by decide +kernel
theorem dX5_seats_19 : decode cX5_seats 19 = .ok (.ireturn, 1) := by decide +kernel
theorem dX5_seats_20 : decode cX5_seats 20 = .ok (.aload_n 0, 1) := by decide +kernel
theorem dX5_seats_21 : decode cX5_seats 21 = .ok (.getfield 19, 3) := by decide +kernel
theorem dX5_seats_24 : decode cX5_seats 24 = .ok (.getfield 116, 3) := by decide +kernel
theorem dX5_seats_27 : decode cX5_seats 27 = .ok (.iload_n 1, 1) := by decide +kernel
theorem dX5_seats_28 : decode cX5_seats 28 = .ok (.iaload, 1) := by decide +kernel
theorem dX5_seats_29 : decode cX5_seats 29 = .ok (.istore_n 3, 1) := by decide +kernel
theorem dX5_seats_30 : decode cX5_seats 30 = .ok (.aload_n 0, 1) := by decide +kernel
theorem dX5_seats_31 : decode cX5_seats 31 = .ok (.getfield 19, 3) := by decide +kernel
theorem dX5_seats_34 : decode cX5_seats 34 = .ok (.getfield 116, 3) := by decide +kernel
theorem dX5_seats_37 : decode cX5_seats 37 = .ok (.iload_n 1, 1) := by decide +kernel
theorem dX5_seats_38 : decode cX5_seats 38 = .ok (.iload_n 2, 1) := by decide +kernel
theorem dX5_seats_39 : decode cX5_seats 39 = .ok (.iastore, 1) := by decide +kernel
theorem dX5_seats_40 : decode cX5_seats 40 = .ok (.iload_n 3, 1) := by decide +kernel
theorem dX5_seats_41 : decode cX5_seats 41 = .ok (.ireturn, 1) := by decide +kernel
set_option maxRecDepth 20000 in
theorem ggX5_puts_X0_has : GoodIn wsX5_puts wsX0_has := goodIn_r _ [6, 7, 85, 86, 87, 88, 89, 90, 91, 92, 93] (by decide +kernel) (by decide +kernel)
set_option maxRecDepth 20000 in
theorem gX5_puts_X0_has : GoodIn wsX5_puts (wsV RX5 109 RX0 yX0_has wsX0_has) := goodIn_app (goodIn_of _ (by decide +kernel)) ggX5_puts_X0_has
set_option maxRecDepth 20000 in
theorem ggX5_puts_X0_hasColumn : GoodIn wsX5_puts wsX0_hasColumn := goodIn_r _ [11, 12, 85, 86, 87, 88, 89, 90, 91, 92, 93] (by decide +kernel) (by decide +kernel)
set_option maxRecDepth 20000 in
theorem gX5_puts_X0_hasColumn : GoodIn wsX5_puts (wsV RX5 119 RX0 yX0_hasColumn wsX0_hasColumn) := goodIn_app (goodIn_of _ (by decide +kernel)) ggX5_puts_X0_hasColumn
set_option maxRecDepth 20000 in
theorem ggX5_puts_X0_mayMove : GoodIn wsX5_puts wsX0_mayMove := goodIn_r _ [16, 17, 18, 19, 20, 21, 5, 22, 7, 23, 24, 25, 26, 27, 85, 86, 87, 88, 89, 90, 91, 92, 93] (by decide +kernel) (by decide +kernel)
set_option maxRecDepth 20000 in
theorem gX5_puts_X0_mayMove : GoodIn wsX5_puts (wsV RX5 125 RX0 yX0_mayMove wsX0_mayMove) := goodIn_app (goodIn_of _ (by decide +kernel)) ggX5_puts_X0_mayMove
set_option maxRecDepth 20000 in
theorem ggX5_puts_X0_place : GoodIn wsX5_puts wsX0_place := goodIn_r _ [31, 17, 32, 33, 34, 35, 5, 36, 37, 38, 39, 40, 41, 7, 85, 86, 87, 88, 89, 90, 91, 92, 93] (by decide +kernel) (by decide +kernel)
set_option maxRecDepth 20000 in
theorem gX5_puts_X0_place : GoodIn wsX5_puts (wsV RX5 129 RX0 yX0_place wsX0_place) := goodIn_app (goodIn_of _ (by decide +kernel)) ggX5_puts_X0_place
set_option maxRecDepth 20000 in
theorem ggX5_puts_X5_fitting : GoodIn wsX5_puts wsX5_fitting := goodIn_r _ [45, 46, 47, 48, 26, 49, 50, 1, 51, 25, 27, 52, 53, 54, 5, 55, 37, 56, 57, 58, 59, 60, 61, 62, 63, 64, 65, 66, 67, 75, 76, 77, 78, 79, 80, 81, 82, 83, 84, 94, 95, 96, 85, 86, 87, 88, 89, 90, 91, 92, 93] (by decide +kernel) (by decide +kernel)
set_option maxRecDepth 20000 in
theorem gX5_puts_X5_fitting : GoodIn wsX5_puts (wsV RX5 133 RX5 yX5_fitting wsX5_fitting) := goodIn_app (goodIn_of _ (by decide +kernel)) ggX5_puts_X5_fitting
set_option maxRecDepth 20000 in
theorem ggX5_puts_J6_bitCount_0f7a4 : GoodIn wsX5_puts wsJ6_bitCount_0f7a4 := goodIn_r _ [71, 72, 73, 74] (by decide +kernel) (by decide +kernel)
set_option maxRecDepth 20000 in
theorem gX5_puts_J6_bitCount_0f7a4 : GoodIn wsX5_puts (va_wsS RX5 137 yJ6_bitCount_0f7a4 wsJ6_bitCount_0f7a4) := goodIn_app (goodIn_of _ (by decide +kernel)) ggX5_puts_J6_bitCount_0f7a4
theorem dX5_puts_0 : decode cX5_puts 0 = .ok (.aload_n 0, 1) := by decide +kernel
theorem dX5_puts_1 : decode cX5_puts 1 = .ok (.getfield 19, 3) := by decide +kernel
theorem dX5_puts_4 : decode cX5_puts 4 = .ok (.iload_n 1, 1) := by decide +kernel
theorem dX5_puts_5 : decode cX5_puts 5 = .ok (.invokevirtual 109, 3) := by decide +kernel
theorem dX5_puts_8 : decode cX5_puts 8 = .ok (.ifCond .eq 14, 3) := by decide +kernel
theorem dX5_puts_11 : decode cX5_puts 11 = .ok (.aload_n 0, 1) := by decide +kernel
theorem dX5_puts_12 : decode cX5_puts 12 = .ok (.getfield 19, 3) := by decide +kernel
theorem dX5_puts_15 : decode cX5_puts 15 = .ok (.iload_n 2, 1) := by decide +kernel
theorem dX5_puts_16 : decode cX5_puts 16 = .ok (.invokevirtual 119, 3) := by decide +kernel
theorem dX5_puts_19 : decode cX5_puts 19 = .ok (.ifCond .ne 5, 3) := by decide +kernel
theorem dX5_puts_22 : decode cX5_puts 22 = .ok (.iconst (-1), 1) := by decide +kernel
theorem dX5_puts_23 : decode cX5_puts 23 = .ok (.ireturn, 1) := by decide +kernel
theorem dX5_puts_24 : decode cX5_puts 24 = .ok (.aload_n 0, 1) := by decide +kernel
theorem dX5_puts_25 : decode cX5_puts 25 = .ok (.getfield 19, 3) := by decide +kernel
theorem dX5_puts_28 : decode cX5_puts 28 = .ok (.getfield 122, 3) := by decide +kernel
theorem dX5_puts_31 : decode cX5_puts 31 = .ok (.iload_n 1, 1) := by decide +kernel
theorem dX5_puts_32 : decode cX5_puts 32 = .ok (.iaload, 1) := by decide +kernel
theorem dX5_puts_33 : decode cX5_puts 33 = .ok (.iload_n 2, 1) := by decide +kernel
theorem dX5_puts_34 : decode cX5_puts 34 = .ok (.if_icmp .ne 6, 3) := by decide +kernel
theorem dX5_puts_37 : decode cX5_puts 37 = .ok (.bipush (-2), 2) := by decide +kernel
theorem dX5_puts_39 : decode cX5_puts 39 = .ok (.ireturn, 1) := by decide +kernel
theorem dX5_puts_40 : decode cX5_puts 40 = .ok (.aload_n 0, 1) := by decide +kernel
theorem dX5_puts_41 : decode cX5_puts 41 = .ok (.getfield 19, 3) := by decide +kernel
theorem dX5_puts_44 : decode cX5_puts 44 = .ok (.iload_n 1, 1) := by decide +kernel
theorem dX5_puts_45 : decode cX5_puts 45 = .ok (.iload_n 2, 1) := by decide +kernel
theorem dX5_puts_46 : decode cX5_puts 46 = .ok (.invokevirtual 125, 3) := by decide +kernel
theorem dX5_puts_49 : decode cX5_puts 49 = .ok (.ifCond .ne 6, 3) := by decide +kernel
theorem dX5_puts_52 : decode cX5_puts 52 = .ok (.bipush (-3), 2) := by decide +kernel
theorem dX5_puts_54 : decode cX5_puts 54 = .ok (.ireturn, 1) := by decide +kernel
theorem dX5_puts_55 : decode cX5_puts 55 = .ok (.aload_n 0, 1) := by decide +kernel
theorem dX5_puts_56 : decode cX5_puts 56 = .ok (.getfield 19, 3) := by decide +kernel
theorem dX5_puts_59 : decode cX5_puts 59 = .ok (.iload_n 1, 1) := by decide +kernel
theorem dX5_puts_60 : decode cX5_puts 60 = .ok (.iload_n 2, 1) := by decide +kernel
theorem dX5_puts_61 : decode cX5_puts 61 = .ok (.invokevirtual 129, 3) := by decide +kernel
theorem dX5_puts_64 : decode cX5_puts 64 = .ok (.aload_n 0, 1) := by decide +kernel
theorem dX5_puts_65 : decode cX5_puts 65 = .ok (.invokevirtual 133, 3) := by decide +kernel
theorem dX5_puts_68 : decode cX5_puts 68 = .ok (.invokestatic 137, 3) := by decide +kernel
theorem dX5_puts_71 : decode cX5_puts 71 = .ok (.ireturn, 1) := by decide +kernel
set_option maxRecDepth 20000 in
theorem ggX5_takes_X0_has : GoodIn wsX5_takes wsX0_has := goodIn_r _ [6, 7, 69, 70, 71, 72, 73, 74, 75, 76, 77] (by decide +kernel) (by decide +kernel)
set_option maxRecDepth 20000 in
theorem gX5_takes_X0_has : GoodIn wsX5_takes (wsV RX5 109 RX0 yX0_has wsX0_has) := goodIn_app (goodIn_of _ (by decide +kernel)) ggX5_takes_X0_has
set_option maxRecDepth 20000 in
theorem ggX5_takes_X0_place : GoodIn wsX5_takes wsX0_place := goodIn_r _ [11, 12, 13, 14, 15, 16, 5, 17, 18, 19, 20, 21, 22, 7, 69, 70, 71, 72, 73, 74, 75, 76, 77] (by decide +kernel) (by decide +kernel)
set_option maxRecDepth 20000 in
theorem gX5_takes_X0_place : GoodIn wsX5_takes (wsV RX5 129 RX0 yX0_place wsX0_place) := goodIn_app (goodIn_of _ (by decide +kernel)) ggX5_takes_X0_place
set_option maxRecDepth 20000 in
theorem ggX5_takes_X5_fitting : GoodIn wsX5_takes wsX5_fitting := goodIn_r _ [27, 28, 29, 30, 26, 31, 32, 1, 33, 34, 35, 36, 37, 38, 5, 39, 18, 40, 41, 42, 43, 44, 45, 46, 47, 48, 49, 50, 51, 59, 60, 61, 62, 63, 64, 65, 66, 67, 68, 78, 79, 80, 69, 70, 71, 72, 73, 74, 75, 76, 77] (by decide +kernel) (by decide +kernel)
set_option maxRecDepth 20000 in
theorem gX5_takes_X5_fitting : GoodIn wsX5_takes (wsV RX5 133 RX5 yX5_fitting wsX5_fitting) := goodIn_app (goodIn_of _ (by decide +kernel)) ggX5_takes_X5_fitting
set_option maxRecDepth 20000 in
theorem ggX5_takes_J6_bitCount_0f7a4 : GoodIn wsX5_takes wsJ6_bitCount_0f7a4 := goodIn_r _ [55, 56, 57, 58] (by decide +kernel) (by decide +kernel)
set_option maxRecDepth 20000 in
theorem gX5_takes_J6_bitCount_0f7a4 : GoodIn wsX5_takes (va_wsS RX5 137 yJ6_bitCount_0f7a4 wsJ6_bitCount_0f7a4) := goodIn_app (goodIn_of _ (by decide +kernel)) ggX5_takes_J6_bitCount_0f7a4
theorem dX5_takes_0 : decode cX5_takes 0 = .ok (.aload_n 0, 1) := by decide +kernel
theorem dX5_takes_1 : decode cX5_takes 1 = .ok (.getfield 19, 3) := by decide +kernel
theorem dX5_takes_4 : decode cX5_takes 4 = .ok (.iload_n 1, 1) := by decide +kernel
theorem dX5_takes_5 : decode cX5_takes 5 = .ok (.invokevirtual 109, 3) := by decide +kernel
theorem dX5_takes_8 : decode cX5_takes 8 = .ok (.ifCond .ne 5, 3) := by decide +kernel
theorem dX5_takes_11 : decode cX5_takes 11 = .ok (.iconst (-1), 1) := by decide +kernel
theorem dX5_takes_12 : decode cX5_takes 12 = .ok (.ireturn, 1) := by decide +kernel
theorem dX5_takes_13 : decode cX5_takes 13 = .ok (.aload_n 0, 1) := by decide +kernel
theorem dX5_takes_14 : decode cX5_takes 14 = .ok (.getfield 19, 3) := by decide +kernel
theorem dX5_takes_17 : decode cX5_takes 17 = .ok (.getfield 122, 3) := by decide +kernel
theorem dX5_takes_20 : decode cX5_takes 20 = .ok (.iload_n 1, 1) := by decide +kernel
theorem dX5_takes_21 : decode cX5_takes 21 = .ok (.iaload, 1) := by decide +kernel
theorem dX5_takes_22 : decode cX5_takes 22 = .ok (.iconst (-1), 1) := by decide +kernel
theorem dX5_takes_23 : decode cX5_takes 23 = .ok (.if_icmp .ne 6, 3) := by decide +kernel
theorem dX5_takes_26 : decode cX5_takes 26 = .ok (.bipush (-2), 2) := by decide +kernel
theorem dX5_takes_28 : decode cX5_takes 28 = .ok (.ireturn, 1) := by decide +kernel
theorem dX5_takes_29 : decode cX5_takes 29 = .ok (.aload_n 0, 1) := by decide +kernel
theorem dX5_takes_30 : decode cX5_takes 30 = .ok (.getfield 19, 3) := by decide +kernel
theorem dX5_takes_33 : decode cX5_takes 33 = .ok (.iload_n 1, 1) := by decide +kernel
theorem dX5_takes_34 : decode cX5_takes 34 = .ok (.iconst (-1), 1) := by decide +kernel
theorem dX5_takes_35 : decode cX5_takes 35 = .ok (.invokevirtual 129, 3) := by decide +kernel
theorem dX5_takes_38 : decode cX5_takes 38 = .ok (.aload_n 0, 1) := by decide +kernel
theorem dX5_takes_39 : decode cX5_takes 39 = .ok (.invokevirtual 133, 3) := by decide +kernel
theorem dX5_takes_42 : decode cX5_takes 42 = .ok (.invokestatic 137, 3) := by decide +kernel
theorem dX5_takes_45 : decode cX5_takes 45 = .ok (.ireturn, 1) := by decide +kernel
set_option maxRecDepth 20000 in
theorem ggX5_swaps_X0_has : GoodIn wsX5_swaps wsX0_has := goodIn_r _ [6, 7, 88, 89, 90, 91, 92, 93, 94, 95, 96] (by decide +kernel) (by decide +kernel)
set_option maxRecDepth 20000 in
theorem gX5_swaps_X0_has : GoodIn wsX5_swaps (wsV RX5 109 RX0 yX0_has wsX0_has) := goodIn_app (goodIn_of _ (by decide +kernel)) ggX5_swaps_X0_has
set_option maxRecDepth 20000 in
theorem ggX5_swaps_X0_mayTrade : GoodIn wsX5_swaps wsX0_mayTrade := goodIn_r _ [11, 12, 13, 14, 5, 15, 16, 17, 18, 19, 20, 21, 7, 22, 23, 24, 25, 26, 88, 89, 90, 91, 92, 93, 94, 95, 96] (by decide +kernel) (by decide +kernel)
set_option maxRecDepth 20000 in
theorem gX5_swaps_X0_mayTrade : GoodIn wsX5_swaps (wsV RX5 143 RX0 yX0_mayTrade wsX0_mayTrade) := goodIn_app (goodIn_of _ (by decide +kernel)) ggX5_swaps_X0_mayTrade
set_option maxRecDepth 20000 in
theorem ggX5_swaps_X0_trade : GoodIn wsX5_swaps wsX0_trade := goodIn_r _ [30, 16, 31, 32, 33, 5, 34, 35, 36, 37, 38, 39, 40, 41, 42, 43, 44, 7, 88, 89, 90, 91, 92, 93, 94, 95, 96] (by decide +kernel) (by decide +kernel)
set_option maxRecDepth 20000 in
theorem gX5_swaps_X0_trade : GoodIn wsX5_swaps (wsV RX5 146 RX0 yX0_trade wsX0_trade) := goodIn_app (goodIn_of _ (by decide +kernel)) ggX5_swaps_X0_trade
set_option maxRecDepth 20000 in
theorem ggX5_swaps_X5_fitting : GoodIn wsX5_swaps wsX5_fitting := goodIn_r _ [48, 49, 50, 51, 25, 52, 53, 1, 54, 24, 26, 55, 56, 57, 5, 58, 40, 59, 60, 61, 62, 63, 64, 65, 66, 67, 68, 69, 70, 78, 79, 80, 81, 82, 83, 84, 85, 86, 87, 97, 98, 99, 88, 89, 90, 91, 92, 93, 94, 95, 96] (by decide +kernel) (by decide +kernel)
set_option maxRecDepth 20000 in
theorem gX5_swaps_X5_fitting : GoodIn wsX5_swaps (wsV RX5 133 RX5 yX5_fitting wsX5_fitting) := goodIn_app (goodIn_of _ (by decide +kernel)) ggX5_swaps_X5_fitting
set_option maxRecDepth 20000 in
theorem ggX5_swaps_J6_bitCount_0f7a4 : GoodIn wsX5_swaps wsJ6_bitCount_0f7a4 := goodIn_r _ [74, 75, 76, 77] (by decide +kernel) (by decide +kernel)
set_option maxRecDepth 20000 in
theorem gX5_swaps_J6_bitCount_0f7a4 : GoodIn wsX5_swaps (va_wsS RX5 137 yJ6_bitCount_0f7a4 wsJ6_bitCount_0f7a4) := goodIn_app (goodIn_of _ (by decide +kernel)) ggX5_swaps_J6_bitCount_0f7a4
theorem dX5_swaps_0 : decode cX5_swaps 0 = .ok (.aload_n 0, 1) := by decide +kernel
theorem dX5_swaps_1 : decode cX5_swaps 1 = .ok (.getfield 19, 3) := by decide +kernel
theorem dX5_swaps_4 : decode cX5_swaps 4 = .ok (.iload_n 1, 1) := by decide +kernel
theorem dX5_swaps_5 : decode cX5_swaps 5 = .ok (.invokevirtual 109, 3) := by decide +kernel
theorem dX5_swaps_8 : decode cX5_swaps 8 = .ok (.ifCond .eq 14, 3) := by decide +kernel
theorem dX5_swaps_11 : decode cX5_swaps 11 = .ok (.aload_n 0, 1) := by decide +kernel
theorem dX5_swaps_12 : decode cX5_swaps 12 = .ok (.getfield 19, 3) := by decide +kernel
theorem dX5_swaps_15 : decode cX5_swaps 15 = .ok (.iload_n 2, 1) := by decide +kernel
theorem dX5_swaps_16 : decode cX5_swaps 16 = .ok (.invokevirtual 109, 3) := by decide +kernel
theorem dX5_swaps_19 : decode cX5_swaps 19 = .ok (.ifCond .ne 5, 3) := by decide +kernel
theorem dX5_swaps_22 : decode cX5_swaps 22 = .ok (.iconst (-1), 1) := by decide +kernel
theorem dX5_swaps_23 : decode cX5_swaps 23 = .ok (.ireturn, 1) := by decide +kernel
theorem dX5_swaps_24 : decode cX5_swaps 24 = .ok (.aload_n 0, 1) := by decide +kernel
theorem dX5_swaps_25 : decode cX5_swaps 25 = .ok (.getfield 19, 3) := by decide +kernel
theorem dX5_swaps_28 : decode cX5_swaps 28 = .ok (.getfield 122, 3) := by decide +kernel
theorem dX5_swaps_31 : decode cX5_swaps 31 = .ok (.iload_n 1, 1) := by decide +kernel
theorem dX5_swaps_32 : decode cX5_swaps 32 = .ok (.iaload, 1) := by decide +kernel
theorem dX5_swaps_33 : decode cX5_swaps 33 = .ok (.aload_n 0, 1) := by decide +kernel
theorem dX5_swaps_34 : decode cX5_swaps 34 = .ok (.getfield 19, 3) := by decide +kernel
theorem dX5_swaps_37 : decode cX5_swaps 37 = .ok (.getfield 122, 3) := by decide +kernel
theorem dX5_swaps_40 : decode cX5_swaps 40 = .ok (.iload_n 2, 1) := by decide +kernel
theorem dX5_swaps_41 : decode cX5_swaps 41 = .ok (.iaload, 1) := by decide +kernel
theorem dX5_swaps_42 : decode cX5_swaps 42 = .ok (.if_icmp .ne 6, 3) := by decide +kernel
theorem dX5_swaps_45 : decode cX5_swaps 45 = .ok (.bipush (-2), 2) := by decide +kernel
theorem dX5_swaps_47 : decode cX5_swaps 47 = .ok (.ireturn, 1) := by decide +kernel
theorem dX5_swaps_48 : decode cX5_swaps 48 = .ok (.aload_n 0, 1) := by decide +kernel
theorem dX5_swaps_49 : decode cX5_swaps 49 = .ok (.getfield 19, 3) := by decide +kernel
theorem dX5_swaps_52 : decode cX5_swaps 52 = .ok (.iload_n 1, 1) := by decide +kernel
theorem dX5_swaps_53 : decode cX5_swaps 53 = .ok (.iload_n 2, 1) := by decide +kernel
theorem dX5_swaps_54 : decode cX5_swaps 54 = .ok (.invokevirtual 143, 3) := by decide +kernel
theorem dX5_swaps_57 : decode cX5_swaps 57 = .ok (.ifCond .ne 6, 3) := by decide +kernel
theorem dX5_swaps_60 : decode cX5_swaps 60 = .ok (.bipush (-3), 2) := by decide +kernel
theorem dX5_swaps_62 : decode cX5_swaps 62 = .ok (.ireturn, 1) := by decide +kernel
theorem dX5_swaps_63 : decode cX5_swaps 63 = .ok (.aload_n 0, 1) := by decide +kernel
theorem dX5_swaps_64 : decode cX5_swaps 64 = .ok (.getfield 19, 3) := by decide +kernel
theorem dX5_swaps_67 : decode cX5_swaps 67 = .ok (.iload_n 1, 1) := by decide +kernel
theorem dX5_swaps_68 : decode cX5_swaps 68 = .ok (.iload_n 2, 1) := by decide +kernel
theorem dX5_swaps_69 : decode cX5_swaps 69 = .ok (.invokevirtual 146, 3) := by decide +kernel
theorem dX5_swaps_72 : decode cX5_swaps 72 = .ok (.aload_n 0, 1) := by decide +kernel
theorem dX5_swaps_73 : decode cX5_swaps 73 = .ok (.invokevirtual 133, 3) := by decide +kernel
theorem dX5_swaps_76 : decode cX5_swaps 76 = .ok (.invokestatic 137, 3) := by decide +kernel
theorem dX5_swaps_79 : decode cX5_swaps 79 = .ok (.ireturn, 1) := by decide +kernel
set_option maxRecDepth 20000 in
theorem ggX5_bars_X5_isTeacher : GoodIn wsX5_bars wsX5_isTeacher := goodIn_r _ [5] (by decide +kernel) (by decide +kernel)
set_option maxRecDepth 20000 in
theorem gX5_bars_X5_isTeacher : GoodIn wsX5_bars (va_wsS RX5 99 yX5_isTeacher wsX5_isTeacher) := goodIn_app (goodIn_of _ (by decide +kernel)) ggX5_bars_X5_isTeacher
set_option maxRecDepth 20000 in
theorem ggX5_bars_X0_hasColumn : GoodIn wsX5_bars wsX0_hasColumn := goodIn_r _ [10, 11, 32, 33, 34, 35, 36, 37, 38, 39, 40] (by decide +kernel) (by decide +kernel)
set_option maxRecDepth 20000 in
theorem gX5_bars_X0_hasColumn : GoodIn wsX5_bars (wsV RX5 119 RX0 yX0_hasColumn wsX0_hasColumn) := goodIn_app (goodIn_of _ (by decide +kernel)) ggX5_bars_X0_hasColumn
set_option maxRecDepth 20000 in
theorem ggX5_bars_X5_hasBit : GoodIn wsX5_bars wsX5_hasBit := goodIn_r _ [14] (by decide +kernel) (by decide +kernel)
set_option maxRecDepth 20000 in
theorem gX5_bars_X5_hasBit : GoodIn wsX5_bars (va_wsS RX5 152 yX5_hasBit wsX5_hasBit) := goodIn_app (goodIn_of _ (by decide +kernel)) ggX5_bars_X5_hasBit
set_option maxRecDepth 20000 in
theorem ggX5_bars_X0_teaches : GoodIn wsX5_bars wsX0_teaches := goodIn_r _ [18, 19, 20, 21, 32, 33, 34, 35, 36, 37, 38, 39, 40] (by decide +kernel) (by decide +kernel)
set_option maxRecDepth 20000 in
theorem gX5_bars_X0_teaches : GoodIn wsX5_bars (wsV RX5 155 RX0 yX0_teaches wsX0_teaches) := goodIn_app (goodIn_of _ (by decide +kernel)) ggX5_bars_X0_teaches
theorem dX5_bars_0 : decode cX5_bars 0 = .ok (.iload_n 1, 1) := by decide +kernel
theorem dX5_bars_1 : decode cX5_bars 1 = .ok (.invokestatic 99, 3) := by decide +kernel
theorem dX5_bars_4 : decode cX5_bars 4 = .ok (.ifCond .eq 14, 3) := by decide +kernel
theorem dX5_bars_7 : decode cX5_bars 7 = .ok (.aload_n 0, 1) := by decide +kernel
theorem dX5_bars_8 : decode cX5_bars 8 = .ok (.getfield 19, 3) := by decide +kernel
theorem dX5_bars_11 : decode cX5_bars 11 = .ok (.iload_n 2, 1) := by decide +kernel
theorem dX5_bars_12 : decode cX5_bars 12 = .ok (.invokevirtual 119, 3) := by decide +kernel
theorem dX5_bars_15 : decode cX5_bars 15 = .ok (.ifCond .ne 5, 3) := by decide +kernel
theorem dX5_bars_18 : decode cX5_bars 18 = .ok (.iconst (-1), 1) := by decide +kernel
theorem dX5_bars_19 : decode cX5_bars 19 = .ok (.ireturn, 1) := by decide +kernel
theorem dX5_bars_20 : decode cX5_bars 20 = .ok (.aload_n 0, 1) := by decide +kernel
theorem dX5_bars_21 : decode cX5_bars 21 = .ok (.getfield 19, 3) := by decide +kernel
theorem dX5_bars_24 : decode cX5_bars 24 = .ok (.getfield 149, 3) := by decide +kernel
theorem dX5_bars_27 : decode cX5_bars 27 = .ok (.iload_n 1, 1) := by decide +kernel
theorem dX5_bars_28 : decode cX5_bars 28 = .ok (.iaload, 1) := by decide +kernel
theorem dX5_bars_29 : decode cX5_bars 29 = .ok (.iload_n 2, 1) := by decide +kernel
theorem dX5_bars_30 : decode cX5_bars 30 = .ok (.invokestatic 152, 3) := by decide +kernel
theorem dX5_bars_33 : decode cX5_bars 33 = .ok (.istore 4, 2) := by decide +kernel
theorem dX5_bars_35 : decode cX5_bars 35 = .ok (.iload 4, 2) := by decide +kernel
theorem dX5_bars_37 : decode cX5_bars 37 = .ok (.iload_n 3, 1) := by decide +kernel
theorem dX5_bars_38 : decode cX5_bars 38 = .ok (.if_icmp .ne 6, 3) := by decide +kernel
theorem dX5_bars_41 : decode cX5_bars 41 = .ok (.bipush (-2), 2) := by decide +kernel
theorem dX5_bars_43 : decode cX5_bars 43 = .ok (.ireturn, 1) := by decide +kernel
theorem dX5_bars_44 : decode cX5_bars 44 = .ok (.iload_n 3, 1) := by decide +kernel
theorem dX5_bars_45 : decode cX5_bars 45 = .ok (.ifCond .eq 18, 3) := by decide +kernel
theorem dX5_bars_48 : decode cX5_bars 48 = .ok (.aload_n 0, 1) := by decide +kernel
theorem dX5_bars_49 : decode cX5_bars 49 = .ok (.getfield 19, 3) := by decide +kernel
theorem dX5_bars_52 : decode cX5_bars 52 = .ok (.iload_n 1, 1) := by decide +kernel
theorem dX5_bars_53 : decode cX5_bars 53 = .ok (.iload_n 2, 1) := by decide +kernel
theorem dX5_bars_54 : decode cX5_bars 54 = .ok (.invokevirtual 155, 3) := by decide +kernel
theorem dX5_bars_57 : decode cX5_bars 57 = .ok (.ifCond .eq 6, 3) := by decide +kernel
theorem dX5_bars_60 : decode cX5_bars 60 = .ok (.bipush (-3), 2) := by decide +kernel
theorem dX5_bars_62 : decode cX5_bars 62 = .ok (.ireturn, 1) := by decide +kernel
theorem dX5_bars_63 : decode cX5_bars 63 = .ok (.aload_n 0, 1) := by decide +kernel
theorem dX5_bars_64 : decode cX5_bars 64 = .ok (.getfield 19, 3) := by decide +kernel
theorem dX5_bars_67 : decode cX5_bars 67 = .ok (.getfield 149, 3) := by decide +kernel
theorem dX5_bars_70 : decode cX5_bars 70 = .ok (.iload_n 1, 1) := by decide +kernel
theorem dX5_bars_71 : decode cX5_bars 71 = .ok (.dup2, 1) := by decide +kernel
theorem dX5_bars_72 : decode cX5_bars 72 = .ok (.iaload, 1) := by decide +kernel
theorem dX5_bars_73 : decode cX5_bars 73 = .ok (.iconst 1, 1) := by decide +kernel
theorem dX5_bars_74 : decode cX5_bars 74 = .ok (.iload_n 2, 1) := by decide +kernel
theorem dX5_bars_75 : decode cX5_bars 75 = .ok (.ishl, 1) := by decide +kernel
theorem dX5_bars_76 : decode cX5_bars 76 = .ok (.ixor, 1) := by decide +kernel
theorem dX5_bars_77 : decode cX5_bars 77 = .ok (.iastore, 1) := by decide +kernel
theorem dX5_bars_78 : decode cX5_bars 78 = .ok (.aload_n 0, 1) := by decide +kernel
theorem dX5_bars_79 : decode cX5_bars 79 = .ok (.getfield 19, 3) := by decide +kernel
theorem dX5_bars_82 : decode cX5_bars 82 = .ok (.getfield 149, 3) := by decide +kernel
theorem dX5_bars_85 : decode cX5_bars 85 = .ok (.iload_n 1, 1) := by decide +kernel
theorem dX5_bars_86 : decode cX5_bars 86 = .ok (.iaload, 1) := by decide +kernel
theorem dX5_bars_87 : decode cX5_bars 87 = .ok (.ireturn, 1) := by decide +kernel
set_option maxRecDepth 20000 in
theorem ggX5_rooms_X0_sectionsIn : GoodIn wsX5_rooms wsX0_sectionsIn := goodIn_r _ [6, 7, 8, 26, 27, 28, 29, 30, 31, 32, 33, 34] (by decide +kernel) (by decide +kernel)
set_option maxRecDepth 20000 in
theorem gX5_rooms_X0_sectionsIn : GoodIn wsX5_rooms (wsV RX5 161 RX0 yX0_sectionsIn wsX0_sectionsIn) := goodIn_app (goodIn_of _ (by decide +kernel)) ggX5_rooms_X0_sectionsIn
set_option maxRecDepth 20000 in
theorem ggX5_rooms_J6_bitCount_0f7a4 : GoodIn wsX5_rooms wsJ6_bitCount_0f7a4 := goodIn_r _ [12, 13, 14, 15] (by decide +kernel) (by decide +kernel)
set_option maxRecDepth 20000 in
theorem gX5_rooms_J6_bitCount_0f7a4 : GoodIn wsX5_rooms (va_wsS RX5 137 yJ6_bitCount_0f7a4 wsJ6_bitCount_0f7a4) := goodIn_app (goodIn_of _ (by decide +kernel)) ggX5_rooms_J6_bitCount_0f7a4
theorem dX5_rooms_0 : decode cX5_rooms 0 = .ok (.iload_n 1, 1) := by decide +kernel
theorem dX5_rooms_1 : decode cX5_rooms 1 = .ok (.iconst 1, 1) := by decide +kernel
theorem dX5_rooms_2 : decode cX5_rooms 2 = .ok (.if_icmp .lt 9, 3) := by decide +kernel
theorem dX5_rooms_5 : decode cX5_rooms 5 = .ok (.iload_n 1, 1) := by decide +kernel
theorem dX5_rooms_6 : decode cX5_rooms 6 = .ok (.bipush 9, 2) := by decide +kernel
theorem dX5_rooms_8 : decode cX5_rooms 8 = .ok (.if_icmp .le 5, 3) := by decide +kernel
theorem dX5_rooms_11 : decode cX5_rooms 11 = .ok (.iconst (-1), 1) := by decide +kernel
theorem dX5_rooms_12 : decode cX5_rooms 12 = .ok (.ireturn, 1) := by decide +kernel
theorem dX5_rooms_13 : decode cX5_rooms 13 = .ok (.iconst 0, 1) := by decide +kernel
theorem dX5_rooms_14 : decode cX5_rooms 14 = .ok (.istore_n 2, 1) := by decide +kernel
theorem dX5_rooms_15 : decode cX5_rooms 15 = .ok (.iload_n 2, 1) := by decide +kernel
theorem dX5_rooms_16 : decode cX5_rooms 16 = .ok (.aload_n 0, 1) := by decide +kernel
theorem dX5_rooms_17 : decode cX5_rooms 17 = .ok (.getfield 19, 3) := by decide +kernel
theorem dX5_rooms_20 : decode cX5_rooms 20 = .ok (.getfield 158, 3) := by decide +kernel
theorem dX5_rooms_23 : decode cX5_rooms 23 = .ok (.if_icmp .ge 27, 3) := by decide +kernel
theorem dX5_rooms_26 : decode cX5_rooms 26 = .ok (.aload_n 0, 1) := by decide +kernel
theorem dX5_rooms_27 : decode cX5_rooms 27 = .ok (.getfield 19, 3) := by decide +kernel
theorem dX5_rooms_30 : decode cX5_rooms 30 = .ok (.iload_n 2, 1) := by decide +kernel
theorem dX5_rooms_31 : decode cX5_rooms 31 = .ok (.invokevirtual 161, 3) := by decide +kernel
theorem dX5_rooms_34 : decode cX5_rooms 34 = .ok (.invokestatic 137, 3) := by decide +kernel
theorem dX5_rooms_37 : decode cX5_rooms 37 = .ok (.iload_n 1, 1) := by decide +kernel
theorem dX5_rooms_38 : decode cX5_rooms 38 = .ok (.if_icmp .le 6, 3) := by decide +kernel
theorem dX5_rooms_41 : decode cX5_rooms 41 = .ok (.bipush (-3), 2) := by decide +kernel
theorem dX5_rooms_43 : decode cX5_rooms 43 = .ok (.ireturn, 1) := by decide +kernel
theorem dX5_rooms_44 : decode cX5_rooms 44 = .ok (.iinc 2 1, 3) := by decide +kernel
theorem dX5_rooms_47 : decode cX5_rooms 47 = .ok (.goto (-32), 3) := by decide +kernel
theorem dX5_rooms_50 : decode cX5_rooms 50 = .ok (.aload_n 0, 1) := by decide +kernel
theorem dX5_rooms_51 : decode cX5_rooms 51 = .ok (.getfield 19, 3) := by decide +kernel
theorem dX5_rooms_54 : decode cX5_rooms 54 = .ok (.getfield 164, 3) := by decide +kernel
theorem dX5_rooms_57 : decode cX5_rooms 57 = .ok (.istore_n 2, 1) := by decide +kernel
theorem dX5_rooms_58 : decode cX5_rooms 58 = .ok (.aload_n 0, 1) := by decide +kernel
theorem dX5_rooms_59 : decode cX5_rooms 59 = .ok (.getfield 19, 3) := by decide +kernel
theorem dX5_rooms_62 : decode cX5_rooms 62 = .ok (.iload_n 1, 1) := by decide +kernel
theorem dX5_rooms_63 : decode cX5_rooms 63 = .ok (.putfield 164, 3) := by decide +kernel
theorem dX5_rooms_66 : decode cX5_rooms 66 = .ok (.iload_n 2, 1) := by decide +kernel
theorem dX5_rooms_67 : decode cX5_rooms 67 = .ok (.ireturn, 1) := by decide +kernel
set_option maxRecDepth 20000 in
theorem ggX5_chooses_X1_has : GoodIn wsX5_chooses wsX1_has := goodIn_r _ [6, 7, 32, 33, 34] (by decide +kernel) (by decide +kernel)
set_option maxRecDepth 20000 in
theorem gX5_chooses_X1_has : GoodIn wsX5_chooses (wsV RX5 167 RX1 yX1_has wsX1_has) := goodIn_app (goodIn_of _ (by decide +kernel)) ggX5_chooses_X1_has
set_option maxRecDepth 20000 in
theorem ggX5_chooses_X5_isSubject : GoodIn wsX5_chooses wsX5_isSubject := goodIn_r _ [11] (by decide +kernel) (by decide +kernel)
set_option maxRecDepth 20000 in
theorem gX5_chooses_X5_isSubject : GoodIn wsX5_chooses (va_wsS RX5 96 yX5_isSubject wsX5_isSubject) := goodIn_app (goodIn_of _ (by decide +kernel)) ggX5_chooses_X5_isSubject
set_option maxRecDepth 20000 in
theorem ggX5_chooses_X5_hasBit : GoodIn wsX5_chooses wsX5_hasBit := goodIn_r _ [14] (by decide +kernel) (by decide +kernel)
set_option maxRecDepth 20000 in
theorem gX5_chooses_X5_hasBit : GoodIn wsX5_chooses (va_wsS RX5 152 yX5_hasBit wsX5_hasBit) := goodIn_app (goodIn_of _ (by decide +kernel)) ggX5_chooses_X5_hasBit
set_option maxRecDepth 20000 in
theorem ggX5_chooses_J6_bitCount_0f7a4 : GoodIn wsX5_chooses wsJ6_bitCount_0f7a4 := goodIn_r _ [18, 19, 20, 21] (by decide +kernel) (by decide +kernel)
set_option maxRecDepth 20000 in
theorem gX5_chooses_J6_bitCount_0f7a4 : GoodIn wsX5_chooses (va_wsS RX5 137 yJ6_bitCount_0f7a4 wsJ6_bitCount_0f7a4) := goodIn_app (goodIn_of _ (by decide +kernel)) ggX5_chooses_J6_bitCount_0f7a4
theorem dX5_chooses_0 : decode cX5_chooses 0 = .ok (.aload_n 0, 1) := by decide +kernel
theorem dX5_chooses_1 : decode cX5_chooses 1 = .ok (.getfield 29, 3) := by decide +kernel
theorem dX5_chooses_4 : decode cX5_chooses 4 = .ok (.iload_n 1, 1) := by decide +kernel
theorem dX5_chooses_5 : decode cX5_chooses 5 = .ok (.invokevirtual 167, 3) := by decide +kernel
theorem dX5_chooses_8 : decode cX5_chooses 8 = .ok (.ifCond .eq 10, 3) := by decide +kernel
theorem dX5_chooses_11 : decode cX5_chooses 11 = .ok (.iload_n 2, 1) := by decide +kernel
theorem dX5_chooses_12 : decode cX5_chooses 12 = .ok (.invokestatic 96, 3) := by decide +kernel
theorem dX5_chooses_15 : decode cX5_chooses 15 = .ok (.ifCond .ne 5, 3) := by decide +kernel
theorem dX5_chooses_18 : decode cX5_chooses 18 = .ok (.iconst (-1), 1) := by decide +kernel
theorem dX5_chooses_19 : decode cX5_chooses 19 = .ok (.ireturn, 1) := by decide +kernel
theorem dX5_chooses_20 : decode cX5_chooses 20 = .ok (.aload_n 0, 1) := by decide +kernel
theorem dX5_chooses_21 : decode cX5_chooses 21 = .ok (.getfield 29, 3) := by decide +kernel
theorem dX5_chooses_24 : decode cX5_chooses 24 = .ok (.getfield 168, 3) := by decide +kernel
theorem dX5_chooses_27 : decode cX5_chooses 27 = .ok (.iload_n 1, 1) := by decide +kernel
theorem dX5_chooses_28 : decode cX5_chooses 28 = .ok (.iaload, 1) := by decide +kernel
theorem dX5_chooses_29 : decode cX5_chooses 29 = .ok (.istore 4, 2) := by decide +kernel
theorem dX5_chooses_31 : decode cX5_chooses 31 = .ok (.iload 4, 2) := by decide +kernel
theorem dX5_chooses_33 : decode cX5_chooses 33 = .ok (.iload_n 2, 1) := by decide +kernel
theorem dX5_chooses_34 : decode cX5_chooses 34 = .ok (.invokestatic 152, 3) := by decide +kernel
theorem dX5_chooses_37 : decode cX5_chooses 37 = .ok (.iload_n 3, 1) := by decide +kernel
theorem dX5_chooses_38 : decode cX5_chooses 38 = .ok (.if_icmp .ne 6, 3) := by decide +kernel
theorem dX5_chooses_41 : decode cX5_chooses 41 = .ok (.bipush (-2), 2) := by decide +kernel
theorem dX5_chooses_43 : decode cX5_chooses 43 = .ok (.ireturn, 1) := by decide +kernel
theorem dX5_chooses_44 : decode cX5_chooses 44 = .ok (.iload 4, 2) := by decide +kernel
theorem dX5_chooses_46 : decode cX5_chooses 46 = .ok (.iconst 1, 1) := by decide +kernel
theorem dX5_chooses_47 : decode cX5_chooses 47 = .ok (.iload_n 2, 1) := by decide +kernel
theorem dX5_chooses_48 : decode cX5_chooses 48 = .ok (.ishl, 1) := by decide +kernel
theorem dX5_chooses_49 : decode cX5_chooses 49 = .ok (.ixor, 1) := by decide +kernel
theorem dX5_chooses_50 : decode cX5_chooses 50 = .ok (.istore 5, 2) := by decide +kernel
theorem dX5_chooses_52 : decode cX5_chooses 52 = .ok (.iload 5, 2) := by decide +kernel
theorem dX5_chooses_54 : decode cX5_chooses 54 = .ok (.ifCond .eq 13, 3) := by decide +kernel
theorem dX5_chooses_57 : decode cX5_chooses 57 = .ok (.iload 5, 2) := by decide +kernel
theorem dX5_chooses_59 : decode cX5_chooses 59 = .ok (.invokestatic 137, 3) := by decide +kernel
theorem dX5_chooses_62 : decode cX5_chooses 62 = .ok (.bipush 6, 2) := by decide +kernel
theorem dX5_chooses_64 : decode cX5_chooses 64 = .ok (.if_icmp .le 6, 3) := by decide +kernel
theorem dX5_chooses_67 : decode cX5_chooses 67 = .ok (.bipush (-3), 2) := by decide +kernel
theorem dX5_chooses_69 : decode cX5_chooses 69 = .ok (.ireturn, 1) := by decide +kernel
theorem dX5_chooses_70 : decode cX5_chooses 70 = .ok (.aload_n 0, 1) := by decide +kernel
theorem dX5_chooses_71 : decode cX5_chooses 71 = .ok (.getfield 29, 3) := by decide +kernel
theorem dX5_chooses_74 : decode cX5_chooses 74 = .ok (.getfield 168, 3) := by decide +kernel
theorem dX5_chooses_77 : decode cX5_chooses 77 = .ok (.iload_n 1, 1) := by decide +kernel
theorem dX5_chooses_78 : decode cX5_chooses 78 = .ok (.iload 5, 2) := by decide +kernel
theorem dX5_chooses_80 : decode cX5_chooses 80 = .ok (.iastore, 1) := by decide +kernel
theorem dX5_chooses_81 : decode cX5_chooses 81 = .ok (.iload 5, 2) := by decide +kernel
theorem dX5_chooses_83 : decode cX5_chooses 83 = .ok (.ireturn, 1) := by decide +kernel
set_option maxRecDepth 20000 in
theorem ggX5_keeps_X1_has : GoodIn wsX5_keeps wsX1_has := goodIn_r _ [6, 7, 29, 30, 31] (by decide +kernel) (by decide +kernel)
set_option maxRecDepth 20000 in
theorem gX5_keeps_X1_has : GoodIn wsX5_keeps (wsV RX5 167 RX1 yX1_has wsX1_has) := goodIn_app (goodIn_of _ (by decide +kernel)) ggX5_keeps_X1_has
set_option maxRecDepth 20000 in
theorem ggX5_keeps_X5_hasBit : GoodIn wsX5_keeps wsX5_hasBit := goodIn_r _ [11] (by decide +kernel) (by decide +kernel)
set_option maxRecDepth 20000 in
theorem gX5_keeps_X5_hasBit : GoodIn wsX5_keeps (va_wsS RX5 152 yX5_hasBit wsX5_hasBit) := goodIn_app (goodIn_of _ (by decide +kernel)) ggX5_keeps_X5_hasBit
set_option maxRecDepth 20000 in
theorem ggX5_keeps_J6_bitCount_0f7a4 : GoodIn wsX5_keeps wsJ6_bitCount_0f7a4 := goodIn_r _ [15, 16, 17, 18] (by decide +kernel) (by decide +kernel)
set_option maxRecDepth 20000 in
theorem gX5_keeps_J6_bitCount_0f7a4 : GoodIn wsX5_keeps (va_wsS RX5 137 yJ6_bitCount_0f7a4 wsJ6_bitCount_0f7a4) := goodIn_app (goodIn_of _ (by decide +kernel)) ggX5_keeps_J6_bitCount_0f7a4
theorem dX5_keeps_0 : decode cX5_keeps 0 = .ok (.aload_n 0, 1) := by decide +kernel
theorem dX5_keeps_1 : decode cX5_keeps 1 = .ok (.getfield 29, 3) := by decide +kernel
theorem dX5_keeps_4 : decode cX5_keeps 4 = .ok (.iload_n 1, 1) := by decide +kernel
theorem dX5_keeps_5 : decode cX5_keeps 5 = .ok (.invokevirtual 167, 3) := by decide +kernel
theorem dX5_keeps_8 : decode cX5_keeps 8 = .ok (.ifCond .ne 5, 3) := by decide +kernel
theorem dX5_keeps_11 : decode cX5_keeps 11 = .ok (.iconst (-1), 1) := by decide +kernel
theorem dX5_keeps_12 : decode cX5_keeps 12 = .ok (.ireturn, 1) := by decide +kernel
theorem dX5_keeps_13 : decode cX5_keeps 13 = .ok (.aload_n 0, 1) := by decide +kernel
theorem dX5_keeps_14 : decode cX5_keeps 14 = .ok (.getfield 29, 3) := by decide +kernel
theorem dX5_keeps_17 : decode cX5_keeps 17 = .ok (.getfield 171, 3) := by decide +kernel
theorem dX5_keeps_20 : decode cX5_keeps 20 = .ok (.iload_n 1, 1) := by decide +kernel
theorem dX5_keeps_21 : decode cX5_keeps 21 = .ok (.invokestatic 152, 3) := by decide +kernel
theorem dX5_keeps_24 : decode cX5_keeps 24 = .ok (.iload_n 2, 1) := by decide +kernel
theorem dX5_keeps_25 : decode cX5_keeps 25 = .ok (.if_icmp .ne 6, 3) := by decide +kernel
theorem dX5_keeps_28 : decode cX5_keeps 28 = .ok (.bipush (-2), 2) := by decide +kernel
theorem dX5_keeps_30 : decode cX5_keeps 30 = .ok (.ireturn, 1) := by decide +kernel
theorem dX5_keeps_31 : decode cX5_keeps 31 = .ok (.aload_n 0, 1) := by decide +kernel
theorem dX5_keeps_32 : decode cX5_keeps 32 = .ok (.getfield 29, 3) := by decide +kernel
theorem dX5_keeps_35 : decode cX5_keeps 35 = .ok (.dup, 1) := by decide +kernel
theorem dX5_keeps_36 : decode cX5_keeps 36 = .ok (.getfield 171, 3) := by decide +kernel
theorem dX5_keeps_39 : decode cX5_keeps 39 = .ok (.iconst 1, 1) := by decide +kernel
theorem dX5_keeps_40 : decode cX5_keeps 40 = .ok (.iload_n 1, 1) := by decide +kernel
theorem dX5_keeps_41 : decode cX5_keeps 41 = .ok (.ishl, 1) := by decide +kernel
theorem dX5_keeps_42 : decode cX5_keeps 42 = .ok (.ixor, 1) := by decide +kernel
theorem dX5_keeps_43 : decode cX5_keeps 43 = .ok (.putfield 171, 3) := by decide +kernel
theorem dX5_keeps_46 : decode cX5_keeps 46 = .ok (.aload_n 0, 1) := by decide +kernel
theorem dX5_keeps_47 : decode cX5_keeps 47 = .ok (.getfield 29, 3) := by decide +kernel
theorem dX5_keeps_50 : decode cX5_keeps 50 = .ok (.getfield 171, 3) := by decide +kernel
theorem dX5_keeps_53 : decode cX5_keeps 53 = .ok (.invokestatic 137, 3) := by decide +kernel
theorem dX5_keeps_56 : decode cX5_keeps 56 = .ok (.ireturn, 1) := by decide +kernel
set_option maxRecDepth 20000 in
theorem ggX5_section_X0_has : GoodIn wsX5_section wsX0_has := goodIn_r _ [6, 7, 18, 19, 20, 21, 22, 23, 24, 25, 26] (by decide +kernel) (by decide +kernel)
set_option maxRecDepth 20000 in
theorem gX5_section_X0_has : GoodIn wsX5_section (wsV RX5 109 RX0 yX0_has wsX0_has) := goodIn_app (goodIn_of _ (by decide +kernel)) ggX5_section_X0_has
theorem dX5_section_0 : decode cX5_section 0 = .ok (.aload_n 0, 1) := by decide +kernel
theorem dX5_section_1 : decode cX5_section 1 = .ok (.getfield 19, 3) := by decide +kernel
theorem dX5_section_4 : decode cX5_section 4 = .ok (.iload_n 1, 1) := by decide +kernel
theorem dX5_section_5 : decode cX5_section 5 = .ok (.invokevirtual 109, 3) := by decide +kernel
theorem dX5_section_8 : decode cX5_section 8 = .ok (.ifCond .ne 5, 3) := by decide +kernel
theorem dX5_section_11 : decode cX5_section 11 = .ok (.iconst (-1), 1) := by decide +kernel
theorem dX5_section_12 : decode cX5_section 12 = .ok (.ireturn, 1) := by decide +kernel
theorem dX5_section_13 : decode cX5_section 13 = .ok (.iload_n 2, 1) := by decide +kernel
theorem dX5_section_14 : decode cX5_section 14 = .ok (.tableswitch 88 0 3 #[30, 40, 50, 60], 30) := by decide +kernel
theorem dX5_section_44 : decode cX5_section 44 = .ok (.aload_n 0, 1) := by decide +kernel
theorem dX5_section_45 : decode cX5_section 45 = .ok (.getfield 19, 3) := by decide +kernel
theorem dX5_section_48 : decode cX5_section 48 = .ok (.getfield 174, 3) := by decide +kernel
theorem dX5_section_51 : decode cX5_section 51 = .ok (.iload_n 1, 1) := by decide +kernel
theorem dX5_section_52 : decode cX5_section 52 = .ok (.iaload, 1) := by decide +kernel
theorem dX5_section_53 : decode cX5_section 53 = .ok (.ireturn, 1) := by decide +kernel
theorem dX5_section_54 : decode cX5_section 54 = .ok (.aload_n 0, 1) := by decide +kernel
theorem dX5_section_55 : decode cX5_section 55 = .ok (.getfield 19, 3) := by decide +kernel
theorem dX5_section_58 : decode cX5_section 58 = .ok (.getfield 177, 3) := by decide +kernel
theorem dX5_section_61 : decode cX5_section 61 = .ok (.iload_n 1, 1) := by decide +kernel
theorem dX5_section_62 : decode cX5_section 62 = .ok (.iaload, 1) := by decide +kernel
theorem dX5_section_63 : decode cX5_section 63 = .ok (.ireturn, 1) := by decide +kernel
theorem dX5_section_64 : decode cX5_section 64 = .ok (.aload_n 0, 1) := by decide +kernel
theorem dX5_section_65 : decode cX5_section 65 = .ok (.getfield 19, 3) := by decide +kernel
theorem dX5_section_68 : decode cX5_section 68 = .ok (.getfield 116, 3) := by decide +kernel
theorem dX5_section_71 : decode cX5_section 71 = .ok (.iload_n 1, 1) := by decide +kernel
theorem dX5_section_72 : decode cX5_section 72 = .ok (.iaload, 1) := by decide +kernel
theorem dX5_section_73 : decode cX5_section 73 = .ok (.ireturn, 1) := by decide +kernel
theorem dX5_section_74 : decode cX5_section 74 = .ok (.aload_n 0, 1) := by decide +kernel
theorem dX5_section_75 : decode cX5_section 75 = .ok (.getfield 19, 3) := by decide +kernel
theorem dX5_section_78 : decode cX5_section 78 = .ok (.getfield 122, 3) := by decide +kernel
theorem dX5_section_81 : decode cX5_section 81 = .ok (.iload_n 1, 1) := by decide +kernel
theorem dX5_section_82 : decode cX5_section 82 = .ok (.iaload, 1) := by decide +kernel
theorem dX5_section_83 : decode cX5_section 83 = .ok (.iconst (-1), 1) := by decide +kernel
theorem dX5_section_84 : decode cX5_section 84 = .ok (.if_icmp .ne 8, 3) := by decide +kernel
theorem dX5_section_87 : decode cX5_section 87 = .ok (.bipush (-2), 2) := by decide +kernel
theorem dX5_section_89 : decode cX5_section 89 = .ok (.goto 12, 3) := by decide +kernel
theorem dX5_section_92 : decode cX5_section 92 = .ok (.aload_n 0, 1) := by decide +kernel
theorem dX5_section_93 : decode cX5_section 93 = .ok (.getfield 19, 3) := by decide +kernel
theorem dX5_section_96 : decode cX5_section 96 = .ok (.getfield 122, 3) := by decide +kernel
theorem dX5_section_99 : decode cX5_section 99 = .ok (.iload_n 1, 1) := by decide +kernel
theorem dX5_section_100 : decode cX5_section 100 = .ok (.iaload, 1) := by decide +kernel
theorem dX5_section_101 : decode cX5_section 101 = .ok (.ireturn, 1) := by decide +kernel
theorem dX5_section_102 : decode cX5_section 102 = .ok (.iconst (-1), 1) := by decide +kernel
theorem dX5_section_103 : decode cX5_section 103 = .ok (.ireturn, 1) := by decide +kernel
set_option maxRecDepth 20000 in
theorem ggX5_column_X0_hasColumn : GoodIn wsX5_column wsX0_hasColumn := goodIn_r _ [6, 7, 45, 46, 47, 48, 49, 50, 51, 52, 53] (by decide +kernel) (by decide +kernel)
set_option maxRecDepth 20000 in
theorem gX5_column_X0_hasColumn : GoodIn wsX5_column (wsV RX5 119 RX0 yX0_hasColumn wsX0_hasColumn) := goodIn_app (goodIn_of _ (by decide +kernel)) ggX5_column_X0_hasColumn
set_option maxRecDepth 20000 in
theorem ggX5_column_X0_sectionsIn : GoodIn wsX5_column wsX0_sectionsIn := goodIn_r _ [11, 12, 13, 45, 46, 47, 48, 49, 50, 51, 52, 53] (by decide +kernel) (by decide +kernel)
set_option maxRecDepth 20000 in
theorem gX5_column_X0_sectionsIn : GoodIn wsX5_column (wsV RX5 161 RX0 yX0_sectionsIn wsX0_sectionsIn) := goodIn_app (goodIn_of _ (by decide +kernel)) ggX5_column_X0_sectionsIn
set_option maxRecDepth 20000 in
theorem ggX5_column_J6_bitCount_0f7a4 : GoodIn wsX5_column wsJ6_bitCount_0f7a4 := goodIn_r _ [17, 18, 19, 20] (by decide +kernel) (by decide +kernel)
set_option maxRecDepth 20000 in
theorem gX5_column_J6_bitCount_0f7a4 : GoodIn wsX5_column (va_wsS RX5 137 yJ6_bitCount_0f7a4 wsJ6_bitCount_0f7a4) := goodIn_app (goodIn_of _ (by decide +kernel)) ggX5_column_J6_bitCount_0f7a4
set_option maxRecDepth 20000 in
theorem ggX5_column_X0_subjectsIn : GoodIn wsX5_column wsX0_subjectsIn := goodIn_r _ [24, 25, 26, 27, 28, 45, 46, 47, 48, 49, 50, 51, 52, 53] (by decide +kernel) (by decide +kernel)
set_option maxRecDepth 20000 in
theorem gX5_column_X0_subjectsIn : GoodIn wsX5_column (wsV RX5 180 RX0 yX0_subjectsIn wsX0_subjectsIn) := goodIn_app (goodIn_of _ (by decide +kernel)) ggX5_column_X0_subjectsIn
set_option maxRecDepth 20000 in
theorem ggX5_column_X5_tell_ : GoodIn wsX5_column wsX5_tell_ := goodIn_r _ [32, 33, 34, 35, 36, 37, 38, 39, 40, 41, 42, 43, 44] (by decide +kernel) (by decide +kernel)
set_option maxRecDepth 20000 in
theorem gX5_column_X5_tell_ : GoodIn wsX5_column (wsV RX5 183 RX5 yX5_tell_ wsX5_tell_) := goodIn_app (goodIn_of _ (by decide +kernel)) ggX5_column_X5_tell_
theorem dX5_column_0 : decode cX5_column 0 = .ok (.aload_n 0, 1) := by decide +kernel
theorem dX5_column_1 : decode cX5_column 1 = .ok (.getfield 19, 3) := by decide +kernel
theorem dX5_column_4 : decode cX5_column 4 = .ok (.iload_n 1, 1) := by decide +kernel
theorem dX5_column_5 : decode cX5_column 5 = .ok (.invokevirtual 119, 3) := by decide +kernel
theorem dX5_column_8 : decode cX5_column 8 = .ok (.ifCond .ne 5, 3) := by decide +kernel
theorem dX5_column_11 : decode cX5_column 11 = .ok (.iconst (-1), 1) := by decide +kernel
theorem dX5_column_12 : decode cX5_column 12 = .ok (.ireturn, 1) := by decide +kernel
theorem dX5_column_13 : decode cX5_column 13 = .ok (.aload_n 0, 1) := by decide +kernel
theorem dX5_column_14 : decode cX5_column 14 = .ok (.getfield 19, 3) := by decide +kernel
theorem dX5_column_17 : decode cX5_column 17 = .ok (.iload_n 1, 1) := by decide +kernel
theorem dX5_column_18 : decode cX5_column 18 = .ok (.invokevirtual 161, 3) := by decide +kernel
theorem dX5_column_21 : decode cX5_column 21 = .ok (.istore_n 2, 1) := by decide +kernel
theorem dX5_column_22 : decode cX5_column 22 = .ok (.aload_n 0, 1) := by decide +kernel
theorem dX5_column_23 : decode cX5_column 23 = .ok (.iload_n 2, 1) := by decide +kernel
theorem dX5_column_24 : decode cX5_column 24 = .ok (.invokestatic 137, 3) := by decide +kernel
theorem dX5_column_27 : decode cX5_column 27 = .ok (.aload_n 0, 1) := by decide +kernel
theorem dX5_column_28 : decode cX5_column 28 = .ok (.getfield 19, 3) := by decide +kernel
theorem dX5_column_31 : decode cX5_column 31 = .ok (.iload_n 1, 1) := by decide +kernel
theorem dX5_column_32 : decode cX5_column 32 = .ok (.invokevirtual 180, 3) := by decide +kernel
theorem dX5_column_35 : decode cX5_column 35 = .ok (.invokevirtual 183, 3) := by decide +kernel
theorem dX5_column_38 : decode cX5_column 38 = .ok (.iload_n 2, 1) := by decide +kernel
theorem dX5_column_39 : decode cX5_column 39 = .ok (.ireturn, 1) := by decide +kernel
set_option maxRecDepth 20000 in
theorem ggX5_subject_X5_isSubject : GoodIn wsX5_subject wsX5_isSubject := goodIn_r _ [6] (by decide +kernel) (by decide +kernel)
set_option maxRecDepth 20000 in
theorem gX5_subject_X5_isSubject : GoodIn wsX5_subject (va_wsS RX5 96 yX5_isSubject wsX5_isSubject) := goodIn_app (goodIn_of _ (by decide +kernel)) ggX5_subject_X5_isSubject
set_option maxRecDepth 20000 in
theorem ggX5_subject_X1_choosersOf : GoodIn wsX5_subject wsX1_choosersOf := goodIn_r _ [11, 12, 13, 50, 51, 52] (by decide +kernel) (by decide +kernel)
set_option maxRecDepth 20000 in
theorem gX5_subject_X1_choosersOf : GoodIn wsX5_subject (wsV RX5 186 RX1 yX1_choosersOf wsX1_choosersOf) := goodIn_app (goodIn_of _ (by decide +kernel)) ggX5_subject_X1_choosersOf
set_option maxRecDepth 20000 in
theorem ggX5_subject_J6_bitCount_0f7a4 : GoodIn wsX5_subject wsJ6_bitCount_0f7a4 := goodIn_r _ [17, 18, 19, 20] (by decide +kernel) (by decide +kernel)
set_option maxRecDepth 20000 in
theorem gX5_subject_J6_bitCount_0f7a4 : GoodIn wsX5_subject (va_wsS RX5 137 yJ6_bitCount_0f7a4 wsJ6_bitCount_0f7a4) := goodIn_app (goodIn_of _ (by decide +kernel)) ggX5_subject_J6_bitCount_0f7a4
set_option maxRecDepth 20000 in
theorem ggX5_subject_X5_tell__ : GoodIn wsX5_subject wsX5_tell__ := goodIn_r _ [24, 25, 26, 27, 28, 29, 5, 30, 31, 32, 33, 34, 35, 36, 37, 38, 39, 40] (by decide +kernel) (by decide +kernel)
set_option maxRecDepth 20000 in
theorem gX5_subject_X5_tell__ : GoodIn wsX5_subject (wsV RX5 189 RX5 yX5_tell__ wsX5_tell__) := goodIn_app (goodIn_of _ (by decide +kernel)) ggX5_subject_X5_tell__
theorem dX5_subject_0 : decode cX5_subject 0 = .ok (.iload_n 1, 1) := by decide +kernel
theorem dX5_subject_1 : decode cX5_subject 1 = .ok (.invokestatic 96, 3) := by decide +kernel
theorem dX5_subject_4 : decode cX5_subject 4 = .ok (.ifCond .ne 5, 3) := by decide +kernel
theorem dX5_subject_7 : decode cX5_subject 7 = .ok (.iconst (-1), 1) := by decide +kernel
theorem dX5_subject_8 : decode cX5_subject 8 = .ok (.ireturn, 1) := by decide +kernel
theorem dX5_subject_9 : decode cX5_subject 9 = .ok (.iconst 0, 1) := by decide +kernel
theorem dX5_subject_10 : decode cX5_subject 10 = .ok (.istore_n 2, 1) := by decide +kernel
theorem dX5_subject_11 : decode cX5_subject 11 = .ok (.iconst 0, 1) := by decide +kernel
theorem dX5_subject_12 : decode cX5_subject 12 = .ok (.istore_n 3, 1) := by decide +kernel
theorem dX5_subject_13 : decode cX5_subject 13 = .ok (.iconst 0, 1) := by decide +kernel
theorem dX5_subject_14 : decode cX5_subject 14 = .ok (.istore 4, 2) := by decide +kernel
theorem dX5_subject_16 : decode cX5_subject 16 = .ok (.iload 4, 2) := by decide +kernel
theorem dX5_subject_18 : decode cX5_subject 18 = .ok (.aload_n 0, 1) := by decide +kernel
theorem dX5_subject_19 : decode cX5_subject 19 = .ok (.getfield 19, 3) := by decide +kernel
theorem dX5_subject_22 : decode cX5_subject 22 = .ok (.getfield 79, 3) := by decide +kernel
theorem dX5_subject_25 : decode cX5_subject 25 = .ok (.if_icmp .ge 39, 3) := by decide +kernel
theorem dX5_subject_28 : decode cX5_subject 28 = .ok (.aload_n 0, 1) := by decide +kernel
theorem dX5_subject_29 : decode cX5_subject 29 = .ok (.getfield 19, 3) := by decide +kernel
theorem dX5_subject_32 : decode cX5_subject 32 = .ok (.getfield 174, 3) := by decide +kernel
theorem dX5_subject_35 : decode cX5_subject 35 = .ok (.iload 4, 2) := by decide +kernel
theorem dX5_subject_37 : decode cX5_subject 37 = .ok (.iaload, 1) := by decide +kernel
theorem dX5_subject_38 : decode cX5_subject 38 = .ok (.iload_n 1, 1) := by decide +kernel
theorem dX5_subject_39 : decode cX5_subject 39 = .ok (.if_icmp .ne 19, 3) := by decide +kernel
theorem dX5_subject_42 : decode cX5_subject 42 = .ok (.iinc 2 1, 3) := by decide +kernel
theorem dX5_subject_45 : decode cX5_subject 45 = .ok (.iload_n 3, 1) := by decide +kernel
theorem dX5_subject_46 : decode cX5_subject 46 = .ok (.aload_n 0, 1) := by decide +kernel
theorem dX5_subject_47 : decode cX5_subject 47 = .ok (.getfield 19, 3) := by decide +kernel
theorem dX5_subject_50 : decode cX5_subject 50 = .ok (.getfield 116, 3) := by decide +kernel
theorem dX5_subject_53 : decode cX5_subject 53 = .ok (.iload 4, 2) := by decide +kernel
theorem dX5_subject_55 : decode cX5_subject 55 = .ok (.iaload, 1) := by decide +kernel
theorem dX5_subject_56 : decode cX5_subject 56 = .ok (.iadd, 1) := by decide +kernel
theorem dX5_subject_57 : decode cX5_subject 57 = .ok (.istore_n 3, 1) := by decide +kernel
theorem dX5_subject_58 : decode cX5_subject 58 = .ok (.iinc 4 1, 3) := by decide +kernel
theorem dX5_subject_61 : decode cX5_subject 61 = .ok (.goto (-45), 3) := by decide +kernel
theorem dX5_subject_64 : decode cX5_subject 64 = .ok (.aload_n 0, 1) := by decide +kernel
theorem dX5_subject_65 : decode cX5_subject 65 = .ok (.iload_n 2, 1) := by decide +kernel
theorem dX5_subject_66 : decode cX5_subject 66 = .ok (.aload_n 0, 1) := by decide +kernel
theorem dX5_subject_67 : decode cX5_subject 67 = .ok (.getfield 29, 3) := by decide +kernel
theorem dX5_subject_70 : decode cX5_subject 70 = .ok (.iconst 1, 1) := by decide +kernel
theorem dX5_subject_71 : decode cX5_subject 71 = .ok (.iload_n 1, 1) := by decide +kernel
theorem dX5_subject_72 : decode cX5_subject 72 = .ok (.ishl, 1) := by decide +kernel
theorem dX5_subject_73 : decode cX5_subject 73 = .ok (.invokevirtual 186, 3) := by decide +kernel
theorem dX5_subject_76 : decode cX5_subject 76 = .ok (.invokestatic 137, 3) := by decide +kernel
theorem dX5_subject_79 : decode cX5_subject 79 = .ok (.iload_n 3, 1) := by decide +kernel
theorem dX5_subject_80 : decode cX5_subject 80 = .ok (.invokevirtual 189, 3) := by decide +kernel
theorem dX5_subject_83 : decode cX5_subject 83 = .ok (.aload_n 0, 1) := by decide +kernel
theorem dX5_subject_84 : decode cX5_subject 84 = .ok (.getfield 19, 3) := by decide +kernel
theorem dX5_subject_87 : decode cX5_subject 87 = .ok (.getfield 192, 3) := by decide +kernel
theorem dX5_subject_90 : decode cX5_subject 90 = .ok (.iload_n 1, 1) := by decide +kernel
theorem dX5_subject_91 : decode cX5_subject 91 = .ok (.iaload, 1) := by decide +kernel
theorem dX5_subject_92 : decode cX5_subject 92 = .ok (.ireturn, 1) := by decide +kernel
set_option maxRecDepth 20000 in
theorem ggX5_pupil_X1_has : GoodIn wsX5_pupil wsX1_has := goodIn_r _ [7, 8, 47, 48, 49] (by decide +kernel) (by decide +kernel)
set_option maxRecDepth 20000 in
theorem gX5_pupil_X1_has : GoodIn wsX5_pupil (wsV RX5 167 RX1 yX1_has wsX1_has) := goodIn_app (goodIn_of _ (by decide +kernel)) ggX5_pupil_X1_has
set_option maxRecDepth 20000 in
theorem ggX5_pupil_X0_hasWay : GoodIn wsX5_pupil wsX0_hasWay := goodIn_r _ [13, 14, 15, 16, 17, 18, 19, 20, 21, 22, 23, 24, 25, 26, 27, 28, 29, 50, 51, 52, 53, 54, 55, 56, 57, 58] (by decide +kernel) (by decide +kernel)
set_option maxRecDepth 20000 in
theorem gX5_pupil_X0_hasWay : GoodIn wsX5_pupil (wsV RX5 195 RX0 yX0_hasWay wsX0_hasWay) := goodIn_app (goodIn_of _ (by decide +kernel)) ggX5_pupil_X0_hasWay
set_option maxRecDepth 20000 in
theorem ggX5_pupil_X5_hasBit : GoodIn wsX5_pupil wsX5_hasBit := goodIn_r _ [22] (by decide +kernel) (by decide +kernel)
set_option maxRecDepth 20000 in
theorem gX5_pupil_X5_hasBit : GoodIn wsX5_pupil (va_wsS RX5 152 yX5_hasBit wsX5_hasBit) := goodIn_app (goodIn_of _ (by decide +kernel)) ggX5_pupil_X5_hasBit
set_option maxRecDepth 20000 in
theorem ggX5_pupil_X5_tell_ : GoodIn wsX5_pupil wsX5_tell_ := goodIn_r _ [34, 35, 36, 37, 38, 39, 40, 41, 42, 43, 44, 45, 46] (by decide +kernel) (by decide +kernel)
set_option maxRecDepth 20000 in
theorem gX5_pupil_X5_tell_ : GoodIn wsX5_pupil (wsV RX5 183 RX5 yX5_tell_ wsX5_tell_) := goodIn_app (goodIn_of _ (by decide +kernel)) ggX5_pupil_X5_tell_
theorem dX5_pupil_0 : decode cX5_pupil 0 = .ok (.aload_n 0, 1) := by decide +kernel
theorem dX5_pupil_1 : decode cX5_pupil 1 = .ok (.getfield 29, 3) := by decide +kernel
theorem dX5_pupil_4 : decode cX5_pupil 4 = .ok (.iload_n 1, 1) := by decide +kernel
theorem dX5_pupil_5 : decode cX5_pupil 5 = .ok (.invokevirtual 167, 3) := by decide +kernel
theorem dX5_pupil_8 : decode cX5_pupil 8 = .ok (.ifCond .ne 5, 3) := by decide +kernel
theorem dX5_pupil_11 : decode cX5_pupil 11 = .ok (.iconst (-1), 1) := by decide +kernel
theorem dX5_pupil_12 : decode cX5_pupil 12 = .ok (.ireturn, 1) := by decide +kernel
theorem dX5_pupil_13 : decode cX5_pupil 13 = .ok (.aload_n 0, 1) := by decide +kernel
theorem dX5_pupil_14 : decode cX5_pupil 14 = .ok (.getfield 29, 3) := by decide +kernel
theorem dX5_pupil_17 : decode cX5_pupil 17 = .ok (.getfield 168, 3) := by decide +kernel
theorem dX5_pupil_20 : decode cX5_pupil 20 = .ok (.iload_n 1, 1) := by decide +kernel
theorem dX5_pupil_21 : decode cX5_pupil 21 = .ok (.iaload, 1) := by decide +kernel
