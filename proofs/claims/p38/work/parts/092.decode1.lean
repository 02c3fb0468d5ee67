theorem dX1_init_0 : decode cX1_init 0 = .ok (.aload_n 0, 1) := by decide +kernel
theorem dX1_init_1 : decode cX1_init 1 = .ok (.invokespecial 1, 3) := by decide +kernel
theorem dX1_init_4 : decode cX1_init 4 = .ok (.aload_n 0, 1) := by decide +kernel
theorem dX1_init_5 : decode cX1_init 5 = .ok (.iload_n 1, 1) := by decide +kernel
theorem dX1_init_6 : decode cX1_init 6 = .ok (.putfield 7, 3) := by decide +kernel
theorem dX1_init_9 : decode cX1_init 9 = .ok (.aload_n 0, 1) := by decide +kernel
theorem dX1_init_10 : decode cX1_init 10 = .ok (.iload_n 2, 1) := by decide +kernel
theorem dX1_init_11 : decode cX1_init 11 = .ok (.putfield 13, 3) := by decide +kernel
theorem dX1_init_14 : decode cX1_init 14 = .ok (.aload_n 0, 1) := by decide +kernel
theorem dX1_init_15 : decode cX1_init 15 = .ok (.aload_n 3, 1) := by decide +kernel
theorem dX1_init_16 : decode cX1_init 16 = .ok (.putfield 16, 3) := by decide +kernel
theorem dX1_init_19 : decode cX1_init 19 = .ok (.return_, 1) := by decide +kernel
theorem dX2_init_0 : decode cX2_init 0 = .ok (.aload_n 0, 1) := by decide +kernel
theorem dX2_init_1 : decode cX2_init 1 = .ok (.invokespecial 3, 3) := by decide +kernel
theorem dX2_init_4 : decode cX2_init 4 = .ok (.aload_n 0, 1) := by decide +kernel
theorem dX2_init_5 : decode cX2_init 5 = .ok (.bipush 15, 2) := by decide +kernel
theorem dX2_init_7 : decode cX2_init 7 = .ok (.newarray .int, 2) := by decide +kernel
theorem dX2_init_9 : decode cX2_init 9 = .ok (.putfield 9, 3) := by decide +kernel
theorem dX2_init_12 : decode cX2_init 12 = .ok (.return_, 1) := by decide +kernel
theorem dX2_turn_0 : decode cX2_turn 0 = .ok (.aload_n 0, 1) := by decide +kernel
theorem dX2_turn_1 : decode cX2_turn 1 = .ok (.getfield 9, 3) := by decide +kernel
theorem dX2_turn_4 : decode cX2_turn 4 = .ok (.iload_n 1, 1) := by decide +kernel
theorem dX2_turn_5 : decode cX2_turn 5 = .ok (.dup2, 1) := by decide +kernel
theorem dX2_turn_6 : decode cX2_turn 6 = .ok (.iaload, 1) := by decide +kernel
theorem dX2_turn_7 : decode cX2_turn 7 = .ok (.iconst 1, 1) := by decide +kernel
theorem dX2_turn_8 : decode cX2_turn 8 = .ok (.iload_n 2, 1) := by decide +kernel
theorem dX2_turn_9 : decode cX2_turn 9 = .ok (.ishl, 1) := by decide +kernel
theorem dX2_turn_10 : decode cX2_turn 10 = .ok (.ixor, 1) := by decide +kernel
theorem dX2_turn_11 : decode cX2_turn 11 = .ok (.iastore, 1) := by decide +kernel
theorem dX2_turn_12 : decode cX2_turn 12 = .ok (.aload_n 0, 1) := by decide +kernel
theorem dX2_turn_13 : decode cX2_turn 13 = .ok (.getfield 9, 3) := by decide +kernel
theorem dX2_turn_16 : decode cX2_turn 16 = .ok (.iload_n 2, 1) := by decide +kernel
theorem dX2_turn_17 : decode cX2_turn 17 = .ok (.dup2, 1) := by decide +kernel
theorem dX2_turn_18 : decode cX2_turn 18 = .ok (.iaload, 1) := by decide +kernel
theorem dX2_turn_19 : decode cX2_turn 19 = .ok (.iconst 1, 1) := by decide +kernel
theorem dX2_turn_20 : decode cX2_turn 20 = .ok (.iload_n 1, 1) := by decide +kernel
theorem dX2_turn_21 : decode cX2_turn 21 = .ok (.ishl, 1) := by decide +kernel
theorem dX2_turn_22 : decode cX2_turn 22 = .ok (.ixor, 1) := by decide +kernel
theorem dX2_turn_23 : decode cX2_turn 23 = .ok (.iastore, 1) := by decide +kernel
theorem dX2_turn_24 : decode cX2_turn 24 = .ok (.return_, 1) := by decide +kernel
theorem dX2_holds_0 : decode cX2_holds 0 = .ok (.aload_n 0, 1) := by decide +kernel
theorem dX2_holds_1 : decode cX2_holds 1 = .ok (.getfield 9, 3) := by decide +kernel
theorem dX2_holds_4 : decode cX2_holds 4 = .ok (.iload_n 1, 1) := by decide +kernel
theorem dX2_holds_5 : decode cX2_holds 5 = .ok (.iaload, 1) := by decide +kernel
theorem dX2_holds_6 : decode cX2_holds 6 = .ok (.iload_n 2, 1) := by decide +kernel
theorem dX2_holds_7 : decode cX2_holds 7 = .ok (.ishr, 1) := by decide +kernel
theorem dX2_holds_8 : decode cX2_holds 8 = .ok (.iconst 1, 1) := by decide +kernel
theorem dX2_holds_9 : decode cX2_holds 9 = .ok (.iand, 1) := by decide +kernel
theorem dX2_holds_10 : decode cX2_holds 10 = .ok (.iconst 1, 1) := by decide +kernel
theorem dX2_holds_11 : decode cX2_holds 11 = .ok (.if_icmp .ne 7, 3) := by decide +kernel
theorem dX2_holds_14 : decode cX2_holds 14 = .ok (.iconst 1, 1) := by decide +kernel
theorem dX2_holds_15 : decode cX2_holds 15 = .ok (.goto 4, 3) := by decide +kernel
theorem dX2_holds_18 : decode cX2_holds 18 = .ok (.iconst 0, 1) := by decide +kernel
theorem dX2_holds_19 : decode cX2_holds 19 = .ok (.ireturn, 1) := by decide +kernel
theorem dX2_costOf_0 : decode cX2_costOf 0 = .ok (.aload_n 1, 1) := by decide +kernel
theorem dX2_costOf_1 : decode cX2_costOf 1 = .ok (.getfield 15, 3) := by decide +kernel
theorem dX2_costOf_4 : decode cX2_costOf 4 = .ok (.aload_n 2, 1) := by decide +kernel
theorem dX2_costOf_5 : decode cX2_costOf 5 = .ok (.getfield 15, 3) := by decide +kernel
theorem dX2_costOf_8 : decode cX2_costOf 8 = .ok (.if_icmp .eq 5, 3) := by decide +kernel
theorem dX2_costOf_11 : decode cX2_costOf 11 = .ok (.iconst (-1), 1) := by decide +kernel
theorem dX2_costOf_12 : decode cX2_costOf 12 = .ok (.ireturn, 1) := by decide +kernel
theorem dX2_costOf_13 : decode cX2_costOf 13 = .ok (.iconst 0, 1) := by decide +kernel
theorem dX2_costOf_14 : decode cX2_costOf 14 = .ok (.istore_n 3, 1) := by decide +kernel
theorem dX2_costOf_15 : decode cX2_costOf 15 = .ok (.iconst 0, 1) := by decide +kernel
theorem dX2_costOf_16 : decode cX2_costOf 16 = .ok (.istore 4, 2) := by decide +kernel
theorem dX2_costOf_18 : decode cX2_costOf 18 = .ok (.iload 4, 2) := by decide +kernel
theorem dX2_costOf_20 : decode cX2_costOf 20 = .ok (.aload_n 1, 1) := by decide +kernel
theorem dX2_costOf_21 : decode cX2_costOf 21 = .ok (.getfield 15, 3) := by decide +kernel
theorem dX2_costOf_24 : decode cX2_costOf 24 = .ok (.if_icmp .ge 42, 3) := by decide +kernel
theorem dX2_costOf_27 : decode cX2_costOf 27 = .ok (.aload_n 0, 1) := by decide +kernel
theorem dX2_costOf_28 : decode cX2_costOf 28 = .ok (.aload_n 1, 1) := by decide +kernel
theorem dX2_costOf_29 : decode cX2_costOf 29 = .ok (.getfield 21, 3) := by decide +kernel
theorem dX2_costOf_32 : decode cX2_costOf 32 = .ok (.iload 4, 2) := by decide +kernel
theorem dX2_costOf_34 : decode cX2_costOf 34 = .ok (.iaload, 1) := by decide +kernel
theorem dX2_costOf_35 : decode cX2_costOf 35 = .ok (.aload_n 2, 1) := by decide +kernel
theorem dX2_costOf_36 : decode cX2_costOf 36 = .ok (.getfield 21, 3) := by decide +kernel
theorem dX2_costOf_39 : decode cX2_costOf 39 = .ok (.iload 4, 2) := by decide +kernel
theorem dX2_costOf_41 : decode cX2_costOf 41 = .ok (.iaload, 1) := by decide +kernel
theorem dX2_costOf_42 : decode cX2_costOf 42 = .ok (.invokevirtual 24, 3) := by decide +kernel
theorem dX2_costOf_45 : decode cX2_costOf 45 = .ok (.istore 5, 2) := by decide +kernel
theorem dX2_costOf_47 : decode cX2_costOf 47 = .ok (.iload 5, 2) := by decide +kernel
theorem dX2_costOf_49 : decode cX2_costOf 49 = .ok (.iconst (-1), 1) := by decide +kernel
theorem dX2_costOf_50 : decode cX2_costOf 50 = .ok (.if_icmp .ne 5, 3) := by decide +kernel
theorem dX2_costOf_53 : decode cX2_costOf 53 = .ok (.iconst (-1), 1) := by decide +kernel
theorem dX2_costOf_54 : decode cX2_costOf 54 = .ok (.ireturn, 1) := by decide +kernel
theorem dX2_costOf_55 : decode cX2_costOf 55 = .ok (.iload_n 3, 1) := by decide +kernel
theorem dX2_costOf_56 : decode cX2_costOf 56 = .ok (.iload 5, 2) := by decide +kernel
theorem dX2_costOf_58 : decode cX2_costOf 58 = .ok (.iadd, 1) := by decide +kernel
theorem dX2_costOf_59 : decode cX2_costOf 59 = .ok (.istore_n 3, 1) := by decide +kernel
theorem dX2_costOf_60 : decode cX2_costOf 60 = .ok (.iinc 4 1, 3) := by decide +kernel
theorem dX2_costOf_63 : decode cX2_costOf 63 = .ok (.goto (-45), 3) := by decide +kernel
theorem dX2_costOf_66 : decode cX2_costOf 66 = .ok (.iload_n 3, 1) := by decide +kernel
theorem dX2_costOf_67 : decode cX2_costOf 67 = .ok (.ireturn, 1) := by decide +kernel
theorem dX2_costOfSign_0 : decode cX2_costOfSign 0 = .ok (.iload_n 1, 1) := by decide +kernel
theorem dX2_costOfSign_1 : decode cX2_costOfSign 1 = .ok (.iload_n 2, 1) := by decide +kernel
theorem dX2_costOfSign_2 : decode cX2_costOfSign 2 = .ok (.if_icmp .ne 5, 3) := by decide +kernel
theorem dX2_costOfSign_5 : decode cX2_costOfSign 5 = .ok (.iconst 0, 1) := by decide +kernel
theorem dX2_costOfSign_6 : decode cX2_costOfSign 6 = .ok (.ireturn, 1) := by decide +kernel
theorem dX2_costOfSign_7 : decode cX2_costOfSign 7 = .ok (.iload_n 1, 1) := by decide +kernel
theorem dX2_costOfSign_8 : decode cX2_costOfSign 8 = .ok (.bipush 14, 2) := by decide +kernel
theorem dX2_costOfSign_10 : decode cX2_costOfSign 10 = .ok (.if_icmp .ne 5, 3) := by decide +kernel
theorem dX2_costOfSign_13 : decode cX2_costOfSign 13 = .ok (.iconst 2, 1) := by decide +kernel
theorem dX2_costOfSign_14 : decode cX2_costOfSign 14 = .ok (.ireturn, 1) := by decide +kernel
theorem dX2_costOfSign_15 : decode cX2_costOfSign 15 = .ok (.aload_n 0, 1) := by decide +kernel
theorem dX2_costOfSign_16 : decode cX2_costOfSign 16 = .ok (.iload_n 1, 1) := by decide +kernel
theorem dX2_costOfSign_17 : decode cX2_costOfSign 17 = .ok (.iload_n 2, 1) := by decide +kernel
theorem dX2_costOfSign_18 : decode cX2_costOfSign 18 = .ok (.invokevirtual 28, 3) := by decide +kernel
theorem dX2_costOfSign_21 : decode cX2_costOfSign 21 = .ok (.ifCond .eq 7, 3) := by decide +kernel
theorem dX2_costOfSign_24 : decode cX2_costOfSign 24 = .ok (.iconst 1, 1) := by decide +kernel
theorem dX2_costOfSign_25 : decode cX2_costOfSign 25 = .ok (.goto 4, 3) := by decide +kernel
theorem dX2_costOfSign_28 : decode cX2_costOfSign 28 = .ok (.iconst (-1), 1) := by decide +kernel
theorem dX2_costOfSign_29 : decode cX2_costOfSign 29 = .ok (.ireturn, 1) := by decide +kernel
theorem dX3_init_0 : decode cX3_init 0 = .ok (.aload_n 0, 1) := by decide +kernel
theorem dX3_init_1 : decode cX3_init 1 = .ok (.invokespecial 3, 3) := by decide +kernel
theorem dX3_init_4 : decode cX3_init 4 = .ok (.aload_n 0, 1) := by decide +kernel
theorem dX3_init_5 : decode cX3_init 5 = .ok (.bipush 60, 2) := by decide +kernel
theorem dX3_init_7 : decode cX3_init 7 = .ok (.anewarray 9, 3) := by decide +kernel
theorem dX3_init_10 : decode cX3_init 10 = .ok (.putfield 11, 3) := by decide +kernel
theorem dX3_init_13 : decode cX3_init 13 = .ok (.aload_n 0, 1) := by decide +kernel
theorem dX3_init_14 : decode cX3_init 14 = .ok (.bipush 60, 2) := by decide +kernel
theorem dX3_init_16 : decode cX3_init 16 = .ok (.newarray .boolean, 2) := by decide +kernel
theorem dX3_init_18 : decode cX3_init 18 = .ok (.putfield 17, 3) := by decide +kernel
theorem dX3_init_21 : decode cX3_init 21 = .ok (.aload_n 0, 1) := by decide +kernel
theorem dX3_init_22 : decode cX3_init 22 = .ok (.iconst 0, 1) := by decide +kernel
theorem dX3_init_23 : decode cX3_init 23 = .ok (.putfield 21, 3) := by decide +kernel
theorem dX3_init_26 : decode cX3_init 26 = .ok (.return_, 1) := by decide +kernel
theorem dX3_put_0 : decode cX3_put 0 = .ok (.aload_n 0, 1) := by decide +kernel
theorem dX3_put_1 : decode cX3_put 1 = .ok (.aload_n 1, 1) := by decide +kernel
theorem dX3_put_2 : decode cX3_put 2 = .ok (.invokevirtual 25, 3) := by decide +kernel
theorem dX3_put_5 : decode cX3_put 5 = .ok (.istore_n 3, 1) := by decide +kernel
theorem dX3_put_6 : decode cX3_put 6 = .ok (.aload_n 0, 1) := by decide +kernel
theorem dX3_put_7 : decode cX3_put 7 = .ok (.iload_n 3, 1) := by decide +kernel
theorem dX3_put_8 : decode cX3_put 8 = .ok (.aload_n 2, 1) := by decide +kernel
theorem dX3_put_9 : decode cX3_put 9 = .ok (.invokevirtual 29, 3) := by decide +kernel
theorem dX3_put_12 : decode cX3_put 12 = .ok (.aload_n 0, 1) := by decide +kernel
theorem dX3_put_13 : decode cX3_put 13 = .ok (.iload_n 3, 1) := by decide +kernel
theorem dX3_put_14 : decode cX3_put 14 = .ok (.iconst 1, 1) := by decide +kernel
theorem dX3_put_15 : decode cX3_put 15 = .ok (.iadd, 1) := by decide +kernel
theorem dX3_put_16 : decode cX3_put 16 = .ok (.aload_n 2, 1) := by decide +kernel
theorem dX3_put_17 : decode cX3_put 17 = .ok (.invokevirtual 29, 3) := by decide +kernel
theorem dX3_put_20 : decode cX3_put 20 = .ok (.return_, 1) := by decide +kernel
theorem dX3_take_0 : decode cX3_take 0 = .ok (.aload_n 0, 1) := by decide +kernel
theorem dX3_take_1 : decode cX3_take 1 = .ok (.aload_n 1, 1) := by decide +kernel
theorem dX3_take_2 : decode cX3_take 2 = .ok (.invokevirtual 33, 3) := by decide +kernel
theorem dX3_take_5 : decode cX3_take 5 = .ok (.istore_n 3, 1) := by decide +kernel
theorem dX3_take_6 : decode cX3_take 6 = .ok (.iload_n 3, 1) := by decide +kernel
theorem dX3_take_7 : decode cX3_take 7 = .ok (.iconst (-1), 1) := by decide +kernel
theorem dX3_take_8 : decode cX3_take 8 = .ok (.if_icmp .ne 4, 3) := by decide +kernel
theorem dX3_take_11 : decode cX3_take 11 = .ok (.return_, 1) := by decide +kernel
theorem dX3_take_12 : decode cX3_take 12 = .ok (.aload_n 0, 1) := by decide +kernel
theorem dX3_take_13 : decode cX3_take 13 = .ok (.dup, 1) := by decide +kernel
theorem dX3_take_14 : decode cX3_take 14 = .ok (.getfield 21, 3) := by decide +kernel
theorem dX3_take_17 : decode cX3_take 17 = .ok (.iconst 1, 1) := by decide +kernel
theorem dX3_take_18 : decode cX3_take 18 = .ok (.isub, 1) := by decide +kernel
theorem dX3_take_19 : decode cX3_take 19 = .ok (.putfield 21, 3) := by decide +kernel
theorem dX3_take_22 : decode cX3_take 22 = .ok (.iload_n 3, 1) := by decide +kernel
theorem dX3_take_23 : decode cX3_take 23 = .ok (.istore 4, 2) := by decide +kernel
theorem dX3_take_25 : decode cX3_take 25 = .ok (.iload 4, 2) := by decide +kernel
theorem dX3_take_27 : decode cX3_take 27 = .ok (.aload_n 0, 1) := by decide +kernel
theorem dX3_take_28 : decode cX3_take 28 = .ok (.getfield 21, 3) := by decide +kernel
theorem dX3_take_31 : decode cX3_take 31 = .ok (.if_icmp .ge 41, 3) := by decide +kernel
theorem dX3_take_34 : decode cX3_take 34 = .ok (.aload_n 0, 1) := by decide +kernel
theorem dX3_take_35 : decode cX3_take 35 = .ok (.getfield 11, 3) := by decide +kernel
theorem dX3_take_38 : decode cX3_take 38 = .ok (.iload 4, 2) := by decide +kernel
theorem dX3_take_40 : decode cX3_take 40 = .ok (.aload_n 0, 1) := by decide +kernel
theorem dX3_take_41 : decode cX3_take 41 = .ok (.getfield 11, 3) := by decide +kernel
theorem dX3_take_44 : decode cX3_take 44 = .ok (.iload 4, 2) := by decide +kernel
theorem dX3_take_46 : decode cX3_take 46 = .ok (.iconst 1, 1) := by decide +kernel
theorem dX3_take_47 : decode cX3_take 47 = .ok (.iadd, 1) := by decide +kernel
theorem dX3_take_48 : decode cX3_take 48 = .ok (.aaload, 1) := by decide +kernel
theorem dX3_take_49 : decode cX3_take 49 = .ok (.aastore, 1) := by decide +kernel
theorem dX3_take_50 : decode cX3_take 50 = .ok (.aload_n 0, 1) := by decide +kernel
theorem dX3_take_51 : decode cX3_take 51 = .ok (.getfield 17, 3) := by decide +kernel
theorem dX3_take_54 : decode cX3_take 54 = .ok (.iload 4, 2) := by decide +kernel
theorem dX3_take_56 : decode cX3_take 56 = .ok (.aload_n 0, 1) := by decide +kernel
theorem dX3_take_57 : decode cX3_take 57 = .ok (.getfield 17, 3) := by decide +kernel
theorem dX3_take_60 : decode cX3_take 60 = .ok (.iload 4, 2) := by decide +kernel
theorem dX3_take_62 : decode cX3_take 62 = .ok (.iconst 1, 1) := by decide +kernel
theorem dX3_take_63 : decode cX3_take 63 = .ok (.iadd, 1) := by decide +kernel
theorem dX3_take_64 : decode cX3_take 64 = .ok (.baload, 1) := by decide +kernel
theorem dX3_take_65 : decode cX3_take 65 = .ok (.bastore, 1) := by decide +kernel
theorem dX3_take_66 : decode cX3_take 66 = .ok (.iinc 4 1, 3) := by decide +kernel
theorem dX3_take_69 : decode cX3_take 69 = .ok (.goto (-44), 3) := by decide +kernel
theorem dX3_take_72 : decode cX3_take 72 = .ok (.aload_n 0, 1) := by decide +kernel
theorem dX3_take_73 : decode cX3_take 73 = .ok (.iload_n 3, 1) := by decide +kernel
theorem dX3_take_74 : decode cX3_take 74 = .ok (.aload_n 2, 1) := by decide +kernel
theorem dX3_take_75 : decode cX3_take 75 = .ok (.invokevirtual 29, 3) := by decide +kernel
theorem dX3_take_78 : decode cX3_take 78 = .ok (.return_, 1) := by decide +kernel
theorem dX3_insertInOrder_0 : decode cX3_insertInOrder 0 = .ok (.aload_n 0, 1) := by decide +kernel
theorem dX3_insertInOrder_1 : decode cX3_insertInOrder 1 = .ok (.getfield 21, 3) := by decide +kernel
theorem dX3_insertInOrder_4 : decode cX3_insertInOrder 4 = .ok (.istore_n 2, 1) := by decide +kernel
theorem dX3_insertInOrder_5 : decode cX3_insertInOrder 5 = .ok (.iload_n 2, 1) := by decide +kernel
theorem dX3_insertInOrder_6 : decode cX3_insertInOrder 6 = .ok (.ifCond .le 52, 3) := by decide +kernel
theorem dX3_insertInOrder_9 : decode cX3_insertInOrder 9 = .ok (.aload_n 1, 1) := by decide +kernel
theorem dX3_insertInOrder_10 : decode cX3_insertInOrder 10 = .ok (.aload_n 0, 1) := by decide +kernel
theorem dX3_insertInOrder_11 : decode cX3_insertInOrder 11 = .ok (.getfield 11, 3) := by decide +kernel
theorem dX3_insertInOrder_14 : decode cX3_insertInOrder 14 = .ok (.iload_n 2, 1) := by decide +kernel
theorem dX3_insertInOrder_15 : decode cX3_insertInOrder 15 = .ok (.iconst 1, 1) := by decide +kernel
theorem dX3_insertInOrder_16 : decode cX3_insertInOrder 16 = .ok (.isub, 1) := by decide +kernel
theorem dX3_insertInOrder_17 : decode cX3_insertInOrder 17 = .ok (.aaload, 1) := by decide +kernel
theorem dX3_insertInOrder_18 : decode cX3_insertInOrder 18 = .ok (.invokevirtual 36, 3) := by decide +kernel
theorem dX3_insertInOrder_21 : decode cX3_insertInOrder 21 = .ok (.ifCond .eq 37, 3) := by decide +kernel
theorem dX3_insertInOrder_24 : decode cX3_insertInOrder 24 = .ok (.aload_n 0, 1) := by decide +kernel
theorem dX3_insertInOrder_25 : decode cX3_insertInOrder 25 = .ok (.getfield 11, 3) := by decide +kernel
theorem dX3_insertInOrder_28 : decode cX3_insertInOrder 28 = .ok (.iload_n 2, 1) := by decide +kernel
theorem dX3_insertInOrder_29 : decode cX3_insertInOrder 29 = .ok (.aload_n 0, 1) := by decide +kernel
theorem dX3_insertInOrder_30 : decode cX3_insertInOrder 30 = .ok (.getfield 11, 3) := by decide +kernel
theorem dX3_insertInOrder_33 : decode cX3_insertInOrder 33 = .ok (.iload_n 2, 1) := by decide +kernel
theorem dX3_insertInOrder_34 : decode cX3_insertInOrder 34 = .ok (.iconst 1, 1) := by decide +kernel
theorem dX3_insertInOrder_35 : decode cX3_insertInOrder 35 = .ok (.isub, 1) := by decide +kernel
theorem dX3_insertInOrder_36 : decode cX3_insertInOrder 36 = .ok (.aaload, 1) := by decide +kernel
theorem dX3_insertInOrder_37 : decode cX3_insertInOrder 37 = .ok (.aastore, 1) := by decide +kernel
theorem dX3_insertInOrder_38 : decode cX3_insertInOrder 38 = .ok (.aload_n 0, 1) := by decide +kernel
theorem dX3_insertInOrder_39 : decode cX3_insertInOrder 39 = .ok (.getfield 17, 3) := by decide +kernel
theorem dX3_insertInOrder_42 : decode cX3_insertInOrder 42 = .ok (.iload_n 2, 1) := by decide +kernel
theorem dX3_insertInOrder_43 : decode cX3_insertInOrder 43 = .ok (.aload_n 0, 1) := by decide +kernel
theorem dX3_insertInOrder_44 : decode cX3_insertInOrder 44 = .ok (.getfield 17, 3) := by decide +kernel
theorem dX3_insertInOrder_47 : decode cX3_insertInOrder 47 = .ok (.iload_n 2, 1) := by decide +kernel
theorem dX3_insertInOrder_48 : decode cX3_insertInOrder 48 = .ok (.iconst 1, 1) := by decide +kernel
theorem dX3_insertInOrder_49 : decode cX3_insertInOrder 49 = .ok (.isub, 1) := by decide +kernel
theorem dX3_insertInOrder_50 : decode cX3_insertInOrder 50 = .ok (.baload, 1) := by decide +kernel
theorem dX3_insertInOrder_51 : decode cX3_insertInOrder 51 = .ok (.bastore, 1) := by decide +kernel
theorem dX3_insertInOrder_52 : decode cX3_insertInOrder 52 = .ok (.iinc 2 (-1), 3) := by decide +kernel
theorem dX3_insertInOrder_55 : decode cX3_insertInOrder 55 = .ok (.goto (-50), 3) := by decide +kernel
theorem dX3_insertInOrder_58 : decode cX3_insertInOrder 58 = .ok (.aload_n 0, 1) := by decide +kernel
theorem dX3_insertInOrder_59 : decode cX3_insertInOrder 59 = .ok (.getfield 11, 3) := by decide +kernel
theorem dX3_insertInOrder_62 : decode cX3_insertInOrder 62 = .ok (.iload_n 2, 1) := by decide +kernel
theorem dX3_insertInOrder_63 : decode cX3_insertInOrder 63 = .ok (.aload_n 1, 1) := by decide +kernel
theorem dX3_insertInOrder_64 : decode cX3_insertInOrder 64 = .ok (.aastore, 1) := by decide +kernel
theorem dX3_insertInOrder_65 : decode cX3_insertInOrder 65 = .ok (.aload_n 0, 1) := by decide +kernel
theorem dX3_insertInOrder_66 : decode cX3_insertInOrder 66 = .ok (.dup, 1) := by decide +kernel
theorem dX3_insertInOrder_67 : decode cX3_insertInOrder 67 = .ok (.getfield 21, 3) := by decide +kernel
theorem dX3_insertInOrder_70 : decode cX3_insertInOrder 70 = .ok (.iconst 1, 1) := by decide +kernel
theorem dX3_insertInOrder_71 : decode cX3_insertInOrder 71 = .ok (.iadd, 1) := by decide +kernel
theorem dX3_insertInOrder_72 : decode cX3_insertInOrder 72 = .ok (.putfield 21, 3) := by decide +kernel
theorem dX3_insertInOrder_75 : decode cX3_insertInOrder 75 = .ok (.iload_n 2, 1) := by decide +kernel
theorem dX3_insertInOrder_76 : decode cX3_insertInOrder 76 = .ok (.ireturn, 1) := by decide +kernel
theorem dX3_joinAll_0 : decode cX3_joinAll 0 = .ok (.iconst 0, 1) := by decide +kernel
theorem dX3_joinAll_1 : decode cX3_joinAll 1 = .ok (.istore_n 2, 1) := by decide +kernel
theorem dX3_joinAll_2 : decode cX3_joinAll 2 = .ok (.iload_n 2, 1) := by decide +kernel
theorem dX3_joinAll_3 : decode cX3_joinAll 3 = .ok (.aload_n 0, 1) := by decide +kernel
theorem dX3_joinAll_4 : decode cX3_joinAll 4 = .ok (.getfield 21, 3) := by decide +kernel
theorem dX3_joinAll_7 : decode cX3_joinAll 7 = .ok (.if_icmp .ge 15, 3) := by decide +kernel
theorem dX3_joinAll_10 : decode cX3_joinAll 10 = .ok (.aload_n 0, 1) := by decide +kernel
theorem dX3_joinAll_11 : decode cX3_joinAll 11 = .ok (.iload_n 2, 1) := by decide +kernel
theorem dX3_joinAll_12 : decode cX3_joinAll 12 = .ok (.aload_n 1, 1) := by decide +kernel
theorem dX3_joinAll_13 : decode cX3_joinAll 13 = .ok (.invokevirtual 29, 3) := by decide +kernel
theorem dX3_joinAll_16 : decode cX3_joinAll 16 = .ok (.iinc 2 1, 3) := by decide +kernel
theorem dX3_joinAll_19 : decode cX3_joinAll 19 = .ok (.goto (-17), 3) := by decide +kernel
theorem dX3_joinAll_22 : decode cX3_joinAll 22 = .ok (.return_, 1) := by decide +kernel
theorem dX3_tripCount_0 : decode cX3_tripCount 0 = .ok (.aload_n 0, 1) := by decide +kernel
theorem dX3_tripCount_1 : decode cX3_tripCount 1 = .ok (.aload_n 0, 1) := by decide +kernel
theorem dX3_tripCount_2 : decode cX3_tripCount 2 = .ok (.getfield 21, 3) := by decide +kernel
theorem dX3_tripCount_5 : decode cX3_tripCount 5 = .ok (.invokevirtual 40, 3) := by decide +kernel
theorem dX3_tripCount_8 : decode cX3_tripCount 8 = .ok (.ireturn, 1) := by decide +kernel
theorem dX3_tripWith_0 : decode cX3_tripWith 0 = .ok (.aload_n 0, 1) := by decide +kernel
theorem dX3_tripWith_1 : decode cX3_tripWith 1 = .ok (.aload_n 0, 1) := by decide +kernel
theorem dX3_tripWith_2 : decode cX3_tripWith 2 = .ok (.aload_n 1, 1) := by decide +kernel
theorem dX3_tripWith_3 : decode cX3_tripWith 3 = .ok (.invokevirtual 33, 3) := by decide +kernel
theorem dX3_tripWith_6 : decode cX3_tripWith 6 = .ok (.iconst 1, 1) := by decide +kernel
theorem dX3_tripWith_7 : decode cX3_tripWith 7 = .ok (.iadd, 1) := by decide +kernel
theorem dX3_tripWith_8 : decode cX3_tripWith 8 = .ok (.invokevirtual 40, 3) := by decide +kernel
theorem dX3_tripWith_11 : decode cX3_tripWith 11 = .ok (.iconst 1, 1) := by decide +kernel
theorem dX3_tripWith_12 : decode cX3_tripWith 12 = .ok (.isub, 1) := by decide +kernel
theorem dX3_tripWith_13 : decode cX3_tripWith 13 = .ok (.ireturn, 1) := by decide +kernel
theorem dX3_beginningOf_0 : decode cX3_beginningOf 0 = .ok (.iconst 0, 1) := by decide +kernel
theorem dX3_beginningOf_1 : decode cX3_beginningOf 1 = .ok (.istore_n 2, 1) := by decide +kernel
theorem dX3_beginningOf_2 : decode cX3_beginningOf 2 = .ok (.iconst 0, 1) := by decide +kernel
theorem dX3_beginningOf_3 : decode cX3_beginningOf 3 = .ok (.istore_n 3, 1) := by decide +kernel
theorem dX3_beginningOf_4 : decode cX3_beginningOf 4 = .ok (.iload_n 3, 1) := by decide +kernel
theorem dX3_beginningOf_5 : decode cX3_beginningOf 5 = .ok (.aload_n 0, 1) := by decide +kernel
theorem dX3_beginningOf_6 : decode cX3_beginningOf 6 = .ok (.getfield 21, 3) := by decide +kernel
theorem dX3_beginningOf_9 : decode cX3_beginningOf 9 = .ok (.if_icmp .ge 28, 3) := by decide +kernel
theorem dX3_beginningOf_12 : decode cX3_beginningOf 12 = .ok (.aload_n 0, 1) := by decide +kernel
theorem dX3_beginningOf_13 : decode cX3_beginningOf 13 = .ok (.getfield 17, 3) := by decide +kernel
theorem dX3_beginningOf_16 : decode cX3_beginningOf 16 = .ok (.iload_n 3, 1) := by decide +kernel
theorem dX3_beginningOf_17 : decode cX3_beginningOf 17 = .ok (.baload, 1) := by decide +kernel
theorem dX3_beginningOf_18 : decode cX3_beginningOf 18 = .ok (.ifCond .eq 13, 3) := by decide +kernel
theorem dX3_beginningOf_21 : decode cX3_beginningOf 21 = .ok (.iload_n 2, 1) := by decide +kernel
theorem dX3_beginningOf_22 : decode cX3_beginningOf 22 = .ok (.iload_n 1, 1) := by decide +kernel
theorem dX3_beginningOf_23 : decode cX3_beginningOf 23 = .ok (.if_icmp .ne 5, 3) := by decide +kernel
theorem dX3_beginningOf_26 : decode cX3_beginningOf 26 = .ok (.iload_n 3, 1) := by decide +kernel
theorem dX3_beginningOf_27 : decode cX3_beginningOf 27 = .ok (.ireturn, 1) := by decide +kernel
theorem dX3_beginningOf_28 : decode cX3_beginningOf 28 = .ok (.iinc 2 1, 3) := by decide +kernel
theorem dX3_beginningOf_31 : decode cX3_beginningOf 31 = .ok (.iinc 3 1, 3) := by decide +kernel
theorem dX3_beginningOf_34 : decode cX3_beginningOf 34 = .ok (.goto (-30), 3) := by decide +kernel
theorem dX3_beginningOf_37 : decode cX3_beginningOf 37 = .ok (.iconst (-1), 1) := by decide +kernel
theorem dX3_beginningOf_38 : decode cX3_beginningOf 38 = .ok (.ireturn, 1) := by decide +kernel
theorem dX3_wayFrom_0 : decode cX3_wayFrom 0 = .ok (.iconst 0, 1) := by decide +kernel
theorem dX3_wayFrom_1 : decode cX3_wayFrom 1 = .ok (.istore_n 3, 1) := by decide +kernel
theorem dX3_wayFrom_2 : decode cX3_wayFrom 2 = .ok (.iload_n 1, 1) := by decide +kernel
theorem dX3_wayFrom_3 : decode cX3_wayFrom 3 = .ok (.iconst 1, 1) := by decide +kernel
theorem dX3_wayFrom_4 : decode cX3_wayFrom 4 = .ok (.iadd, 1) := by decide +kernel
theorem dX3_wayFrom_5 : decode cX3_wayFrom 5 = .ok (.istore 4, 2) := by decide +kernel
theorem dX3_wayFrom_7 : decode cX3_wayFrom 7 = .ok (.iload 4, 2) := by decide +kernel
theorem dX3_wayFrom_9 : decode cX3_wayFrom 9 = .ok (.aload_n 0, 1) := by decide +kernel
theorem dX3_wayFrom_10 : decode cX3_wayFrom 10 = .ok (.getfield 21, 3) := by decide +kernel
theorem dX3_wayFrom_13 : decode cX3_wayFrom 13 = .ok (.if_icmp .ge 48, 3) := by decide +kernel
theorem dX3_wayFrom_16 : decode cX3_wayFrom 16 = .ok (.aload_n 0, 1) := by decide +kernel
theorem dX3_wayFrom_17 : decode cX3_wayFrom 17 = .ok (.getfield 17, 3) := by decide +kernel
theorem dX3_wayFrom_20 : decode cX3_wayFrom 20 = .ok (.iload 4, 2) := by decide +kernel
theorem dX3_wayFrom_22 : decode cX3_wayFrom 22 = .ok (.baload, 1) := by decide +kernel
theorem dX3_wayFrom_23 : decode cX3_wayFrom 23 = .ok (.ifCond .ne 38, 3) := by decide +kernel
theorem dX3_wayFrom_26 : decode cX3_wayFrom 26 = .ok (.iload_n 3, 1) := by decide +kernel
theorem dX3_wayFrom_27 : decode cX3_wayFrom 27 = .ok (.aload_n 2, 1) := by decide +kernel
theorem dX3_wayFrom_28 : decode cX3_wayFrom 28 = .ok (.aload_n 0, 1) := by decide +kernel
theorem dX3_wayFrom_29 : decode cX3_wayFrom 29 = .ok (.getfield 11, 3) := by decide +kernel
theorem dX3_wayFrom_32 : decode cX3_wayFrom 32 = .ok (.iload 4, 2) := by decide +kernel
theorem dX3_wayFrom_34 : decode cX3_wayFrom 34 = .ok (.iconst 1, 1) := by decide +kernel
theorem dX3_wayFrom_35 : decode cX3_wayFrom 35 = .ok (.isub, 1) := by decide +kernel
theorem dX3_wayFrom_36 : decode cX3_wayFrom 36 = .ok (.aaload, 1) := by decide +kernel
theorem dX3_wayFrom_37 : decode cX3_wayFrom 37 = .ok (.getfield 44, 3) := by decide +kernel
theorem dX3_wayFrom_40 : decode cX3_wayFrom 40 = .ok (.aload_n 0, 1) := by decide +kernel
theorem dX3_wayFrom_41 : decode cX3_wayFrom 41 = .ok (.getfield 11, 3) := by decide +kernel
theorem dX3_wayFrom_44 : decode cX3_wayFrom 44 = .ok (.iload 4, 2) := by decide +kernel
theorem dX3_wayFrom_46 : decode cX3_wayFrom 46 = .ok (.aaload, 1) := by decide +kernel
theorem dX3_wayFrom_47 : decode cX3_wayFrom 47 = .ok (.getfield 44, 3) := by decide +kernel
theorem dX3_wayFrom_50 : decode cX3_wayFrom 50 = .ok (.invokevirtual 47, 3) := by decide +kernel
theorem dX3_wayFrom_53 : decode cX3_wayFrom 53 = .ok (.iadd, 1) := by decide +kernel
theorem dX3_wayFrom_54 : decode cX3_wayFrom 54 = .ok (.istore_n 3, 1) := by decide +kernel
theorem dX3_wayFrom_55 : decode cX3_wayFrom 55 = .ok (.iinc 4 1, 3) := by decide +kernel
theorem dX3_wayFrom_58 : decode cX3_wayFrom 58 = .ok (.goto (-51), 3) := by decide +kernel
theorem dX3_wayFrom_61 : decode cX3_wayFrom 61 = .ok (.iload_n 3, 1) := by decide +kernel
theorem dX3_wayFrom_62 : decode cX3_wayFrom 62 = .ok (.ireturn, 1) := by decide +kernel
theorem dX3_seeBeginning_0 : decode cX3_seeBeginning 0 = .ok (.iload_n 1, 1) := by decide +kernel
theorem dX3_seeBeginning_1 : decode cX3_seeBeginning 1 = .ok (.aload_n 0, 1) := by decide +kernel
theorem dX3_seeBeginning_2 : decode cX3_seeBeginning 2 = .ok (.getfield 21, 3) := by decide +kernel
theorem dX3_seeBeginning_5 : decode cX3_seeBeginning 5 = .ok (.if_icmp .ge 39, 3) := by decide +kernel
theorem dX3_seeBeginning_8 : decode cX3_seeBeginning 8 = .ok (.aload_n 0, 1) := by decide +kernel
theorem dX3_seeBeginning_9 : decode cX3_seeBeginning 9 = .ok (.getfield 17, 3) := by decide +kernel
theorem dX3_seeBeginning_12 : decode cX3_seeBeginning 12 = .ok (.iload_n 1, 1) := by decide +kernel
theorem dX3_seeBeginning_13 : decode cX3_seeBeginning 13 = .ok (.iload_n 1, 1) := by decide +kernel
theorem dX3_seeBeginning_14 : decode cX3_seeBeginning 14 = .ok (.ifCond .eq 24, 3) := by decide +kernel
theorem dX3_seeBeginning_17 : decode cX3_seeBeginning 17 = .ok (.aload_n 2, 1) := by decide +kernel
theorem dX3_seeBeginning_18 : decode cX3_seeBeginning 18 = .ok (.aload_n 0, 1) := by decide +kernel
theorem dX3_seeBeginning_19 : decode cX3_seeBeginning 19 = .ok (.getfield 11, 3) := by decide +kernel
theorem dX3_seeBeginning_22 : decode cX3_seeBeginning 22 = .ok (.iload_n 1, 1) := by decide +kernel
theorem dX3_seeBeginning_23 : decode cX3_seeBeginning 23 = .ok (.iconst 1, 1) := by decide +kernel
theorem dX3_seeBeginning_24 : decode cX3_seeBeginning 24 = .ok (.isub, 1) := by decide +kernel
theorem dX3_seeBeginning_25 : decode cX3_seeBeginning 25 = .ok (.aaload, 1) := by decide +kernel
theorem dX3_seeBeginning_26 : decode cX3_seeBeginning 26 = .ok (.aload_n 0, 1) := by decide +kernel
theorem dX3_seeBeginning_27 : decode cX3_seeBeginning 27 = .ok (.getfield 11, 3) := by decide +kernel
theorem dX3_seeBeginning_30 : decode cX3_seeBeginning 30 = .ok (.iload_n 1, 1) := by decide +kernel
theorem dX3_seeBeginning_31 : decode cX3_seeBeginning 31 = .ok (.aaload, 1) := by decide +kernel
theorem dX3_seeBeginning_32 : decode cX3_seeBeginning 32 = .ok (.invokevirtual 53, 3) := by decide +kernel
theorem dX3_seeBeginning_35 : decode cX3_seeBeginning 35 = .ok (.ifCond .ne 7, 3) := by decide +kernel
theorem dX3_seeBeginning_38 : decode cX3_seeBeginning 38 = .ok (.iconst 1, 1) := by decide +kernel
theorem dX3_seeBeginning_39 : decode cX3_seeBeginning 39 = .ok (.goto 4, 3) := by decide +kernel
theorem dX3_seeBeginning_42 : decode cX3_seeBeginning 42 = .ok (.iconst 0, 1) := by decide +kernel
theorem dX3_seeBeginning_43 : decode cX3_seeBeginning 43 = .ok (.bastore, 1) := by decide +kernel
theorem dX3_seeBeginning_44 : decode cX3_seeBeginning 44 = .ok (.return_, 1) := by decide +kernel
theorem dX3_placeOf_0 : decode cX3_placeOf 0 = .ok (.iconst 0, 1) := by decide +kernel
theorem dX3_placeOf_1 : decode cX3_placeOf 1 = .ok (.istore_n 2, 1) := by decide +kernel
theorem dX3_placeOf_2 : decode cX3_placeOf 2 = .ok (.iload_n 2, 1) := by decide +kernel
theorem dX3_placeOf_3 : decode cX3_placeOf 3 = .ok (.aload_n 0, 1) := by decide +kernel
theorem dX3_placeOf_4 : decode cX3_placeOf 4 = .ok (.getfield 21, 3) := by decide +kernel
theorem dX3_placeOf_7 : decode cX3_placeOf 7 = .ok (.if_icmp .ge 27, 3) := by decide +kernel
theorem dX3_placeOf_10 : decode cX3_placeOf 10 = .ok (.aload_n 0, 1) := by decide +kernel
theorem dX3_placeOf_11 : decode cX3_placeOf 11 = .ok (.getfield 11, 3) := by decide +kernel
theorem dX3_placeOf_14 : decode cX3_placeOf 14 = .ok (.iload_n 2, 1) := by decide +kernel
theorem dX3_placeOf_15 : decode cX3_placeOf 15 = .ok (.aaload, 1) := by decide +kernel
theorem dX3_placeOf_16 : decode cX3_placeOf 16 = .ok (.getfield 57, 3) := by decide +kernel
theorem dX3_placeOf_19 : decode cX3_placeOf 19 = .ok (.aload_n 1, 1) := by decide +kernel
theorem dX3_placeOf_20 : decode cX3_placeOf 20 = .ok (.getfield 57, 3) := by decide +kernel
theorem dX3_placeOf_23 : decode cX3_placeOf 23 = .ok (.if_icmp .ne 5, 3) := by decide +kernel
theorem dX3_placeOf_26 : decode cX3_placeOf 26 = .ok (.iload_n 2, 1) := by decide +kernel
theorem dX3_placeOf_27 : decode cX3_placeOf 27 = .ok (.ireturn, 1) := by decide +kernel
theorem dX3_placeOf_28 : decode cX3_placeOf 28 = .ok (.iinc 2 1, 3) := by decide +kernel
theorem dX3_placeOf_31 : decode cX3_placeOf 31 = .ok (.goto (-29), 3) := by decide +kernel
theorem dX3_placeOf_34 : decode cX3_placeOf 34 = .ok (.iconst (-1), 1) := by decide +kernel
theorem dX3_placeOf_35 : decode cX3_placeOf 35 = .ok (.ireturn, 1) := by decide +kernel
theorem dX3_beginningsAhead_0 : decode cX3_beginningsAhead 0 = .ok (.iconst 0, 1) := by decide +kernel
theorem dX3_beginningsAhead_1 : decode cX3_beginningsAhead 1 = .ok (.istore_n 2, 1) := by decide +kernel
theorem dX3_beginningsAhead_2 : decode cX3_beginningsAhead 2 = .ok (.iconst 0, 1) := by decide +kernel
theorem dX3_beginningsAhead_3 : decode cX3_beginningsAhead 3 = .ok (.istore_n 3, 1) := by decide +kernel
theorem dX3_beginningsAhead_4 : decode cX3_beginningsAhead 4 = .ok (.iload_n 3, 1) := by decide +kernel
theorem dX3_beginningsAhead_5 : decode cX3_beginningsAhead 5 = .ok (.iload_n 1, 1) := by decide +kernel
theorem dX3_beginningsAhead_6 : decode cX3_beginningsAhead 6 = .ok (.if_icmp .ge 21, 3) := by decide +kernel
theorem dX3_beginningsAhead_9 : decode cX3_beginningsAhead 9 = .ok (.aload_n 0, 1) := by decide +kernel
theorem dX3_beginningsAhead_10 : decode cX3_beginningsAhead 10 = .ok (.getfield 17, 3) := by decide +kernel
theorem dX3_beginningsAhead_13 : decode cX3_beginningsAhead 13 = .ok (.iload_n 3, 1) := by decide +kernel
theorem dX3_beginningsAhead_14 : decode cX3_beginningsAhead 14 = .ok (.baload, 1) := by decide +kernel
theorem dX3_beginningsAhead_15 : decode cX3_beginningsAhead 15 = .ok (.ifCond .eq 6, 3) := by decide +kernel
theorem dX3_beginningsAhead_18 : decode cX3_beginningsAhead 18 = .ok (.iinc 2 1, 3) := by decide +kernel
theorem dX3_beginningsAhead_21 : decode cX3_beginningsAhead 21 = .ok (.iinc 3 1, 3) := by decide +kernel
theorem dX3_beginningsAhead_24 : decode cX3_beginningsAhead 24 = .ok (.goto (-20), 3) := by decide +kernel
theorem dX3_beginningsAhead_27 : decode cX3_beginningsAhead 27 = .ok (.iload_n 2, 1) := by decide +kernel
theorem dX3_beginningsAhead_28 : decode cX3_beginningsAhead 28 = .ok (.ireturn, 1) := by decide +kernel
theorem dX4_init_0 : decode cX4_init 0 = .ok (.aload_n 0, 1) := by decide +kernel
theorem dX4_init_1 : decode cX4_init 1 = .ok (.invokespecial 3, 3) := by decide +kernel
theorem dX4_init_4 : decode cX4_init 4 = .ok (.aload_n 0, 1) := by decide +kernel
theorem dX4_init_5 : decode cX4_init 5 = .ok (.new 9, 3) := by decide +kernel
theorem dX4_init_8 : decode cX4_init 8 = .ok (.dup, 1) := by decide +kernel
theorem dX4_init_9 : decode cX4_init 9 = .ok (.invokespecial 11, 3) := by decide +kernel
theorem dX4_init_12 : decode cX4_init 12 = .ok (.putfield 12, 3) := by decide +kernel
theorem dX4_init_15 : decode cX4_init 15 = .ok (.aload_n 0, 1) := by decide +kernel
theorem dX4_init_16 : decode cX4_init 16 = .ok (.iload_n 1, 1) := by decide +kernel
theorem dX4_init_17 : decode cX4_init 17 = .ok (.putfield 18, 3) := by decide +kernel
theorem dX4_init_20 : decode cX4_init 20 = .ok (.aload_n 0, 1) := by decide +kernel
theorem dX4_init_21 : decode cX4_init 21 = .ok (.aload_n 2, 1) := by decide +kernel
theorem dX4_init_22 : decode cX4_init 22 = .ok (.putfield 22, 3) := by decide +kernel
theorem dX4_init_25 : decode cX4_init 25 = .ok (.aload_n 0, 1) := by decide +kernel
theorem dX4_init_26 : decode cX4_init 26 = .ok (.iload_n 3, 1) := by decide +kernel
theorem dX4_init_27 : decode cX4_init 27 = .ok (.putfield 26, 3) := by decide +kernel
theorem dX4_init_30 : decode cX4_init 30 = .ok (.aload_n 0, 1) := by decide +kernel
theorem dX4_init_31 : decode cX4_init 31 = .ok (.aload 4, 2) := by decide +kernel
theorem dX4_init_33 : decode cX4_init 33 = .ok (.putfield 29, 3) := by decide +kernel
theorem dX4_init_36 : decode cX4_init 36 = .ok (.return_, 1) := by decide +kernel
theorem dX4_sellTo_0 : decode cX4_sellTo 0 = .ok (.aload_n 0, 1) := by decide +kernel
theorem dX4_sellTo_1 : decode cX4_sellTo 1 = .ok (.getfield 29, 3) := by decide +kernel
theorem dX4_sellTo_4 : decode cX4_sellTo 4 = .ok (.getfield 33, 3) := by decide +kernel
theorem dX4_sellTo_7 : decode cX4_sellTo 7 = .ok (.iload_n 2, 1) := by decide +kernel
theorem dX4_sellTo_8 : decode cX4_sellTo 8 = .ok (.if_icmp .ne 13, 3) := by decide +kernel
theorem dX4_sellTo_11 : decode cX4_sellTo 11 = .ok (.aload_n 0, 1) := by decide +kernel
theorem dX4_sellTo_12 : decode cX4_sellTo 12 = .ok (.getfield 29, 3) := by decide +kernel
theorem dX4_sellTo_15 : decode cX4_sellTo 15 = .ok (.getfield 38, 3) := by decide +kernel
theorem dX4_sellTo_18 : decode cX4_sellTo 18 = .ok (.goto 7, 3) := by decide +kernel
theorem dX4_sellTo_21 : decode cX4_sellTo 21 = .ok (.aload_n 0, 1) := by decide +kernel
theorem dX4_sellTo_22 : decode cX4_sellTo 22 = .ok (.getfield 29, 3) := by decide +kernel
theorem dX4_sellTo_25 : decode cX4_sellTo 25 = .ok (.astore_n 3, 1) := by decide +kernel
theorem dX4_sellTo_26 : decode cX4_sellTo 26 = .ok (.aload_n 0, 1) := by decide +kernel
theorem dX4_sellTo_27 : decode cX4_sellTo 27 = .ok (.new 34, 3) := by decide +kernel
theorem dX4_sellTo_30 : decode cX4_sellTo 30 = .ok (.dup, 1) := by decide +kernel
theorem dX4_sellTo_31 : decode cX4_sellTo 31 = .ok (.iload_n 1, 1) := by decide +kernel
theorem dX4_sellTo_32 : decode cX4_sellTo 32 = .ok (.iload_n 2, 1) := by decide +kernel
theorem dX4_sellTo_33 : decode cX4_sellTo 33 = .ok (.aload_n 3, 1) := by decide +kernel
theorem dX4_sellTo_34 : decode cX4_sellTo 34 = .ok (.invokespecial 41, 3) := by decide +kernel
theorem dX4_sellTo_37 : decode cX4_sellTo 37 = .ok (.putfield 29, 3) := by decide +kernel
theorem dX4_sellTo_40 : decode cX4_sellTo 40 = .ok (.return_, 1) := by decide +kernel
theorem dX4_driverIn_0 : decode cX4_driverIn 0 = .ok (.aload_n 0, 1) := by decide +kernel
theorem dX4_driverIn_1 : decode cX4_driverIn 1 = .ok (.getfield 29, 3) := by decide +kernel
theorem dX4_driverIn_4 : decode cX4_driverIn 4 = .ok (.astore_n 2, 1) := by decide +kernel
theorem dX4_driverIn_5 : decode cX4_driverIn 5 = .ok (.aload_n 2, 1) := by decide +kernel
theorem dX4_driverIn_6 : decode cX4_driverIn 6 = .ok (.ifnull 24, 3) := by decide +kernel
theorem dX4_driverIn_9 : decode cX4_driverIn 9 = .ok (.aload_n 2, 1) := by decide +kernel
theorem dX4_driverIn_10 : decode cX4_driverIn 10 = .ok (.getfield 33, 3) := by decide +kernel
theorem dX4_driverIn_13 : decode cX4_driverIn 13 = .ok (.iload_n 1, 1) := by decide +kernel
theorem dX4_driverIn_14 : decode cX4_driverIn 14 = .ok (.if_icmp .gt 8, 3) := by decide +kernel
theorem dX4_driverIn_17 : decode cX4_driverIn 17 = .ok (.aload_n 2, 1) := by decide +kernel
theorem dX4_driverIn_18 : decode cX4_driverIn 18 = .ok (.getfield 44, 3) := by decide +kernel
theorem dX4_driverIn_21 : decode cX4_driverIn 21 = .ok (.ireturn, 1) := by decide +kernel
theorem dX4_driverIn_22 : decode cX4_driverIn 22 = .ok (.aload_n 2, 1) := by decide +kernel
theorem dX4_driverIn_23 : decode cX4_driverIn 23 = .ok (.getfield 38, 3) := by decide +kernel
theorem dX4_driverIn_26 : decode cX4_driverIn 26 = .ok (.astore_n 2, 1) := by decide +kernel
theorem dX4_driverIn_27 : decode cX4_driverIn 27 = .ok (.goto (-22), 3) := by decide +kernel
theorem dX4_driverIn_30 : decode cX4_driverIn 30 = .ok (.iconst (-1), 1) := by decide +kernel
theorem dX4_driverIn_31 : decode cX4_driverIn 31 = .ok (.ireturn, 1) := by decide +kernel
theorem dX5_init_0 : decode cX5_init 0 = .ok (.aload_n 0, 1) := by decide +kernel
theorem dX5_init_1 : decode cX5_init 1 = .ok (.invokespecial 1, 3) := by decide +kernel
theorem dX5_init_4 : decode cX5_init 4 = .ok (.aload_n 0, 1) := by decide +kernel
theorem dX5_init_5 : decode cX5_init 5 = .ok (.iconst 0, 1) := by decide +kernel
theorem dX5_init_6 : decode cX5_init 6 = .ok (.putfield 7, 3) := by decide +kernel
theorem dX5_init_9 : decode cX5_init 9 = .ok (.aload_n 0, 1) := by decide +kernel
theorem dX5_init_10 : decode cX5_init 10 = .ok (.aconst_null, 1) := by decide +kernel
theorem dX5_init_11 : decode cX5_init 11 = .ok (.putfield 13, 3) := by decide +kernel
theorem dX5_init_14 : decode cX5_init 14 = .ok (.aload_n 0, 1) := by decide +kernel
theorem dX5_init_15 : decode cX5_init 15 = .ok (.iload_n 1, 1) := by decide +kernel
theorem dX5_init_16 : decode cX5_init 16 = .ok (.putfield 17, 3) := by decide +kernel
theorem dX5_init_19 : decode cX5_init 19 = .ok (.aload_n 0, 1) := by decide +kernel
theorem dX5_init_20 : decode cX5_init 20 = .ok (.iload_n 2, 1) := by decide +kernel
theorem dX5_init_21 : decode cX5_init 21 = .ok (.putfield 21, 3) := by decide +kernel
theorem dX5_init_24 : decode cX5_init 24 = .ok (.aload_n 0, 1) := by decide +kernel
theorem dX5_init_25 : decode cX5_init 25 = .ok (.iload_n 3, 1) := by decide +kernel
theorem dX5_init_26 : decode cX5_init 26 = .ok (.putfield 24, 3) := by decide +kernel
theorem dX5_init_29 : decode cX5_init 29 = .ok (.aload_n 0, 1) := by decide +kernel
theorem dX5_init_30 : decode cX5_init 30 = .ok (.aload 4, 2) := by decide +kernel
theorem dX5_init_32 : decode cX5_init 32 = .ok (.putfield 27, 3) := by decide +kernel
theorem dX5_init_35 : decode cX5_init 35 = .ok (.return_, 1) := by decide +kernel
theorem dX5_isAheadOf_0 : decode cX5_isAheadOf 0 = .ok (.aload_n 0, 1) := by decide +kernel
theorem dX5_isAheadOf_1 : decode cX5_isAheadOf 1 = .ok (.getfield 24, 3) := by decide +kernel
theorem dX5_isAheadOf_4 : decode cX5_isAheadOf 4 = .ok (.aload_n 1, 1) := by decide +kernel
theorem dX5_isAheadOf_5 : decode cX5_isAheadOf 5 = .ok (.getfield 24, 3) := by decide +kernel
theorem dX5_isAheadOf_8 : decode cX5_isAheadOf 8 = .ok (.if_icmp .lt 25, 3) := by decide +kernel
theorem dX5_isAheadOf_11 : decode cX5_isAheadOf 11 = .ok (.aload_n 0, 1) := by decide +kernel
theorem dX5_isAheadOf_12 : decode cX5_isAheadOf 12 = .ok (.getfield 24, 3) := by decide +kernel
theorem dX5_isAheadOf_15 : decode cX5_isAheadOf 15 = .ok (.aload_n 1, 1) := by decide +kernel
theorem dX5_isAheadOf_16 : decode cX5_isAheadOf 16 = .ok (.getfield 24, 3) := by decide +kernel
theorem dX5_isAheadOf_19 : decode cX5_isAheadOf 19 = .ok (.if_icmp .ne 18, 3) := by decide +kernel
theorem dX5_isAheadOf_22 : decode cX5_isAheadOf 22 = .ok (.aload_n 0, 1) := by decide +kernel
theorem dX5_isAheadOf_23 : decode cX5_isAheadOf 23 = .ok (.getfield 17, 3) := by decide +kernel
theorem dX5_isAheadOf_26 : decode cX5_isAheadOf 26 = .ok (.aload_n 1, 1) := by decide +kernel
theorem dX5_isAheadOf_27 : decode cX5_isAheadOf 27 = .ok (.getfield 17, 3) := by decide +kernel
theorem dX5_isAheadOf_30 : decode cX5_isAheadOf 30 = .ok (.if_icmp .ge 7, 3) := by decide +kernel
theorem dX5_isAheadOf_33 : decode cX5_isAheadOf 33 = .ok (.iconst 1, 1) := by decide +kernel
theorem dX5_isAheadOf_34 : decode cX5_isAheadOf 34 = .ok (.goto 4, 3) := by decide +kernel
theorem dX5_isAheadOf_37 : decode cX5_isAheadOf 37 = .ok (.iconst 0, 1) := by decide +kernel
theorem dX5_isAheadOf_38 : decode cX5_isAheadOf 38 = .ok (.ireturn, 1) := by decide +kernel
theorem dX6_init_0 : decode cX6_init 0 = .ok (.aload_n 0, 1) := by decide +kernel
theorem dX6_init_1 : decode cX6_init 1 = .ok (.invokespecial 3, 3) := by decide +kernel
theorem dX6_init_4 : decode cX6_init 4 = .ok (.aload_n 0, 1) := by decide +kernel
theorem dX6_init_5 : decode cX6_init 5 = .ok (.bipush 8, 2) := by decide +kernel
theorem dX6_init_7 : decode cX6_init 7 = .ok (.bipush 8, 2) := by decide +kernel
theorem dX6_init_9 : decode cX6_init 9 = .ok (.multianewarray 9 2, 4) := by decide +kernel
theorem dX6_init_13 : decode cX6_init 13 = .ok (.putfield 11, 3) := by decide +kernel
theorem dX6_init_16 : decode cX6_init 16 = .ok (.aload_n 0, 1) := by decide +kernel
theorem dX6_init_17 : decode cX6_init 17 = .ok (.bipush 8, 2) := by decide +kernel
theorem dX6_init_19 : decode cX6_init 19 = .ok (.bipush 8, 2) := by decide +kernel
theorem dX6_init_21 : decode cX6_init 21 = .ok (.multianewarray 9 2, 4) := by decide +kernel
theorem dX6_init_25 : decode cX6_init 25 = .ok (.putfield 16, 3) := by decide +kernel
theorem dX6_init_28 : decode cX6_init 28 = .ok (.aload_n 0, 1) := by decide +kernel
theorem dX6_init_29 : decode cX6_init 29 = .ok (.bipush 8, 2) := by decide +kernel
theorem dX6_init_31 : decode cX6_init 31 = .ok (.newarray .boolean, 2) := by decide +kernel
theorem dX6_init_33 : decode cX6_init 33 = .ok (.putfield 19, 3) := by decide +kernel
theorem dX6_init_36 : decode cX6_init 36 = .ok (.aload_n 0, 1) := by decide +kernel
theorem dX6_init_37 : decode cX6_init 37 = .ok (.bipush 30, 2) := by decide +kernel
theorem dX6_init_39 : decode cX6_init 39 = .ok (.putfield 23, 3) := by decide +kernel
theorem dX6_init_42 : decode cX6_init 42 = .ok (.aload_n 0, 1) := by decide +kernel
theorem dX6_init_43 : decode cX6_init 43 = .ok (.invokevirtual 27, 3) := by decide +kernel
theorem dX6_init_46 : decode cX6_init 46 = .ok (.return_, 1) := by decide +kernel
theorem dX6_lengthOf_0 : decode cX6_lengthOf 0 = .ok (.aload_n 0, 1) := by decide +kernel
theorem dX6_lengthOf_1 : decode cX6_lengthOf 1 = .ok (.getfield 11, 3) := by decide +kernel
theorem dX6_lengthOf_4 : decode cX6_lengthOf 4 = .ok (.iload_n 1, 1) := by decide +kernel
theorem dX6_lengthOf_5 : decode cX6_lengthOf 5 = .ok (.aaload, 1) := by decide +kernel
theorem dX6_lengthOf_6 : decode cX6_lengthOf 6 = .ok (.iload_n 2, 1) := by decide +kernel
theorem dX6_lengthOf_7 : decode cX6_lengthOf 7 = .ok (.iaload, 1) := by decide +kernel
theorem dX6_lengthOf_8 : decode cX6_lengthOf 8 = .ok (.ireturn, 1) := by decide +kernel
theorem dX6_build_0 : decode cX6_build 0 = .ok (.aload_n 0, 1) := by decide +kernel
theorem dX6_build_1 : decode cX6_build 1 = .ok (.getfield 11, 3) := by decide +kernel
theorem dX6_build_4 : decode cX6_build 4 = .ok (.iload_n 1, 1) := by decide +kernel
theorem dX6_build_5 : decode cX6_build 5 = .ok (.aaload, 1) := by decide +kernel
theorem dX6_build_6 : decode cX6_build 6 = .ok (.iload_n 2, 1) := by decide +kernel
theorem dX6_build_7 : decode cX6_build 7 = .ok (.iload_n 3, 1) := by decide +kernel
theorem dX6_build_8 : decode cX6_build 8 = .ok (.iastore, 1) := by decide +kernel
theorem dX6_build_9 : decode cX6_build 9 = .ok (.aload_n 0, 1) := by decide +kernel
theorem dX6_build_10 : decode cX6_build 10 = .ok (.getfield 11, 3) := by decide +kernel
theorem dX6_build_13 : decode cX6_build 13 = .ok (.iload_n 2, 1) := by decide +kernel
theorem dX6_build_14 : decode cX6_build 14 = .ok (.aaload, 1) := by decide +kernel
theorem dX6_build_15 : decode cX6_build 15 = .ok (.iload_n 1, 1) := by decide +kernel
theorem dX6_build_16 : decode cX6_build 16 = .ok (.iload_n 3, 1) := by decide +kernel
theorem dX6_build_17 : decode cX6_build 17 = .ok (.iastore, 1) := by decide +kernel
theorem dX6_build_18 : decode cX6_build 18 = .ok (.aload_n 0, 1) := by decide +kernel
theorem dX6_build_19 : decode cX6_build 19 = .ok (.invokevirtual 27, 3) := by decide +kernel
theorem dX6_build_22 : decode cX6_build 22 = .ok (.return_, 1) := by decide +kernel
theorem dX6_between_0 : decode cX6_between 0 = .ok (.aload_n 0, 1) := by decide +kernel
theorem dX6_between_1 : decode cX6_between 1 = .ok (.getfield 16, 3) := by decide +kernel
theorem dX6_between_4 : decode cX6_between 4 = .ok (.iload_n 1, 1) := by decide +kernel
theorem dX6_between_5 : decode cX6_between 5 = .ok (.aaload, 1) := by decide +kernel
theorem dX6_between_6 : decode cX6_between 6 = .ok (.iload_n 2, 1) := by decide +kernel
theorem dX6_between_7 : decode cX6_between 7 = .ok (.iaload, 1) := by decide +kernel
theorem dX6_between_8 : decode cX6_between 8 = .ok (.ireturn, 1) := by decide +kernel
theorem dX6_isOneTrip_0 : decode cX6_isOneTrip 0 = .ok (.aload_n 0, 1) := by decide +kernel
theorem dX6_isOneTrip_1 : decode cX6_isOneTrip 1 = .ok (.aload_n 1, 1) := by decide +kernel
theorem dX6_isOneTrip_2 : decode cX6_isOneTrip 2 = .ok (.getfield 30, 3) := by decide +kernel
theorem dX6_isOneTrip_5 : decode cX6_isOneTrip 5 = .ok (.aload_n 2, 1) := by decide +kernel
theorem dX6_isOneTrip_6 : decode cX6_isOneTrip 6 = .ok (.getfield 30, 3) := by decide +kernel
theorem dX6_isOneTrip_9 : decode cX6_isOneTrip 9 = .ok (.invokevirtual 35, 3) := by decide +kernel
theorem dX6_isOneTrip_12 : decode cX6_isOneTrip 12 = .ok (.istore_n 3, 1) := by decide +kernel
theorem dX6_isOneTrip_13 : decode cX6_isOneTrip 13 = .ok (.aload_n 2, 1) := by decide +kernel
theorem dX6_isOneTrip_14 : decode cX6_isOneTrip 14 = .ok (.getfield 39, 3) := by decide +kernel
theorem dX6_isOneTrip_17 : decode cX6_isOneTrip 17 = .ok (.aload_n 1, 1) := by decide +kernel
theorem dX6_isOneTrip_18 : decode cX6_isOneTrip 18 = .ok (.getfield 39, 3) := by decide +kernel
theorem dX6_isOneTrip_21 : decode cX6_isOneTrip 21 = .ok (.isub, 1) := by decide +kernel
theorem dX6_isOneTrip_22 : decode cX6_isOneTrip 22 = .ok (.istore 4, 2) := by decide +kernel
theorem dX6_isOneTrip_24 : decode cX6_isOneTrip 24 = .ok (.iload_n 3, 1) := by decide +kernel
theorem dX6_isOneTrip_25 : decode cX6_isOneTrip 25 = .ok (.iconst (-1), 1) := by decide +kernel
theorem dX6_isOneTrip_26 : decode cX6_isOneTrip 26 = .ok (.if_icmp .eq 28, 3) := by decide +kernel
theorem dX6_isOneTrip_29 : decode cX6_isOneTrip 29 = .ok (.iload 4, 2) := by decide +kernel
theorem dX6_isOneTrip_31 : decode cX6_isOneTrip 31 = .ok (.iconst 2, 1) := by decide +kernel
theorem dX6_isOneTrip_32 : decode cX6_isOneTrip 32 = .ok (.iload_n 3, 1) := by decide +kernel
theorem dX6_isOneTrip_33 : decode cX6_isOneTrip 33 = .ok (.imul, 1) := by decide +kernel
theorem dX6_isOneTrip_34 : decode cX6_isOneTrip 34 = .ok (.aload_n 0, 1) := by decide +kernel
theorem dX6_isOneTrip_35 : decode cX6_isOneTrip 35 = .ok (.getfield 23, 3) := by decide +kernel
theorem dX6_isOneTrip_38 : decode cX6_isOneTrip 38 = .ok (.iadd, 1) := by decide +kernel
theorem dX6_isOneTrip_39 : decode cX6_isOneTrip 39 = .ok (.if_icmp .gt 15, 3) := by decide +kernel
theorem dX6_isOneTrip_42 : decode cX6_isOneTrip 42 = .ok (.iconst 4, 1) := by decide +kernel
theorem dX6_isOneTrip_43 : decode cX6_isOneTrip 43 = .ok (.iload 4, 2) := by decide +kernel
theorem dX6_isOneTrip_45 : decode cX6_isOneTrip 45 = .ok (.imul, 1) := by decide +kernel
theorem dX6_isOneTrip_46 : decode cX6_isOneTrip 46 = .ok (.iload_n 3, 1) := by decide +kernel
theorem dX6_isOneTrip_47 : decode cX6_isOneTrip 47 = .ok (.if_icmp .lt 7, 3) := by decide +kernel
theorem dX6_isOneTrip_50 : decode cX6_isOneTrip 50 = .ok (.iconst 1, 1) := by decide +kernel
theorem dX6_isOneTrip_51 : decode cX6_isOneTrip 51 = .ok (.goto 4, 3) := by decide +kernel
theorem dX6_isOneTrip_54 : decode cX6_isOneTrip 54 = .ok (.iconst 0, 1) := by decide +kernel
theorem dX6_isOneTrip_55 : decode cX6_isOneTrip 55 = .ok (.ireturn, 1) := by decide +kernel
theorem dX6_measureAll_0 : decode cX6_measureAll 0 = .ok (.iconst 0, 1) := by decide +kernel
theorem dX6_measureAll_1 : decode cX6_measureAll 1 = .ok (.istore_n 1, 1) := by decide +kernel
theorem dX6_measureAll_2 : decode cX6_measureAll 2 = .ok (.iload_n 1, 1) := by decide +kernel
theorem dX6_measureAll_3 : decode cX6_measureAll 3 = .ok (.bipush 8, 2) := by decide +kernel
theorem dX6_measureAll_5 : decode cX6_measureAll 5 = .ok (.if_icmp .ge 14, 3) := by decide +kernel
theorem dX6_measureAll_8 : decode cX6_measureAll 8 = .ok (.aload_n 0, 1) := by decide +kernel
theorem dX6_measureAll_9 : decode cX6_measureAll 9 = .ok (.iload_n 1, 1) := by decide +kernel
theorem dX6_measureAll_10 : decode cX6_measureAll 10 = .ok (.invokevirtual 42, 3) := by decide +kernel
theorem dX6_measureAll_13 : decode cX6_measureAll 13 = .ok (.iinc 1 1, 3) := by decide +kernel
theorem dX6_measureAll_16 : decode cX6_measureAll 16 = .ok (.goto (-14), 3) := by decide +kernel
theorem dX6_measureAll_19 : decode cX6_measureAll 19 = .ok (.return_, 1) := by decide +kernel
theorem dX6_measureFrom_0 : decode cX6_measureFrom 0 = .ok (.aload_n 0, 1) := by decide +kernel
theorem dX6_measureFrom_1 : decode cX6_measureFrom 1 = .ok (.getfield 16, 3) := by decide +kernel
theorem dX6_measureFrom_4 : decode cX6_measureFrom 4 = .ok (.iload_n 1, 1) := by decide +kernel
theorem dX6_measureFrom_5 : decode cX6_measureFrom 5 = .ok (.aaload, 1) := by decide +kernel
theorem dX6_measureFrom_6 : decode cX6_measureFrom 6 = .ok (.astore_n 2, 1) := by decide +kernel
theorem dX6_measureFrom_7 : decode cX6_measureFrom 7 = .ok (.iconst 0, 1) := by decide +kernel
theorem dX6_measureFrom_8 : decode cX6_measureFrom 8 = .ok (.istore_n 3, 1) := by decide +kernel
theorem dX6_measureFrom_9 : decode cX6_measureFrom 9 = .ok (.iload_n 3, 1) := by decide +kernel
theorem dX6_measureFrom_10 : decode cX6_measureFrom 10 = .ok (.bipush 8, 2) := by decide +kernel
theorem dX6_measureFrom_12 : decode cX6_measureFrom 12 = .ok (.if_icmp .ge 20, 3) := by decide +kernel
theorem dX6_measureFrom_15 : decode cX6_measureFrom 15 = .ok (.aload_n 2, 1) := by decide +kernel
theorem dX6_measureFrom_16 : decode cX6_measureFrom 16 = .ok (.iload_n 3, 1) := by decide +kernel
theorem dX6_measureFrom_17 : decode cX6_measureFrom 17 = .ok (.iconst (-1), 1) := by decide +kernel
theorem dX6_measureFrom_18 : decode cX6_measureFrom 18 = .ok (.iastore, 1) := by decide +kernel
theorem dX6_measureFrom_19 : decode cX6_measureFrom 19 = .ok (.aload_n 0, 1) := by decide +kernel
theorem dX6_measureFrom_20 : decode cX6_measureFrom 20 = .ok (.getfield 19, 3) := by decide +kernel
theorem dX6_measureFrom_23 : decode cX6_measureFrom 23 = .ok (.iload_n 3, 1) := by decide +kernel
theorem dX6_measureFrom_24 : decode cX6_measureFrom 24 = .ok (.iconst 0, 1) := by decide +kernel
theorem dX6_measureFrom_25 : decode cX6_measureFrom 25 = .ok (.bastore, 1) := by decide +kernel
theorem dX6_measureFrom_26 : decode cX6_measureFrom 26 = .ok (.iinc 3 1, 3) := by decide +kernel
theorem dX6_measureFrom_29 : decode cX6_measureFrom 29 = .ok (.goto (-20), 3) := by decide +kernel
theorem dX6_measureFrom_32 : decode cX6_measureFrom 32 = .ok (.aload_n 2, 1) := by decide +kernel
theorem dX6_measureFrom_33 : decode cX6_measureFrom 33 = .ok (.iload_n 1, 1) := by decide +kernel
theorem dX6_measureFrom_34 : decode cX6_measureFrom 34 = .ok (.iconst 0, 1) := by decide +kernel
theorem dX6_measureFrom_35 : decode cX6_measureFrom 35 = .ok (.iastore, 1) := by decide +kernel
theorem dX6_measureFrom_36 : decode cX6_measureFrom 36 = .ok (.iconst 0, 1) := by decide +kernel
theorem dX6_measureFrom_37 : decode cX6_measureFrom 37 = .ok (.istore_n 3, 1) := by decide +kernel
theorem dX6_measureFrom_38 : decode cX6_measureFrom 38 = .ok (.iload_n 3, 1) := by decide +kernel
theorem dX6_measureFrom_39 : decode cX6_measureFrom 39 = .ok (.bipush 8, 2) := by decide +kernel
theorem dX6_measureFrom_41 : decode cX6_measureFrom 41 = .ok (.if_icmp .ge 38, 3) := by decide +kernel
theorem dX6_measureFrom_44 : decode cX6_measureFrom 44 = .ok (.aload_n 0, 1) := by decide +kernel
theorem dX6_measureFrom_45 : decode cX6_measureFrom 45 = .ok (.aload_n 2, 1) := by decide +kernel
theorem dX6_measureFrom_46 : decode cX6_measureFrom 46 = .ok (.invokevirtual 46, 3) := by decide +kernel
theorem dX6_measureFrom_49 : decode cX6_measureFrom 49 = .ok (.istore 4, 2) := by decide +kernel
theorem dX6_measureFrom_51 : decode cX6_measureFrom 51 = .ok (.iload 4, 2) := by decide +kernel
theorem dX6_measureFrom_53 : decode cX6_measureFrom 53 = .ok (.iconst (-1), 1) := by decide +kernel
theorem dX6_measureFrom_54 : decode cX6_measureFrom 54 = .ok (.if_icmp .ne 4, 3) := by decide +kernel
theorem dX6_measureFrom_57 : decode cX6_measureFrom 57 = .ok (.return_, 1) := by decide +kernel
theorem dX6_measureFrom_58 : decode cX6_measureFrom 58 = .ok (.aload_n 0, 1) := by decide +kernel
theorem dX6_measureFrom_59 : decode cX6_measureFrom 59 = .ok (.getfield 19, 3) := by decide +kernel
theorem dX6_measureFrom_62 : decode cX6_measureFrom 62 = .ok (.iload 4, 2) := by decide +kernel
theorem dX6_measureFrom_64 : decode cX6_measureFrom 64 = .ok (.iconst 1, 1) := by decide +kernel
theorem dX6_measureFrom_65 : decode cX6_measureFrom 65 = .ok (.bastore, 1) := by decide +kernel
theorem dX6_measureFrom_66 : decode cX6_measureFrom 66 = .ok (.aload_n 0, 1) := by decide +kernel
theorem dX6_measureFrom_67 : decode cX6_measureFrom 67 = .ok (.iload 4, 2) := by decide +kernel
theorem dX6_measureFrom_69 : decode cX6_measureFrom 69 = .ok (.aload_n 2, 1) := by decide +kernel
theorem dX6_measureFrom_70 : decode cX6_measureFrom 70 = .ok (.invokevirtual 50, 3) := by decide +kernel
theorem dX6_measureFrom_73 : decode cX6_measureFrom 73 = .ok (.iinc 3 1, 3) := by decide +kernel
theorem dX6_measureFrom_76 : decode cX6_measureFrom 76 = .ok (.goto (-38), 3) := by decide +kernel
theorem dX6_measureFrom_79 : decode cX6_measureFrom 79 = .ok (.return_, 1) := by decide +kernel
theorem dX6_nearestOpen_0 : decode cX6_nearestOpen 0 = .ok (.iconst (-1), 1) := by decide +kernel
theorem dX6_nearestOpen_1 : decode cX6_nearestOpen 1 = .ok (.istore_n 2, 1) := by decide +kernel
theorem dX6_nearestOpen_2 : decode cX6_nearestOpen 2 = .ok (.iconst 0, 1) := by decide +kernel
theorem dX6_nearestOpen_3 : decode cX6_nearestOpen 3 = .ok (.istore_n 3, 1) := by decide +kernel
theorem dX6_nearestOpen_4 : decode cX6_nearestOpen 4 = .ok (.iload_n 3, 1) := by decide +kernel
theorem dX6_nearestOpen_5 : decode cX6_nearestOpen 5 = .ok (.bipush 8, 2) := by decide +kernel
theorem dX6_nearestOpen_7 : decode cX6_nearestOpen 7 = .ok (.if_icmp .ge 41, 3) := by decide +kernel
theorem dX6_nearestOpen_10 : decode cX6_nearestOpen 10 = .ok (.aload_n 0, 1) := by decide +kernel
theorem dX6_nearestOpen_11 : decode cX6_nearestOpen 11 = .ok (.getfield 19, 3) := by decide +kernel
theorem dX6_nearestOpen_14 : decode cX6_nearestOpen 14 = .ok (.iload_n 3, 1) := by decide +kernel
theorem dX6_nearestOpen_15 : decode cX6_nearestOpen 15 = .ok (.baload, 1) := by decide +kernel
theorem dX6_nearestOpen_16 : decode cX6_nearestOpen 16 = .ok (.ifCond .ne 26, 3) := by decide +kernel
theorem dX6_nearestOpen_19 : decode cX6_nearestOpen 19 = .ok (.aload_n 1, 1) := by decide +kernel
theorem dX6_nearestOpen_20 : decode cX6_nearestOpen 20 = .ok (.iload_n 3, 1) := by decide +kernel
theorem dX6_nearestOpen_21 : decode cX6_nearestOpen 21 = .ok (.iaload, 1) := by decide +kernel
theorem dX6_nearestOpen_22 : decode cX6_nearestOpen 22 = .ok (.iconst (-1), 1) := by decide +kernel
theorem dX6_nearestOpen_23 : decode cX6_nearestOpen 23 = .ok (.if_icmp .eq 19, 3) := by decide +kernel
theorem dX6_nearestOpen_26 : decode cX6_nearestOpen 26 = .ok (.iload_n 2, 1) := by decide +kernel
theorem dX6_nearestOpen_27 : decode cX6_nearestOpen 27 = .ok (.iconst (-1), 1) := by decide +kernel
theorem dX6_nearestOpen_28 : decode cX6_nearestOpen 28 = .ok (.if_icmp .eq 12, 3) := by decide +kernel
theorem dX6_nearestOpen_31 : decode cX6_nearestOpen 31 = .ok (.aload_n 1, 1) := by decide +kernel
theorem dX6_nearestOpen_32 : decode cX6_nearestOpen 32 = .ok (.iload_n 3, 1) := by decide +kernel
theorem dX6_nearestOpen_33 : decode cX6_nearestOpen 33 = .ok (.iaload, 1) := by decide +kernel
theorem dX6_nearestOpen_34 : decode cX6_nearestOpen 34 = .ok (.aload_n 1, 1) := by decide +kernel
theorem dX6_nearestOpen_35 : decode cX6_nearestOpen 35 = .ok (.iload_n 2, 1) := by decide +kernel
theorem dX6_nearestOpen_36 : decode cX6_nearestOpen 36 = .ok (.iaload, 1) := by decide +kernel
theorem dX6_nearestOpen_37 : decode cX6_nearestOpen 37 = .ok (.if_icmp .ge 5, 3) := by decide +kernel
theorem dX6_nearestOpen_40 : decode cX6_nearestOpen 40 = .ok (.iload_n 3, 1) := by decide +kernel
theorem dX6_nearestOpen_41 : decode cX6_nearestOpen 41 = .ok (.istore_n 2, 1) := by decide +kernel
theorem dX6_nearestOpen_42 : decode cX6_nearestOpen 42 = .ok (.iinc 3 1, 3) := by decide +kernel
theorem dX6_nearestOpen_45 : decode cX6_nearestOpen 45 = .ok (.goto (-41), 3) := by decide +kernel
theorem dX6_nearestOpen_48 : decode cX6_nearestOpen 48 = .ok (.iload_n 2, 1) := by decide +kernel
theorem dX6_nearestOpen_49 : decode cX6_nearestOpen 49 = .ok (.ireturn, 1) := by decide +kernel
theorem dX6_goOnFrom_0 : decode cX6_goOnFrom 0 = .ok (.iconst 0, 1) := by decide +kernel
theorem dX6_goOnFrom_1 : decode cX6_goOnFrom 1 = .ok (.istore_n 3, 1) := by decide +kernel
theorem dX6_goOnFrom_2 : decode cX6_goOnFrom 2 = .ok (.iload_n 3, 1) := by decide +kernel
theorem dX6_goOnFrom_3 : decode cX6_goOnFrom 3 = .ok (.bipush 8, 2) := by decide +kernel
theorem dX6_goOnFrom_5 : decode cX6_goOnFrom 5 = .ok (.if_icmp .ge 52, 3) := by decide +kernel
theorem dX6_goOnFrom_8 : decode cX6_goOnFrom 8 = .ok (.aload_n 0, 1) := by decide +kernel
theorem dX6_goOnFrom_9 : decode cX6_goOnFrom 9 = .ok (.getfield 11, 3) := by decide +kernel
theorem dX6_goOnFrom_12 : decode cX6_goOnFrom 12 = .ok (.iload_n 1, 1) := by decide +kernel
theorem dX6_goOnFrom_13 : decode cX6_goOnFrom 13 = .ok (.aaload, 1) := by decide +kernel
theorem dX6_goOnFrom_14 : decode cX6_goOnFrom 14 = .ok (.iload_n 3, 1) := by decide +kernel
theorem dX6_goOnFrom_15 : decode cX6_goOnFrom 15 = .ok (.iaload, 1) := by decide +kernel
theorem dX6_goOnFrom_16 : decode cX6_goOnFrom 16 = .ok (.istore 4, 2) := by decide +kernel
theorem dX6_goOnFrom_18 : decode cX6_goOnFrom 18 = .ok (.aload_n 2, 1) := by decide +kernel
theorem dX6_goOnFrom_19 : decode cX6_goOnFrom 19 = .ok (.iload_n 1, 1) := by decide +kernel
theorem dX6_goOnFrom_20 : decode cX6_goOnFrom 20 = .ok (.iaload, 1) := by decide +kernel
theorem dX6_goOnFrom_21 : decode cX6_goOnFrom 21 = .ok (.iload 4, 2) := by decide +kernel
theorem dX6_goOnFrom_23 : decode cX6_goOnFrom 23 = .ok (.iadd, 1) := by decide +kernel
theorem dX6_goOnFrom_24 : decode cX6_goOnFrom 24 = .ok (.istore 5, 2) := by decide +kernel
theorem dX6_goOnFrom_26 : decode cX6_goOnFrom 26 = .ok (.iload 4, 2) := by decide +kernel
theorem dX6_goOnFrom_28 : decode cX6_goOnFrom 28 = .ok (.ifCond .eq 23, 3) := by decide +kernel
theorem dX6_goOnFrom_31 : decode cX6_goOnFrom 31 = .ok (.aload_n 2, 1) := by decide +kernel
theorem dX6_goOnFrom_32 : decode cX6_goOnFrom 32 = .ok (.iload_n 3, 1) := by decide +kernel
theorem dX6_goOnFrom_33 : decode cX6_goOnFrom 33 = .ok (.iaload, 1) := by decide +kernel
theorem dX6_goOnFrom_34 : decode cX6_goOnFrom 34 = .ok (.iconst (-1), 1) := by decide +kernel
theorem dX6_goOnFrom_35 : decode cX6_goOnFrom 35 = .ok (.if_icmp .eq 11, 3) := by decide +kernel
theorem dX6_goOnFrom_38 : decode cX6_goOnFrom 38 = .ok (.iload 5, 2) := by decide +kernel
theorem dX6_goOnFrom_40 : decode cX6_goOnFrom 40 = .ok (.aload_n 2, 1) := by decide +kernel
theorem dX6_goOnFrom_41 : decode cX6_goOnFrom 41 = .ok (.iload_n 3, 1) := by decide +kernel
theorem dX6_goOnFrom_42 : decode cX6_goOnFrom 42 = .ok (.iaload, 1) := by decide +kernel
theorem dX6_goOnFrom_43 : decode cX6_goOnFrom 43 = .ok (.if_icmp .ge 8, 3) := by decide +kernel
theorem dX6_goOnFrom_46 : decode cX6_goOnFrom 46 = .ok (.aload_n 2, 1) := by decide +kernel
theorem dX6_goOnFrom_47 : decode cX6_goOnFrom 47 = .ok (.iload_n 3, 1) := by decide +kernel
theorem dX6_goOnFrom_48 : decode cX6_goOnFrom 48 = .ok (.iload 5, 2) := by decide +kernel
theorem dX6_goOnFrom_50 : decode cX6_goOnFrom 50 = .ok (.iastore, 1) := by decide +kernel
theorem dX6_goOnFrom_51 : decode cX6_goOnFrom 51 = .ok (.iinc 3 1, 3) := by decide +kernel
theorem dX6_goOnFrom_54 : decode cX6_goOnFrom 54 = .ok (.goto (-52), 3) := by decide +kernel
theorem dX6_goOnFrom_57 : decode cX6_goOnFrom 57 = .ok (.return_, 1) := by decide +kernel
theorem dX7_init_0 : decode cX7_init 0 = .ok (.aload_n 0, 1) := by decide +kernel
theorem dX7_init_1 : decode cX7_init 1 = .ok (.invokespecial 3, 3) := by decide +kernel
theorem dX7_init_4 : decode cX7_init 4 = .ok (.aload_n 0, 1) := by decide +kernel
theorem dX7_init_5 : decode cX7_init 5 = .ok (.bipush 6, 2) := by decide +kernel
theorem dX7_init_7 : decode cX7_init 7 = .ok (.newarray .int, 2) := by decide +kernel
theorem dX7_init_9 : decode cX7_init 9 = .ok (.putfield 9, 3) := by decide +kernel
theorem dX7_init_12 : decode cX7_init 12 = .ok (.aload_n 0, 1) := by decide +kernel
theorem dX7_init_13 : decode cX7_init 13 = .ok (.iconst 0, 1) := by decide +kernel
theorem dX7_init_14 : decode cX7_init 14 = .ok (.putfield 15, 3) := by decide +kernel
theorem dX7_init_17 : decode cX7_init 17 = .ok (.return_, 1) := by decide +kernel
theorem dX7_put_0 : decode cX7_put 0 = .ok (.aload_n 0, 1) := by decide +kernel
theorem dX7_put_1 : decode cX7_put 1 = .ok (.getfield 15, 3) := by decide +kernel
theorem dX7_put_4 : decode cX7_put 4 = .ok (.istore_n 3, 1) := by decide +kernel
theorem dX7_put_5 : decode cX7_put 5 = .ok (.iload_n 3, 1) := by decide +kernel
theorem dX7_put_6 : decode cX7_put 6 = .ok (.iload_n 2, 1) := by decide +kernel
theorem dX7_put_7 : decode cX7_put 7 = .ok (.if_icmp .le 23, 3) := by decide +kernel
theorem dX7_put_10 : decode cX7_put 10 = .ok (.aload_n 0, 1) := by decide +kernel
theorem dX7_put_11 : decode cX7_put 11 = .ok (.getfield 9, 3) := by decide +kernel
theorem dX7_put_14 : decode cX7_put 14 = .ok (.iload_n 3, 1) := by decide +kernel
theorem dX7_put_15 : decode cX7_put 15 = .ok (.aload_n 0, 1) := by decide +kernel
theorem dX7_put_16 : decode cX7_put 16 = .ok (.getfield 9, 3) := by decide +kernel
theorem dX7_put_19 : decode cX7_put 19 = .ok (.iload_n 3, 1) := by decide +kernel
theorem dX7_put_20 : decode cX7_put 20 = .ok (.iconst 1, 1) := by decide +kernel
theorem dX7_put_21 : decode cX7_put 21 = .ok (.isub, 1) := by decide +kernel
theorem dX7_put_22 : decode cX7_put 22 = .ok (.iaload, 1) := by decide +kernel
theorem dX7_put_23 : decode cX7_put 23 = .ok (.iastore, 1) := by decide +kernel
theorem dX7_put_24 : decode cX7_put 24 = .ok (.iinc 3 (-1), 3) := by decide +kernel
theorem dX7_put_27 : decode cX7_put 27 = .ok (.goto (-22), 3) := by decide +kernel
theorem dX7_put_30 : decode cX7_put 30 = .ok (.aload_n 0, 1) := by decide +kernel
theorem dX7_put_31 : decode cX7_put 31 = .ok (.getfield 9, 3) := by decide +kernel
theorem dX7_put_34 : decode cX7_put 34 = .ok (.iload_n 2, 1) := by decide +kernel
theorem dX7_put_35 : decode cX7_put 35 = .ok (.iload_n 1, 1) := by decide +kernel
theorem dX7_put_36 : decode cX7_put 36 = .ok (.iastore, 1) := by decide +kernel
theorem dX7_put_37 : decode cX7_put 37 = .ok (.aload_n 0, 1) := by decide +kernel
theorem dX7_put_38 : decode cX7_put 38 = .ok (.dup, 1) := by decide +kernel
theorem dX7_put_39 : decode cX7_put 39 = .ok (.getfield 15, 3) := by decide +kernel
theorem dX7_put_42 : decode cX7_put 42 = .ok (.iconst 1, 1) := by decide +kernel
theorem dX7_put_43 : decode cX7_put 43 = .ok (.iadd, 1) := by decide +kernel
theorem dX7_put_44 : decode cX7_put 44 = .ok (.putfield 15, 3) := by decide +kernel
theorem dX7_put_47 : decode cX7_put 47 = .ok (.return_, 1) := by decide +kernel
theorem dX7_turnRound_0 : decode cX7_turnRound 0 = .ok (.aload_n 0, 1) := by decide +kernel
theorem dX7_turnRound_1 : decode cX7_turnRound 1 = .ok (.getfield 15, 3) := by decide +kernel
theorem dX7_turnRound_4 : decode cX7_turnRound 4 = .ok (.iconst 1, 1) := by decide +kernel
theorem dX7_turnRound_5 : decode cX7_turnRound 5 = .ok (.isub, 1) := by decide +kernel
theorem dX7_turnRound_6 : decode cX7_turnRound 6 = .ok (.istore_n 1, 1) := by decide +kernel
theorem dX7_turnRound_7 : decode cX7_turnRound 7 = .ok (.iconst 0, 1) := by decide +kernel
theorem dX7_turnRound_8 : decode cX7_turnRound 8 = .ok (.istore_n 2, 1) := by decide +kernel
theorem dX7_turnRound_9 : decode cX7_turnRound 9 = .ok (.iload_n 2, 1) := by decide +kernel
theorem dX7_turnRound_10 : decode cX7_turnRound 10 = .ok (.iload_n 1, 1) := by decide +kernel
theorem dX7_turnRound_11 : decode cX7_turnRound 11 = .ok (.if_icmp .ge 38, 3) := by decide +kernel
theorem dX7_turnRound_14 : decode cX7_turnRound 14 = .ok (.aload_n 0, 1) := by decide +kernel
theorem dX7_turnRound_15 : decode cX7_turnRound 15 = .ok (.getfield 9, 3) := by decide +kernel
theorem dX7_turnRound_18 : decode cX7_turnRound 18 = .ok (.iload_n 2, 1) := by decide +kernel
theorem dX7_turnRound_19 : decode cX7_turnRound 19 = .ok (.iaload, 1) := by decide +kernel
theorem dX7_turnRound_20 : decode cX7_turnRound 20 = .ok (.istore_n 3, 1) := by decide +kernel
theorem dX7_turnRound_21 : decode cX7_turnRound 21 = .ok (.aload_n 0, 1) := by decide +kernel
theorem dX7_turnRound_22 : decode cX7_turnRound 22 = .ok (.getfield 9, 3) := by decide +kernel
theorem dX7_turnRound_25 : decode cX7_turnRound 25 = .ok (.iload_n 2, 1) := by decide +kernel
theorem dX7_turnRound_26 : decode cX7_turnRound 26 = .ok (.aload_n 0, 1) := by decide +kernel
theorem dX7_turnRound_27 : decode cX7_turnRound 27 = .ok (.getfield 9, 3) := by decide +kernel
theorem dX7_turnRound_30 : decode cX7_turnRound 30 = .ok (.iload_n 1, 1) := by decide +kernel
theorem dX7_turnRound_31 : decode cX7_turnRound 31 = .ok (.iaload, 1) := by decide +kernel
theorem dX7_turnRound_32 : decode cX7_turnRound 32 = .ok (.iastore, 1) := by decide +kernel
theorem dX7_turnRound_33 : decode cX7_turnRound 33 = .ok (.aload_n 0, 1) := by decide +kernel
theorem dX7_turnRound_34 : decode cX7_turnRound 34 = .ok (.getfield 9, 3) := by decide +kernel
theorem dX7_turnRound_37 : decode cX7_turnRound 37 = .ok (.iload_n 1, 1) := by decide +kernel
theorem dX7_turnRound_38 : decode cX7_turnRound 38 = .ok (.iload_n 3, 1) := by decide +kernel
theorem dX7_turnRound_39 : decode cX7_turnRound 39 = .ok (.iastore, 1) := by decide +kernel
theorem dX7_turnRound_40 : decode cX7_turnRound 40 = .ok (.iinc 1 (-1), 3) := by decide +kernel
theorem dX7_turnRound_43 : decode cX7_turnRound 43 = .ok (.iinc 2 1, 3) := by decide +kernel
theorem dX7_turnRound_46 : decode cX7_turnRound 46 = .ok (.goto (-37), 3) := by decide +kernel
theorem dX7_turnRound_49 : decode cX7_turnRound 49 = .ok (.return_, 1) := by decide +kernel
theorem dX7_copy_0 : decode cX7_copy 0 = .ok (.new 10, 3) := by decide +kernel
theorem dX7_copy_3 : decode cX7_copy 3 = .ok (.dup, 1) := by decide +kernel
theorem dX7_copy_4 : decode cX7_copy 4 = .ok (.invokespecial 19, 3) := by decide +kernel
theorem dX7_copy_7 : decode cX7_copy 7 = .ok (.astore_n 1, 1) := by decide +kernel
theorem dX7_copy_8 : decode cX7_copy 8 = .ok (.iconst 0, 1) := by decide +kernel
theorem dX7_copy_9 : decode cX7_copy 9 = .ok (.istore_n 2, 1) := by decide +kernel
theorem dX7_copy_10 : decode cX7_copy 10 = .ok (.iload_n 2, 1) := by decide +kernel
theorem dX7_copy_11 : decode cX7_copy 11 = .ok (.aload_n 0, 1) := by decide +kernel
theorem dX7_copy_12 : decode cX7_copy 12 = .ok (.getfield 15, 3) := by decide +kernel
theorem dX7_copy_15 : decode cX7_copy 15 = .ok (.if_icmp .ge 21, 3) := by decide +kernel
theorem dX7_copy_18 : decode cX7_copy 18 = .ok (.aload_n 1, 1) := by decide +kernel
theorem dX7_copy_19 : decode cX7_copy 19 = .ok (.getfield 9, 3) := by decide +kernel
theorem dX7_copy_22 : decode cX7_copy 22 = .ok (.iload_n 2, 1) := by decide +kernel
theorem dX7_copy_23 : decode cX7_copy 23 = .ok (.aload_n 0, 1) := by decide +kernel
theorem dX7_copy_24 : decode cX7_copy 24 = .ok (.getfield 9, 3) := by decide +kernel
theorem dX7_copy_27 : decode cX7_copy 27 = .ok (.iload_n 2, 1) := by decide +kernel
theorem dX7_copy_28 : decode cX7_copy 28 = .ok (.iaload, 1) := by decide +kernel
theorem dX7_copy_29 : decode cX7_copy 29 = .ok (.iastore, 1) := by decide +kernel
theorem dX7_copy_30 : decode cX7_copy 30 = .ok (.iinc 2 1, 3) := by decide +kernel
theorem dX7_copy_33 : decode cX7_copy 33 = .ok (.goto (-23), 3) := by decide +kernel
theorem dX7_copy_36 : decode cX7_copy 36 = .ok (.aload_n 1, 1) := by decide +kernel
theorem dX7_copy_37 : decode cX7_copy 37 = .ok (.aload_n 0, 1) := by decide +kernel
theorem dX7_copy_38 : decode cX7_copy 38 = .ok (.getfield 15, 3) := by decide +kernel
theorem dX7_copy_41 : decode cX7_copy 41 = .ok (.putfield 15, 3) := by decide +kernel
theorem dX7_copy_44 : decode cX7_copy 44 = .ok (.aload_n 1, 1) := by decide +kernel
theorem dX7_copy_45 : decode cX7_copy 45 = .ok (.areturn, 1) := by decide +kernel
theorem dX7_hasQuestionMark_0 : decode cX7_hasQuestionMark 0 = .ok (.iconst 0, 1) := by decide +kernel
theorem dX7_hasQuestionMark_1 : decode cX7_hasQuestionMark 1 = .ok (.istore_n 1, 1) := by decide +kernel
theorem dX7_hasQuestionMark_2 : decode cX7_hasQuestionMark 2 = .ok (.iload_n 1, 1) := by decide +kernel
theorem dX7_hasQuestionMark_3 : decode cX7_hasQuestionMark 3 = .ok (.aload_n 0, 1) := by decide +kernel
theorem dX7_hasQuestionMark_4 : decode cX7_hasQuestionMark 4 = .ok (.getfield 15, 3) := by decide +kernel
theorem dX7_hasQuestionMark_7 : decode cX7_hasQuestionMark 7 = .ok (.if_icmp .ge 22, 3) := by decide +kernel
theorem dX7_hasQuestionMark_10 : decode cX7_hasQuestionMark 10 = .ok (.aload_n 0, 1) := by decide +kernel
theorem dX7_hasQuestionMark_11 : decode cX7_hasQuestionMark 11 = .ok (.getfield 9, 3) := by decide +kernel
theorem dX7_hasQuestionMark_14 : decode cX7_hasQuestionMark 14 = .ok (.iload_n 1, 1) := by decide +kernel
theorem dX7_hasQuestionMark_15 : decode cX7_hasQuestionMark 15 = .ok (.iaload, 1) := by decide +kernel
theorem dX7_hasQuestionMark_16 : decode cX7_hasQuestionMark 16 = .ok (.bipush 14, 2) := by decide +kernel
theorem dX7_hasQuestionMark_18 : decode cX7_hasQuestionMark 18 = .ok (.if_icmp .ne 5, 3) := by decide +kernel
theorem dX7_hasQuestionMark_21 : decode cX7_hasQuestionMark 21 = .ok (.iconst 1, 1) := by decide +kernel
theorem dX7_hasQuestionMark_22 : decode cX7_hasQuestionMark 22 = .ok (.ireturn, 1) := by decide +kernel
theorem dX7_hasQuestionMark_23 : decode cX7_hasQuestionMark 23 = .ok (.iinc 1 1, 3) := by decide +kernel
theorem dX7_hasQuestionMark_26 : decode cX7_hasQuestionMark 26 = .ok (.goto (-24), 3) := by decide +kernel
theorem dX7_hasQuestionMark_29 : decode cX7_hasQuestionMark 29 = .ok (.iconst 0, 1) := by decide +kernel
theorem dX7_hasQuestionMark_30 : decode cX7_hasQuestionMark 30 = .ok (.ireturn, 1) := by decide +kernel
theorem dX7_equalsText_0 : decode cX7_equalsText 0 = .ok (.aload_n 0, 1) := by decide +kernel
theorem dX7_equalsText_1 : decode cX7_equalsText 1 = .ok (.getfield 15, 3) := by decide +kernel
theorem dX7_equalsText_4 : decode cX7_equalsText 4 = .ok (.aload_n 1, 1) := by decide +kernel
theorem dX7_equalsText_5 : decode cX7_equalsText 5 = .ok (.getfield 15, 3) := by decide +kernel
theorem dX7_equalsText_8 : decode cX7_equalsText 8 = .ok (.if_icmp .eq 5, 3) := by decide +kernel
theorem dX7_equalsText_11 : decode cX7_equalsText 11 = .ok (.iconst 0, 1) := by decide +kernel
theorem dX7_equalsText_12 : decode cX7_equalsText 12 = .ok (.ireturn, 1) := by decide +kernel
theorem dX7_equalsText_13 : decode cX7_equalsText 13 = .ok (.iconst 0, 1) := by decide +kernel
theorem dX7_equalsText_14 : decode cX7_equalsText 14 = .ok (.istore_n 2, 1) := by decide +kernel
theorem dX7_equalsText_15 : decode cX7_equalsText 15 = .ok (.iload_n 2, 1) := by decide +kernel
theorem dX7_equalsText_16 : decode cX7_equalsText 16 = .ok (.aload_n 0, 1) := by decide +kernel
theorem dX7_equalsText_17 : decode cX7_equalsText 17 = .ok (.getfield 15, 3) := by decide +kernel
theorem dX7_equalsText_20 : decode cX7_equalsText 20 = .ok (.if_icmp .ge 26, 3) := by decide +kernel
theorem dX7_equalsText_23 : decode cX7_equalsText 23 = .ok (.aload_n 0, 1) := by decide +kernel
theorem dX7_equalsText_24 : decode cX7_equalsText 24 = .ok (.getfield 9, 3) := by decide +kernel
theorem dX7_equalsText_27 : decode cX7_equalsText 27 = .ok (.iload_n 2, 1) := by decide +kernel
theorem dX7_equalsText_28 : decode cX7_equalsText 28 = .ok (.iaload, 1) := by decide +kernel
theorem dX7_equalsText_29 : decode cX7_equalsText 29 = .ok (.aload_n 1, 1) := by decide +kernel
theorem dX7_equalsText_30 : decode cX7_equalsText 30 = .ok (.getfield 9, 3) := by decide +kernel
theorem dX7_equalsText_33 : decode cX7_equalsText 33 = .ok (.iload_n 2, 1) := by decide +kernel
theorem dX7_equalsText_34 : decode cX7_equalsText 34 = .ok (.iaload, 1) := by decide +kernel
theorem dX7_equalsText_35 : decode cX7_equalsText 35 = .ok (.if_icmp .eq 5, 3) := by decide +kernel
theorem dX7_equalsText_38 : decode cX7_equalsText 38 = .ok (.iconst 0, 1) := by decide +kernel
theorem dX7_equalsText_39 : decode cX7_equalsText 39 = .ok (.ireturn, 1) := by decide +kernel
theorem dX7_equalsText_40 : decode cX7_equalsText 40 = .ok (.iinc 2 1, 3) := by decide +kernel
theorem dX7_equalsText_43 : decode cX7_equalsText 43 = .ok (.goto (-28), 3) := by decide +kernel
theorem dX7_equalsText_46 : decode cX7_equalsText 46 = .ok (.iconst 1, 1) := by decide +kernel
theorem dX7_equalsText_47 : decode cX7_equalsText 47 = .ok (.ireturn, 1) := by decide +kernel
theorem dX7_comesBefore_0 : decode cX7_comesBefore 0 = .ok (.aload_n 0, 1) := by decide +kernel
theorem dX7_comesBefore_1 : decode cX7_comesBefore 1 = .ok (.getfield 15, 3) := by decide +kernel
theorem dX7_comesBefore_4 : decode cX7_comesBefore 4 = .ok (.aload_n 1, 1) := by decide +kernel
theorem dX7_comesBefore_5 : decode cX7_comesBefore 5 = .ok (.getfield 15, 3) := by decide +kernel
theorem dX7_comesBefore_8 : decode cX7_comesBefore 8 = .ok (.invokestatic 20, 3) := by decide +kernel
theorem dX7_comesBefore_11 : decode cX7_comesBefore 11 = .ok (.istore_n 2, 1) := by decide +kernel
theorem dX7_comesBefore_12 : decode cX7_comesBefore 12 = .ok (.iconst 1, 1) := by decide +kernel
theorem dX7_comesBefore_13 : decode cX7_comesBefore 13 = .ok (.istore_n 3, 1) := by decide +kernel
theorem dX7_comesBefore_14 : decode cX7_comesBefore 14 = .ok (.iload_n 3, 1) := by decide +kernel
theorem dX7_comesBefore_15 : decode cX7_comesBefore 15 = .ok (.iload_n 2, 1) := by decide +kernel
theorem dX7_comesBefore_16 : decode cX7_comesBefore 16 = .ok (.if_icmp .gt 55, 3) := by decide +kernel
theorem dX7_comesBefore_19 : decode cX7_comesBefore 19 = .ok (.aload_n 0, 1) := by decide +kernel
theorem dX7_comesBefore_20 : decode cX7_comesBefore 20 = .ok (.getfield 9, 3) := by decide +kernel
theorem dX7_comesBefore_23 : decode cX7_comesBefore 23 = .ok (.aload_n 0, 1) := by decide +kernel
theorem dX7_comesBefore_24 : decode cX7_comesBefore 24 = .ok (.getfield 15, 3) := by decide +kernel
theorem dX7_comesBefore_27 : decode cX7_comesBefore 27 = .ok (.iload_n 3, 1) := by decide +kernel
theorem dX7_comesBefore_28 : decode cX7_comesBefore 28 = .ok (.isub, 1) := by decide +kernel
theorem dX7_comesBefore_29 : decode cX7_comesBefore 29 = .ok (.iaload, 1) := by decide +kernel
theorem dX7_comesBefore_30 : decode cX7_comesBefore 30 = .ok (.istore 4, 2) := by decide +kernel
theorem dX7_comesBefore_32 : decode cX7_comesBefore 32 = .ok (.aload_n 1, 1) := by decide +kernel
theorem dX7_comesBefore_33 : decode cX7_comesBefore 33 = .ok (.getfield 9, 3) := by decide +kernel
theorem dX7_comesBefore_36 : decode cX7_comesBefore 36 = .ok (.aload_n 1, 1) := by decide +kernel
theorem dX7_comesBefore_37 : decode cX7_comesBefore 37 = .ok (.getfield 15, 3) := by decide +kernel
theorem dX7_comesBefore_40 : decode cX7_comesBefore 40 = .ok (.iload_n 3, 1) := by decide +kernel
theorem dX7_comesBefore_41 : decode cX7_comesBefore 41 = .ok (.isub, 1) := by decide +kernel
theorem dX7_comesBefore_42 : decode cX7_comesBefore 42 = .ok (.iaload, 1) := by decide +kernel
theorem dX7_comesBefore_43 : decode cX7_comesBefore 43 = .ok (.istore 5, 2) := by decide +kernel
theorem dX7_comesBefore_45 : decode cX7_comesBefore 45 = .ok (.iload 4, 2) := by decide +kernel
theorem dX7_comesBefore_47 : decode cX7_comesBefore 47 = .ok (.iload 5, 2) := by decide +kernel
theorem dX7_comesBefore_49 : decode cX7_comesBefore 49 = .ok (.if_icmp .eq 16, 3) := by decide +kernel
theorem dX7_comesBefore_52 : decode cX7_comesBefore 52 = .ok (.iload 4, 2) := by decide +kernel
theorem dX7_comesBefore_54 : decode cX7_comesBefore 54 = .ok (.iload 5, 2) := by decide +kernel
theorem dX7_comesBefore_56 : decode cX7_comesBefore 56 = .ok (.if_icmp .ge 7, 3) := by decide +kernel
theorem dX7_comesBefore_59 : decode cX7_comesBefore 59 = .ok (.iconst 1, 1) := by decide +kernel
theorem dX7_comesBefore_60 : decode cX7_comesBefore 60 = .ok (.goto 4, 3) := by decide +kernel
theorem dX7_comesBefore_63 : decode cX7_comesBefore 63 = .ok (.iconst 0, 1) := by decide +kernel
theorem dX7_comesBefore_64 : decode cX7_comesBefore 64 = .ok (.ireturn, 1) := by decide +kernel
theorem dX7_comesBefore_65 : decode cX7_comesBefore 65 = .ok (.iinc 3 1, 3) := by decide +kernel
theorem dX7_comesBefore_68 : decode cX7_comesBefore 68 = .ok (.goto (-54), 3) := by decide +kernel
theorem dX7_comesBefore_71 : decode cX7_comesBefore 71 = .ok (.aload_n 0, 1) := by decide +kernel
theorem dX7_comesBefore_72 : decode cX7_comesBefore 72 = .ok (.getfield 15, 3) := by decide +kernel
theorem dX7_comesBefore_75 : decode cX7_comesBefore 75 = .ok (.aload_n 1, 1) := by decide +kernel
theorem dX7_comesBefore_76 : decode cX7_comesBefore 76 = .ok (.getfield 15, 3) := by decide +kernel
theorem dX7_comesBefore_79 : decode cX7_comesBefore 79 = .ok (.if_icmp .ge 7, 3) := by decide +kernel
theorem dX7_comesBefore_82 : decode cX7_comesBefore 82 = .ok (.iconst 1, 1) := by decide +kernel
theorem dX7_comesBefore_83 : decode cX7_comesBefore 83 = .ok (.goto 4, 3) := by decide +kernel
theorem dX7_comesBefore_86 : decode cX7_comesBefore 86 = .ok (.iconst 0, 1) := by decide +kernel
theorem dX7_comesBefore_87 : decode cX7_comesBefore 87 = .ok (.ireturn, 1) := by decide +kernel
theorem dX7_charCount_0 : decode cX7_charCount 0 = .ok (.iconst 0, 1) := by decide +kernel
theorem dX7_charCount_1 : decode cX7_charCount 1 = .ok (.istore_n 1, 1) := by decide +kernel
theorem dX7_charCount_2 : decode cX7_charCount 2 = .ok (.iconst 0, 1) := by decide +kernel
theorem dX7_charCount_3 : decode cX7_charCount 3 = .ok (.istore_n 2, 1) := by decide +kernel
theorem dX7_charCount_4 : decode cX7_charCount 4 = .ok (.iload_n 2, 1) := by decide +kernel
theorem dX7_charCount_5 : decode cX7_charCount 5 = .ok (.aload_n 0, 1) := by decide +kernel
theorem dX7_charCount_6 : decode cX7_charCount 6 = .ok (.getfield 15, 3) := by decide +kernel
theorem dX7_charCount_9 : decode cX7_charCount 9 = .ok (.if_icmp .ge 21, 3) := by decide +kernel
theorem dX7_charCount_12 : decode cX7_charCount 12 = .ok (.iload_n 1, 1) := by decide +kernel
theorem dX7_charCount_13 : decode cX7_charCount 13 = .ok (.aload_n 0, 1) := by decide +kernel
theorem dX7_charCount_14 : decode cX7_charCount 14 = .ok (.getfield 9, 3) := by decide +kernel
theorem dX7_charCount_17 : decode cX7_charCount 17 = .ok (.iload_n 2, 1) := by decide +kernel
theorem dX7_charCount_18 : decode cX7_charCount 18 = .ok (.iaload, 1) := by decide +kernel
theorem dX7_charCount_19 : decode cX7_charCount 19 = .ok (.invokestatic 26, 3) := by decide +kernel
theorem dX7_charCount_22 : decode cX7_charCount 22 = .ok (.iadd, 1) := by decide +kernel
theorem dX7_charCount_23 : decode cX7_charCount 23 = .ok (.istore_n 1, 1) := by decide +kernel
theorem dX7_charCount_24 : decode cX7_charCount 24 = .ok (.iinc 2 1, 3) := by decide +kernel
theorem dX7_charCount_27 : decode cX7_charCount 27 = .ok (.goto (-23), 3) := by decide +kernel
theorem dX7_charCount_30 : decode cX7_charCount 30 = .ok (.iload_n 1, 1) := by decide +kernel
theorem dX7_charCount_31 : decode cX7_charCount 31 = .ok (.ireturn, 1) := by decide +kernel
theorem dX7_charNumberAt_0 : decode cX7_charNumberAt 0 = .ok (.iconst 0, 1) := by decide +kernel
theorem dX7_charNumberAt_1 : decode cX7_charNumberAt 1 = .ok (.istore_n 2, 1) := by decide +kernel
theorem dX7_charNumberAt_2 : decode cX7_charNumberAt 2 = .ok (.iconst 0, 1) := by decide +kernel
theorem dX7_charNumberAt_3 : decode cX7_charNumberAt 3 = .ok (.istore_n 3, 1) := by decide +kernel
theorem dX7_charNumberAt_4 : decode cX7_charNumberAt 4 = .ok (.iload_n 3, 1) := by decide +kernel
theorem dX7_charNumberAt_5 : decode cX7_charNumberAt 5 = .ok (.aload_n 0, 1) := by decide +kernel
theorem dX7_charNumberAt_6 : decode cX7_charNumberAt 6 = .ok (.getfield 15, 3) := by decide +kernel
theorem dX7_charNumberAt_9 : decode cX7_charNumberAt 9 = .ok (.if_icmp .ge 48, 3) := by decide +kernel
theorem dX7_charNumberAt_12 : decode cX7_charNumberAt 12 = .ok (.iload_n 1, 1) := by decide +kernel
theorem dX7_charNumberAt_13 : decode cX7_charNumberAt 13 = .ok (.iload_n 2, 1) := by decide +kernel
theorem dX7_charNumberAt_14 : decode cX7_charNumberAt 14 = .ok (.if_icmp .lt 43, 3) := by decide +kernel
theorem dX7_charNumberAt_17 : decode cX7_charNumberAt 17 = .ok (.iload_n 2, 1) := by decide +kernel
theorem dX7_charNumberAt_18 : decode cX7_charNumberAt 18 = .ok (.istore 4, 2) := by decide +kernel
theorem dX7_charNumberAt_20 : decode cX7_charNumberAt 20 = .ok (.iload_n 2, 1) := by decide +kernel
theorem dX7_charNumberAt_21 : decode cX7_charNumberAt 21 = .ok (.aload_n 0, 1) := by decide +kernel
theorem dX7_charNumberAt_22 : decode cX7_charNumberAt 22 = .ok (.getfield 9, 3) := by decide +kernel
theorem dX7_charNumberAt_25 : decode cX7_charNumberAt 25 = .ok (.iload_n 3, 1) := by decide +kernel
theorem dX7_charNumberAt_26 : decode cX7_charNumberAt 26 = .ok (.iaload, 1) := by decide +kernel
theorem dX7_charNumberAt_27 : decode cX7_charNumberAt 27 = .ok (.invokestatic 26, 3) := by decide +kernel
theorem dX7_charNumberAt_30 : decode cX7_charNumberAt 30 = .ok (.iadd, 1) := by decide +kernel
theorem dX7_charNumberAt_31 : decode cX7_charNumberAt 31 = .ok (.istore_n 2, 1) := by decide +kernel
theorem dX7_charNumberAt_32 : decode cX7_charNumberAt 32 = .ok (.iload_n 1, 1) := by decide +kernel
theorem dX7_charNumberAt_33 : decode cX7_charNumberAt 33 = .ok (.iload_n 2, 1) := by decide +kernel
theorem dX7_charNumberAt_34 : decode cX7_charNumberAt 34 = .ok (.if_icmp .ge 17, 3) := by decide +kernel
theorem dX7_charNumberAt_37 : decode cX7_charNumberAt 37 = .ok (.aload_n 0, 1) := by decide +kernel
theorem dX7_charNumberAt_38 : decode cX7_charNumberAt 38 = .ok (.getfield 9, 3) := by decide +kernel
theorem dX7_charNumberAt_41 : decode cX7_charNumberAt 41 = .ok (.iload_n 3, 1) := by decide +kernel
theorem dX7_charNumberAt_42 : decode cX7_charNumberAt 42 = .ok (.iaload, 1) := by decide +kernel
theorem dX7_charNumberAt_43 : decode cX7_charNumberAt 43 = .ok (.iload_n 1, 1) := by decide +kernel
theorem dX7_charNumberAt_44 : decode cX7_charNumberAt 44 = .ok (.iload 4, 2) := by decide +kernel
theorem dX7_charNumberAt_46 : decode cX7_charNumberAt 46 = .ok (.isub, 1) := by decide +kernel
theorem dX7_charNumberAt_47 : decode cX7_charNumberAt 47 = .ok (.invokestatic 30, 3) := by decide +kernel
theorem dX7_charNumberAt_50 : decode cX7_charNumberAt 50 = .ok (.ireturn, 1) := by decide +kernel
theorem dX7_charNumberAt_51 : decode cX7_charNumberAt 51 = .ok (.iinc 3 1, 3) := by decide +kernel
theorem dX7_charNumberAt_54 : decode cX7_charNumberAt 54 = .ok (.goto (-50), 3) := by decide +kernel
theorem dX7_charNumberAt_57 : decode cX7_charNumberAt 57 = .ok (.iconst (-1), 1) := by decide +kernel
theorem dX7_charNumberAt_58 : decode cX7_charNumberAt 58 = .ok (.ireturn, 1) := by decide +kernel
theorem dX7_isPair_0 : decode cX7_isPair 0 = .ok (.iload_n 0, 1) := by decide +kernel
theorem dX7_isPair_1 : decode cX7_isPair 1 = .ok (.bipush 10, 2) := by decide +kernel
theorem dX7_isPair_3 : decode cX7_isPair 3 = .ok (.if_icmp .lt 13, 3) := by decide +kernel
theorem dX7_isPair_6 : decode cX7_isPair 6 = .ok (.iload_n 0, 1) := by decide +kernel
theorem dX7_isPair_7 : decode cX7_isPair 7 = .ok (.bipush 14, 2) := by decide +kernel
theorem dX7_isPair_9 : decode cX7_isPair 9 = .ok (.if_icmp .ge 7, 3) := by decide +kernel
theorem dX7_isPair_12 : decode cX7_isPair 12 = .ok (.iconst 1, 1) := by decide +kernel
theorem dX7_isPair_13 : decode cX7_isPair 13 = .ok (.goto 4, 3) := by decide +kernel
theorem dX7_isPair_16 : decode cX7_isPair 16 = .ok (.iconst 0, 1) := by decide +kernel
theorem dX7_isPair_17 : decode cX7_isPair 17 = .ok (.ireturn, 1) := by decide +kernel
theorem dX7_charsOf_0 : decode cX7_charsOf 0 = .ok (.iload_n 0, 1) := by decide +kernel
theorem dX7_charsOf_1 : decode cX7_charsOf 1 = .ok (.invokestatic 33, 3) := by decide +kernel
theorem dX7_charsOf_4 : decode cX7_charsOf 4 = .ok (.ifCond .eq 7, 3) := by decide +kernel
theorem dX7_charsOf_7 : decode cX7_charsOf 7 = .ok (.iconst 2, 1) := by decide +kernel
theorem dX7_charsOf_8 : decode cX7_charsOf 8 = .ok (.goto 4, 3) := by decide +kernel
theorem dX7_charsOf_11 : decode cX7_charsOf 11 = .ok (.iconst 1, 1) := by decide +kernel
theorem dX7_charsOf_12 : decode cX7_charsOf 12 = .ok (.ireturn, 1) := by decide +kernel
theorem dX7_charNumberOf_0 : decode cX7_charNumberOf 0 = .ok (.iload_n 0, 1) := by decide +kernel
theorem dX7_charNumberOf_1 : decode cX7_charNumberOf 1 = .ok (.bipush 14, 2) := by decide +kernel
theorem dX7_charNumberOf_3 : decode cX7_charNumberOf 3 = .ok (.if_icmp .ne 6, 3) := by decide +kernel
theorem dX7_charNumberOf_6 : decode cX7_charNumberOf 6 = .ok (.bipush 63, 2) := by decide +kernel
theorem dX7_charNumberOf_8 : decode cX7_charNumberOf 8 = .ok (.ireturn, 1) := by decide +kernel
theorem dX7_charNumberOf_9 : decode cX7_charNumberOf 9 = .ok (.iload_n 0, 1) := by decide +kernel
theorem dX7_charNumberOf_10 : decode cX7_charNumberOf 10 = .ok (.invokestatic 33, 3) := by decide +kernel
theorem dX7_charNumberOf_13 : decode cX7_charNumberOf 13 = .ok (.ifCond .ne 8, 3) := by decide +kernel
theorem dX7_charNumberOf_16 : decode cX7_charNumberOf 16 = .ok (.bipush 65, 2) := by decide +kernel
theorem dX7_charNumberOf_18 : decode cX7_charNumberOf 18 = .ok (.iload_n 0, 1) := by decide +kernel
theorem dX7_charNumberOf_19 : decode cX7_charNumberOf 19 = .ok (.iadd, 1) := by decide +kernel
theorem dX7_charNumberOf_20 : decode cX7_charNumberOf 20 = .ok (.ireturn, 1) := by decide +kernel
theorem dX7_charNumberOf_21 : decode cX7_charNumberOf 21 = .ok (.iload_n 1, 1) := by decide +kernel
theorem dX7_charNumberOf_22 : decode cX7_charNumberOf 22 = .ok (.ifCond .ne 8, 3) := by decide +kernel
theorem dX7_charNumberOf_25 : decode cX7_charNumberOf 25 = .ok (.ldc 37, 2) := by decide +kernel
theorem dX7_charNumberOf_27 : decode cX7_charNumberOf 27 = .ok (.goto 10, 3) := by decide +kernel
theorem dX7_charNumberOf_30 : decode cX7_charNumberOf 30 = .ok (.ldc 38, 2) := by decide +kernel
theorem dX7_charNumberOf_32 : decode cX7_charNumberOf 32 = .ok (.iload_n 0, 1) := by decide +kernel
theorem dX7_charNumberOf_33 : decode cX7_charNumberOf 33 = .ok (.iadd, 1) := by decide +kernel
theorem dX7_charNumberOf_34 : decode cX7_charNumberOf 34 = .ok (.bipush 10, 2) := by decide +kernel
theorem dX7_charNumberOf_36 : decode cX7_charNumberOf 36 = .ok (.isub, 1) := by decide +kernel
theorem dX7_charNumberOf_37 : decode cX7_charNumberOf 37 = .ok (.ireturn, 1) := by decide +kernel
theorem dX9_init_0 : decode cX9_init 0 = .ok (.aload_n 0, 1) := by decide +kernel
theorem dX9_init_1 : decode cX9_init 1 = .ok (.invokespecial 1, 3) := by decide +kernel
theorem dX9_init_4 : decode cX9_init 4 = .ok (.aload_n 0, 1) := by decide +kernel
theorem dX9_init_5 : decode cX9_init 5 = .ok (.new 7, 3) := by decide +kernel
theorem dX9_init_8 : decode cX9_init 8 = .ok (.dup, 1) := by decide +kernel
theorem dX9_init_9 : decode cX9_init 9 = .ok (.invokespecial 9, 3) := by decide +kernel
theorem dX9_init_12 : decode cX9_init 12 = .ok (.putfield 10, 3) := by decide +kernel
theorem dX9_init_15 : decode cX9_init 15 = .ok (.aload_n 0, 1) := by decide +kernel
theorem dX9_init_16 : decode cX9_init 16 = .ok (.iconst 4, 1) := by decide +kernel
theorem dX9_init_17 : decode cX9_init 17 = .ok (.newarray .int, 2) := by decide +kernel
theorem dX9_init_19 : decode cX9_init 19 = .ok (.dup, 1) := by decide +kernel
theorem dX9_init_20 : decode cX9_init 20 = .ok (.iconst 0, 1) := by decide +kernel
theorem dX9_init_21 : decode cX9_init 21 = .ok (.iconst 1, 1) := by decide +kernel
theorem dX9_init_22 : decode cX9_init 22 = .ok (.iastore, 1) := by decide +kernel
theorem dX9_init_23 : decode cX9_init 23 = .ok (.dup, 1) := by decide +kernel
theorem dX9_init_24 : decode cX9_init 24 = .ok (.iconst 1, 1) := by decide +kernel
theorem dX9_init_25 : decode cX9_init 25 = .ok (.iconst 2, 1) := by decide +kernel
theorem dX9_init_26 : decode cX9_init 26 = .ok (.iastore, 1) := by decide +kernel
theorem dX9_init_27 : decode cX9_init 27 = .ok (.dup, 1) := by decide +kernel
theorem dX9_init_28 : decode cX9_init 28 = .ok (.iconst 2, 1) := by decide +kernel
theorem dX9_init_29 : decode cX9_init 29 = .ok (.iconst 4, 1) := by decide +kernel
theorem dX9_init_30 : decode cX9_init 30 = .ok (.iastore, 1) := by decide +kernel
theorem dX9_init_31 : decode cX9_init 31 = .ok (.dup, 1) := by decide +kernel
theorem dX9_init_32 : decode cX9_init 32 = .ok (.iconst 3, 1) := by decide +kernel
theorem dX9_init_33 : decode cX9_init 33 = .ok (.bipush 8, 2) := by decide +kernel
theorem dX9_init_35 : decode cX9_init 35 = .ok (.iastore, 1) := by decide +kernel
theorem dX9_init_36 : decode cX9_init 36 = .ok (.putfield 16, 3) := by decide +kernel
theorem dX9_init_39 : decode cX9_init 39 = .ok (.aload_n 0, 1) := by decide +kernel
theorem dX9_init_40 : decode cX9_init 40 = .ok (.new 20, 3) := by decide +kernel
theorem dX9_init_43 : decode cX9_init 43 = .ok (.dup, 1) := by decide +kernel
theorem dX9_init_44 : decode cX9_init 44 = .ok (.invokespecial 22, 3) := by decide +kernel
theorem dX9_init_47 : decode cX9_init 47 = .ok (.putfield 23, 3) := by decide +kernel
theorem dX9_init_50 : decode cX9_init 50 = .ok (.aload_n 0, 1) := by decide +kernel
theorem dX9_init_51 : decode cX9_init 51 = .ok (.new 27, 3) := by decide +kernel
theorem dX9_init_54 : decode cX9_init 54 = .ok (.dup, 1) := by decide +kernel
theorem dX9_init_55 : decode cX9_init 55 = .ok (.invokespecial 29, 3) := by decide +kernel
theorem dX9_init_58 : decode cX9_init 58 = .ok (.putfield 30, 3) := by decide +kernel
theorem dX9_init_61 : decode cX9_init 61 = .ok (.aload_n 0, 1) := by decide +kernel
theorem dX9_init_62 : decode cX9_init 62 = .ok (.bipush 10, 2) := by decide +kernel
theorem dX9_init_64 : decode cX9_init 64 = .ok (.anewarray 34, 3) := by decide +kernel
theorem dX9_init_67 : decode cX9_init 67 = .ok (.putfield 36, 3) := by decide +kernel
theorem dX9_init_70 : decode cX9_init 70 = .ok (.aload_n 0, 1) := by decide +kernel
theorem dX9_init_71 : decode cX9_init 71 = .ok (.bipush 10, 2) := by decide +kernel
theorem dX9_init_73 : decode cX9_init 73 = .ok (.anewarray 34, 3) := by decide +kernel
theorem dX9_init_76 : decode cX9_init 76 = .ok (.putfield 40, 3) := by decide +kernel
theorem dX9_init_79 : decode cX9_init 79 = .ok (.aload_n 0, 1) := by decide +kernel
theorem dX9_init_80 : decode cX9_init 80 = .ok (.bipush 60, 2) := by decide +kernel
theorem dX9_init_82 : decode cX9_init 82 = .ok (.anewarray 43, 3) := by decide +kernel
theorem dX9_init_85 : decode cX9_init 85 = .ok (.putfield 45, 3) := by decide +kernel
theorem dX9_init_88 : decode cX9_init 88 = .ok (.aload_n 0, 1) := by decide +kernel
theorem dX9_init_89 : decode cX9_init 89 = .ok (.bipush 8, 2) := by decide +kernel
theorem dX9_init_91 : decode cX9_init 91 = .ok (.anewarray 49, 3) := by decide +kernel
theorem dX9_init_94 : decode cX9_init 94 = .ok (.putfield 51, 3) := by decide +kernel
theorem dX9_init_97 : decode cX9_init 97 = .ok (.aload_n 0, 1) := by decide +kernel
theorem dX9_init_98 : decode cX9_init 98 = .ok (.bipush 40, 2) := by decide +kernel
theorem dX9_init_100 : decode cX9_init 100 = .ok (.anewarray 55, 3) := by decide +kernel
theorem dX9_init_103 : decode cX9_init 103 = .ok (.putfield 57, 3) := by decide +kernel
theorem dX9_init_106 : decode cX9_init 106 = .ok (.aload_n 0, 1) := by decide +kernel
theorem dX9_init_107 : decode cX9_init 107 = .ok (.bipush 6, 2) := by decide +kernel
theorem dX9_init_109 : decode cX9_init 109 = .ok (.newarray .long, 2) := by decide +kernel
theorem dX9_init_111 : decode cX9_init 111 = .ok (.putfield 61, 3) := by decide +kernel
theorem dX9_init_114 : decode cX9_init 114 = .ok (.aload_n 0, 1) := by decide +kernel
theorem dX9_init_115 : decode cX9_init 115 = .ok (.bipush 6, 2) := by decide +kernel
theorem dX9_init_117 : decode cX9_init 117 = .ok (.newarray .long, 2) := by decide +kernel
theorem dX9_init_119 : decode cX9_init 119 = .ok (.putfield 65, 3) := by decide +kernel
theorem dX9_init_122 : decode cX9_init 122 = .ok (.aload_n 0, 1) := by decide +kernel
theorem dX9_init_123 : decode cX9_init 123 = .ok (.new 68, 3) := by decide +kernel
theorem dX9_init_126 : decode cX9_init 126 = .ok (.dup, 1) := by decide +kernel
theorem dX9_init_127 : decode cX9_init 127 = .ok (.invokespecial 70, 3) := by decide +kernel
theorem dX9_init_130 : decode cX9_init 130 = .ok (.putfield 71, 3) := by decide +kernel
theorem dX9_init_133 : decode cX9_init 133 = .ok (.aload_n 0, 1) := by decide +kernel
theorem dX9_init_134 : decode cX9_init 134 = .ok (.iconst 0, 1) := by decide +kernel
theorem dX9_init_135 : decode cX9_init 135 = .ok (.putfield 75, 3) := by decide +kernel
theorem dX9_init_138 : decode cX9_init 138 = .ok (.aload_n 0, 1) := by decide +kernel
theorem dX9_init_139 : decode cX9_init 139 = .ok (.iconst 0, 1) := by decide +kernel
theorem dX9_init_140 : decode cX9_init 140 = .ok (.putfield 79, 3) := by decide +kernel
theorem dX9_init_143 : decode cX9_init 143 = .ok (.aload_n 0, 1) := by decide +kernel
theorem dX9_init_144 : decode cX9_init 144 = .ok (.iconst 0, 1) := by decide +kernel
theorem dX9_init_145 : decode cX9_init 145 = .ok (.putfield 82, 3) := by decide +kernel
theorem dX9_init_148 : decode cX9_init 148 = .ok (.aload_n 0, 1) := by decide +kernel
theorem dX9_init_149 : decode cX9_init 149 = .ok (.iconst 0, 1) := by decide +kernel
theorem dX9_init_150 : decode cX9_init 150 = .ok (.putfield 85, 3) := by decide +kernel
theorem dX9_init_153 : decode cX9_init 153 = .ok (.aload_n 0, 1) := by decide +kernel
theorem dX9_init_154 : decode cX9_init 154 = .ok (.iconst 0, 1) := by decide +kernel
theorem dX9_init_155 : decode cX9_init 155 = .ok (.putfield 88, 3) := by decide +kernel
theorem dX9_init_158 : decode cX9_init 158 = .ok (.return_, 1) := by decide +kernel
theorem dX9_pass_0 : decode cX9_pass 0 = .ok (.iload_n 1, 1) := by decide +kernel
theorem dX9_pass_1 : decode cX9_pass 1 = .ok (.iconst 1, 1) := by decide +kernel
theorem dX9_pass_2 : decode cX9_pass 2 = .ok (.sipush 2000, 3) := by decide +kernel
theorem dX9_pass_5 : decode cX9_pass 5 = .ok (.invokestatic 91, 3) := by decide +kernel
theorem dX9_pass_8 : decode cX9_pass 8 = .ok (.ifCond .ne 13, 3) := by decide +kernel
theorem dX9_pass_11 : decode cX9_pass 11 = .ok (.new 95, 3) := by decide +kernel
theorem dX9_pass_14 : decode cX9_pass 14 = .ok (.dup, 1) := by decide +kernel
theorem dX9_pass_15 : decode cX9_pass 15 = .ok (.ldc 97, 2) := by decide +kernel
theorem dX9_pass_17 : decode cX9_pass 17 = .ok (.invokespecial 99, 3) := by decide +kernel
theorem dX9_pass_20 : decode cX9_pass 20 = .ok (.athrow, 1) := by decide +kernel
theorem dX9_pass_21 : decode cX9_pass 21 = .ok (.aload_n 0, 1) := by decide +kernel
theorem dX9_pass_22 : decode cX9_pass 22 = .ok (.getfield 75, 3) := by decide +kernel
theorem dX9_pass_25 : decode cX9_pass 25 = .ok (.iload_n 1, 1) := by decide +kernel
theorem dX9_pass_26 : decode cX9_pass 26 = .ok (.iadd, 1) := by decide +kernel
theorem dX9_pass_27 : decode cX9_pass 27 = .ok (.ldc 102, 2) := by decide +kernel
theorem dX9_pass_29 : decode cX9_pass 29 = .ok (.if_icmp .le 13, 3) := by decide +kernel
theorem dX9_pass_32 : decode cX9_pass 32 = .ok (.new 103, 3) := by decide +kernel
theorem dX9_pass_35 : decode cX9_pass 35 = .ok (.dup, 1) := by decide +kernel
theorem dX9_pass_36 : decode cX9_pass 36 = .ok (.ldc 105, 2) := by decide +kernel
theorem dX9_pass_38 : decode cX9_pass 38 = .ok (.invokespecial 107, 3) := by decide +kernel
theorem dX9_pass_41 : decode cX9_pass 41 = .ok (.athrow, 1) := by decide +kernel
theorem dX9_pass_42 : decode cX9_pass 42 = .ok (.aload_n 0, 1) := by decide +kernel
theorem dX9_pass_43 : decode cX9_pass 43 = .ok (.dup, 1) := by decide +kernel
theorem dX9_pass_44 : decode cX9_pass 44 = .ok (.getfield 75, 3) := by decide +kernel
theorem dX9_pass_47 : decode cX9_pass 47 = .ok (.iload_n 1, 1) := by decide +kernel
theorem dX9_pass_48 : decode cX9_pass 48 = .ok (.iadd, 1) := by decide +kernel
theorem dX9_pass_49 : decode cX9_pass 49 = .ok (.putfield 75, 3) := by decide +kernel
theorem dX9_pass_52 : decode cX9_pass 52 = .ok (.aload_n 0, 1) := by decide +kernel
theorem dX9_pass_53 : decode cX9_pass 53 = .ok (.getfield 75, 3) := by decide +kernel
theorem dX9_pass_56 : decode cX9_pass 56 = .ok (.ireturn, 1) := by decide +kernel
theorem dX9_now_0 : decode cX9_now 0 = .ok (.aload_n 0, 1) := by decide +kernel
theorem dX9_now_1 : decode cX9_now 1 = .ok (.getfield 75, 3) := by decide +kernel
theorem dX9_now_4 : decode cX9_now 4 = .ok (.ireturn, 1) := by decide +kernel
theorem dX9_road_0 : decode cX9_road 0 = .ok (.iload_n 1, 1) := by decide +kernel
theorem dX9_road_1 : decode cX9_road 1 = .ok (.invokestatic 108, 3) := by decide +kernel
theorem dX9_road_4 : decode cX9_road 4 = .ok (.iload_n 2, 1) := by decide +kernel
theorem dX9_road_5 : decode cX9_road 5 = .ok (.invokestatic 108, 3) := by decide +kernel
theorem dX9_road_8 : decode cX9_road 8 = .ok (.iload_n 1, 1) := by decide +kernel
theorem dX9_road_9 : decode cX9_road 9 = .ok (.iload_n 2, 1) := by decide +kernel
theorem dX9_road_10 : decode cX9_road 10 = .ok (.if_icmp .eq 14, 3) := by decide +kernel
theorem dX9_road_13 : decode cX9_road 13 = .ok (.iload_n 3, 1) := by decide +kernel
theorem dX9_road_14 : decode cX9_road 14 = .ok (.iconst 0, 1) := by decide +kernel
theorem dX9_road_15 : decode cX9_road 15 = .ok (.sipush 200, 3) := by decide +kernel
theorem dX9_road_18 : decode cX9_road 18 = .ok (.invokestatic 91, 3) := by decide +kernel
theorem dX9_road_21 : decode cX9_road 21 = .ok (.ifCond .ne 13, 3) := by decide +kernel
theorem dX9_road_24 : decode cX9_road 24 = .ok (.new 95, 3) := by decide +kernel
theorem dX9_road_27 : decode cX9_road 27 = .ok (.dup, 1) := by decide +kernel
theorem dX9_road_28 : decode cX9_road 28 = .ok (.ldc 112, 2) := by decide +kernel
theorem dX9_road_30 : decode cX9_road 30 = .ok (.invokespecial 99, 3) := by decide +kernel
theorem dX9_road_33 : decode cX9_road 33 = .ok (.athrow, 1) := by decide +kernel
theorem dX9_road_34 : decode cX9_road 34 = .ok (.aload_n 0, 1) := by decide +kernel
theorem dX9_road_35 : decode cX9_road 35 = .ok (.getfield 10, 3) := by decide +kernel
theorem dX9_road_38 : decode cX9_road 38 = .ok (.iload_n 1, 1) := by decide +kernel
theorem dX9_road_39 : decode cX9_road 39 = .ok (.iload_n 2, 1) := by decide +kernel
theorem dX9_road_40 : decode cX9_road 40 = .ok (.invokevirtual 114, 3) := by decide +kernel
theorem dX9_road_43 : decode cX9_road 43 = .ok (.istore 4, 2) := by decide +kernel
theorem dX9_road_45 : decode cX9_road 45 = .ok (.aload_n 0, 1) := by decide +kernel
theorem dX9_road_46 : decode cX9_road 46 = .ok (.getfield 10, 3) := by decide +kernel
theorem dX9_road_49 : decode cX9_road 49 = .ok (.iload_n 1, 1) := by decide +kernel
theorem dX9_road_50 : decode cX9_road 50 = .ok (.iload_n 2, 1) := by decide +kernel
theorem dX9_road_51 : decode cX9_road 51 = .ok (.iload_n 3, 1) := by decide +kernel
theorem dX9_road_52 : decode cX9_road 52 = .ok (.invokevirtual 118, 3) := by decide +kernel
theorem dX9_road_55 : decode cX9_road 55 = .ok (.aload_n 0, 1) := by decide +kernel
theorem dX9_road_56 : decode cX9_road 56 = .ok (.invokevirtual 122, 3) := by decide +kernel
theorem dX9_road_59 : decode cX9_road 59 = .ok (.iload 4, 2) := by decide +kernel
theorem dX9_road_61 : decode cX9_road 61 = .ok (.ireturn, 1) := by decide +kernel
theorem dX9_distance_0 : decode cX9_distance 0 = .ok (.iload_n 1, 1) := by decide +kernel
theorem dX9_distance_1 : decode cX9_distance 1 = .ok (.invokestatic 108, 3) := by decide +kernel
theorem dX9_distance_4 : decode cX9_distance 4 = .ok (.iload_n 2, 1) := by decide +kernel
theorem dX9_distance_5 : decode cX9_distance 5 = .ok (.invokestatic 108, 3) := by decide +kernel
theorem dX9_distance_8 : decode cX9_distance 8 = .ok (.aload_n 0, 1) := by decide +kernel
theorem dX9_distance_9 : decode cX9_distance 9 = .ok (.getfield 10, 3) := by decide +kernel
theorem dX9_distance_12 : decode cX9_distance 12 = .ok (.iload_n 1, 1) := by decide +kernel
theorem dX9_distance_13 : decode cX9_distance 13 = .ok (.iload_n 2, 1) := by decide +kernel
theorem dX9_distance_14 : decode cX9_distance 14 = .ok (.invokevirtual 125, 3) := by decide +kernel
theorem dX9_distance_17 : decode cX9_distance 17 = .ok (.ireturn, 1) := by decide +kernel
theorem dX9_setPause_0 : decode cX9_setPause 0 = .ok (.iload_n 1, 1) := by decide +kernel
theorem dX9_setPause_1 : decode cX9_setPause 1 = .ok (.iconst 0, 1) := by decide +kernel
theorem dX9_setPause_2 : decode cX9_setPause 2 = .ok (.sipush 500, 3) := by decide +kernel
theorem dX9_setPause_5 : decode cX9_setPause 5 = .ok (.invokestatic 91, 3) := by decide +kernel
theorem dX9_setPause_8 : decode cX9_setPause 8 = .ok (.ifCond .ne 13, 3) := by decide +kernel
theorem dX9_setPause_11 : decode cX9_setPause 11 = .ok (.new 95, 3) := by decide +kernel
theorem dX9_setPause_14 : decode cX9_setPause 14 = .ok (.dup, 1) := by decide +kernel
theorem dX9_setPause_15 : decode cX9_setPause 15 = .ok (.ldc 128, 2) := by decide +kernel
theorem dX9_setPause_17 : decode cX9_setPause 17 = .ok (.invokespecial 99, 3) := by decide +kernel
theorem dX9_setPause_20 : decode cX9_setPause 20 = .ok (.athrow, 1) := by decide +kernel
theorem dX9_setPause_21 : decode cX9_setPause 21 = .ok (.aload_n 0, 1) := by decide +kernel
theorem dX9_setPause_22 : decode cX9_setPause 22 = .ok (.getfield 10, 3) := by decide +kernel
theorem dX9_setPause_25 : decode cX9_setPause 25 = .ok (.getfield 130, 3) := by decide +kernel
theorem dX9_setPause_28 : decode cX9_setPause 28 = .ok (.istore_n 2, 1) := by decide +kernel
theorem dX9_setPause_29 : decode cX9_setPause 29 = .ok (.aload_n 0, 1) := by decide +kernel
theorem dX9_setPause_30 : decode cX9_setPause 30 = .ok (.getfield 10, 3) := by decide +kernel
theorem dX9_setPause_33 : decode cX9_setPause 33 = .ok (.iload_n 1, 1) := by decide +kernel
theorem dX9_setPause_34 : decode cX9_setPause 34 = .ok (.putfield 130, 3) := by decide +kernel
theorem dX9_setPause_37 : decode cX9_setPause 37 = .ok (.aload_n 0, 1) := by decide +kernel
theorem dX9_setPause_38 : decode cX9_setPause 38 = .ok (.invokevirtual 122, 3) := by decide +kernel
theorem dX9_setPause_41 : decode cX9_setPause 41 = .ok (.iload_n 2, 1) := by decide +kernel
theorem dX9_setPause_42 : decode cX9_setPause 42 = .ok (.ireturn, 1) := by decide +kernel
theorem dX9_setRate_0 : decode cX9_setRate 0 = .ok (.iload_n 1, 1) := by decide +kernel
theorem dX9_setRate_1 : decode cX9_setRate 1 = .ok (.invokestatic 133, 3) := by decide +kernel
theorem dX9_setRate_4 : decode cX9_setRate 4 = .ok (.iload_n 2, 1) := by decide +kernel
theorem dX9_setRate_5 : decode cX9_setRate 5 = .ok (.iconst 0, 1) := by decide +kernel
theorem dX9_setRate_6 : decode cX9_setRate 6 = .ok (.bipush 50, 2) := by decide +kernel
theorem dX9_setRate_8 : decode cX9_setRate 8 = .ok (.invokestatic 91, 3) := by decide +kernel
theorem dX9_setRate_11 : decode cX9_setRate 11 = .ok (.ifCond .ne 13, 3) := by decide +kernel
theorem dX9_setRate_14 : decode cX9_setRate 14 = .ok (.new 95, 3) := by decide +kernel
theorem dX9_setRate_17 : decode cX9_setRate 17 = .ok (.dup, 1) := by decide +kernel
theorem dX9_setRate_18 : decode cX9_setRate 18 = .ok (.ldc 136, 2) := by decide +kernel
theorem dX9_setRate_20 : decode cX9_setRate 20 = .ok (.invokespecial 99, 3) := by decide +kernel
theorem dX9_setRate_23 : decode cX9_setRate 23 = .ok (.athrow, 1) := by decide +kernel
theorem dX9_setRate_24 : decode cX9_setRate 24 = .ok (.aload_n 0, 1) := by decide +kernel
theorem dX9_setRate_25 : decode cX9_setRate 25 = .ok (.getfield 16, 3) := by decide +kernel
theorem dX9_setRate_28 : decode cX9_setRate 28 = .ok (.iload_n 1, 1) := by decide +kernel
theorem dX9_setRate_29 : decode cX9_setRate 29 = .ok (.iaload, 1) := by decide +kernel
theorem dX9_setRate_30 : decode cX9_setRate 30 = .ok (.istore_n 3, 1) := by decide +kernel
theorem dX9_setRate_31 : decode cX9_setRate 31 = .ok (.aload_n 0, 1) := by decide +kernel
theorem dX9_setRate_32 : decode cX9_setRate 32 = .ok (.getfield 16, 3) := by decide +kernel
theorem dX9_setRate_35 : decode cX9_setRate 35 = .ok (.iload_n 1, 1) := by decide +kernel
theorem dX9_setRate_36 : decode cX9_setRate 36 = .ok (.iload_n 2, 1) := by decide +kernel
theorem dX9_setRate_37 : decode cX9_setRate 37 = .ok (.iastore, 1) := by decide +kernel
theorem dX9_setRate_38 : decode cX9_setRate 38 = .ok (.iload_n 3, 1) := by decide +kernel
theorem dX9_setRate_39 : decode cX9_setRate 39 = .ok (.ireturn, 1) := by decide +kernel
theorem dX9_spell_0 : decode cX9_spell 0 = .ok (.iload_n 1, 1) := by decide +kernel
theorem dX9_spell_1 : decode cX9_spell 1 = .ok (.invokestatic 138, 3) := by decide +kernel
theorem dX9_spell_4 : decode cX9_spell 4 = .ok (.aload_n 0, 1) := by decide +kernel
theorem dX9_spell_5 : decode cX9_spell 5 = .ok (.invokevirtual 141, 3) := by decide +kernel
theorem dX9_spell_8 : decode cX9_spell 8 = .ok (.aload_n 0, 1) := by decide +kernel
theorem dX9_spell_9 : decode cX9_spell 9 = .ok (.getfield 23, 3) := by decide +kernel
theorem dX9_spell_12 : decode cX9_spell 12 = .ok (.iload_n 1, 1) := by decide +kernel
theorem dX9_spell_13 : decode cX9_spell 13 = .ok (.aload_n 0, 1) := by decide +kernel
theorem dX9_spell_14 : decode cX9_spell 14 = .ok (.getfield 23, 3) := by decide +kernel
theorem dX9_spell_17 : decode cX9_spell 17 = .ok (.getfield 144, 3) := by decide +kernel
theorem dX9_spell_20 : decode cX9_spell 20 = .ok (.invokevirtual 147, 3) := by decide +kernel
theorem dX9_spell_23 : decode cX9_spell 23 = .ok (.aload_n 0, 1) := by decide +kernel
theorem dX9_spell_24 : decode cX9_spell 24 = .ok (.getfield 23, 3) := by decide +kernel
theorem dX9_spell_27 : decode cX9_spell 27 = .ok (.invokevirtual 151, 3) := by decide +kernel
theorem dX9_spell_30 : decode cX9_spell 30 = .ok (.ireturn, 1) := by decide +kernel
theorem dX9_insert_0 : decode cX9_insert 0 = .ok (.iload_n 1, 1) := by decide +kernel
theorem dX9_insert_1 : decode cX9_insert 1 = .ok (.invokestatic 138, 3) := by decide +kernel
theorem dX9_insert_4 : decode cX9_insert 4 = .ok (.iload_n 2, 1) := by decide +kernel
theorem dX9_insert_5 : decode cX9_insert 5 = .ok (.iconst 0, 1) := by decide +kernel
theorem dX9_insert_6 : decode cX9_insert 6 = .ok (.aload_n 0, 1) := by decide +kernel
theorem dX9_insert_7 : decode cX9_insert 7 = .ok (.getfield 23, 3) := by decide +kernel
theorem dX9_insert_10 : decode cX9_insert 10 = .ok (.getfield 144, 3) := by decide +kernel
theorem dX9_insert_13 : decode cX9_insert 13 = .ok (.iconst 1, 1) := by decide +kernel
theorem dX9_insert_14 : decode cX9_insert 14 = .ok (.isub, 1) := by decide +kernel
theorem dX9_insert_15 : decode cX9_insert 15 = .ok (.invokestatic 91, 3) := by decide +kernel
theorem dX9_insert_18 : decode cX9_insert 18 = .ok (.ifCond .ne 13, 3) := by decide +kernel
theorem dX9_insert_21 : decode cX9_insert 21 = .ok (.new 95, 3) := by decide +kernel
theorem dX9_insert_24 : decode cX9_insert 24 = .ok (.dup, 1) := by decide +kernel
theorem dX9_insert_25 : decode cX9_insert 25 = .ok (.ldc 155, 2) := by decide +kernel
theorem dX9_insert_27 : decode cX9_insert 27 = .ok (.invokespecial 99, 3) := by decide +kernel
theorem dX9_insert_30 : decode cX9_insert 30 = .ok (.athrow, 1) := by decide +kernel
theorem dX9_insert_31 : decode cX9_insert 31 = .ok (.aload_n 0, 1) := by decide +kernel
theorem dX9_insert_32 : decode cX9_insert 32 = .ok (.invokevirtual 141, 3) := by decide +kernel
theorem dX9_insert_35 : decode cX9_insert 35 = .ok (.aload_n 0, 1) := by decide +kernel
theorem dX9_insert_36 : decode cX9_insert 36 = .ok (.getfield 23, 3) := by decide +kernel
theorem dX9_insert_39 : decode cX9_insert 39 = .ok (.iload_n 1, 1) := by decide +kernel
theorem dX9_insert_40 : decode cX9_insert 40 = .ok (.iload_n 2, 1) := by decide +kernel
theorem dX9_insert_41 : decode cX9_insert 41 = .ok (.invokevirtual 147, 3) := by decide +kernel
theorem dX9_insert_44 : decode cX9_insert 44 = .ok (.aload_n 0, 1) := by decide +kernel
theorem dX9_insert_45 : decode cX9_insert 45 = .ok (.getfield 23, 3) := by decide +kernel
theorem dX9_insert_48 : decode cX9_insert 48 = .ok (.invokevirtual 151, 3) := by decide +kernel
theorem dX9_insert_51 : decode cX9_insert 51 = .ok (.ireturn, 1) := by decide +kernel
theorem dX9_mirror_0 : decode cX9_mirror 0 = .ok (.aload_n 0, 1) := by decide +kernel
theorem dX9_mirror_1 : decode cX9_mirror 1 = .ok (.getfield 23, 3) := by decide +kernel
theorem dX9_mirror_4 : decode cX9_mirror 4 = .ok (.invokevirtual 157, 3) := by decide +kernel
theorem dX9_mirror_7 : decode cX9_mirror 7 = .ok (.aload_n 0, 1) := by decide +kernel
theorem dX9_mirror_8 : decode cX9_mirror 8 = .ok (.getfield 23, 3) := by decide +kernel
theorem dX9_mirror_11 : decode cX9_mirror 11 = .ok (.getfield 144, 3) := by decide +kernel
theorem dX9_mirror_14 : decode cX9_mirror 14 = .ok (.ireturn, 1) := by decide +kernel
theorem dX9_clearSpelled_0 : decode cX9_clearSpelled 0 = .ok (.aload_n 0, 1) := by decide +kernel
theorem dX9_clearSpelled_1 : decode cX9_clearSpelled 1 = .ok (.getfield 23, 3) := by decide +kernel
theorem dX9_clearSpelled_4 : decode cX9_clearSpelled 4 = .ok (.getfield 144, 3) := by decide +kernel
theorem dX9_clearSpelled_7 : decode cX9_clearSpelled 7 = .ok (.istore_n 1, 1) := by decide +kernel
theorem dX9_clearSpelled_8 : decode cX9_clearSpelled 8 = .ok (.aload_n 0, 1) := by decide +kernel
theorem dX9_clearSpelled_9 : decode cX9_clearSpelled 9 = .ok (.getfield 23, 3) := by decide +kernel
theorem dX9_clearSpelled_12 : decode cX9_clearSpelled 12 = .ok (.iconst 0, 1) := by decide +kernel
theorem dX9_clearSpelled_13 : decode cX9_clearSpelled 13 = .ok (.putfield 144, 3) := by decide +kernel
theorem dX9_clearSpelled_16 : decode cX9_clearSpelled 16 = .ok (.iload_n 1, 1) := by decide +kernel
theorem dX9_clearSpelled_17 : decode cX9_clearSpelled 17 = .ok (.ireturn, 1) := by decide +kernel
theorem dX9_charAt_0 : decode cX9_charAt 0 = .ok (.aload_n 0, 1) := by decide +kernel
theorem dX9_charAt_1 : decode cX9_charAt 1 = .ok (.getfield 23, 3) := by decide +kernel
theorem dX9_charAt_4 : decode cX9_charAt 4 = .ok (.iload_n 1, 1) := by decide +kernel
theorem dX9_charAt_5 : decode cX9_charAt 5 = .ok (.invokevirtual 160, 3) := by decide +kernel
theorem dX9_charAt_8 : decode cX9_charAt 8 = .ok (.istore_n 2, 1) := by decide +kernel
theorem dX9_charAt_9 : decode cX9_charAt 9 = .ok (.iload_n 2, 1) := by decide +kernel
theorem dX9_charAt_10 : decode cX9_charAt 10 = .ok (.iconst (-1), 1) := by decide +kernel
theorem dX9_charAt_11 : decode cX9_charAt 11 = .ok (.if_icmp .ne 13, 3) := by decide +kernel
theorem dX9_charAt_14 : decode cX9_charAt 14 = .ok (.new 164, 3) := by decide +kernel
theorem dX9_charAt_17 : decode cX9_charAt 17 = .ok (.dup, 1) := by decide +kernel
theorem dX9_charAt_18 : decode cX9_charAt 18 = .ok (.ldc 166, 2) := by decide +kernel
theorem dX9_charAt_20 : decode cX9_charAt 20 = .ok (.invokespecial 168, 3) := by decide +kernel
theorem dX9_charAt_23 : decode cX9_charAt 23 = .ok (.athrow, 1) := by decide +kernel
theorem dX9_charAt_24 : decode cX9_charAt 24 = .ok (.iload_n 2, 1) := by decide +kernel
theorem dX9_charAt_25 : decode cX9_charAt 25 = .ok (.i2c, 1) := by decide +kernel
theorem dX9_charAt_26 : decode cX9_charAt 26 = .ok (.ireturn, 1) := by decide +kernel
theorem dX9_alike_0 : decode cX9_alike 0 = .ok (.iload_n 1, 1) := by decide +kernel
theorem dX9_alike_1 : decode cX9_alike 1 = .ok (.invokestatic 138, 3) := by decide +kernel
theorem dX9_alike_4 : decode cX9_alike 4 = .ok (.iload_n 2, 1) := by decide +kernel
theorem dX9_alike_5 : decode cX9_alike 5 = .ok (.invokestatic 138, 3) := by decide +kernel
theorem dX9_alike_8 : decode cX9_alike 8 = .ok (.iload_n 1, 1) := by decide +kernel
theorem dX9_alike_9 : decode cX9_alike 9 = .ok (.iload_n 2, 1) := by decide +kernel
theorem dX9_alike_10 : decode cX9_alike 10 = .ok (.if_icmp .eq 15, 3) := by decide +kernel
theorem dX9_alike_13 : decode cX9_alike 13 = .ok (.iload_n 1, 1) := by decide +kernel
theorem dX9_alike_14 : decode cX9_alike 14 = .ok (.bipush 14, 2) := by decide +kernel
theorem dX9_alike_16 : decode cX9_alike 16 = .ok (.if_icmp .eq 9, 3) := by decide +kernel
theorem dX9_alike_19 : decode cX9_alike 19 = .ok (.iload_n 2, 1) := by decide +kernel
theorem dX9_alike_20 : decode cX9_alike 20 = .ok (.bipush 14, 2) := by decide +kernel
theorem dX9_alike_22 : decode cX9_alike 22 = .ok (.if_icmp .ne 13, 3) := by decide +kernel
theorem dX9_alike_25 : decode cX9_alike 25 = .ok (.new 95, 3) := by decide +kernel
theorem dX9_alike_28 : decode cX9_alike 28 = .ok (.dup, 1) := by decide +kernel
theorem dX9_alike_29 : decode cX9_alike 29 = .ok (.ldc 169, 2) := by decide +kernel
theorem dX9_alike_31 : decode cX9_alike 31 = .ok (.invokespecial 99, 3) := by decide +kernel
theorem dX9_alike_34 : decode cX9_alike 34 = .ok (.athrow, 1) := by decide +kernel
theorem dX9_alike_35 : decode cX9_alike 35 = .ok (.aload_n 0, 1) := by decide +kernel
theorem dX9_alike_36 : decode cX9_alike 36 = .ok (.getfield 30, 3) := by decide +kernel
theorem dX9_alike_39 : decode cX9_alike 39 = .ok (.iload_n 1, 1) := by decide +kernel
theorem dX9_alike_40 : decode cX9_alike 40 = .ok (.iload_n 2, 1) := by decide +kernel
theorem dX9_alike_41 : decode cX9_alike 41 = .ok (.invokevirtual 171, 3) := by decide +kernel
theorem dX9_alike_44 : decode cX9_alike 44 = .ok (.aload_n 0, 1) := by decide +kernel
theorem dX9_alike_45 : decode cX9_alike 45 = .ok (.invokevirtual 174, 3) := by decide +kernel
theorem dX9_alike_48 : decode cX9_alike 48 = .ok (.aload_n 0, 1) := by decide +kernel
theorem dX9_alike_49 : decode cX9_alike 49 = .ok (.getfield 30, 3) := by decide +kernel
theorem dX9_alike_52 : decode cX9_alike 52 = .ok (.iload_n 1, 1) := by decide +kernel
theorem dX9_alike_53 : decode cX9_alike 53 = .ok (.iload_n 2, 1) := by decide +kernel
theorem dX9_alike_54 : decode cX9_alike 54 = .ok (.invokevirtual 177, 3) := by decide +kernel
theorem dX9_alike_57 : decode cX9_alike 57 = .ok (.ireturn, 1) := by decide +kernel
theorem dX9_register_0 : decode cX9_register 0 = .ok (.iload_n 1, 1) := by decide +kernel
theorem dX9_register_1 : decode cX9_register 1 = .ok (.invokestatic 181, 3) := by decide +kernel
theorem dX9_register_4 : decode cX9_register 4 = .ok (.iload_n 2, 1) := by decide +kernel
theorem dX9_register_5 : decode cX9_register 5 = .ok (.invokestatic 133, 3) := by decide +kernel
theorem dX9_register_8 : decode cX9_register 8 = .ok (.aload_n 0, 1) := by decide +kernel
theorem dX9_register_9 : decode cX9_register 9 = .ok (.getfield 23, 3) := by decide +kernel
theorem dX9_register_12 : decode cX9_register 12 = .ok (.getfield 144, 3) := by decide +kernel
theorem dX9_register_15 : decode cX9_register 15 = .ok (.ifCond .eq 33, 3) := by decide +kernel
theorem dX9_register_18 : decode cX9_register 18 = .ok (.aload_n 0, 1) := by decide +kernel
theorem dX9_register_19 : decode cX9_register 19 = .ok (.getfield 23, 3) := by decide +kernel
theorem dX9_register_22 : decode cX9_register 22 = .ok (.invokevirtual 184, 3) := by decide +kernel
theorem dX9_register_25 : decode cX9_register 25 = .ok (.ifCond .ne 23, 3) := by decide +kernel
theorem dX9_register_28 : decode cX9_register 28 = .ok (.aload_n 0, 1) := by decide +kernel
theorem dX9_register_29 : decode cX9_register 29 = .ok (.aload_n 0, 1) := by decide +kernel
theorem dX9_register_30 : decode cX9_register 30 = .ok (.getfield 23, 3) := by decide +kernel
theorem dX9_register_33 : decode cX9_register 33 = .ok (.invokevirtual 188, 3) := by decide +kernel
theorem dX9_register_36 : decode cX9_register 36 = .ok (.ifCond .ne 12, 3) := by decide +kernel
theorem dX9_register_39 : decode cX9_register 39 = .ok (.aload_n 0, 1) := by decide +kernel
theorem dX9_register_40 : decode cX9_register 40 = .ok (.getfield 79, 3) := by decide +kernel
theorem dX9_register_43 : decode cX9_register 43 = .ok (.bipush 10, 2) := by decide +kernel
theorem dX9_register_45 : decode cX9_register 45 = .ok (.if_icmp .lt 13, 3) := by decide +kernel
theorem dX9_register_48 : decode cX9_register 48 = .ok (.new 103, 3) := by decide +kernel
theorem dX9_register_51 : decode cX9_register 51 = .ok (.dup, 1) := by decide +kernel
theorem dX9_register_52 : decode cX9_register 52 = .ok (.ldc 192, 2) := by decide +kernel
theorem dX9_register_54 : decode cX9_register 54 = .ok (.invokespecial 107, 3) := by decide +kernel
theorem dX9_register_57 : decode cX9_register 57 = .ok (.athrow, 1) := by decide +kernel
theorem dX9_register_58 : decode cX9_register 58 = .ok (.new 34, 3) := by decide +kernel
theorem dX9_register_61 : decode cX9_register 61 = .ok (.dup, 1) := by decide +kernel
theorem dX9_register_62 : decode cX9_register 62 = .ok (.aload_n 0, 1) := by decide +kernel
theorem dX9_register_63 : decode cX9_register 63 = .ok (.getfield 79, 3) := by decide +kernel
theorem dX9_register_66 : decode cX9_register 66 = .ok (.aload_n 0, 1) := by decide +kernel
theorem dX9_register_67 : decode cX9_register 67 = .ok (.getfield 23, 3) := by decide +kernel
theorem dX9_register_70 : decode cX9_register 70 = .ok (.invokevirtual 194, 3) := by decide +kernel
theorem dX9_register_73 : decode cX9_register 73 = .ok (.iload_n 2, 1) := by decide +kernel
theorem dX9_register_74 : decode cX9_register 74 = .ok (.new 198, 3) := by decide +kernel
theorem dX9_register_77 : decode cX9_register 77 = .ok (.dup, 1) := by decide +kernel
theorem dX9_register_78 : decode cX9_register 78 = .ok (.iload_n 1, 1) := by decide +kernel
theorem dX9_register_79 : decode cX9_register 79 = .ok (.aload_n 0, 1) := by decide +kernel
theorem dX9_register_80 : decode cX9_register 80 = .ok (.getfield 75, 3) := by decide +kernel
theorem dX9_register_83 : decode cX9_register 83 = .ok (.aconst_null, 1) := by decide +kernel
theorem dX9_register_84 : decode cX9_register 84 = .ok (.invokespecial 200, 3) := by decide +kernel
theorem dX9_register_87 : decode cX9_register 87 = .ok (.invokespecial 203, 3) := by decide +kernel
theorem dX9_register_90 : decode cX9_register 90 = .ok (.astore_n 3, 1) := by decide +kernel
theorem dX9_register_91 : decode cX9_register 91 = .ok (.aload_n 0, 1) := by decide +kernel
theorem dX9_register_92 : decode cX9_register 92 = .ok (.getfield 36, 3) := by decide +kernel
theorem dX9_register_95 : decode cX9_register 95 = .ok (.aload_n 0, 1) := by decide +kernel
theorem dX9_register_96 : decode cX9_register 96 = .ok (.getfield 79, 3) := by decide +kernel
theorem dX9_register_99 : decode cX9_register 99 = .ok (.aload_n 3, 1) := by decide +kernel
theorem dX9_register_100 : decode cX9_register 100 = .ok (.aastore, 1) := by decide +kernel
theorem dX9_register_101 : decode cX9_register 101 = .ok (.aload_n 0, 1) := by decide +kernel
theorem dX9_register_102 : decode cX9_register 102 = .ok (.aload_n 3, 1) := by decide +kernel
theorem dX9_register_103 : decode cX9_register 103 = .ok (.invokevirtual 206, 3) := by decide +kernel
theorem dX9_register_106 : decode cX9_register 106 = .ok (.aload_n 0, 1) := by decide +kernel
theorem dX9_register_107 : decode cX9_register 107 = .ok (.dup, 1) := by decide +kernel
theorem dX9_register_108 : decode cX9_register 108 = .ok (.getfield 79, 3) := by decide +kernel
theorem dX9_register_111 : decode cX9_register 111 = .ok (.iconst 1, 1) := by decide +kernel
theorem dX9_register_112 : decode cX9_register 112 = .ok (.iadd, 1) := by decide +kernel
theorem dX9_register_113 : decode cX9_register 113 = .ok (.putfield 79, 3) := by decide +kernel
theorem dX9_register_116 : decode cX9_register 116 = .ok (.aload_n 0, 1) := by decide +kernel
theorem dX9_register_117 : decode cX9_register 117 = .ok (.invokevirtual 174, 3) := by decide +kernel
theorem dX9_register_120 : decode cX9_register 120 = .ok (.aload_n 3, 1) := by decide +kernel
theorem dX9_register_121 : decode cX9_register 121 = .ok (.getfield 210, 3) := by decide +kernel
theorem dX9_register_124 : decode cX9_register 124 = .ok (.ireturn, 1) := by decide +kernel
theorem dX9_sell_0 : decode cX9_sell 0 = .ok (.aload_n 0, 1) := by decide +kernel
theorem dX9_sell_1 : decode cX9_sell 1 = .ok (.iload_n 1, 1) := by decide +kernel
theorem dX9_sell_2 : decode cX9_sell 2 = .ok (.invokevirtual 213, 3) := by decide +kernel
theorem dX9_sell_5 : decode cX9_sell 5 = .ok (.astore_n 3, 1) := by decide +kernel
theorem dX9_sell_6 : decode cX9_sell 6 = .ok (.iload_n 2, 1) := by decide +kernel
theorem dX9_sell_7 : decode cX9_sell 7 = .ok (.invokestatic 181, 3) := by decide +kernel
theorem dX9_sell_10 : decode cX9_sell 10 = .ok (.aload_n 3, 1) := by decide +kernel
theorem dX9_sell_11 : decode cX9_sell 11 = .ok (.getfield 217, 3) := by decide +kernel
theorem dX9_sell_14 : decode cX9_sell 14 = .ok (.getfield 221, 3) := by decide +kernel
theorem dX9_sell_17 : decode cX9_sell 17 = .ok (.istore 4, 2) := by decide +kernel
theorem dX9_sell_19 : decode cX9_sell 19 = .ok (.aload_n 3, 1) := by decide +kernel
theorem dX9_sell_20 : decode cX9_sell 20 = .ok (.iload_n 2, 1) := by decide +kernel
theorem dX9_sell_21 : decode cX9_sell 21 = .ok (.aload_n 0, 1) := by decide +kernel
theorem dX9_sell_22 : decode cX9_sell 22 = .ok (.getfield 75, 3) := by decide +kernel
theorem dX9_sell_25 : decode cX9_sell 25 = .ok (.invokevirtual 224, 3) := by decide +kernel
theorem dX9_sell_28 : decode cX9_sell 28 = .ok (.iload 4, 2) := by decide +kernel
theorem dX9_sell_30 : decode cX9_sell 30 = .ok (.ireturn, 1) := by decide +kernel
theorem dX9_plates_0 : decode cX9_plates 0 = .ok (.aload_n 0, 1) := by decide +kernel
theorem dX9_plates_1 : decode cX9_plates 1 = .ok (.getfield 79, 3) := by decide +kernel
theorem dX9_plates_4 : decode cX9_plates 4 = .ok (.ireturn, 1) := by decide +kernel
theorem dX9_plateAt_0 : decode cX9_plateAt 0 = .ok (.iload_n 1, 1) := by decide +kernel
theorem dX9_plateAt_1 : decode cX9_plateAt 1 = .ok (.iconst 0, 1) := by decide +kernel
theorem dX9_plateAt_2 : decode cX9_plateAt 2 = .ok (.aload_n 0, 1) := by decide +kernel
theorem dX9_plateAt_3 : decode cX9_plateAt 3 = .ok (.getfield 79, 3) := by decide +kernel
theorem dX9_plateAt_6 : decode cX9_plateAt 6 = .ok (.iconst 1, 1) := by decide +kernel
theorem dX9_plateAt_7 : decode cX9_plateAt 7 = .ok (.isub, 1) := by decide +kernel
theorem dX9_plateAt_8 : decode cX9_plateAt 8 = .ok (.invokestatic 91, 3) := by decide +kernel
theorem dX9_plateAt_11 : decode cX9_plateAt 11 = .ok (.ifCond .ne 13, 3) := by decide +kernel
theorem dX9_plateAt_14 : decode cX9_plateAt 14 = .ok (.new 164, 3) := by decide +kernel
theorem dX9_plateAt_17 : decode cX9_plateAt 17 = .ok (.dup, 1) := by decide +kernel
theorem dX9_plateAt_18 : decode cX9_plateAt 18 = .ok (.ldc 227, 2) := by decide +kernel
theorem dX9_plateAt_20 : decode cX9_plateAt 20 = .ok (.invokespecial 168, 3) := by decide +kernel
theorem dX9_plateAt_23 : decode cX9_plateAt 23 = .ok (.athrow, 1) := by decide +kernel
theorem dX9_plateAt_24 : decode cX9_plateAt 24 = .ok (.aload_n 0, 1) := by decide +kernel
theorem dX9_plateAt_25 : decode cX9_plateAt 25 = .ok (.getfield 40, 3) := by decide +kernel
theorem dX9_plateAt_28 : decode cX9_plateAt 28 = .ok (.iload_n 1, 1) := by decide +kernel
theorem dX9_plateAt_29 : decode cX9_plateAt 29 = .ok (.aaload, 1) := by decide +kernel
theorem dX9_plateAt_30 : decode cX9_plateAt 30 = .ok (.getfield 210, 3) := by decide +kernel
theorem dX9_plateAt_33 : decode cX9_plateAt 33 = .ok (.ireturn, 1) := by decide +kernel
theorem dX9_holder_0 : decode cX9_holder 0 = .ok (.aload_n 0, 1) := by decide +kernel
theorem dX9_holder_1 : decode cX9_holder 1 = .ok (.iload_n 1, 1) := by decide +kernel
theorem dX9_holder_2 : decode cX9_holder 2 = .ok (.invokevirtual 213, 3) := by decide +kernel
theorem dX9_holder_5 : decode cX9_holder 5 = .ok (.astore_n 3, 1) := by decide +kernel
theorem dX9_holder_6 : decode cX9_holder 6 = .ok (.aload_n 0, 1) := by decide +kernel
theorem dX9_holder_7 : decode cX9_holder 7 = .ok (.iload_n 2, 1) := by decide +kernel
theorem dX9_holder_8 : decode cX9_holder 8 = .ok (.invokevirtual 229, 3) := by decide +kernel
theorem dX9_holder_11 : decode cX9_holder 11 = .ok (.aload_n 3, 1) := by decide +kernel
theorem dX9_holder_12 : decode cX9_holder 12 = .ok (.iload_n 2, 1) := by decide +kernel
theorem dX9_holder_13 : decode cX9_holder 13 = .ok (.invokevirtual 232, 3) := by decide +kernel
theorem dX9_holder_16 : decode cX9_holder 16 = .ok (.ireturn, 1) := by decide +kernel
theorem dX9_read_0 : decode cX9_read 0 = .ok (.iload_n 1, 1) := by decide +kernel
theorem dX9_read_1 : decode cX9_read 1 = .ok (.invokestatic 108, 3) := by decide +kernel
theorem dX9_read_4 : decode cX9_read 4 = .ok (.aload_n 0, 1) := by decide +kernel
theorem dX9_read_5 : decode cX9_read 5 = .ok (.iload_n 2, 1) := by decide +kernel
theorem dX9_read_6 : decode cX9_read 6 = .ok (.invokevirtual 229, 3) := by decide +kernel
theorem dX9_read_9 : decode cX9_read 9 = .ok (.aload_n 0, 1) := by decide +kernel
theorem dX9_read_10 : decode cX9_read 10 = .ok (.getfield 23, 3) := by decide +kernel
theorem dX9_read_13 : decode cX9_read 13 = .ok (.getfield 144, 3) := by decide +kernel
theorem dX9_read_16 : decode cX9_read 16 = .ok (.ifCond .eq 12, 3) := by decide +kernel
theorem dX9_read_19 : decode cX9_read 19 = .ok (.aload_n 0, 1) := by decide +kernel
theorem dX9_read_20 : decode cX9_read 20 = .ok (.getfield 82, 3) := by decide +kernel
theorem dX9_read_23 : decode cX9_read 23 = .ok (.bipush 60, 2) := by decide +kernel
theorem dX9_read_25 : decode cX9_read 25 = .ok (.if_icmp .lt 13, 3) := by decide +kernel
theorem dX9_read_28 : decode cX9_read 28 = .ok (.new 103, 3) := by decide +kernel
theorem dX9_read_31 : decode cX9_read 31 = .ok (.dup, 1) := by decide +kernel
theorem dX9_read_32 : decode cX9_read 32 = .ok (.ldc 235, 2) := by decide +kernel
theorem dX9_read_34 : decode cX9_read 34 = .ok (.invokespecial 107, 3) := by decide +kernel
theorem dX9_read_37 : decode cX9_read 37 = .ok (.athrow, 1) := by decide +kernel
theorem dX9_read_38 : decode cX9_read 38 = .ok (.new 43, 3) := by decide +kernel
theorem dX9_read_41 : decode cX9_read 41 = .ok (.dup, 1) := by decide +kernel
theorem dX9_read_42 : decode cX9_read 42 = .ok (.aload_n 0, 1) := by decide +kernel
theorem dX9_read_43 : decode cX9_read 43 = .ok (.getfield 82, 3) := by decide +kernel
theorem dX9_read_46 : decode cX9_read 46 = .ok (.iload_n 1, 1) := by decide +kernel
theorem dX9_read_47 : decode cX9_read 47 = .ok (.iload_n 2, 1) := by decide +kernel
theorem dX9_read_48 : decode cX9_read 48 = .ok (.aload_n 0, 1) := by decide +kernel
theorem dX9_read_49 : decode cX9_read 49 = .ok (.getfield 23, 3) := by decide +kernel
theorem dX9_read_52 : decode cX9_read 52 = .ok (.invokevirtual 194, 3) := by decide +kernel
theorem dX9_read_55 : decode cX9_read 55 = .ok (.invokespecial 237, 3) := by decide +kernel
theorem dX9_read_58 : decode cX9_read 58 = .ok (.astore_n 3, 1) := by decide +kernel
theorem dX9_read_59 : decode cX9_read 59 = .ok (.aload_n 0, 1) := by decide +kernel
theorem dX9_read_60 : decode cX9_read 60 = .ok (.getfield 45, 3) := by decide +kernel
theorem dX9_read_63 : decode cX9_read 63 = .ok (.aload_n 0, 1) := by decide +kernel
theorem dX9_read_64 : decode cX9_read 64 = .ok (.getfield 82, 3) := by decide +kernel
theorem dX9_read_67 : decode cX9_read 67 = .ok (.aload_n 3, 1) := by decide +kernel
theorem dX9_read_68 : decode cX9_read 68 = .ok (.aastore, 1) := by decide +kernel
theorem dX9_read_69 : decode cX9_read 69 = .ok (.aload_n 0, 1) := by decide +kernel
theorem dX9_read_70 : decode cX9_read 70 = .ok (.dup, 1) := by decide +kernel
theorem dX9_read_71 : decode cX9_read 71 = .ok (.getfield 82, 3) := by decide +kernel
theorem dX9_read_74 : decode cX9_read 74 = .ok (.iconst 1, 1) := by decide +kernel
theorem dX9_read_75 : decode cX9_read 75 = .ok (.iadd, 1) := by decide +kernel
theorem dX9_read_76 : decode cX9_read 76 = .ok (.putfield 82, 3) := by decide +kernel
theorem dX9_read_79 : decode cX9_read 79 = .ok (.aload_n 0, 1) := by decide +kernel
theorem dX9_read_80 : decode cX9_read 80 = .ok (.aload_n 3, 1) := by decide +kernel
theorem dX9_read_81 : decode cX9_read 81 = .ok (.aload_n 0, 1) := by decide +kernel
theorem dX9_read_82 : decode cX9_read 82 = .ok (.aload_n 3, 1) := by decide +kernel
theorem dX9_read_83 : decode cX9_read 83 = .ok (.invokevirtual 240, 3) := by decide +kernel
theorem dX9_read_86 : decode cX9_read 86 = .ok (.invokevirtual 244, 3) := by decide +kernel
theorem dX9_read_89 : decode cX9_read 89 = .ok (.aload_n 3, 1) := by decide +kernel
theorem dX9_read_90 : decode cX9_read 90 = .ok (.getfield 248, 3) := by decide +kernel
theorem dX9_read_93 : decode cX9_read 93 = .ok (.ireturn, 1) := by decide +kernel
theorem dX9_correct_0 : decode cX9_correct 0 = .ok (.aload_n 0, 1) := by decide +kernel
theorem dX9_correct_1 : decode cX9_correct 1 = .ok (.iload_n 1, 1) := by decide +kernel
theorem dX9_correct_2 : decode cX9_correct 2 = .ok (.invokevirtual 249, 3) := by decide +kernel
theorem dX9_correct_5 : decode cX9_correct 5 = .ok (.astore_n 3, 1) := by decide +kernel
theorem dX9_correct_6 : decode cX9_correct 6 = .ok (.iload_n 2, 1) := by decide +kernel
theorem dX9_correct_7 : decode cX9_correct 7 = .ok (.iconst (-1), 1) := by decide +kernel
theorem dX9_correct_8 : decode cX9_correct 8 = .ok (.if_icmp .ne 7, 3) := by decide +kernel
theorem dX9_correct_11 : decode cX9_correct 11 = .ok (.aconst_null, 1) := by decide +kernel
theorem dX9_correct_12 : decode cX9_correct 12 = .ok (.goto 8, 3) := by decide +kernel
theorem dX9_correct_15 : decode cX9_correct 15 = .ok (.aload_n 0, 1) := by decide +kernel
theorem dX9_correct_16 : decode cX9_correct 16 = .ok (.iload_n 2, 1) := by decide +kernel
theorem dX9_correct_17 : decode cX9_correct 17 = .ok (.invokevirtual 213, 3) := by decide +kernel
theorem dX9_correct_20 : decode cX9_correct 20 = .ok (.astore 4, 2) := by decide +kernel
theorem dX9_correct_22 : decode cX9_correct 22 = .ok (.aload_n 3, 1) := by decide +kernel
theorem dX9_correct_23 : decode cX9_correct 23 = .ok (.getfield 253, 3) := by decide +kernel
theorem dX9_correct_26 : decode cX9_correct 26 = .ok (.invokestatic 257, 3) := by decide +kernel
theorem dX9_correct_29 : decode cX9_correct 29 = .ok (.istore 5, 2) := by decide +kernel
theorem dX9_correct_31 : decode cX9_correct 31 = .ok (.aload_n 3, 1) := by decide +kernel
theorem dX9_correct_32 : decode cX9_correct 32 = .ok (.iconst 1, 1) := by decide +kernel
theorem dX9_correct_33 : decode cX9_correct 33 = .ok (.putfield 261, 3) := by decide +kernel
theorem dX9_correct_36 : decode cX9_correct 36 = .ok (.aload_n 0, 1) := by decide +kernel
theorem dX9_correct_37 : decode cX9_correct 37 = .ok (.aload_n 3, 1) := by decide +kernel
theorem dX9_correct_38 : decode cX9_correct 38 = .ok (.aload 4, 2) := by decide +kernel
theorem dX9_correct_40 : decode cX9_correct 40 = .ok (.invokevirtual 244, 3) := by decide +kernel
theorem dX9_correct_43 : decode cX9_correct 43 = .ok (.iload 5, 2) := by decide +kernel
theorem dX9_correct_45 : decode cX9_correct 45 = .ok (.ireturn, 1) := by decide +kernel
theorem dX9_uncorrect_0 : decode cX9_uncorrect 0 = .ok (.aload_n 0, 1) := by decide +kernel
theorem dX9_uncorrect_1 : decode cX9_uncorrect 1 = .ok (.iload_n 1, 1) := by decide +kernel
theorem dX9_uncorrect_2 : decode cX9_uncorrect 2 = .ok (.invokevirtual 249, 3) := by decide +kernel
theorem dX9_uncorrect_5 : decode cX9_uncorrect 5 = .ok (.astore_n 2, 1) := by decide +kernel
theorem dX9_uncorrect_6 : decode cX9_uncorrect 6 = .ok (.aload_n 2, 1) := by decide +kernel
theorem dX9_uncorrect_7 : decode cX9_uncorrect 7 = .ok (.getfield 261, 3) := by decide +kernel
theorem dX9_uncorrect_10 : decode cX9_uncorrect 10 = .ok (.ifCond .ne 14, 3) := by decide +kernel
theorem dX9_uncorrect_13 : decode cX9_uncorrect 13 = .ok (.new 103, 3) := by decide +kernel
theorem dX9_uncorrect_16 : decode cX9_uncorrect 16 = .ok (.dup, 1) := by decide +kernel
theorem dX9_uncorrect_17 : decode cX9_uncorrect 17 = .ok (.ldc_w 265, 3) := by decide +kernel
theorem dX9_uncorrect_20 : decode cX9_uncorrect 20 = .ok (.invokespecial 107, 3) := by decide +kernel
theorem dX9_uncorrect_23 : decode cX9_uncorrect 23 = .ok (.athrow, 1) := by decide +kernel
theorem dX9_uncorrect_24 : decode cX9_uncorrect 24 = .ok (.aload_n 2, 1) := by decide +kernel
theorem dX9_uncorrect_25 : decode cX9_uncorrect 25 = .ok (.iconst 0, 1) := by decide +kernel
theorem dX9_uncorrect_26 : decode cX9_uncorrect 26 = .ok (.putfield 261, 3) := by decide +kernel
theorem dX9_uncorrect_29 : decode cX9_uncorrect 29 = .ok (.aload_n 0, 1) := by decide +kernel
theorem dX9_uncorrect_30 : decode cX9_uncorrect 30 = .ok (.aload_n 2, 1) := by decide +kernel
theorem dX9_uncorrect_31 : decode cX9_uncorrect 31 = .ok (.aload_n 0, 1) := by decide +kernel
theorem dX9_uncorrect_32 : decode cX9_uncorrect 32 = .ok (.aload_n 2, 1) := by decide +kernel
theorem dX9_uncorrect_33 : decode cX9_uncorrect 33 = .ok (.invokevirtual 240, 3) := by decide +kernel
theorem dX9_uncorrect_36 : decode cX9_uncorrect 36 = .ok (.invokevirtual 244, 3) := by decide +kernel
theorem dX9_uncorrect_39 : decode cX9_uncorrect 39 = .ok (.aload_n 2, 1) := by decide +kernel
theorem dX9_uncorrect_40 : decode cX9_uncorrect 40 = .ok (.getfield 253, 3) := by decide +kernel
theorem dX9_uncorrect_43 : decode cX9_uncorrect 43 = .ok (.invokestatic 257, 3) := by decide +kernel
theorem dX9_uncorrect_46 : decode cX9_uncorrect 46 = .ok (.ireturn, 1) := by decide +kernel
theorem dX9_plateOf_0 : decode cX9_plateOf 0 = .ok (.aload_n 0, 1) := by decide +kernel
theorem dX9_plateOf_1 : decode cX9_plateOf 1 = .ok (.iload_n 1, 1) := by decide +kernel
theorem dX9_plateOf_2 : decode cX9_plateOf 2 = .ok (.invokevirtual 249, 3) := by decide +kernel
theorem dX9_plateOf_5 : decode cX9_plateOf 5 = .ok (.getfield 253, 3) := by decide +kernel
theorem dX9_plateOf_8 : decode cX9_plateOf 8 = .ok (.invokestatic 257, 3) := by decide +kernel
theorem dX9_plateOf_11 : decode cX9_plateOf 11 = .ok (.ireturn, 1) := by decide +kernel
theorem dX9_cost_0 : decode cX9_cost 0 = .ok (.aload_n 0, 1) := by decide +kernel
theorem dX9_cost_1 : decode cX9_cost 1 = .ok (.iload_n 1, 1) := by decide +kernel
theorem dX9_cost_2 : decode cX9_cost 2 = .ok (.invokevirtual 249, 3) := by decide +kernel
theorem dX9_cost_5 : decode cX9_cost 5 = .ok (.astore_n 3, 1) := by decide +kernel
theorem dX9_cost_6 : decode cX9_cost 6 = .ok (.aload_n 0, 1) := by decide +kernel
theorem dX9_cost_7 : decode cX9_cost 7 = .ok (.getfield 30, 3) := by decide +kernel
theorem dX9_cost_10 : decode cX9_cost 10 = .ok (.aload_n 3, 1) := by decide +kernel
theorem dX9_cost_11 : decode cX9_cost 11 = .ok (.getfield 267, 3) := by decide +kernel
theorem dX9_cost_14 : decode cX9_cost 14 = .ok (.aload_n 0, 1) := by decide +kernel
theorem dX9_cost_15 : decode cX9_cost 15 = .ok (.iload_n 2, 1) := by decide +kernel
theorem dX9_cost_16 : decode cX9_cost 16 = .ok (.invokevirtual 213, 3) := by decide +kernel
theorem dX9_cost_19 : decode cX9_cost 19 = .ok (.getfield 270, 3) := by decide +kernel
theorem dX9_cost_22 : decode cX9_cost 22 = .ok (.invokevirtual 271, 3) := by decide +kernel
theorem dX9_cost_25 : decode cX9_cost 25 = .ok (.ireturn, 1) := by decide +kernel
theorem dX9_trips_0 : decode cX9_trips 0 = .ok (.aload_n 0, 1) := by decide +kernel
theorem dX9_trips_1 : decode cX9_trips 1 = .ok (.iload_n 1, 1) := by decide +kernel
theorem dX9_trips_2 : decode cX9_trips 2 = .ok (.invokevirtual 213, 3) := by decide +kernel
theorem dX9_trips_5 : decode cX9_trips 5 = .ok (.getfield 275, 3) := by decide +kernel
theorem dX9_trips_8 : decode cX9_trips 8 = .ok (.invokevirtual 278, 3) := by decide +kernel
theorem dX9_trips_11 : decode cX9_trips 11 = .ok (.ireturn, 1) := by decide +kernel
theorem dX9_tripsAnew_0 : decode cX9_tripsAnew 0 = .ok (.aload_n 0, 1) := by decide +kernel
theorem dX9_tripsAnew_1 : decode cX9_tripsAnew 1 = .ok (.aload_n 0, 1) := by decide +kernel
theorem dX9_tripsAnew_2 : decode cX9_tripsAnew 2 = .ok (.iload_n 1, 1) := by decide +kernel
theorem dX9_tripsAnew_3 : decode cX9_tripsAnew 3 = .ok (.invokevirtual 213, 3) := by decide +kernel
theorem dX9_tripsAnew_6 : decode cX9_tripsAnew 6 = .ok (.invokevirtual 281, 3) := by decide +kernel
theorem dX9_tripsAnew_9 : decode cX9_tripsAnew 9 = .ok (.invokevirtual 278, 3) := by decide +kernel
theorem dX9_tripsAnew_12 : decode cX9_tripsAnew 12 = .ok (.ireturn, 1) := by decide +kernel
theorem dX9_tripOf_0 : decode cX9_tripOf 0 = .ok (.aload_n 0, 1) := by decide +kernel
theorem dX9_tripOf_1 : decode cX9_tripOf 1 = .ok (.iload_n 1, 1) := by decide +kernel
theorem dX9_tripOf_2 : decode cX9_tripOf 2 = .ok (.invokevirtual 249, 3) := by decide +kernel
theorem dX9_tripOf_5 : decode cX9_tripOf 5 = .ok (.astore_n 2, 1) := by decide +kernel
theorem dX9_tripOf_6 : decode cX9_tripOf 6 = .ok (.aload_n 2, 1) := by decide +kernel
theorem dX9_tripOf_7 : decode cX9_tripOf 7 = .ok (.getfield 253, 3) := by decide +kernel
theorem dX9_tripOf_10 : decode cX9_tripOf 10 = .ok (.ifnonnull 7, 3) := by decide +kernel
theorem dX9_tripOf_13 : decode cX9_tripOf 13 = .ok (.iconst (-1), 1) := by decide +kernel
theorem dX9_tripOf_14 : decode cX9_tripOf 14 = .ok (.goto 14, 3) := by decide +kernel
theorem dX9_tripOf_17 : decode cX9_tripOf 17 = .ok (.aload_n 2, 1) := by decide +kernel
theorem dX9_tripOf_18 : decode cX9_tripOf 18 = .ok (.getfield 253, 3) := by decide +kernel
theorem dX9_tripOf_21 : decode cX9_tripOf 21 = .ok (.getfield 275, 3) := by decide +kernel
theorem dX9_tripOf_24 : decode cX9_tripOf 24 = .ok (.aload_n 2, 1) := by decide +kernel
theorem dX9_tripOf_25 : decode cX9_tripOf 25 = .ok (.invokevirtual 285, 3) := by decide +kernel
theorem dX9_tripOf_28 : decode cX9_tripOf 28 = .ok (.ireturn, 1) := by decide +kernel
theorem dX9_toll_0 : decode cX9_toll 0 = .ok (.aload_n 0, 1) := by decide +kernel
theorem dX9_toll_1 : decode cX9_toll 1 = .ok (.iload_n 1, 1) := by decide +kernel
theorem dX9_toll_2 : decode cX9_toll 2 = .ok (.invokevirtual 213, 3) := by decide +kernel
theorem dX9_toll_5 : decode cX9_toll 5 = .ok (.astore_n 3, 1) := by decide +kernel
theorem dX9_toll_6 : decode cX9_toll 6 = .ok (.aload_n 0, 1) := by decide +kernel
theorem dX9_toll_7 : decode cX9_toll 7 = .ok (.aload_n 3, 1) := by decide +kernel
theorem dX9_toll_8 : decode cX9_toll 8 = .ok (.getfield 275, 3) := by decide +kernel
theorem dX9_toll_11 : decode cX9_toll 11 = .ok (.aload_n 3, 1) := by decide +kernel
theorem dX9_toll_12 : decode cX9_toll 12 = .ok (.iload_n 2, 1) := by decide +kernel
theorem dX9_toll_13 : decode cX9_toll 13 = .ok (.invokestatic 289, 3) := by decide +kernel
theorem dX9_toll_16 : decode cX9_toll 16 = .ok (.aload_n 3, 1) := by decide +kernel
theorem dX9_toll_17 : decode cX9_toll 17 = .ok (.invokevirtual 293, 3) := by decide +kernel
theorem dX9_toll_20 : decode cX9_toll 20 = .ok (.ireturn, 1) := by decide +kernel
theorem dX9_driverOf_0 : decode cX9_driverOf 0 = .ok (.aload_n 0, 1) := by decide +kernel
theorem dX9_driverOf_1 : decode cX9_driverOf 1 = .ok (.iload_n 1, 1) := by decide +kernel
theorem dX9_driverOf_2 : decode cX9_driverOf 2 = .ok (.invokevirtual 213, 3) := by decide +kernel
theorem dX9_driverOf_5 : decode cX9_driverOf 5 = .ok (.astore_n 3, 1) := by decide +kernel
theorem dX9_driverOf_6 : decode cX9_driverOf 6 = .ok (.aload_n 3, 1) := by decide +kernel
theorem dX9_driverOf_7 : decode cX9_driverOf 7 = .ok (.iload_n 2, 1) := by decide +kernel
theorem dX9_driverOf_8 : decode cX9_driverOf 8 = .ok (.invokestatic 289, 3) := by decide +kernel
theorem dX9_driverOf_11 : decode cX9_driverOf 11 = .ok (.istore 4, 2) := by decide +kernel
theorem dX9_driverOf_13 : decode cX9_driverOf 13 = .ok (.aload_n 3, 1) := by decide +kernel
theorem dX9_driverOf_14 : decode cX9_driverOf 14 = .ok (.aload_n 3, 1) := by decide +kernel
theorem dX9_driverOf_15 : decode cX9_driverOf 15 = .ok (.getfield 275, 3) := by decide +kernel
theorem dX9_driverOf_18 : decode cX9_driverOf 18 = .ok (.getfield 297, 3) := by decide +kernel
theorem dX9_driverOf_21 : decode cX9_driverOf 21 = .ok (.iload 4, 2) := by decide +kernel
theorem dX9_driverOf_23 : decode cX9_driverOf 23 = .ok (.aaload, 1) := by decide +kernel
theorem dX9_driverOf_24 : decode cX9_driverOf 24 = .ok (.getfield 300, 3) := by decide +kernel
theorem dX9_driverOf_27 : decode cX9_driverOf 27 = .ok (.invokevirtual 232, 3) := by decide +kernel
theorem dX9_driverOf_30 : decode cX9_driverOf 30 = .ok (.ireturn, 1) := by decide +kernel
theorem dX9_due_0 : decode cX9_due 0 = .ok (.iload_n 1, 1) := by decide +kernel
theorem dX9_due_1 : decode cX9_due 1 = .ok (.invokestatic 181, 3) := by decide +kernel
theorem dX9_due_4 : decode cX9_due 4 = .ok (.aload_n 0, 1) := by decide +kernel
theorem dX9_due_5 : decode cX9_due 5 = .ok (.iload_n 1, 1) := by decide +kernel
theorem dX9_due_6 : decode cX9_due 6 = .ok (.invokevirtual 303, 3) := by decide +kernel
theorem dX9_due_9 : decode cX9_due 9 = .ok (.ireturn, 1) := by decide +kernel
theorem dX9_dueAnew_0 : decode cX9_dueAnew 0 = .ok (.iload_n 1, 1) := by decide +kernel
theorem dX9_dueAnew_1 : decode cX9_dueAnew 1 = .ok (.invokestatic 181, 3) := by decide +kernel
theorem dX9_dueAnew_4 : decode cX9_dueAnew 4 = .ok (.iconst 0, 1) := by decide +kernel
theorem dX9_dueAnew_5 : decode cX9_dueAnew 5 = .ok (.istore_n 2, 1) := by decide +kernel
theorem dX9_dueAnew_6 : decode cX9_dueAnew 6 = .ok (.iconst 0, 1) := by decide +kernel
theorem dX9_dueAnew_7 : decode cX9_dueAnew 7 = .ok (.istore_n 3, 1) := by decide +kernel
theorem dX9_dueAnew_8 : decode cX9_dueAnew 8 = .ok (.iload_n 3, 1) := by decide +kernel
theorem dX9_dueAnew_9 : decode cX9_dueAnew 9 = .ok (.aload_n 0, 1) := by decide +kernel
theorem dX9_dueAnew_10 : decode cX9_dueAnew 10 = .ok (.getfield 79, 3) := by decide +kernel
theorem dX9_dueAnew_13 : decode cX9_dueAnew 13 = .ok (.if_icmp .ge 33, 3) := by decide +kernel
theorem dX9_dueAnew_16 : decode cX9_dueAnew 16 = .ok (.aload_n 0, 1) := by decide +kernel
theorem dX9_dueAnew_17 : decode cX9_dueAnew 17 = .ok (.getfield 36, 3) := by decide +kernel
theorem dX9_dueAnew_20 : decode cX9_dueAnew 20 = .ok (.iload_n 3, 1) := by decide +kernel
theorem dX9_dueAnew_21 : decode cX9_dueAnew 21 = .ok (.aaload, 1) := by decide +kernel
theorem dX9_dueAnew_22 : decode cX9_dueAnew 22 = .ok (.astore 4, 2) := by decide +kernel
theorem dX9_dueAnew_24 : decode cX9_dueAnew 24 = .ok (.iload_n 2, 1) := by decide +kernel
theorem dX9_dueAnew_25 : decode cX9_dueAnew 25 = .ok (.aload_n 0, 1) := by decide +kernel
theorem dX9_dueAnew_26 : decode cX9_dueAnew 26 = .ok (.aload 4, 2) := by decide +kernel
theorem dX9_dueAnew_28 : decode cX9_dueAnew 28 = .ok (.aload_n 0, 1) := by decide +kernel
theorem dX9_dueAnew_29 : decode cX9_dueAnew 29 = .ok (.aload 4, 2) := by decide +kernel
theorem dX9_dueAnew_31 : decode cX9_dueAnew 31 = .ok (.invokevirtual 281, 3) := by decide +kernel
theorem dX9_dueAnew_34 : decode cX9_dueAnew 34 = .ok (.iload_n 1, 1) := by decide +kernel
theorem dX9_dueAnew_35 : decode cX9_dueAnew 35 = .ok (.invokevirtual 306, 3) := by decide +kernel
theorem dX9_dueAnew_38 : decode cX9_dueAnew 38 = .ok (.iadd, 1) := by decide +kernel
theorem dX9_dueAnew_39 : decode cX9_dueAnew 39 = .ok (.istore_n 2, 1) := by decide +kernel
theorem dX9_dueAnew_40 : decode cX9_dueAnew 40 = .ok (.iinc 3 1, 3) := by decide +kernel
theorem dX9_dueAnew_43 : decode cX9_dueAnew 43 = .ok (.goto (-35), 3) := by decide +kernel
theorem dX9_dueAnew_46 : decode cX9_dueAnew 46 = .ok (.iload_n 2, 1) := by decide +kernel
theorem dX9_dueAnew_47 : decode cX9_dueAnew 47 = .ok (.ireturn, 1) := by decide +kernel
theorem dX9_settle_0 : decode cX9_settle 0 = .ok (.lconst 0, 1) := by decide +kernel
theorem dX9_settle_1 : decode cX9_settle 1 = .ok (.lstore_n 1, 1) := by decide +kernel
theorem dX9_settle_2 : decode cX9_settle 2 = .ok (.iconst 0, 1) := by decide +kernel
theorem dX9_settle_3 : decode cX9_settle 3 = .ok (.istore_n 3, 1) := by decide +kernel
theorem dX9_settle_4 : decode cX9_settle 4 = .ok (.iload_n 3, 1) := by decide +kernel
theorem dX9_settle_5 : decode cX9_settle 5 = .ok (.bipush 6, 2) := by decide +kernel
theorem dX9_settle_7 : decode cX9_settle 7 = .ok (.if_icmp .ge 68, 3) := by decide +kernel
theorem dX9_settle_10 : decode cX9_settle 10 = .ok (.aload_n 0, 1) := by decide +kernel
theorem dX9_settle_11 : decode cX9_settle 11 = .ok (.iload_n 3, 1) := by decide +kernel
theorem dX9_settle_12 : decode cX9_settle 12 = .ok (.invokevirtual 303, 3) := by decide +kernel
theorem dX9_settle_15 : decode cX9_settle 15 = .ok (.i2l, 1) := by decide +kernel
theorem dX9_settle_16 : decode cX9_settle 16 = .ok (.aload_n 0, 1) := by decide +kernel
theorem dX9_settle_17 : decode cX9_settle 17 = .ok (.getfield 61, 3) := by decide +kernel
theorem dX9_settle_20 : decode cX9_settle 20 = .ok (.iload_n 3, 1) := by decide +kernel
theorem dX9_settle_21 : decode cX9_settle 21 = .ok (.laload, 1) := by decide +kernel
theorem dX9_settle_22 : decode cX9_settle 22 = .ok (.aload_n 0, 1) := by decide +kernel
theorem dX9_settle_23 : decode cX9_settle 23 = .ok (.getfield 65, 3) := by decide +kernel
theorem dX9_settle_26 : decode cX9_settle 26 = .ok (.iload_n 3, 1) := by decide +kernel
theorem dX9_settle_27 : decode cX9_settle 27 = .ok (.laload, 1) := by decide +kernel
theorem dX9_settle_28 : decode cX9_settle 28 = .ok (.lsub, 1) := by decide +kernel
theorem dX9_settle_29 : decode cX9_settle 29 = .ok (.lsub, 1) := by decide +kernel
theorem dX9_settle_30 : decode cX9_settle 30 = .ok (.lstore 4, 2) := by decide +kernel
theorem dX9_settle_32 : decode cX9_settle 32 = .ok (.lload 4, 2) := by decide +kernel
theorem dX9_settle_34 : decode cX9_settle 34 = .ok (.lconst 0, 1) := by decide +kernel
theorem dX9_settle_35 : decode cX9_settle 35 = .ok (.lcmp, 1) := by decide +kernel
theorem dX9_settle_36 : decode cX9_settle 36 = .ok (.ifCond .lt 17, 3) := by decide +kernel
theorem dX9_settle_39 : decode cX9_settle 39 = .ok (.aload_n 0, 1) := by decide +kernel
theorem dX9_settle_40 : decode cX9_settle 40 = .ok (.getfield 61, 3) := by decide +kernel
theorem dX9_settle_43 : decode cX9_settle 43 = .ok (.iload_n 3, 1) := by decide +kernel
theorem dX9_settle_44 : decode cX9_settle 44 = .ok (.dup2, 1) := by decide +kernel
theorem dX9_settle_45 : decode cX9_settle 45 = .ok (.laload, 1) := by decide +kernel
theorem dX9_settle_46 : decode cX9_settle 46 = .ok (.lload 4, 2) := by decide +kernel
theorem dX9_settle_48 : decode cX9_settle 48 = .ok (.ladd, 1) := by decide +kernel
theorem dX9_settle_49 : decode cX9_settle 49 = .ok (.lastore, 1) := by decide +kernel
theorem dX9_settle_50 : decode cX9_settle 50 = .ok (.goto 19, 3) := by decide +kernel
theorem dX9_settle_53 : decode cX9_settle 53 = .ok (.aload_n 0, 1) := by decide +kernel
theorem dX9_settle_54 : decode cX9_settle 54 = .ok (.getfield 65, 3) := by decide +kernel
theorem dX9_settle_57 : decode cX9_settle 57 = .ok (.iload_n 3, 1) := by decide +kernel
theorem dX9_settle_58 : decode cX9_settle 58 = .ok (.dup2, 1) := by decide +kernel
theorem dX9_settle_59 : decode cX9_settle 59 = .ok (.laload, 1) := by decide +kernel
theorem dX9_settle_60 : decode cX9_settle 60 = .ok (.lload 4, 2) := by decide +kernel
theorem dX9_settle_62 : decode cX9_settle 62 = .ok (.lsub, 1) := by decide +kernel
theorem dX9_settle_63 : decode cX9_settle 63 = .ok (.lastore, 1) := by decide +kernel
theorem dX9_settle_64 : decode cX9_settle 64 = .ok (.lload_n 1, 1) := by decide +kernel
theorem dX9_settle_65 : decode cX9_settle 65 = .ok (.lload 4, 2) := by decide +kernel
theorem dX9_settle_67 : decode cX9_settle 67 = .ok (.lsub, 1) := by decide +kernel
theorem dX9_settle_68 : decode cX9_settle 68 = .ok (.lstore_n 1, 1) := by decide +kernel
theorem dX9_settle_69 : decode cX9_settle 69 = .ok (.iinc 3 1, 3) := by decide +kernel
theorem dX9_settle_72 : decode cX9_settle 72 = .ok (.goto (-68), 3) := by decide +kernel
theorem dX9_settle_75 : decode cX9_settle 75 = .ok (.lload_n 1, 1) := by decide +kernel
theorem dX9_settle_76 : decode cX9_settle 76 = .ok (.l2i, 1) := by decide +kernel
theorem dX9_settle_77 : decode cX9_settle 77 = .ok (.ireturn, 1) := by decide +kernel
theorem dX9_billed_0 : decode cX9_billed 0 = .ok (.iload_n 1, 1) := by decide +kernel
theorem dX9_billed_1 : decode cX9_billed 1 = .ok (.invokestatic 181, 3) := by decide +kernel
theorem dX9_billed_4 : decode cX9_billed 4 = .ok (.aload_n 0, 1) := by decide +kernel
theorem dX9_billed_5 : decode cX9_billed 5 = .ok (.getfield 61, 3) := by decide +kernel
theorem dX9_billed_8 : decode cX9_billed 8 = .ok (.iload_n 1, 1) := by decide +kernel
theorem dX9_billed_9 : decode cX9_billed 9 = .ok (.laload, 1) := by decide +kernel
theorem dX9_billed_10 : decode cX9_billed 10 = .ok (.lreturn, 1) := by decide +kernel
theorem dX9_paidBack_0 : decode cX9_paidBack 0 = .ok (.iload_n 1, 1) := by decide +kernel
theorem dX9_paidBack_1 : decode cX9_paidBack 1 = .ok (.invokestatic 181, 3) := by decide +kernel
theorem dX9_paidBack_4 : decode cX9_paidBack 4 = .ok (.aload_n 0, 1) := by decide +kernel
theorem dX9_paidBack_5 : decode cX9_paidBack 5 = .ok (.getfield 65, 3) := by decide +kernel
theorem dX9_paidBack_8 : decode cX9_paidBack 8 = .ok (.iload_n 1, 1) := by decide +kernel
theorem dX9_paidBack_9 : decode cX9_paidBack 9 = .ok (.laload, 1) := by decide +kernel
theorem dX9_paidBack_10 : decode cX9_paidBack 10 = .ok (.lreturn, 1) := by decide +kernel
theorem dX9_isWithin_0 : decode cX9_isWithin 0 = .ok (.iload_n 1, 1) := by decide +kernel
