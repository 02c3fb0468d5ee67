theorem dX9_isWithin_1 : decode cX9_isWithin 1 = .ok (.iload_n 0, 1) := by decide +kernel
theorem dX9_isWithin_2 : decode cX9_isWithin 2 = .ok (.if_icmp .gt 12, 3) := by decide +kernel
theorem dX9_isWithin_5 : decode cX9_isWithin 5 = .ok (.iload_n 0, 1) := by decide +kernel
theorem dX9_isWithin_6 : decode cX9_isWithin 6 = .ok (.iload_n 2, 1) := by decide +kernel
theorem dX9_isWithin_7 : decode cX9_isWithin 7 = .ok (.if_icmp .gt 7, 3) := by decide +kernel
theorem dX9_isWithin_10 : decode cX9_isWithin 10 = .ok (.iconst 1, 1) := by decide +kernel
theorem dX9_isWithin_11 : decode cX9_isWithin 11 = .ok (.goto 4, 3) := by decide +kernel
theorem dX9_isWithin_14 : decode cX9_isWithin 14 = .ok (.iconst 0, 1) := by decide +kernel
theorem dX9_isWithin_15 : decode cX9_isWithin 15 = .ok (.ireturn, 1) := by decide +kernel
theorem dX9_requireGate_0 : decode cX9_requireGate 0 = .ok (.iload_n 0, 1) := by decide +kernel
theorem dX9_requireGate_1 : decode cX9_requireGate 1 = .ok (.iconst 0, 1) := by decide +kernel
theorem dX9_requireGate_2 : decode cX9_requireGate 2 = .ok (.bipush 7, 2) := by decide +kernel
theorem dX9_requireGate_4 : decode cX9_requireGate 4 = .ok (.invokestatic 91, 3) := by decide +kernel
theorem dX9_requireGate_7 : decode cX9_requireGate 7 = .ok (.ifCond .ne 14, 3) := by decide +kernel
theorem dX9_requireGate_10 : decode cX9_requireGate 10 = .ok (.new 346, 3) := by decide +kernel
theorem dX9_requireGate_13 : decode cX9_requireGate 13 = .ok (.dup, 1) := by decide +kernel
theorem dX9_requireGate_14 : decode cX9_requireGate 14 = .ok (.ldc_w 348, 3) := by decide +kernel
theorem dX9_requireGate_17 : decode cX9_requireGate 17 = .ok (.invokespecial 350, 3) := by decide +kernel
theorem dX9_requireGate_20 : decode cX9_requireGate 20 = .ok (.athrow, 1) := by decide +kernel
theorem dX9_requireGate_21 : decode cX9_requireGate 21 = .ok (.return_, 1) := by decide +kernel
theorem dX9_requireSign_0 : decode cX9_requireSign 0 = .ok (.iload_n 0, 1) := by decide +kernel
theorem dX9_requireSign_1 : decode cX9_requireSign 1 = .ok (.iconst 0, 1) := by decide +kernel
theorem dX9_requireSign_2 : decode cX9_requireSign 2 = .ok (.bipush 14, 2) := by decide +kernel
theorem dX9_requireSign_4 : decode cX9_requireSign 4 = .ok (.invokestatic 91, 3) := by decide +kernel
theorem dX9_requireSign_7 : decode cX9_requireSign 7 = .ok (.ifCond .ne 14, 3) := by decide +kernel
theorem dX9_requireSign_10 : decode cX9_requireSign 10 = .ok (.new 346, 3) := by decide +kernel
theorem dX9_requireSign_13 : decode cX9_requireSign 13 = .ok (.dup, 1) := by decide +kernel
theorem dX9_requireSign_14 : decode cX9_requireSign 14 = .ok (.ldc_w 351, 3) := by decide +kernel
theorem dX9_requireSign_17 : decode cX9_requireSign 17 = .ok (.invokespecial 350, 3) := by decide +kernel
theorem dX9_requireSign_20 : decode cX9_requireSign 20 = .ok (.athrow, 1) := by decide +kernel
theorem dX9_requireSign_21 : decode cX9_requireSign 21 = .ok (.return_, 1) := by decide +kernel
theorem dX9_requireDriver_0 : decode cX9_requireDriver 0 = .ok (.iload_n 0, 1) := by decide +kernel
theorem dX9_requireDriver_1 : decode cX9_requireDriver 1 = .ok (.iconst 0, 1) := by decide +kernel
theorem dX9_requireDriver_2 : decode cX9_requireDriver 2 = .ok (.iconst 5, 1) := by decide +kernel
theorem dX9_requireDriver_3 : decode cX9_requireDriver 3 = .ok (.invokestatic 91, 3) := by decide +kernel
theorem dX9_requireDriver_6 : decode cX9_requireDriver 6 = .ok (.ifCond .ne 14, 3) := by decide +kernel
theorem dX9_requireDriver_9 : decode cX9_requireDriver 9 = .ok (.new 346, 3) := by decide +kernel
theorem dX9_requireDriver_12 : decode cX9_requireDriver 12 = .ok (.dup, 1) := by decide +kernel
theorem dX9_requireDriver_13 : decode cX9_requireDriver 13 = .ok (.ldc_w 353, 3) := by decide +kernel
theorem dX9_requireDriver_16 : decode cX9_requireDriver 16 = .ok (.invokespecial 350, 3) := by decide +kernel
theorem dX9_requireDriver_19 : decode cX9_requireDriver 19 = .ok (.athrow, 1) := by decide +kernel
theorem dX9_requireDriver_20 : decode cX9_requireDriver 20 = .ok (.return_, 1) := by decide +kernel
theorem dX9_requireClass_0 : decode cX9_requireClass 0 = .ok (.iload_n 0, 1) := by decide +kernel
theorem dX9_requireClass_1 : decode cX9_requireClass 1 = .ok (.iconst 0, 1) := by decide +kernel
theorem dX9_requireClass_2 : decode cX9_requireClass 2 = .ok (.iconst 3, 1) := by decide +kernel
theorem dX9_requireClass_3 : decode cX9_requireClass 3 = .ok (.invokestatic 91, 3) := by decide +kernel
theorem dX9_requireClass_6 : decode cX9_requireClass 6 = .ok (.ifCond .ne 14, 3) := by decide +kernel
theorem dX9_requireClass_9 : decode cX9_requireClass 9 = .ok (.new 95, 3) := by decide +kernel
theorem dX9_requireClass_12 : decode cX9_requireClass 12 = .ok (.dup, 1) := by decide +kernel
theorem dX9_requireClass_13 : decode cX9_requireClass 13 = .ok (.ldc_w 355, 3) := by decide +kernel
theorem dX9_requireClass_16 : decode cX9_requireClass 16 = .ok (.invokespecial 99, 3) := by decide +kernel
theorem dX9_requireClass_19 : decode cX9_requireClass 19 = .ok (.athrow, 1) := by decide +kernel
theorem dX9_requireClass_20 : decode cX9_requireClass 20 = .ok (.return_, 1) := by decide +kernel
theorem dX9_requireMinute_0 : decode cX9_requireMinute 0 = .ok (.iload_n 1, 1) := by decide +kernel
theorem dX9_requireMinute_1 : decode cX9_requireMinute 1 = .ok (.iconst 0, 1) := by decide +kernel
theorem dX9_requireMinute_2 : decode cX9_requireMinute 2 = .ok (.aload_n 0, 1) := by decide +kernel
theorem dX9_requireMinute_3 : decode cX9_requireMinute 3 = .ok (.getfield 75, 3) := by decide +kernel
theorem dX9_requireMinute_6 : decode cX9_requireMinute 6 = .ok (.invokestatic 91, 3) := by decide +kernel
theorem dX9_requireMinute_9 : decode cX9_requireMinute 9 = .ok (.ifCond .ne 14, 3) := by decide +kernel
theorem dX9_requireMinute_12 : decode cX9_requireMinute 12 = .ok (.new 95, 3) := by decide +kernel
theorem dX9_requireMinute_15 : decode cX9_requireMinute 15 = .ok (.dup, 1) := by decide +kernel
theorem dX9_requireMinute_16 : decode cX9_requireMinute 16 = .ok (.ldc_w 357, 3) := by decide +kernel
theorem dX9_requireMinute_19 : decode cX9_requireMinute 19 = .ok (.invokespecial 99, 3) := by decide +kernel
theorem dX9_requireMinute_22 : decode cX9_requireMinute 22 = .ok (.athrow, 1) := by decide +kernel
theorem dX9_requireMinute_23 : decode cX9_requireMinute 23 = .ok (.return_, 1) := by decide +kernel
theorem dX9_requireRoomForSign_0 : decode cX9_requireRoomForSign 0 = .ok (.aload_n 0, 1) := by decide +kernel
theorem dX9_requireRoomForSign_1 : decode cX9_requireRoomForSign 1 = .ok (.getfield 23, 3) := by decide +kernel
theorem dX9_requireRoomForSign_4 : decode cX9_requireRoomForSign 4 = .ok (.getfield 144, 3) := by decide +kernel
theorem dX9_requireRoomForSign_7 : decode cX9_requireRoomForSign 7 = .ok (.bipush 6, 2) := by decide +kernel
theorem dX9_requireRoomForSign_9 : decode cX9_requireRoomForSign 9 = .ok (.if_icmp .lt 14, 3) := by decide +kernel
theorem dX9_requireRoomForSign_12 : decode cX9_requireRoomForSign 12 = .ok (.new 103, 3) := by decide +kernel
theorem dX9_requireRoomForSign_15 : decode cX9_requireRoomForSign 15 = .ok (.dup, 1) := by decide +kernel
theorem dX9_requireRoomForSign_16 : decode cX9_requireRoomForSign 16 = .ok (.ldc_w 359, 3) := by decide +kernel
theorem dX9_requireRoomForSign_19 : decode cX9_requireRoomForSign 19 = .ok (.invokespecial 107, 3) := by decide +kernel
theorem dX9_requireRoomForSign_22 : decode cX9_requireRoomForSign 22 = .ok (.athrow, 1) := by decide +kernel
theorem dX9_requireRoomForSign_23 : decode cX9_requireRoomForSign 23 = .ok (.return_, 1) := by decide +kernel
theorem dX9_plateNumbered_0 : decode cX9_plateNumbered 0 = .ok (.iload_n 1, 1) := by decide +kernel
theorem dX9_plateNumbered_1 : decode cX9_plateNumbered 1 = .ok (.iconst 0, 1) := by decide +kernel
theorem dX9_plateNumbered_2 : decode cX9_plateNumbered 2 = .ok (.aload_n 0, 1) := by decide +kernel
theorem dX9_plateNumbered_3 : decode cX9_plateNumbered 3 = .ok (.getfield 79, 3) := by decide +kernel
theorem dX9_plateNumbered_6 : decode cX9_plateNumbered 6 = .ok (.iconst 1, 1) := by decide +kernel
theorem dX9_plateNumbered_7 : decode cX9_plateNumbered 7 = .ok (.isub, 1) := by decide +kernel
theorem dX9_plateNumbered_8 : decode cX9_plateNumbered 8 = .ok (.invokestatic 91, 3) := by decide +kernel
theorem dX9_plateNumbered_11 : decode cX9_plateNumbered 11 = .ok (.ifCond .ne 14, 3) := by decide +kernel
theorem dX9_plateNumbered_14 : decode cX9_plateNumbered 14 = .ok (.new 346, 3) := by decide +kernel
theorem dX9_plateNumbered_17 : decode cX9_plateNumbered 17 = .ok (.dup, 1) := by decide +kernel
theorem dX9_plateNumbered_18 : decode cX9_plateNumbered 18 = .ok (.ldc_w 361, 3) := by decide +kernel
theorem dX9_plateNumbered_21 : decode cX9_plateNumbered 21 = .ok (.invokespecial 350, 3) := by decide +kernel
theorem dX9_plateNumbered_24 : decode cX9_plateNumbered 24 = .ok (.athrow, 1) := by decide +kernel
theorem dX9_plateNumbered_25 : decode cX9_plateNumbered 25 = .ok (.aload_n 0, 1) := by decide +kernel
theorem dX9_plateNumbered_26 : decode cX9_plateNumbered 26 = .ok (.getfield 36, 3) := by decide +kernel
theorem dX9_plateNumbered_29 : decode cX9_plateNumbered 29 = .ok (.iload_n 1, 1) := by decide +kernel
theorem dX9_plateNumbered_30 : decode cX9_plateNumbered 30 = .ok (.aaload, 1) := by decide +kernel
theorem dX9_plateNumbered_31 : decode cX9_plateNumbered 31 = .ok (.areturn, 1) := by decide +kernel
theorem dX9_readingNumbered_0 : decode cX9_readingNumbered 0 = .ok (.iload_n 1, 1) := by decide +kernel
theorem dX9_readingNumbered_1 : decode cX9_readingNumbered 1 = .ok (.iconst 0, 1) := by decide +kernel
theorem dX9_readingNumbered_2 : decode cX9_readingNumbered 2 = .ok (.aload_n 0, 1) := by decide +kernel
theorem dX9_readingNumbered_3 : decode cX9_readingNumbered 3 = .ok (.getfield 82, 3) := by decide +kernel
theorem dX9_readingNumbered_6 : decode cX9_readingNumbered 6 = .ok (.iconst 1, 1) := by decide +kernel
theorem dX9_readingNumbered_7 : decode cX9_readingNumbered 7 = .ok (.isub, 1) := by decide +kernel
theorem dX9_readingNumbered_8 : decode cX9_readingNumbered 8 = .ok (.invokestatic 91, 3) := by decide +kernel
theorem dX9_readingNumbered_11 : decode cX9_readingNumbered 11 = .ok (.ifCond .ne 14, 3) := by decide +kernel
theorem dX9_readingNumbered_14 : decode cX9_readingNumbered 14 = .ok (.new 346, 3) := by decide +kernel
theorem dX9_readingNumbered_17 : decode cX9_readingNumbered 17 = .ok (.dup, 1) := by decide +kernel
theorem dX9_readingNumbered_18 : decode cX9_readingNumbered 18 = .ok (.ldc_w 363, 3) := by decide +kernel
theorem dX9_readingNumbered_21 : decode cX9_readingNumbered 21 = .ok (.invokespecial 350, 3) := by decide +kernel
theorem dX9_readingNumbered_24 : decode cX9_readingNumbered 24 = .ok (.athrow, 1) := by decide +kernel
theorem dX9_readingNumbered_25 : decode cX9_readingNumbered 25 = .ok (.aload_n 0, 1) := by decide +kernel
theorem dX9_readingNumbered_26 : decode cX9_readingNumbered 26 = .ok (.getfield 45, 3) := by decide +kernel
theorem dX9_readingNumbered_29 : decode cX9_readingNumbered 29 = .ok (.iload_n 1, 1) := by decide +kernel
theorem dX9_readingNumbered_30 : decode cX9_readingNumbered 30 = .ok (.aaload, 1) := by decide +kernel
theorem dX9_readingNumbered_31 : decode cX9_readingNumbered 31 = .ok (.areturn, 1) := by decide +kernel
theorem dX9_requiredBeginning_0 : decode cX9_requiredBeginning 0 = .ok (.aload_n 0, 1) := by decide +kernel
theorem dX9_requiredBeginning_1 : decode cX9_requiredBeginning 1 = .ok (.getfield 275, 3) := by decide +kernel
theorem dX9_requiredBeginning_4 : decode cX9_requiredBeginning 4 = .ok (.iload_n 1, 1) := by decide +kernel
theorem dX9_requiredBeginning_5 : decode cX9_requiredBeginning 5 = .ok (.invokevirtual 367, 3) := by decide +kernel
theorem dX9_requiredBeginning_8 : decode cX9_requiredBeginning 8 = .ok (.istore_n 2, 1) := by decide +kernel
theorem dX9_requiredBeginning_9 : decode cX9_requiredBeginning 9 = .ok (.iload_n 2, 1) := by decide +kernel
theorem dX9_requiredBeginning_10 : decode cX9_requiredBeginning 10 = .ok (.iconst (-1), 1) := by decide +kernel
theorem dX9_requiredBeginning_11 : decode cX9_requiredBeginning 11 = .ok (.if_icmp .ne 14, 3) := by decide +kernel
theorem dX9_requiredBeginning_14 : decode cX9_requiredBeginning 14 = .ok (.new 346, 3) := by decide +kernel
theorem dX9_requiredBeginning_17 : decode cX9_requiredBeginning 17 = .ok (.dup, 1) := by decide +kernel
theorem dX9_requiredBeginning_18 : decode cX9_requiredBeginning 18 = .ok (.ldc_w 370, 3) := by decide +kernel
theorem dX9_requiredBeginning_21 : decode cX9_requiredBeginning 21 = .ok (.invokespecial 350, 3) := by decide +kernel
theorem dX9_requiredBeginning_24 : decode cX9_requiredBeginning 24 = .ok (.athrow, 1) := by decide +kernel
theorem dX9_requiredBeginning_25 : decode cX9_requiredBeginning 25 = .ok (.iload_n 2, 1) := by decide +kernel
theorem dX9_requiredBeginning_26 : decode cX9_requiredBeginning 26 = .ok (.ireturn, 1) := by decide +kernel
theorem dX9_numberOf_0 : decode cX9_numberOf 0 = .ok (.aload_n 0, 1) := by decide +kernel
theorem dX9_numberOf_1 : decode cX9_numberOf 1 = .ok (.ifnonnull 7, 3) := by decide +kernel
theorem dX9_numberOf_4 : decode cX9_numberOf 4 = .ok (.iconst (-1), 1) := by decide +kernel
theorem dX9_numberOf_5 : decode cX9_numberOf 5 = .ok (.goto 7, 3) := by decide +kernel
theorem dX9_numberOf_8 : decode cX9_numberOf 8 = .ok (.aload_n 0, 1) := by decide +kernel
theorem dX9_numberOf_9 : decode cX9_numberOf 9 = .ok (.getfield 210, 3) := by decide +kernel
theorem dX9_numberOf_12 : decode cX9_numberOf 12 = .ok (.ireturn, 1) := by decide +kernel
theorem dX9_isTaken_0 : decode cX9_isTaken 0 = .ok (.iconst 0, 1) := by decide +kernel
theorem dX9_isTaken_1 : decode cX9_isTaken 1 = .ok (.istore_n 2, 1) := by decide +kernel
theorem dX9_isTaken_2 : decode cX9_isTaken 2 = .ok (.iload_n 2, 1) := by decide +kernel
theorem dX9_isTaken_3 : decode cX9_isTaken 3 = .ok (.aload_n 0, 1) := by decide +kernel
theorem dX9_isTaken_4 : decode cX9_isTaken 4 = .ok (.getfield 79, 3) := by decide +kernel
theorem dX9_isTaken_7 : decode cX9_isTaken 7 = .ok (.if_icmp .ge 27, 3) := by decide +kernel
theorem dX9_isTaken_10 : decode cX9_isTaken 10 = .ok (.aload_n 0, 1) := by decide +kernel
theorem dX9_isTaken_11 : decode cX9_isTaken 11 = .ok (.getfield 36, 3) := by decide +kernel
theorem dX9_isTaken_14 : decode cX9_isTaken 14 = .ok (.iload_n 2, 1) := by decide +kernel
theorem dX9_isTaken_15 : decode cX9_isTaken 15 = .ok (.aaload, 1) := by decide +kernel
theorem dX9_isTaken_16 : decode cX9_isTaken 16 = .ok (.getfield 270, 3) := by decide +kernel
theorem dX9_isTaken_19 : decode cX9_isTaken 19 = .ok (.aload_n 1, 1) := by decide +kernel
theorem dX9_isTaken_20 : decode cX9_isTaken 20 = .ok (.invokevirtual 372, 3) := by decide +kernel
theorem dX9_isTaken_23 : decode cX9_isTaken 23 = .ok (.ifCond .eq 5, 3) := by decide +kernel
theorem dX9_isTaken_26 : decode cX9_isTaken 26 = .ok (.iconst 1, 1) := by decide +kernel
theorem dX9_isTaken_27 : decode cX9_isTaken 27 = .ok (.ireturn, 1) := by decide +kernel
theorem dX9_isTaken_28 : decode cX9_isTaken 28 = .ok (.iinc 2 1, 3) := by decide +kernel
theorem dX9_isTaken_31 : decode cX9_isTaken 31 = .ok (.goto (-29), 3) := by decide +kernel
theorem dX9_isTaken_34 : decode cX9_isTaken 34 = .ok (.iconst 0, 1) := by decide +kernel
theorem dX9_isTaken_35 : decode cX9_isTaken 35 = .ok (.ireturn, 1) := by decide +kernel
theorem dX9_putInOrder_0 : decode cX9_putInOrder 0 = .ok (.aload_n 0, 1) := by decide +kernel
theorem dX9_putInOrder_1 : decode cX9_putInOrder 1 = .ok (.getfield 79, 3) := by decide +kernel
theorem dX9_putInOrder_4 : decode cX9_putInOrder 4 = .ok (.istore_n 2, 1) := by decide +kernel
theorem dX9_putInOrder_5 : decode cX9_putInOrder 5 = .ok (.iload_n 2, 1) := by decide +kernel
theorem dX9_putInOrder_6 : decode cX9_putInOrder 6 = .ok (.ifCond .le 44, 3) := by decide +kernel
theorem dX9_putInOrder_9 : decode cX9_putInOrder 9 = .ok (.aload_n 1, 1) := by decide +kernel
theorem dX9_putInOrder_10 : decode cX9_putInOrder 10 = .ok (.getfield 270, 3) := by decide +kernel
theorem dX9_putInOrder_13 : decode cX9_putInOrder 13 = .ok (.aload_n 0, 1) := by decide +kernel
theorem dX9_putInOrder_14 : decode cX9_putInOrder 14 = .ok (.getfield 40, 3) := by decide +kernel
theorem dX9_putInOrder_17 : decode cX9_putInOrder 17 = .ok (.iload_n 2, 1) := by decide +kernel
theorem dX9_putInOrder_18 : decode cX9_putInOrder 18 = .ok (.iconst 1, 1) := by decide +kernel
theorem dX9_putInOrder_19 : decode cX9_putInOrder 19 = .ok (.isub, 1) := by decide +kernel
theorem dX9_putInOrder_20 : decode cX9_putInOrder 20 = .ok (.aaload, 1) := by decide +kernel
theorem dX9_putInOrder_21 : decode cX9_putInOrder 21 = .ok (.getfield 270, 3) := by decide +kernel
theorem dX9_putInOrder_24 : decode cX9_putInOrder 24 = .ok (.invokevirtual 375, 3) := by decide +kernel
theorem dX9_putInOrder_27 : decode cX9_putInOrder 27 = .ok (.ifCond .eq 23, 3) := by decide +kernel
theorem dX9_putInOrder_30 : decode cX9_putInOrder 30 = .ok (.aload_n 0, 1) := by decide +kernel
theorem dX9_putInOrder_31 : decode cX9_putInOrder 31 = .ok (.getfield 40, 3) := by decide +kernel
theorem dX9_putInOrder_34 : decode cX9_putInOrder 34 = .ok (.iload_n 2, 1) := by decide +kernel
theorem dX9_putInOrder_35 : decode cX9_putInOrder 35 = .ok (.aload_n 0, 1) := by decide +kernel
theorem dX9_putInOrder_36 : decode cX9_putInOrder 36 = .ok (.getfield 40, 3) := by decide +kernel
theorem dX9_putInOrder_39 : decode cX9_putInOrder 39 = .ok (.iload_n 2, 1) := by decide +kernel
theorem dX9_putInOrder_40 : decode cX9_putInOrder 40 = .ok (.iconst 1, 1) := by decide +kernel
theorem dX9_putInOrder_41 : decode cX9_putInOrder 41 = .ok (.isub, 1) := by decide +kernel
theorem dX9_putInOrder_42 : decode cX9_putInOrder 42 = .ok (.aaload, 1) := by decide +kernel
theorem dX9_putInOrder_43 : decode cX9_putInOrder 43 = .ok (.aastore, 1) := by decide +kernel
theorem dX9_putInOrder_44 : decode cX9_putInOrder 44 = .ok (.iinc 2 (-1), 3) := by decide +kernel
theorem dX9_putInOrder_47 : decode cX9_putInOrder 47 = .ok (.goto (-42), 3) := by decide +kernel
theorem dX9_putInOrder_50 : decode cX9_putInOrder 50 = .ok (.aload_n 0, 1) := by decide +kernel
theorem dX9_putInOrder_51 : decode cX9_putInOrder 51 = .ok (.getfield 40, 3) := by decide +kernel
theorem dX9_putInOrder_54 : decode cX9_putInOrder 54 = .ok (.iload_n 2, 1) := by decide +kernel
theorem dX9_putInOrder_55 : decode cX9_putInOrder 55 = .ok (.aload_n 1, 1) := by decide +kernel
theorem dX9_putInOrder_56 : decode cX9_putInOrder 56 = .ok (.aastore, 1) := by decide +kernel
theorem dX9_putInOrder_57 : decode cX9_putInOrder 57 = .ok (.return_, 1) := by decide +kernel
theorem dX9_plateByText_0 : decode cX9_plateByText 0 = .ok (.aconst_null, 1) := by decide +kernel
theorem dX9_plateByText_1 : decode cX9_plateByText 1 = .ok (.astore_n 2, 1) := by decide +kernel
theorem dX9_plateByText_2 : decode cX9_plateByText 2 = .ok (.iconst 0, 1) := by decide +kernel
theorem dX9_plateByText_3 : decode cX9_plateByText 3 = .ok (.istore_n 3, 1) := by decide +kernel
theorem dX9_plateByText_4 : decode cX9_plateByText 4 = .ok (.iconst 0, 1) := by decide +kernel
theorem dX9_plateByText_5 : decode cX9_plateByText 5 = .ok (.istore 4, 2) := by decide +kernel
theorem dX9_plateByText_7 : decode cX9_plateByText 7 = .ok (.iload 4, 2) := by decide +kernel
theorem dX9_plateByText_9 : decode cX9_plateByText 9 = .ok (.aload_n 0, 1) := by decide +kernel
theorem dX9_plateByText_10 : decode cX9_plateByText 10 = .ok (.getfield 79, 3) := by decide +kernel
theorem dX9_plateByText_13 : decode cX9_plateByText 13 = .ok (.if_icmp .ge 58, 3) := by decide +kernel
theorem dX9_plateByText_16 : decode cX9_plateByText 16 = .ok (.aload_n 0, 1) := by decide +kernel
theorem dX9_plateByText_17 : decode cX9_plateByText 17 = .ok (.getfield 40, 3) := by decide +kernel
theorem dX9_plateByText_20 : decode cX9_plateByText 20 = .ok (.iload 4, 2) := by decide +kernel
theorem dX9_plateByText_22 : decode cX9_plateByText 22 = .ok (.aaload, 1) := by decide +kernel
theorem dX9_plateByText_23 : decode cX9_plateByText 23 = .ok (.astore 5, 2) := by decide +kernel
theorem dX9_plateByText_25 : decode cX9_plateByText 25 = .ok (.aload_n 0, 1) := by decide +kernel
theorem dX9_plateByText_26 : decode cX9_plateByText 26 = .ok (.getfield 30, 3) := by decide +kernel
theorem dX9_plateByText_29 : decode cX9_plateByText 29 = .ok (.aload_n 1, 1) := by decide +kernel
theorem dX9_plateByText_30 : decode cX9_plateByText 30 = .ok (.getfield 267, 3) := by decide +kernel
theorem dX9_plateByText_33 : decode cX9_plateByText 33 = .ok (.aload 5, 2) := by decide +kernel
theorem dX9_plateByText_35 : decode cX9_plateByText 35 = .ok (.getfield 270, 3) := by decide +kernel
theorem dX9_plateByText_38 : decode cX9_plateByText 38 = .ok (.invokevirtual 271, 3) := by decide +kernel
theorem dX9_plateByText_41 : decode cX9_plateByText 41 = .ok (.istore 6, 2) := by decide +kernel
theorem dX9_plateByText_43 : decode cX9_plateByText 43 = .ok (.iload 6, 2) := by decide +kernel
theorem dX9_plateByText_45 : decode cX9_plateByText 45 = .ok (.iconst (-1), 1) := by decide +kernel
theorem dX9_plateByText_46 : decode cX9_plateByText 46 = .ok (.if_icmp .eq 19, 3) := by decide +kernel
theorem dX9_plateByText_49 : decode cX9_plateByText 49 = .ok (.aload_n 2, 1) := by decide +kernel
theorem dX9_plateByText_50 : decode cX9_plateByText 50 = .ok (.ifnull 9, 3) := by decide +kernel
theorem dX9_plateByText_53 : decode cX9_plateByText 53 = .ok (.iload 6, 2) := by decide +kernel
theorem dX9_plateByText_55 : decode cX9_plateByText 55 = .ok (.iload_n 3, 1) := by decide +kernel
theorem dX9_plateByText_56 : decode cX9_plateByText 56 = .ok (.if_icmp .ge 9, 3) := by decide +kernel
theorem dX9_plateByText_59 : decode cX9_plateByText 59 = .ok (.aload 5, 2) := by decide +kernel
theorem dX9_plateByText_61 : decode cX9_plateByText 61 = .ok (.astore_n 2, 1) := by decide +kernel
theorem dX9_plateByText_62 : decode cX9_plateByText 62 = .ok (.iload 6, 2) := by decide +kernel
theorem dX9_plateByText_64 : decode cX9_plateByText 64 = .ok (.istore_n 3, 1) := by decide +kernel
theorem dX9_plateByText_65 : decode cX9_plateByText 65 = .ok (.iinc 4 1, 3) := by decide +kernel
theorem dX9_plateByText_68 : decode cX9_plateByText 68 = .ok (.goto (-61), 3) := by decide +kernel
theorem dX9_plateByText_71 : decode cX9_plateByText 71 = .ok (.aload_n 2, 1) := by decide +kernel
theorem dX9_plateByText_72 : decode cX9_plateByText 72 = .ok (.areturn, 1) := by decide +kernel
theorem dX9_leadAllBack_0 : decode cX9_leadAllBack 0 = .ok (.iconst 0, 1) := by decide +kernel
theorem dX9_leadAllBack_1 : decode cX9_leadAllBack 1 = .ok (.istore_n 1, 1) := by decide +kernel
theorem dX9_leadAllBack_2 : decode cX9_leadAllBack 2 = .ok (.iload_n 1, 1) := by decide +kernel
theorem dX9_leadAllBack_3 : decode cX9_leadAllBack 3 = .ok (.aload_n 0, 1) := by decide +kernel
theorem dX9_leadAllBack_4 : decode cX9_leadAllBack 4 = .ok (.getfield 82, 3) := by decide +kernel
theorem dX9_leadAllBack_7 : decode cX9_leadAllBack 7 = .ok (.if_icmp .ge 33, 3) := by decide +kernel
theorem dX9_leadAllBack_10 : decode cX9_leadAllBack 10 = .ok (.aload_n 0, 1) := by decide +kernel
theorem dX9_leadAllBack_11 : decode cX9_leadAllBack 11 = .ok (.getfield 45, 3) := by decide +kernel
theorem dX9_leadAllBack_14 : decode cX9_leadAllBack 14 = .ok (.iload_n 1, 1) := by decide +kernel
theorem dX9_leadAllBack_15 : decode cX9_leadAllBack 15 = .ok (.aaload, 1) := by decide +kernel
theorem dX9_leadAllBack_16 : decode cX9_leadAllBack 16 = .ok (.astore_n 2, 1) := by decide +kernel
theorem dX9_leadAllBack_17 : decode cX9_leadAllBack 17 = .ok (.aload_n 2, 1) := by decide +kernel
theorem dX9_leadAllBack_18 : decode cX9_leadAllBack 18 = .ok (.getfield 261, 3) := by decide +kernel
theorem dX9_leadAllBack_21 : decode cX9_leadAllBack 21 = .ok (.ifCond .ne 13, 3) := by decide +kernel
theorem dX9_leadAllBack_24 : decode cX9_leadAllBack 24 = .ok (.aload_n 0, 1) := by decide +kernel
theorem dX9_leadAllBack_25 : decode cX9_leadAllBack 25 = .ok (.aload_n 2, 1) := by decide +kernel
theorem dX9_leadAllBack_26 : decode cX9_leadAllBack 26 = .ok (.aload_n 0, 1) := by decide +kernel
theorem dX9_leadAllBack_27 : decode cX9_leadAllBack 27 = .ok (.aload_n 2, 1) := by decide +kernel
theorem dX9_leadAllBack_28 : decode cX9_leadAllBack 28 = .ok (.invokevirtual 240, 3) := by decide +kernel
theorem dX9_leadAllBack_31 : decode cX9_leadAllBack 31 = .ok (.invokevirtual 244, 3) := by decide +kernel
theorem dX9_leadAllBack_34 : decode cX9_leadAllBack 34 = .ok (.iinc 1 1, 3) := by decide +kernel
theorem dX9_leadAllBack_37 : decode cX9_leadAllBack 37 = .ok (.goto (-35), 3) := by decide +kernel
theorem dX9_leadAllBack_40 : decode cX9_leadAllBack 40 = .ok (.return_, 1) := by decide +kernel
theorem dX9_move_0 : decode cX9_move 0 = .ok (.aload_n 1, 1) := by decide +kernel
theorem dX9_move_1 : decode cX9_move 1 = .ok (.getfield 253, 3) := by decide +kernel
theorem dX9_move_4 : decode cX9_move 4 = .ok (.invokestatic 257, 3) := by decide +kernel
theorem dX9_move_7 : decode cX9_move 7 = .ok (.aload_n 2, 1) := by decide +kernel
theorem dX9_move_8 : decode cX9_move 8 = .ok (.invokestatic 257, 3) := by decide +kernel
theorem dX9_move_11 : decode cX9_move 11 = .ok (.if_icmp .ne 4, 3) := by decide +kernel
theorem dX9_move_14 : decode cX9_move 14 = .ok (.return_, 1) := by decide +kernel
theorem dX9_move_15 : decode cX9_move 15 = .ok (.aload_n 1, 1) := by decide +kernel
theorem dX9_move_16 : decode cX9_move 16 = .ok (.getfield 253, 3) := by decide +kernel
theorem dX9_move_19 : decode cX9_move 19 = .ok (.ifnull 18, 3) := by decide +kernel
theorem dX9_move_22 : decode cX9_move 22 = .ok (.aload_n 1, 1) := by decide +kernel
theorem dX9_move_23 : decode cX9_move 23 = .ok (.getfield 253, 3) := by decide +kernel
theorem dX9_move_26 : decode cX9_move 26 = .ok (.getfield 275, 3) := by decide +kernel
theorem dX9_move_29 : decode cX9_move 29 = .ok (.aload_n 1, 1) := by decide +kernel
theorem dX9_move_30 : decode cX9_move 30 = .ok (.aload_n 0, 1) := by decide +kernel
theorem dX9_move_31 : decode cX9_move 31 = .ok (.getfield 10, 3) := by decide +kernel
theorem dX9_move_34 : decode cX9_move 34 = .ok (.invokevirtual 378, 3) := by decide +kernel
theorem dX9_move_37 : decode cX9_move 37 = .ok (.aload_n 1, 1) := by decide +kernel
theorem dX9_move_38 : decode cX9_move 38 = .ok (.aload_n 2, 1) := by decide +kernel
theorem dX9_move_39 : decode cX9_move 39 = .ok (.putfield 253, 3) := by decide +kernel
theorem dX9_move_42 : decode cX9_move 42 = .ok (.aload_n 2, 1) := by decide +kernel
theorem dX9_move_43 : decode cX9_move 43 = .ok (.ifnull 15, 3) := by decide +kernel
theorem dX9_move_46 : decode cX9_move 46 = .ok (.aload_n 2, 1) := by decide +kernel
theorem dX9_move_47 : decode cX9_move 47 = .ok (.getfield 275, 3) := by decide +kernel
theorem dX9_move_50 : decode cX9_move 50 = .ok (.aload_n 1, 1) := by decide +kernel
theorem dX9_move_51 : decode cX9_move 51 = .ok (.aload_n 0, 1) := by decide +kernel
theorem dX9_move_52 : decode cX9_move 52 = .ok (.getfield 10, 3) := by decide +kernel
theorem dX9_move_55 : decode cX9_move 55 = .ok (.invokevirtual 382, 3) := by decide +kernel
theorem dX9_move_58 : decode cX9_move 58 = .ok (.return_, 1) := by decide +kernel
theorem dX9_joinAllAgain_0 : decode cX9_joinAllAgain 0 = .ok (.iconst 0, 1) := by decide +kernel
theorem dX9_joinAllAgain_1 : decode cX9_joinAllAgain 1 = .ok (.istore_n 1, 1) := by decide +kernel
theorem dX9_joinAllAgain_2 : decode cX9_joinAllAgain 2 = .ok (.iload_n 1, 1) := by decide +kernel
theorem dX9_joinAllAgain_3 : decode cX9_joinAllAgain 3 = .ok (.aload_n 0, 1) := by decide +kernel
theorem dX9_joinAllAgain_4 : decode cX9_joinAllAgain 4 = .ok (.getfield 79, 3) := by decide +kernel
theorem dX9_joinAllAgain_7 : decode cX9_joinAllAgain 7 = .ok (.if_icmp .ge 25, 3) := by decide +kernel
theorem dX9_joinAllAgain_10 : decode cX9_joinAllAgain 10 = .ok (.aload_n 0, 1) := by decide +kernel
theorem dX9_joinAllAgain_11 : decode cX9_joinAllAgain 11 = .ok (.getfield 36, 3) := by decide +kernel
theorem dX9_joinAllAgain_14 : decode cX9_joinAllAgain 14 = .ok (.iload_n 1, 1) := by decide +kernel
theorem dX9_joinAllAgain_15 : decode cX9_joinAllAgain 15 = .ok (.aaload, 1) := by decide +kernel
theorem dX9_joinAllAgain_16 : decode cX9_joinAllAgain 16 = .ok (.getfield 275, 3) := by decide +kernel
theorem dX9_joinAllAgain_19 : decode cX9_joinAllAgain 19 = .ok (.aload_n 0, 1) := by decide +kernel
theorem dX9_joinAllAgain_20 : decode cX9_joinAllAgain 20 = .ok (.getfield 10, 3) := by decide +kernel
theorem dX9_joinAllAgain_23 : decode cX9_joinAllAgain 23 = .ok (.invokevirtual 384, 3) := by decide +kernel
theorem dX9_joinAllAgain_26 : decode cX9_joinAllAgain 26 = .ok (.iinc 1 1, 3) := by decide +kernel
theorem dX9_joinAllAgain_29 : decode cX9_joinAllAgain 29 = .ok (.goto (-27), 3) := by decide +kernel
theorem dX9_joinAllAgain_32 : decode cX9_joinAllAgain 32 = .ok (.return_, 1) := by decide +kernel
theorem dX9_joinAnew_0 : decode cX9_joinAnew 0 = .ok (.aload_n 0, 1) := by decide +kernel
theorem dX9_joinAnew_1 : decode cX9_joinAnew 1 = .ok (.getfield 71, 3) := by decide +kernel
theorem dX9_joinAnew_4 : decode cX9_joinAnew 4 = .ok (.iconst 0, 1) := by decide +kernel
theorem dX9_joinAnew_5 : decode cX9_joinAnew 5 = .ok (.putfield 388, 3) := by decide +kernel
theorem dX9_joinAnew_8 : decode cX9_joinAnew 8 = .ok (.iconst 0, 1) := by decide +kernel
theorem dX9_joinAnew_9 : decode cX9_joinAnew 9 = .ok (.istore_n 2, 1) := by decide +kernel
theorem dX9_joinAnew_10 : decode cX9_joinAnew 10 = .ok (.iload_n 2, 1) := by decide +kernel
theorem dX9_joinAnew_11 : decode cX9_joinAnew 11 = .ok (.aload_n 0, 1) := by decide +kernel
theorem dX9_joinAnew_12 : decode cX9_joinAnew 12 = .ok (.getfield 82, 3) := by decide +kernel
theorem dX9_joinAnew_15 : decode cX9_joinAnew 15 = .ok (.if_icmp .ge 39, 3) := by decide +kernel
theorem dX9_joinAnew_18 : decode cX9_joinAnew 18 = .ok (.aload_n 0, 1) := by decide +kernel
theorem dX9_joinAnew_19 : decode cX9_joinAnew 19 = .ok (.getfield 45, 3) := by decide +kernel
theorem dX9_joinAnew_22 : decode cX9_joinAnew 22 = .ok (.iload_n 2, 1) := by decide +kernel
theorem dX9_joinAnew_23 : decode cX9_joinAnew 23 = .ok (.aaload, 1) := by decide +kernel
theorem dX9_joinAnew_24 : decode cX9_joinAnew 24 = .ok (.astore_n 3, 1) := by decide +kernel
theorem dX9_joinAnew_25 : decode cX9_joinAnew 25 = .ok (.aload_n 3, 1) := by decide +kernel
theorem dX9_joinAnew_26 : decode cX9_joinAnew 26 = .ok (.getfield 253, 3) := by decide +kernel
theorem dX9_joinAnew_29 : decode cX9_joinAnew 29 = .ok (.invokestatic 257, 3) := by decide +kernel
theorem dX9_joinAnew_32 : decode cX9_joinAnew 32 = .ok (.aload_n 1, 1) := by decide +kernel
theorem dX9_joinAnew_33 : decode cX9_joinAnew 33 = .ok (.getfield 210, 3) := by decide +kernel
theorem dX9_joinAnew_36 : decode cX9_joinAnew 36 = .ok (.if_icmp .ne 12, 3) := by decide +kernel
theorem dX9_joinAnew_39 : decode cX9_joinAnew 39 = .ok (.aload_n 0, 1) := by decide +kernel
theorem dX9_joinAnew_40 : decode cX9_joinAnew 40 = .ok (.getfield 71, 3) := by decide +kernel
theorem dX9_joinAnew_43 : decode cX9_joinAnew 43 = .ok (.aload_n 3, 1) := by decide +kernel
theorem dX9_joinAnew_44 : decode cX9_joinAnew 44 = .ok (.invokevirtual 389, 3) := by decide +kernel
theorem dX9_joinAnew_47 : decode cX9_joinAnew 47 = .ok (.pop, 1) := by decide +kernel
theorem dX9_joinAnew_48 : decode cX9_joinAnew 48 = .ok (.iinc 2 1, 3) := by decide +kernel
theorem dX9_joinAnew_51 : decode cX9_joinAnew 51 = .ok (.goto (-41), 3) := by decide +kernel
theorem dX9_joinAnew_54 : decode cX9_joinAnew 54 = .ok (.aload_n 0, 1) := by decide +kernel
theorem dX9_joinAnew_55 : decode cX9_joinAnew 55 = .ok (.getfield 71, 3) := by decide +kernel
theorem dX9_joinAnew_58 : decode cX9_joinAnew 58 = .ok (.aload_n 0, 1) := by decide +kernel
theorem dX9_joinAnew_59 : decode cX9_joinAnew 59 = .ok (.getfield 10, 3) := by decide +kernel
theorem dX9_joinAnew_62 : decode cX9_joinAnew 62 = .ok (.invokevirtual 384, 3) := by decide +kernel
theorem dX9_joinAnew_65 : decode cX9_joinAnew 65 = .ok (.aload_n 0, 1) := by decide +kernel
theorem dX9_joinAnew_66 : decode cX9_joinAnew 66 = .ok (.getfield 71, 3) := by decide +kernel
theorem dX9_joinAnew_69 : decode cX9_joinAnew 69 = .ok (.areturn, 1) := by decide +kernel
theorem dX9_dueByKept_0 : decode cX9_dueByKept 0 = .ok (.iconst 0, 1) := by decide +kernel
theorem dX9_dueByKept_1 : decode cX9_dueByKept 1 = .ok (.istore_n 2, 1) := by decide +kernel
theorem dX9_dueByKept_2 : decode cX9_dueByKept 2 = .ok (.iconst 0, 1) := by decide +kernel
theorem dX9_dueByKept_3 : decode cX9_dueByKept 3 = .ok (.istore_n 3, 1) := by decide +kernel
theorem dX9_dueByKept_4 : decode cX9_dueByKept 4 = .ok (.iload_n 3, 1) := by decide +kernel
theorem dX9_dueByKept_5 : decode cX9_dueByKept 5 = .ok (.aload_n 0, 1) := by decide +kernel
theorem dX9_dueByKept_6 : decode cX9_dueByKept 6 = .ok (.getfield 79, 3) := by decide +kernel
theorem dX9_dueByKept_9 : decode cX9_dueByKept 9 = .ok (.if_icmp .ge 32, 3) := by decide +kernel
theorem dX9_dueByKept_12 : decode cX9_dueByKept 12 = .ok (.aload_n 0, 1) := by decide +kernel
theorem dX9_dueByKept_13 : decode cX9_dueByKept 13 = .ok (.getfield 36, 3) := by decide +kernel
theorem dX9_dueByKept_16 : decode cX9_dueByKept 16 = .ok (.iload_n 3, 1) := by decide +kernel
theorem dX9_dueByKept_17 : decode cX9_dueByKept 17 = .ok (.aaload, 1) := by decide +kernel
theorem dX9_dueByKept_18 : decode cX9_dueByKept 18 = .ok (.astore 4, 2) := by decide +kernel
theorem dX9_dueByKept_20 : decode cX9_dueByKept 20 = .ok (.iload_n 2, 1) := by decide +kernel
theorem dX9_dueByKept_21 : decode cX9_dueByKept 21 = .ok (.aload_n 0, 1) := by decide +kernel
theorem dX9_dueByKept_22 : decode cX9_dueByKept 22 = .ok (.aload 4, 2) := by decide +kernel
theorem dX9_dueByKept_24 : decode cX9_dueByKept 24 = .ok (.aload 4, 2) := by decide +kernel
theorem dX9_dueByKept_26 : decode cX9_dueByKept 26 = .ok (.getfield 275, 3) := by decide +kernel
theorem dX9_dueByKept_29 : decode cX9_dueByKept 29 = .ok (.iload_n 1, 1) := by decide +kernel
theorem dX9_dueByKept_30 : decode cX9_dueByKept 30 = .ok (.invokevirtual 306, 3) := by decide +kernel
theorem dX9_dueByKept_33 : decode cX9_dueByKept 33 = .ok (.iadd, 1) := by decide +kernel
theorem dX9_dueByKept_34 : decode cX9_dueByKept 34 = .ok (.istore_n 2, 1) := by decide +kernel
theorem dX9_dueByKept_35 : decode cX9_dueByKept 35 = .ok (.iinc 3 1, 3) := by decide +kernel
theorem dX9_dueByKept_38 : decode cX9_dueByKept 38 = .ok (.goto (-34), 3) := by decide +kernel
theorem dX9_dueByKept_41 : decode cX9_dueByKept 41 = .ok (.iload_n 2, 1) := by decide +kernel
theorem dX9_dueByKept_42 : decode cX9_dueByKept 42 = .ok (.ireturn, 1) := by decide +kernel
theorem dX9_dueFor_0 : decode cX9_dueFor 0 = .ok (.iconst 0, 1) := by decide +kernel
theorem dX9_dueFor_1 : decode cX9_dueFor 1 = .ok (.istore 4, 2) := by decide +kernel
theorem dX9_dueFor_3 : decode cX9_dueFor 3 = .ok (.iconst 0, 1) := by decide +kernel
theorem dX9_dueFor_4 : decode cX9_dueFor 4 = .ok (.istore 5, 2) := by decide +kernel
theorem dX9_dueFor_6 : decode cX9_dueFor 6 = .ok (.iload 5, 2) := by decide +kernel
theorem dX9_dueFor_8 : decode cX9_dueFor 8 = .ok (.aload_n 2, 1) := by decide +kernel
theorem dX9_dueFor_9 : decode cX9_dueFor 9 = .ok (.getfield 388, 3) := by decide +kernel
theorem dX9_dueFor_12 : decode cX9_dueFor 12 = .ok (.if_icmp .ge 50, 3) := by decide +kernel
theorem dX9_dueFor_15 : decode cX9_dueFor 15 = .ok (.aload_n 2, 1) := by decide +kernel
theorem dX9_dueFor_16 : decode cX9_dueFor 16 = .ok (.getfield 392, 3) := by decide +kernel
theorem dX9_dueFor_19 : decode cX9_dueFor 19 = .ok (.iload 5, 2) := by decide +kernel
theorem dX9_dueFor_21 : decode cX9_dueFor 21 = .ok (.baload, 1) := by decide +kernel
theorem dX9_dueFor_22 : decode cX9_dueFor 22 = .ok (.ifCond .eq 34, 3) := by decide +kernel
theorem dX9_dueFor_25 : decode cX9_dueFor 25 = .ok (.aload_n 1, 1) := by decide +kernel
theorem dX9_dueFor_26 : decode cX9_dueFor 26 = .ok (.aload_n 2, 1) := by decide +kernel
theorem dX9_dueFor_27 : decode cX9_dueFor 27 = .ok (.getfield 297, 3) := by decide +kernel
theorem dX9_dueFor_30 : decode cX9_dueFor 30 = .ok (.iload 5, 2) := by decide +kernel
theorem dX9_dueFor_32 : decode cX9_dueFor 32 = .ok (.aaload, 1) := by decide +kernel
theorem dX9_dueFor_33 : decode cX9_dueFor 33 = .ok (.getfield 300, 3) := by decide +kernel
theorem dX9_dueFor_36 : decode cX9_dueFor 36 = .ok (.invokevirtual 232, 3) := by decide +kernel
theorem dX9_dueFor_39 : decode cX9_dueFor 39 = .ok (.iload_n 3, 1) := by decide +kernel
theorem dX9_dueFor_40 : decode cX9_dueFor 40 = .ok (.if_icmp .ne 16, 3) := by decide +kernel
theorem dX9_dueFor_43 : decode cX9_dueFor 43 = .ok (.iload 4, 2) := by decide +kernel
theorem dX9_dueFor_45 : decode cX9_dueFor 45 = .ok (.aload_n 0, 1) := by decide +kernel
theorem dX9_dueFor_46 : decode cX9_dueFor 46 = .ok (.aload_n 2, 1) := by decide +kernel
theorem dX9_dueFor_47 : decode cX9_dueFor 47 = .ok (.iload 5, 2) := by decide +kernel
theorem dX9_dueFor_49 : decode cX9_dueFor 49 = .ok (.aload_n 1, 1) := by decide +kernel
theorem dX9_dueFor_50 : decode cX9_dueFor 50 = .ok (.invokevirtual 293, 3) := by decide +kernel
theorem dX9_dueFor_53 : decode cX9_dueFor 53 = .ok (.iadd, 1) := by decide +kernel
theorem dX9_dueFor_54 : decode cX9_dueFor 54 = .ok (.istore 4, 2) := by decide +kernel
theorem dX9_dueFor_56 : decode cX9_dueFor 56 = .ok (.iinc 5 1, 3) := by decide +kernel
theorem dX9_dueFor_59 : decode cX9_dueFor 59 = .ok (.goto (-53), 3) := by decide +kernel
theorem dX9_dueFor_62 : decode cX9_dueFor 62 = .ok (.iload 4, 2) := by decide +kernel
theorem dX9_dueFor_64 : decode cX9_dueFor 64 = .ok (.ireturn, 1) := by decide +kernel
theorem dX9_tollFrom_0 : decode cX9_tollFrom 0 = .ok (.aload_n 0, 1) := by decide +kernel
theorem dX9_tollFrom_1 : decode cX9_tollFrom 1 = .ok (.getfield 16, 3) := by decide +kernel
theorem dX9_tollFrom_4 : decode cX9_tollFrom 4 = .ok (.aload_n 3, 1) := by decide +kernel
theorem dX9_tollFrom_5 : decode cX9_tollFrom 5 = .ok (.getfield 396, 3) := by decide +kernel
theorem dX9_tollFrom_8 : decode cX9_tollFrom 8 = .ok (.iaload, 1) := by decide +kernel
theorem dX9_tollFrom_9 : decode cX9_tollFrom 9 = .ok (.aload_n 1, 1) := by decide +kernel
theorem dX9_tollFrom_10 : decode cX9_tollFrom 10 = .ok (.iload_n 2, 1) := by decide +kernel
theorem dX9_tollFrom_11 : decode cX9_tollFrom 11 = .ok (.aload_n 0, 1) := by decide +kernel
theorem dX9_tollFrom_12 : decode cX9_tollFrom 12 = .ok (.getfield 10, 3) := by decide +kernel
theorem dX9_tollFrom_15 : decode cX9_tollFrom 15 = .ok (.invokevirtual 399, 3) := by decide +kernel
theorem dX9_tollFrom_18 : decode cX9_tollFrom 18 = .ok (.iconst 2, 1) := by decide +kernel
theorem dX9_tollFrom_19 : decode cX9_tollFrom 19 = .ok (.iadd, 1) := by decide +kernel
theorem dX9_tollFrom_20 : decode cX9_tollFrom 20 = .ok (.imul, 1) := by decide +kernel
theorem dX9_tollFrom_21 : decode cX9_tollFrom 21 = .ok (.ireturn, 1) := by decide +kernel
theorem dL_draw_0 : decode cL_draw 0 = .ok (.iload_n 1, 1) := by decide +kernel
theorem dL_draw_1 : decode cL_draw 1 = .ok (.aload_n 0, 1) := by decide +kernel
theorem dL_draw_2 : decode cL_draw 2 = .ok (.arraylength, 1) := by decide +kernel
theorem dL_draw_3 : decode cL_draw 3 = .ok (.if_icmp .ge 9, 3) := by decide +kernel
theorem dL_draw_6 : decode cL_draw 6 = .ok (.aload_n 0, 1) := by decide +kernel
theorem dL_draw_7 : decode cL_draw 7 = .ok (.iload_n 1, 1) := by decide +kernel
theorem dL_draw_8 : decode cL_draw 8 = .ok (.iaload, 1) := by decide +kernel
theorem dL_draw_9 : decode cL_draw 9 = .ok (.goto 14, 3) := by decide +kernel
theorem dL_draw_12 : decode cL_draw 12 = .ok (.ldc 7, 2) := by decide +kernel
theorem dL_draw_14 : decode cL_draw 14 = .ok (.iload_n 1, 1) := by decide +kernel
theorem dL_draw_15 : decode cL_draw 15 = .ok (.sipush 479, 3) := by decide +kernel
theorem dL_draw_18 : decode cL_draw 18 = .ok (.iadd, 1) := by decide +kernel
theorem dL_draw_19 : decode cL_draw 19 = .ok (.imul, 1) := by decide +kernel
theorem dL_draw_20 : decode cL_draw 20 = .ok (.ldc 8, 2) := by decide +kernel
theorem dL_draw_22 : decode cL_draw 22 = .ok (.iadd, 1) := by decide +kernel
theorem dL_draw_23 : decode cL_draw 23 = .ok (.istore_n 3, 1) := by decide +kernel
theorem dL_draw_24 : decode cL_draw 24 = .ok (.iload_n 3, 1) := by decide +kernel
theorem dL_draw_25 : decode cL_draw 25 = .ok (.ldc 9, 2) := by decide +kernel
theorem dL_draw_27 : decode cL_draw 27 = .ok (.iand, 1) := by decide +kernel
theorem dL_draw_28 : decode cL_draw 28 = .ok (.iload_n 2, 1) := by decide +kernel
theorem dL_draw_29 : decode cL_draw 29 = .ok (.irem, 1) := by decide +kernel
theorem dL_draw_30 : decode cL_draw 30 = .ok (.ireturn, 1) := by decide +kernel
theorem dL_part_0 : decode cL_part 0 = .ok (.iload_n 0, 1) := by decide +kernel
theorem dL_part_1 : decode cL_part 1 = .ok (.iload_n 1, 1) := by decide +kernel
theorem dL_part_2 : decode cL_part 2 = .ok (.ishr, 1) := by decide +kernel
theorem dL_part_3 : decode cL_part 3 = .ok (.iconst 1, 1) := by decide +kernel
theorem dL_part_4 : decode cL_part 4 = .ok (.iload_n 2, 1) := by decide +kernel
theorem dL_part_5 : decode cL_part 5 = .ok (.ishl, 1) := by decide +kernel
theorem dL_part_6 : decode cL_part 6 = .ok (.iconst 1, 1) := by decide +kernel
theorem dL_part_7 : decode cL_part 7 = .ok (.isub, 1) := by decide +kernel
theorem dL_part_8 : decode cL_part 8 = .ok (.iand, 1) := by decide +kernel
theorem dL_part_9 : decode cL_part 9 = .ok (.ireturn, 1) := by decide +kernel
theorem dL_sign_0 : decode cL_sign 0 = .ok (.iload_n 0, 1) := by decide +kernel
theorem dL_sign_1 : decode cL_sign 1 = .ok (.iconst 4, 1) := by decide +kernel
theorem dL_sign_2 : decode cL_sign 2 = .ok (.iload_n 1, 1) := by decide +kernel
theorem dL_sign_3 : decode cL_sign 3 = .ok (.imul, 1) := by decide +kernel
theorem dL_sign_4 : decode cL_sign 4 = .ok (.iconst 4, 1) := by decide +kernel
theorem dL_sign_5 : decode cL_sign 5 = .ok (.invokestatic 10, 3) := by decide +kernel
theorem dL_sign_8 : decode cL_sign 8 = .ok (.ireturn, 1) := by decide +kernel
theorem dL_size_0 : decode cL_size 0 = .ok (.iload_n 0, 1) := by decide +kernel
theorem dL_size_1 : decode cL_size 1 = .ok (.bipush 24, 2) := by decide +kernel
theorem dL_size_3 : decode cL_size 3 = .ok (.ishr, 1) := by decide +kernel
theorem dL_size_4 : decode cL_size 4 = .ok (.ireturn, 1) := by decide +kernel
theorem dL_minute_0 : decode cL_minute 0 = .ok (.aload_n 0, 1) := by decide +kernel
theorem dL_minute_1 : decode cL_minute 1 = .ok (.iload_n 1, 1) := by decide +kernel
theorem dL_minute_2 : decode cL_minute 2 = .ok (.iaload, 1) := by decide +kernel
theorem dL_minute_3 : decode cL_minute 3 = .ok (.iconst 3, 1) := by decide +kernel
theorem dL_minute_4 : decode cL_minute 4 = .ok (.bipush 16, 2) := by decide +kernel
theorem dL_minute_6 : decode cL_minute 6 = .ok (.invokestatic 10, 3) := by decide +kernel
theorem dL_minute_9 : decode cL_minute 9 = .ok (.ireturn, 1) := by decide +kernel
theorem dL_asks_0 : decode cL_asks 0 = .ok (.iload_n 1, 1) := by decide +kernel
theorem dL_asks_1 : decode cL_asks 1 = .ok (.ifCond .ne 11, 3) := by decide +kernel
theorem dL_asks_4 : decode cL_asks 4 = .ok (.aload_n 0, 1) := by decide +kernel
theorem dL_asks_5 : decode cL_asks 5 = .ok (.iload_n 2, 1) := by decide +kernel
theorem dL_asks_6 : decode cL_asks 6 = .ok (.invokevirtual 16, 3) := by decide +kernel
theorem dL_asks_9 : decode cL_asks 9 = .ok (.goto 64, 3) := by decide +kernel
theorem dL_asks_12 : decode cL_asks 12 = .ok (.iload_n 1, 1) := by decide +kernel
theorem dL_asks_13 : decode cL_asks 13 = .ok (.iconst 1, 1) := by decide +kernel
theorem dL_asks_14 : decode cL_asks 14 = .ok (.if_icmp .ne 12, 3) := by decide +kernel
theorem dL_asks_17 : decode cL_asks 17 = .ok (.aload_n 0, 1) := by decide +kernel
theorem dL_asks_18 : decode cL_asks 18 = .ok (.iload_n 2, 1) := by decide +kernel
theorem dL_asks_19 : decode cL_asks 19 = .ok (.iload_n 3, 1) := by decide +kernel
theorem dL_asks_20 : decode cL_asks 20 = .ok (.invokevirtual 22, 3) := by decide +kernel
theorem dL_asks_23 : decode cL_asks 23 = .ok (.goto 50, 3) := by decide +kernel
theorem dL_asks_26 : decode cL_asks 26 = .ok (.iload_n 1, 1) := by decide +kernel
theorem dL_asks_27 : decode cL_asks 27 = .ok (.iconst 2, 1) := by decide +kernel
theorem dL_asks_28 : decode cL_asks 28 = .ok (.if_icmp .ne 12, 3) := by decide +kernel
theorem dL_asks_31 : decode cL_asks 31 = .ok (.aload_n 0, 1) := by decide +kernel
theorem dL_asks_32 : decode cL_asks 32 = .ok (.iload_n 2, 1) := by decide +kernel
theorem dL_asks_33 : decode cL_asks 33 = .ok (.iload_n 3, 1) := by decide +kernel
theorem dL_asks_34 : decode cL_asks 34 = .ok (.invokevirtual 26, 3) := by decide +kernel
theorem dL_asks_37 : decode cL_asks 37 = .ok (.goto 36, 3) := by decide +kernel
theorem dL_asks_40 : decode cL_asks 40 = .ok (.iload_n 1, 1) := by decide +kernel
theorem dL_asks_41 : decode cL_asks 41 = .ok (.iconst 3, 1) := by decide +kernel
theorem dL_asks_42 : decode cL_asks 42 = .ok (.if_icmp .ne 11, 3) := by decide +kernel
theorem dL_asks_45 : decode cL_asks 45 = .ok (.aload_n 0, 1) := by decide +kernel
theorem dL_asks_46 : decode cL_asks 46 = .ok (.iload_n 2, 1) := by decide +kernel
theorem dL_asks_47 : decode cL_asks 47 = .ok (.invokevirtual 29, 3) := by decide +kernel
theorem dL_asks_50 : decode cL_asks 50 = .ok (.goto 23, 3) := by decide +kernel
theorem dL_asks_53 : decode cL_asks 53 = .ok (.iload_n 1, 1) := by decide +kernel
theorem dL_asks_54 : decode cL_asks 54 = .ok (.iconst 4, 1) := by decide +kernel
theorem dL_asks_55 : decode cL_asks 55 = .ok (.if_icmp .ne 12, 3) := by decide +kernel
theorem dL_asks_58 : decode cL_asks 58 = .ok (.aload_n 0, 1) := by decide +kernel
theorem dL_asks_59 : decode cL_asks 59 = .ok (.iload_n 2, 1) := by decide +kernel
theorem dL_asks_60 : decode cL_asks 60 = .ok (.iload_n 3, 1) := by decide +kernel
theorem dL_asks_61 : decode cL_asks 61 = .ok (.invokevirtual 32, 3) := by decide +kernel
theorem dL_asks_64 : decode cL_asks 64 = .ok (.goto 9, 3) := by decide +kernel
theorem dL_asks_67 : decode cL_asks 67 = .ok (.aload_n 0, 1) := by decide +kernel
theorem dL_asks_68 : decode cL_asks 68 = .ok (.iload_n 2, 1) := by decide +kernel
theorem dL_asks_69 : decode cL_asks 69 = .ok (.iload_n 3, 1) := by decide +kernel
theorem dL_asks_70 : decode cL_asks 70 = .ok (.invokevirtual 35, 3) := by decide +kernel
theorem dL_asks_73 : decode cL_asks 73 = .ok (.ireturn, 1) := by decide +kernel
theorem dL_asks_74 : decode cL_asks 74 = .ok (.astore 4, 2) := by decide +kernel
theorem dL_asks_76 : decode cL_asks 76 = .ok (.bipush (-107), 2) := by decide +kernel
theorem dL_asks_78 : decode cL_asks 78 = .ok (.ireturn, 1) := by decide +kernel
theorem dL_asks_79 : decode cL_asks 79 = .ok (.astore 4, 2) := by decide +kernel
theorem dL_asks_81 : decode cL_asks 81 = .ok (.bipush (-108), 2) := by decide +kernel
theorem dL_asks_83 : decode cL_asks 83 = .ok (.ireturn, 1) := by decide +kernel
theorem dL_asks_84 : decode cL_asks 84 = .ok (.astore 4, 2) := by decide +kernel
theorem dL_asks_86 : decode cL_asks 86 = .ok (.bipush (-109), 2) := by decide +kernel
theorem dL_asks_88 : decode cL_asks 88 = .ok (.ireturn, 1) := by decide +kernel
theorem dL_areDistances_0 : decode cL_areDistances 0 = .ok (.aload_n 0, 1) := by decide +kernel
theorem dL_areDistances_1 : decode cL_areDistances 1 = .ok (.iload_n 2, 1) := by decide +kernel
theorem dL_areDistances_2 : decode cL_areDistances 2 = .ok (.iload_n 2, 1) := by decide +kernel
theorem dL_areDistances_3 : decode cL_areDistances 3 = .ok (.invokevirtual 44, 3) := by decide +kernel
theorem dL_areDistances_6 : decode cL_areDistances 6 = .ok (.ifCond .ne 7, 3) := by decide +kernel
theorem dL_areDistances_9 : decode cL_areDistances 9 = .ok (.iconst 1, 1) := by decide +kernel
theorem dL_areDistances_10 : decode cL_areDistances 10 = .ok (.goto 4, 3) := by decide +kernel
theorem dL_areDistances_13 : decode cL_areDistances 13 = .ok (.iconst 0, 1) := by decide +kernel
theorem dL_areDistances_14 : decode cL_areDistances 14 = .ok (.istore_n 3, 1) := by decide +kernel
theorem dL_areDistances_15 : decode cL_areDistances 15 = .ok (.iconst 0, 1) := by decide +kernel
theorem dL_areDistances_16 : decode cL_areDistances 16 = .ok (.istore 4, 2) := by decide +kernel
theorem dL_areDistances_18 : decode cL_areDistances 18 = .ok (.iload 4, 2) := by decide +kernel
theorem dL_areDistances_20 : decode cL_areDistances 20 = .ok (.bipush 8, 2) := by decide +kernel
theorem dL_areDistances_22 : decode cL_areDistances 22 = .ok (.if_icmp .ge 154, 3) := by decide +kernel
theorem dL_areDistances_25 : decode cL_areDistances 25 = .ok (.iload_n 3, 1) := by decide +kernel
theorem dL_areDistances_26 : decode cL_areDistances 26 = .ok (.ifCond .eq 150, 3) := by decide +kernel
theorem dL_areDistances_29 : decode cL_areDistances 29 = .ok (.aload_n 0, 1) := by decide +kernel
theorem dL_areDistances_30 : decode cL_areDistances 30 = .ok (.iload_n 2, 1) := by decide +kernel
theorem dL_areDistances_31 : decode cL_areDistances 31 = .ok (.iload 4, 2) := by decide +kernel
theorem dL_areDistances_33 : decode cL_areDistances 33 = .ok (.invokevirtual 44, 3) := by decide +kernel
theorem dL_areDistances_36 : decode cL_areDistances 36 = .ok (.istore 5, 2) := by decide +kernel
theorem dL_areDistances_38 : decode cL_areDistances 38 = .ok (.iload_n 2, 1) := by decide +kernel
theorem dL_areDistances_39 : decode cL_areDistances 39 = .ok (.iload 4, 2) := by decide +kernel
theorem dL_areDistances_41 : decode cL_areDistances 41 = .ok (.if_icmp .ne 7, 3) := by decide +kernel
theorem dL_areDistances_44 : decode cL_areDistances 44 = .ok (.iconst 0, 1) := by decide +kernel
theorem dL_areDistances_45 : decode cL_areDistances 45 = .ok (.goto 4, 3) := by decide +kernel
theorem dL_areDistances_48 : decode cL_areDistances 48 = .ok (.iconst (-1), 1) := by decide +kernel
theorem dL_areDistances_49 : decode cL_areDistances 49 = .ok (.istore 6, 2) := by decide +kernel
theorem dL_areDistances_51 : decode cL_areDistances 51 = .ok (.iconst 0, 1) := by decide +kernel
theorem dL_areDistances_52 : decode cL_areDistances 52 = .ok (.istore 7, 2) := by decide +kernel
theorem dL_areDistances_54 : decode cL_areDistances 54 = .ok (.iload 7, 2) := by decide +kernel
theorem dL_areDistances_56 : decode cL_areDistances 56 = .ok (.bipush 8, 2) := by decide +kernel
theorem dL_areDistances_58 : decode cL_areDistances 58 = .ok (.if_icmp .ge 87, 3) := by decide +kernel
theorem dL_areDistances_61 : decode cL_areDistances 61 = .ok (.iload_n 2, 1) := by decide +kernel
theorem dL_areDistances_62 : decode cL_areDistances 62 = .ok (.iload 4, 2) := by decide +kernel
theorem dL_areDistances_64 : decode cL_areDistances 64 = .ok (.if_icmp .eq 81, 3) := by decide +kernel
theorem dL_areDistances_67 : decode cL_areDistances 67 = .ok (.aload_n 1, 1) := by decide +kernel
theorem dL_areDistances_68 : decode cL_areDistances 68 = .ok (.bipush 8, 2) := by decide +kernel
theorem dL_areDistances_70 : decode cL_areDistances 70 = .ok (.iload_n 2, 1) := by decide +kernel
theorem dL_areDistances_71 : decode cL_areDistances 71 = .ok (.imul, 1) := by decide +kernel
theorem dL_areDistances_72 : decode cL_areDistances 72 = .ok (.iload 7, 2) := by decide +kernel
theorem dL_areDistances_74 : decode cL_areDistances 74 = .ok (.iadd, 1) := by decide +kernel
theorem dL_areDistances_75 : decode cL_areDistances 75 = .ok (.iaload, 1) := by decide +kernel
theorem dL_areDistances_76 : decode cL_areDistances 76 = .ok (.ifCond .ne 7, 3) := by decide +kernel
theorem dL_areDistances_79 : decode cL_areDistances 79 = .ok (.iconst (-1), 1) := by decide +kernel
theorem dL_areDistances_80 : decode cL_areDistances 80 = .ok (.goto 11, 3) := by decide +kernel
theorem dL_areDistances_83 : decode cL_areDistances 83 = .ok (.aload_n 0, 1) := by decide +kernel
theorem dL_areDistances_84 : decode cL_areDistances 84 = .ok (.iload 7, 2) := by decide +kernel
theorem dL_areDistances_86 : decode cL_areDistances 86 = .ok (.iload 4, 2) := by decide +kernel
theorem dL_areDistances_88 : decode cL_areDistances 88 = .ok (.invokevirtual 44, 3) := by decide +kernel
theorem dL_areDistances_91 : decode cL_areDistances 91 = .ok (.istore 8, 2) := by decide +kernel
theorem dL_areDistances_93 : decode cL_areDistances 93 = .ok (.iload 8, 2) := by decide +kernel
theorem dL_areDistances_95 : decode cL_areDistances 95 = .ok (.ifCond .lt 40, 3) := by decide +kernel
theorem dL_areDistances_98 : decode cL_areDistances 98 = .ok (.iload 6, 2) := by decide +kernel
theorem dL_areDistances_100 : decode cL_areDistances 100 = .ok (.ifCond .lt 20, 3) := by decide +kernel
theorem dL_areDistances_103 : decode cL_areDistances 103 = .ok (.aload_n 1, 1) := by decide +kernel
theorem dL_areDistances_104 : decode cL_areDistances 104 = .ok (.bipush 8, 2) := by decide +kernel
theorem dL_areDistances_106 : decode cL_areDistances 106 = .ok (.iload_n 2, 1) := by decide +kernel
theorem dL_areDistances_107 : decode cL_areDistances 107 = .ok (.imul, 1) := by decide +kernel
theorem dL_areDistances_108 : decode cL_areDistances 108 = .ok (.iload 7, 2) := by decide +kernel
theorem dL_areDistances_110 : decode cL_areDistances 110 = .ok (.iadd, 1) := by decide +kernel
theorem dL_areDistances_111 : decode cL_areDistances 111 = .ok (.iaload, 1) := by decide +kernel
theorem dL_areDistances_112 : decode cL_areDistances 112 = .ok (.iload 8, 2) := by decide +kernel
theorem dL_areDistances_114 : decode cL_areDistances 114 = .ok (.iadd, 1) := by decide +kernel
theorem dL_areDistances_115 : decode cL_areDistances 115 = .ok (.iload 6, 2) := by decide +kernel
theorem dL_areDistances_117 : decode cL_areDistances 117 = .ok (.if_icmp .ge 18, 3) := by decide +kernel
theorem dL_areDistances_120 : decode cL_areDistances 120 = .ok (.aload_n 1, 1) := by decide +kernel
theorem dL_areDistances_121 : decode cL_areDistances 121 = .ok (.bipush 8, 2) := by decide +kernel
theorem dL_areDistances_123 : decode cL_areDistances 123 = .ok (.iload_n 2, 1) := by decide +kernel
theorem dL_areDistances_124 : decode cL_areDistances 124 = .ok (.imul, 1) := by decide +kernel
theorem dL_areDistances_125 : decode cL_areDistances 125 = .ok (.iload 7, 2) := by decide +kernel
theorem dL_areDistances_127 : decode cL_areDistances 127 = .ok (.iadd, 1) := by decide +kernel
theorem dL_areDistances_128 : decode cL_areDistances 128 = .ok (.iaload, 1) := by decide +kernel
theorem dL_areDistances_129 : decode cL_areDistances 129 = .ok (.iload 8, 2) := by decide +kernel
theorem dL_areDistances_131 : decode cL_areDistances 131 = .ok (.iadd, 1) := by decide +kernel
theorem dL_areDistances_132 : decode cL_areDistances 132 = .ok (.goto 5, 3) := by decide +kernel
theorem dL_areDistances_135 : decode cL_areDistances 135 = .ok (.iload 6, 2) := by decide +kernel
theorem dL_areDistances_137 : decode cL_areDistances 137 = .ok (.istore 6, 2) := by decide +kernel
theorem dL_areDistances_139 : decode cL_areDistances 139 = .ok (.iinc 7 1, 3) := by decide +kernel
theorem dL_areDistances_142 : decode cL_areDistances 142 = .ok (.goto (-88), 3) := by decide +kernel
theorem dL_areDistances_145 : decode cL_areDistances 145 = .ok (.iload 5, 2) := by decide +kernel
theorem dL_areDistances_147 : decode cL_areDistances 147 = .ok (.iload 6, 2) := by decide +kernel
theorem dL_areDistances_149 : decode cL_areDistances 149 = .ok (.if_icmp .ne 19, 3) := by decide +kernel
theorem dL_areDistances_152 : decode cL_areDistances 152 = .ok (.aload_n 0, 1) := by decide +kernel
theorem dL_areDistances_153 : decode cL_areDistances 153 = .ok (.iload 4, 2) := by decide +kernel
theorem dL_areDistances_155 : decode cL_areDistances 155 = .ok (.iload_n 2, 1) := by decide +kernel
theorem dL_areDistances_156 : decode cL_areDistances 156 = .ok (.invokevirtual 44, 3) := by decide +kernel
theorem dL_areDistances_159 : decode cL_areDistances 159 = .ok (.iload 5, 2) := by decide +kernel
theorem dL_areDistances_161 : decode cL_areDistances 161 = .ok (.if_icmp .ne 7, 3) := by decide +kernel
theorem dL_areDistances_164 : decode cL_areDistances 164 = .ok (.iconst 1, 1) := by decide +kernel
theorem dL_areDistances_165 : decode cL_areDistances 165 = .ok (.goto 4, 3) := by decide +kernel
theorem dL_areDistances_168 : decode cL_areDistances 168 = .ok (.iconst 0, 1) := by decide +kernel
theorem dL_areDistances_169 : decode cL_areDistances 169 = .ok (.istore_n 3, 1) := by decide +kernel
theorem dL_areDistances_170 : decode cL_areDistances 170 = .ok (.iinc 4 1, 3) := by decide +kernel
theorem dL_areDistances_173 : decode cL_areDistances 173 = .ok (.goto (-155), 3) := by decide +kernel
theorem dL_areDistances_176 : decode cL_areDistances 176 = .ok (.iload_n 3, 1) := by decide +kernel
theorem dL_areDistances_177 : decode cL_areDistances 177 = .ok (.ireturn, 1) := by decide +kernel
theorem dL_isSpelled_0 : decode cL_isSpelled 0 = .ok (.iconst 0, 1) := by decide +kernel
theorem dL_isSpelled_1 : decode cL_isSpelled 1 = .ok (.istore_n 2, 1) := by decide +kernel
theorem dL_isSpelled_2 : decode cL_isSpelled 2 = .ok (.iconst 1, 1) := by decide +kernel
theorem dL_isSpelled_3 : decode cL_isSpelled 3 = .ok (.istore_n 3, 1) := by decide +kernel
theorem dL_isSpelled_4 : decode cL_isSpelled 4 = .ok (.iconst 0, 1) := by decide +kernel
theorem dL_isSpelled_5 : decode cL_isSpelled 5 = .ok (.istore 4, 2) := by decide +kernel
theorem dL_isSpelled_7 : decode cL_isSpelled 7 = .ok (.iload 4, 2) := by decide +kernel
theorem dL_isSpelled_9 : decode cL_isSpelled 9 = .ok (.iload_n 1, 1) := by decide +kernel
theorem dL_isSpelled_10 : decode cL_isSpelled 10 = .ok (.invokestatic 47, 3) := by decide +kernel
theorem dL_isSpelled_13 : decode cL_isSpelled 13 = .ok (.if_icmp .ge 119, 3) := by decide +kernel
theorem dL_isSpelled_16 : decode cL_isSpelled 16 = .ok (.iload_n 3, 1) := by decide +kernel
theorem dL_isSpelled_17 : decode cL_isSpelled 17 = .ok (.ifCond .eq 115, 3) := by decide +kernel
theorem dL_isSpelled_20 : decode cL_isSpelled 20 = .ok (.iload_n 1, 1) := by decide +kernel
theorem dL_isSpelled_21 : decode cL_isSpelled 21 = .ok (.iload 4, 2) := by decide +kernel
theorem dL_isSpelled_23 : decode cL_isSpelled 23 = .ok (.invokestatic 50, 3) := by decide +kernel
theorem dL_isSpelled_26 : decode cL_isSpelled 26 = .ok (.istore 5, 2) := by decide +kernel
theorem dL_isSpelled_28 : decode cL_isSpelled 28 = .ok (.iload 5, 2) := by decide +kernel
theorem dL_isSpelled_30 : decode cL_isSpelled 30 = .ok (.bipush 14, 2) := by decide +kernel
theorem dL_isSpelled_32 : decode cL_isSpelled 32 = .ok (.if_icmp .ne 8, 3) := by decide +kernel
theorem dL_isSpelled_35 : decode cL_isSpelled 35 = .ok (.bipush 63, 2) := by decide +kernel
theorem dL_isSpelled_37 : decode cL_isSpelled 37 = .ok (.goto 20, 3) := by decide +kernel
theorem dL_isSpelled_40 : decode cL_isSpelled 40 = .ok (.iload 5, 2) := by decide +kernel
theorem dL_isSpelled_42 : decode cL_isSpelled 42 = .ok (.bipush 10, 2) := by decide +kernel
theorem dL_isSpelled_44 : decode cL_isSpelled 44 = .ok (.if_icmp .ge 11, 3) := by decide +kernel
theorem dL_isSpelled_47 : decode cL_isSpelled 47 = .ok (.bipush 65, 2) := by decide +kernel
theorem dL_isSpelled_49 : decode cL_isSpelled 49 = .ok (.iload 5, 2) := by decide +kernel
theorem dL_isSpelled_51 : decode cL_isSpelled 51 = .ok (.iadd, 1) := by decide +kernel
theorem dL_isSpelled_52 : decode cL_isSpelled 52 = .ok (.goto 5, 3) := by decide +kernel
theorem dL_isSpelled_55 : decode cL_isSpelled 55 = .ok (.ldc 53, 2) := by decide +kernel
theorem dL_isSpelled_57 : decode cL_isSpelled 57 = .ok (.istore 6, 2) := by decide +kernel
theorem dL_isSpelled_59 : decode cL_isSpelled 59 = .ok (.aload_n 0, 1) := by decide +kernel
theorem dL_isSpelled_60 : decode cL_isSpelled 60 = .ok (.iload_n 2, 1) := by decide +kernel
theorem dL_isSpelled_61 : decode cL_isSpelled 61 = .ok (.invokevirtual 54, 3) := by decide +kernel
theorem dL_isSpelled_64 : decode cL_isSpelled 64 = .ok (.iload 6, 2) := by decide +kernel
theorem dL_isSpelled_66 : decode cL_isSpelled 66 = .ok (.if_icmp .ne 36, 3) := by decide +kernel
theorem dL_isSpelled_69 : decode cL_isSpelled 69 = .ok (.iload 5, 2) := by decide +kernel
theorem dL_isSpelled_71 : decode cL_isSpelled 71 = .ok (.bipush 10, 2) := by decide +kernel
theorem dL_isSpelled_73 : decode cL_isSpelled 73 = .ok (.if_icmp .lt 25, 3) := by decide +kernel
theorem dL_isSpelled_76 : decode cL_isSpelled 76 = .ok (.iload 5, 2) := by decide +kernel
theorem dL_isSpelled_78 : decode cL_isSpelled 78 = .ok (.bipush 14, 2) := by decide +kernel
theorem dL_isSpelled_80 : decode cL_isSpelled 80 = .ok (.if_icmp .eq 18, 3) := by decide +kernel
theorem dL_isSpelled_83 : decode cL_isSpelled 83 = .ok (.aload_n 0, 1) := by decide +kernel
theorem dL_isSpelled_84 : decode cL_isSpelled 84 = .ok (.iload_n 2, 1) := by decide +kernel
theorem dL_isSpelled_85 : decode cL_isSpelled 85 = .ok (.iconst 1, 1) := by decide +kernel
theorem dL_isSpelled_86 : decode cL_isSpelled 86 = .ok (.iadd, 1) := by decide +kernel
theorem dL_isSpelled_87 : decode cL_isSpelled 87 = .ok (.invokevirtual 54, 3) := by decide +kernel
theorem dL_isSpelled_90 : decode cL_isSpelled 90 = .ok (.ldc 58, 2) := by decide +kernel
theorem dL_isSpelled_92 : decode cL_isSpelled 92 = .ok (.iload 5, 2) := by decide +kernel
theorem dL_isSpelled_94 : decode cL_isSpelled 94 = .ok (.iadd, 1) := by decide +kernel
theorem dL_isSpelled_95 : decode cL_isSpelled 95 = .ok (.if_icmp .ne 7, 3) := by decide +kernel
theorem dL_isSpelled_98 : decode cL_isSpelled 98 = .ok (.iconst 1, 1) := by decide +kernel
theorem dL_isSpelled_99 : decode cL_isSpelled 99 = .ok (.goto 4, 3) := by decide +kernel
theorem dL_isSpelled_102 : decode cL_isSpelled 102 = .ok (.iconst 0, 1) := by decide +kernel
theorem dL_isSpelled_103 : decode cL_isSpelled 103 = .ok (.istore_n 3, 1) := by decide +kernel
theorem dL_isSpelled_104 : decode cL_isSpelled 104 = .ok (.iload_n 2, 1) := by decide +kernel
theorem dL_isSpelled_105 : decode cL_isSpelled 105 = .ok (.iload 5, 2) := by decide +kernel
theorem dL_isSpelled_107 : decode cL_isSpelled 107 = .ok (.bipush 9, 2) := by decide +kernel
theorem dL_isSpelled_109 : decode cL_isSpelled 109 = .ok (.if_icmp .le 14, 3) := by decide +kernel
theorem dL_isSpelled_112 : decode cL_isSpelled 112 = .ok (.iload 5, 2) := by decide +kernel
theorem dL_isSpelled_114 : decode cL_isSpelled 114 = .ok (.bipush 14, 2) := by decide +kernel
theorem dL_isSpelled_116 : decode cL_isSpelled 116 = .ok (.if_icmp .ge 7, 3) := by decide +kernel
theorem dL_isSpelled_119 : decode cL_isSpelled 119 = .ok (.iconst 2, 1) := by decide +kernel
theorem dL_isSpelled_120 : decode cL_isSpelled 120 = .ok (.goto 4, 3) := by decide +kernel
theorem dL_isSpelled_123 : decode cL_isSpelled 123 = .ok (.iconst 1, 1) := by decide +kernel
theorem dL_isSpelled_124 : decode cL_isSpelled 124 = .ok (.iadd, 1) := by decide +kernel
theorem dL_isSpelled_125 : decode cL_isSpelled 125 = .ok (.istore_n 2, 1) := by decide +kernel
theorem dL_isSpelled_126 : decode cL_isSpelled 126 = .ok (.iinc 4 1, 3) := by decide +kernel
theorem dL_isSpelled_129 : decode cL_isSpelled 129 = .ok (.goto (-122), 3) := by decide +kernel
theorem dL_isSpelled_132 : decode cL_isSpelled 132 = .ok (.iload_n 3, 1) := by decide +kernel
theorem dL_isSpelled_133 : decode cL_isSpelled 133 = .ok (.ifCond .eq 15, 3) := by decide +kernel
theorem dL_isSpelled_136 : decode cL_isSpelled 136 = .ok (.iload_n 2, 1) := by decide +kernel
theorem dL_isSpelled_137 : decode cL_isSpelled 137 = .ok (.iload_n 1, 1) := by decide +kernel
theorem dL_isSpelled_138 : decode cL_isSpelled 138 = .ok (.invokestatic 47, 3) := by decide +kernel
theorem dL_isSpelled_141 : decode cL_isSpelled 141 = .ok (.if_icmp .lt 7, 3) := by decide +kernel
theorem dL_isSpelled_144 : decode cL_isSpelled 144 = .ok (.iconst 1, 1) := by decide +kernel
theorem dL_isSpelled_145 : decode cL_isSpelled 145 = .ok (.goto 4, 3) := by decide +kernel
theorem dL_isSpelled_148 : decode cL_isSpelled 148 = .ok (.iconst 0, 1) := by decide +kernel
theorem dL_isSpelled_149 : decode cL_isSpelled 149 = .ok (.ireturn, 1) := by decide +kernel
theorem dL_isAhead_0 : decode cL_isAhead 0 = .ok (.iconst 1, 1) := by decide +kernel
theorem dL_isAhead_1 : decode cL_isAhead 1 = .ok (.istore_n 2, 1) := by decide +kernel
theorem dL_isAhead_2 : decode cL_isAhead 2 = .ok (.iload_n 2, 1) := by decide +kernel
theorem dL_isAhead_3 : decode cL_isAhead 3 = .ok (.iload_n 0, 1) := by decide +kernel
theorem dL_isAhead_4 : decode cL_isAhead 4 = .ok (.invokestatic 47, 3) := by decide +kernel
theorem dL_isAhead_7 : decode cL_isAhead 7 = .ok (.if_icmp .gt 58, 3) := by decide +kernel
theorem dL_isAhead_10 : decode cL_isAhead 10 = .ok (.iload_n 2, 1) := by decide +kernel
theorem dL_isAhead_11 : decode cL_isAhead 11 = .ok (.iload_n 1, 1) := by decide +kernel
theorem dL_isAhead_12 : decode cL_isAhead 12 = .ok (.invokestatic 47, 3) := by decide +kernel
theorem dL_isAhead_15 : decode cL_isAhead 15 = .ok (.if_icmp .gt 50, 3) := by decide +kernel
theorem dL_isAhead_18 : decode cL_isAhead 18 = .ok (.iload_n 0, 1) := by decide +kernel
theorem dL_isAhead_19 : decode cL_isAhead 19 = .ok (.iload_n 0, 1) := by decide +kernel
theorem dL_isAhead_20 : decode cL_isAhead 20 = .ok (.invokestatic 47, 3) := by decide +kernel
theorem dL_isAhead_23 : decode cL_isAhead 23 = .ok (.iload_n 2, 1) := by decide +kernel
theorem dL_isAhead_24 : decode cL_isAhead 24 = .ok (.isub, 1) := by decide +kernel
theorem dL_isAhead_25 : decode cL_isAhead 25 = .ok (.invokestatic 50, 3) := by decide +kernel
theorem dL_isAhead_28 : decode cL_isAhead 28 = .ok (.istore_n 3, 1) := by decide +kernel
theorem dL_isAhead_29 : decode cL_isAhead 29 = .ok (.iload_n 1, 1) := by decide +kernel
theorem dL_isAhead_30 : decode cL_isAhead 30 = .ok (.iload_n 1, 1) := by decide +kernel
theorem dL_isAhead_31 : decode cL_isAhead 31 = .ok (.invokestatic 47, 3) := by decide +kernel
theorem dL_isAhead_34 : decode cL_isAhead 34 = .ok (.iload_n 2, 1) := by decide +kernel
theorem dL_isAhead_35 : decode cL_isAhead 35 = .ok (.isub, 1) := by decide +kernel
theorem dL_isAhead_36 : decode cL_isAhead 36 = .ok (.invokestatic 50, 3) := by decide +kernel
theorem dL_isAhead_39 : decode cL_isAhead 39 = .ok (.istore 4, 2) := by decide +kernel
theorem dL_isAhead_41 : decode cL_isAhead 41 = .ok (.iload_n 3, 1) := by decide +kernel
theorem dL_isAhead_42 : decode cL_isAhead 42 = .ok (.iload 4, 2) := by decide +kernel
theorem dL_isAhead_44 : decode cL_isAhead 44 = .ok (.if_icmp .eq 15, 3) := by decide +kernel
theorem dL_isAhead_47 : decode cL_isAhead 47 = .ok (.iload_n 3, 1) := by decide +kernel
theorem dL_isAhead_48 : decode cL_isAhead 48 = .ok (.iload 4, 2) := by decide +kernel
theorem dL_isAhead_50 : decode cL_isAhead 50 = .ok (.if_icmp .ge 7, 3) := by decide +kernel
theorem dL_isAhead_53 : decode cL_isAhead 53 = .ok (.iconst 1, 1) := by decide +kernel
theorem dL_isAhead_54 : decode cL_isAhead 54 = .ok (.goto 4, 3) := by decide +kernel
theorem dL_isAhead_57 : decode cL_isAhead 57 = .ok (.iconst 0, 1) := by decide +kernel
theorem dL_isAhead_58 : decode cL_isAhead 58 = .ok (.ireturn, 1) := by decide +kernel
theorem dL_isAhead_59 : decode cL_isAhead 59 = .ok (.iinc 2 1, 3) := by decide +kernel
theorem dL_isAhead_62 : decode cL_isAhead 62 = .ok (.goto (-60), 3) := by decide +kernel
theorem dL_isAhead_65 : decode cL_isAhead 65 = .ok (.iload_n 0, 1) := by decide +kernel
theorem dL_isAhead_66 : decode cL_isAhead 66 = .ok (.invokestatic 47, 3) := by decide +kernel
theorem dL_isAhead_69 : decode cL_isAhead 69 = .ok (.iload_n 1, 1) := by decide +kernel
theorem dL_isAhead_70 : decode cL_isAhead 70 = .ok (.invokestatic 47, 3) := by decide +kernel
theorem dL_isAhead_73 : decode cL_isAhead 73 = .ok (.if_icmp .ge 7, 3) := by decide +kernel
theorem dL_isAhead_76 : decode cL_isAhead 76 = .ok (.iconst 1, 1) := by decide +kernel
theorem dL_isAhead_77 : decode cL_isAhead 77 = .ok (.goto 4, 3) := by decide +kernel
theorem dL_isAhead_80 : decode cL_isAhead 80 = .ok (.iconst 0, 1) := by decide +kernel
theorem dL_isAhead_81 : decode cL_isAhead 81 = .ok (.ireturn, 1) := by decide +kernel
theorem dL_areOrdered_0 : decode cL_areOrdered 0 = .ok (.iconst 0, 1) := by decide +kernel
theorem dL_areOrdered_1 : decode cL_areOrdered 1 = .ok (.istore_n 3, 1) := by decide +kernel
theorem dL_areOrdered_2 : decode cL_areOrdered 2 = .ok (.aload_n 0, 1) := by decide +kernel
theorem dL_areOrdered_3 : decode cL_areOrdered 3 = .ok (.invokevirtual 59, 3) := by decide +kernel
theorem dL_areOrdered_6 : decode cL_areOrdered 6 = .ok (.aload_n 2, 1) := by decide +kernel
theorem dL_areOrdered_7 : decode cL_areOrdered 7 = .ok (.iconst 2, 1) := by decide +kernel
theorem dL_areOrdered_8 : decode cL_areOrdered 8 = .ok (.iaload, 1) := by decide +kernel
theorem dL_areOrdered_9 : decode cL_areOrdered 9 = .ok (.if_icmp .ne 7, 3) := by decide +kernel
theorem dL_areOrdered_12 : decode cL_areOrdered 12 = .ok (.iconst 1, 1) := by decide +kernel
theorem dL_areOrdered_13 : decode cL_areOrdered 13 = .ok (.goto 4, 3) := by decide +kernel
theorem dL_areOrdered_16 : decode cL_areOrdered 16 = .ok (.iconst 0, 1) := by decide +kernel
theorem dL_areOrdered_17 : decode cL_areOrdered 17 = .ok (.istore 4, 2) := by decide +kernel
theorem dL_areOrdered_19 : decode cL_areOrdered 19 = .ok (.iconst 0, 1) := by decide +kernel
theorem dL_areOrdered_20 : decode cL_areOrdered 20 = .ok (.istore 5, 2) := by decide +kernel
theorem dL_areOrdered_22 : decode cL_areOrdered 22 = .ok (.iload 5, 2) := by decide +kernel
theorem dL_areOrdered_24 : decode cL_areOrdered 24 = .ok (.aload_n 2, 1) := by decide +kernel
theorem dL_areOrdered_25 : decode cL_areOrdered 25 = .ok (.iconst 2, 1) := by decide +kernel
theorem dL_areOrdered_26 : decode cL_areOrdered 26 = .ok (.iaload, 1) := by decide +kernel
theorem dL_areOrdered_27 : decode cL_areOrdered 27 = .ok (.if_icmp .ge 87, 3) := by decide +kernel
theorem dL_areOrdered_30 : decode cL_areOrdered 30 = .ok (.iload 4, 2) := by decide +kernel
theorem dL_areOrdered_32 : decode cL_areOrdered 32 = .ok (.ifCond .eq 82, 3) := by decide +kernel
theorem dL_areOrdered_35 : decode cL_areOrdered 35 = .ok (.aload_n 0, 1) := by decide +kernel
theorem dL_areOrdered_36 : decode cL_areOrdered 36 = .ok (.iload 5, 2) := by decide +kernel
theorem dL_areOrdered_38 : decode cL_areOrdered 38 = .ok (.invokevirtual 63, 3) := by decide +kernel
theorem dL_areOrdered_41 : decode cL_areOrdered 41 = .ok (.istore 6, 2) := by decide +kernel
theorem dL_areOrdered_43 : decode cL_areOrdered 43 = .ok (.iload 6, 2) := by decide +kernel
theorem dL_areOrdered_45 : decode cL_areOrdered 45 = .ok (.ifCond .lt 53, 3) := by decide +kernel
theorem dL_areOrdered_48 : decode cL_areOrdered 48 = .ok (.iload 6, 2) := by decide +kernel
theorem dL_areOrdered_50 : decode cL_areOrdered 50 = .ok (.aload_n 2, 1) := by decide +kernel
theorem dL_areOrdered_51 : decode cL_areOrdered 51 = .ok (.iconst 2, 1) := by decide +kernel
theorem dL_areOrdered_52 : decode cL_areOrdered 52 = .ok (.iaload, 1) := by decide +kernel
theorem dL_areOrdered_53 : decode cL_areOrdered 53 = .ok (.if_icmp .ge 45, 3) := by decide +kernel
theorem dL_areOrdered_56 : decode cL_areOrdered 56 = .ok (.iload_n 3, 1) := by decide +kernel
theorem dL_areOrdered_57 : decode cL_areOrdered 57 = .ok (.iload 6, 2) := by decide +kernel
theorem dL_areOrdered_59 : decode cL_areOrdered 59 = .ok (.ishr, 1) := by decide +kernel
theorem dL_areOrdered_60 : decode cL_areOrdered 60 = .ok (.iconst 1, 1) := by decide +kernel
theorem dL_areOrdered_61 : decode cL_areOrdered 61 = .ok (.iand, 1) := by decide +kernel
theorem dL_areOrdered_62 : decode cL_areOrdered 62 = .ok (.ifCond .ne 36, 3) := by decide +kernel
theorem dL_areOrdered_65 : decode cL_areOrdered 65 = .ok (.iload 5, 2) := by decide +kernel
theorem dL_areOrdered_67 : decode cL_areOrdered 67 = .ok (.ifCond .eq 27, 3) := by decide +kernel
theorem dL_areOrdered_70 : decode cL_areOrdered 70 = .ok (.aload_n 1, 1) := by decide +kernel
theorem dL_areOrdered_71 : decode cL_areOrdered 71 = .ok (.iconst 1, 1) := by decide +kernel
theorem dL_areOrdered_72 : decode cL_areOrdered 72 = .ok (.aload_n 0, 1) := by decide +kernel
theorem dL_areOrdered_73 : decode cL_areOrdered 73 = .ok (.iload 5, 2) := by decide +kernel
theorem dL_areOrdered_75 : decode cL_areOrdered 75 = .ok (.iconst 1, 1) := by decide +kernel
theorem dL_areOrdered_76 : decode cL_areOrdered 76 = .ok (.isub, 1) := by decide +kernel
theorem dL_areOrdered_77 : decode cL_areOrdered 77 = .ok (.invokevirtual 63, 3) := by decide +kernel
theorem dL_areOrdered_80 : decode cL_areOrdered 80 = .ok (.iadd, 1) := by decide +kernel
theorem dL_areOrdered_81 : decode cL_areOrdered 81 = .ok (.iaload, 1) := by decide +kernel
theorem dL_areOrdered_82 : decode cL_areOrdered 82 = .ok (.aload_n 1, 1) := by decide +kernel
theorem dL_areOrdered_83 : decode cL_areOrdered 83 = .ok (.iconst 1, 1) := by decide +kernel
theorem dL_areOrdered_84 : decode cL_areOrdered 84 = .ok (.iload 6, 2) := by decide +kernel
theorem dL_areOrdered_86 : decode cL_areOrdered 86 = .ok (.iadd, 1) := by decide +kernel
theorem dL_areOrdered_87 : decode cL_areOrdered 87 = .ok (.iaload, 1) := by decide +kernel
theorem dL_areOrdered_88 : decode cL_areOrdered 88 = .ok (.invokestatic 66, 3) := by decide +kernel
theorem dL_areOrdered_91 : decode cL_areOrdered 91 = .ok (.ifCond .eq 7, 3) := by decide +kernel
theorem dL_areOrdered_94 : decode cL_areOrdered 94 = .ok (.iconst 1, 1) := by decide +kernel
theorem dL_areOrdered_95 : decode cL_areOrdered 95 = .ok (.goto 4, 3) := by decide +kernel
theorem dL_areOrdered_98 : decode cL_areOrdered 98 = .ok (.iconst 0, 1) := by decide +kernel
theorem dL_areOrdered_99 : decode cL_areOrdered 99 = .ok (.istore 4, 2) := by decide +kernel
theorem dL_areOrdered_101 : decode cL_areOrdered 101 = .ok (.iload_n 3, 1) := by decide +kernel
theorem dL_areOrdered_102 : decode cL_areOrdered 102 = .ok (.iconst 1, 1) := by decide +kernel
theorem dL_areOrdered_103 : decode cL_areOrdered 103 = .ok (.iload 6, 2) := by decide +kernel
theorem dL_areOrdered_105 : decode cL_areOrdered 105 = .ok (.ishl, 1) := by decide +kernel
theorem dL_areOrdered_106 : decode cL_areOrdered 106 = .ok (.ior, 1) := by decide +kernel
theorem dL_areOrdered_107 : decode cL_areOrdered 107 = .ok (.istore_n 3, 1) := by decide +kernel
theorem dL_areOrdered_108 : decode cL_areOrdered 108 = .ok (.iinc 5 1, 3) := by decide +kernel
theorem dL_areOrdered_111 : decode cL_areOrdered 111 = .ok (.goto (-89), 3) := by decide +kernel
theorem dL_areOrdered_114 : decode cL_areOrdered 114 = .ok (.iload 4, 2) := by decide +kernel
theorem dL_areOrdered_116 : decode cL_areOrdered 116 = .ok (.ireturn, 1) := by decide +kernel
theorem dL_cost_0 : decode cL_cost 0 = .ok (.iconst 0, 1) := by decide +kernel
theorem dL_cost_1 : decode cL_cost 1 = .ok (.istore_n 3, 1) := by decide +kernel
theorem dL_cost_2 : decode cL_cost 2 = .ok (.iconst 0, 1) := by decide +kernel
theorem dL_cost_3 : decode cL_cost 3 = .ok (.istore 4, 2) := by decide +kernel
theorem dL_cost_5 : decode cL_cost 5 = .ok (.iload 4, 2) := by decide +kernel
theorem dL_cost_7 : decode cL_cost 7 = .ok (.iload_n 1, 1) := by decide +kernel
theorem dL_cost_8 : decode cL_cost 8 = .ok (.invokestatic 47, 3) := by decide +kernel
theorem dL_cost_11 : decode cL_cost 11 = .ok (.if_icmp .ge 74, 3) := by decide +kernel
theorem dL_cost_14 : decode cL_cost 14 = .ok (.iload_n 3, 1) := by decide +kernel
theorem dL_cost_15 : decode cL_cost 15 = .ok (.ifCond .lt 70, 3) := by decide +kernel
theorem dL_cost_18 : decode cL_cost 18 = .ok (.iload_n 1, 1) := by decide +kernel
theorem dL_cost_19 : decode cL_cost 19 = .ok (.iload 4, 2) := by decide +kernel
theorem dL_cost_21 : decode cL_cost 21 = .ok (.invokestatic 50, 3) := by decide +kernel
theorem dL_cost_24 : decode cL_cost 24 = .ok (.istore 5, 2) := by decide +kernel
theorem dL_cost_26 : decode cL_cost 26 = .ok (.iload_n 2, 1) := by decide +kernel
theorem dL_cost_27 : decode cL_cost 27 = .ok (.iload 4, 2) := by decide +kernel
theorem dL_cost_29 : decode cL_cost 29 = .ok (.invokestatic 50, 3) := by decide +kernel
theorem dL_cost_32 : decode cL_cost 32 = .ok (.istore 6, 2) := by decide +kernel
theorem dL_cost_34 : decode cL_cost 34 = .ok (.iload 5, 2) := by decide +kernel
theorem dL_cost_36 : decode cL_cost 36 = .ok (.iload 6, 2) := by decide +kernel
theorem dL_cost_38 : decode cL_cost 38 = .ok (.if_icmp .ne 7, 3) := by decide +kernel
theorem dL_cost_41 : decode cL_cost 41 = .ok (.iload_n 3, 1) := by decide +kernel
theorem dL_cost_42 : decode cL_cost 42 = .ok (.goto 36, 3) := by decide +kernel
theorem dL_cost_45 : decode cL_cost 45 = .ok (.iload 5, 2) := by decide +kernel
theorem dL_cost_47 : decode cL_cost 47 = .ok (.bipush 14, 2) := by decide +kernel
theorem dL_cost_49 : decode cL_cost 49 = .ok (.if_icmp .ne 9, 3) := by decide +kernel
theorem dL_cost_52 : decode cL_cost 52 = .ok (.iload_n 3, 1) := by decide +kernel
theorem dL_cost_53 : decode cL_cost 53 = .ok (.iconst 2, 1) := by decide +kernel
theorem dL_cost_54 : decode cL_cost 54 = .ok (.iadd, 1) := by decide +kernel
theorem dL_cost_55 : decode cL_cost 55 = .ok (.goto 23, 3) := by decide +kernel
theorem dL_cost_58 : decode cL_cost 58 = .ok (.aload_n 0, 1) := by decide +kernel
theorem dL_cost_59 : decode cL_cost 59 = .ok (.iload 5, 2) := by decide +kernel
theorem dL_cost_61 : decode cL_cost 61 = .ok (.iaload, 1) := by decide +kernel
theorem dL_cost_62 : decode cL_cost 62 = .ok (.iload 6, 2) := by decide +kernel
theorem dL_cost_64 : decode cL_cost 64 = .ok (.ishr, 1) := by decide +kernel
theorem dL_cost_65 : decode cL_cost 65 = .ok (.iconst 1, 1) := by decide +kernel
theorem dL_cost_66 : decode cL_cost 66 = .ok (.iand, 1) := by decide +kernel
theorem dL_cost_67 : decode cL_cost 67 = .ok (.iconst 1, 1) := by decide +kernel
theorem dL_cost_68 : decode cL_cost 68 = .ok (.if_icmp .ne 9, 3) := by decide +kernel
theorem dL_cost_71 : decode cL_cost 71 = .ok (.iload_n 3, 1) := by decide +kernel
theorem dL_cost_72 : decode cL_cost 72 = .ok (.iconst 1, 1) := by decide +kernel
theorem dL_cost_73 : decode cL_cost 73 = .ok (.iadd, 1) := by decide +kernel
theorem dL_cost_74 : decode cL_cost 74 = .ok (.goto 4, 3) := by decide +kernel
theorem dL_cost_77 : decode cL_cost 77 = .ok (.iconst (-1), 1) := by decide +kernel
theorem dL_cost_78 : decode cL_cost 78 = .ok (.istore_n 3, 1) := by decide +kernel
theorem dL_cost_79 : decode cL_cost 79 = .ok (.iinc 4 1, 3) := by decide +kernel
theorem dL_cost_82 : decode cL_cost 82 = .ok (.goto (-77), 3) := by decide +kernel
theorem dL_cost_85 : decode cL_cost 85 = .ok (.iload_n 1, 1) := by decide +kernel
theorem dL_cost_86 : decode cL_cost 86 = .ok (.invokestatic 47, 3) := by decide +kernel
theorem dL_cost_89 : decode cL_cost 89 = .ok (.iload_n 2, 1) := by decide +kernel
theorem dL_cost_90 : decode cL_cost 90 = .ok (.invokestatic 47, 3) := by decide +kernel
theorem dL_cost_93 : decode cL_cost 93 = .ok (.if_icmp .ne 7, 3) := by decide +kernel
theorem dL_cost_96 : decode cL_cost 96 = .ok (.iload_n 3, 1) := by decide +kernel
theorem dL_cost_97 : decode cL_cost 97 = .ok (.goto 4, 3) := by decide +kernel
theorem dL_cost_100 : decode cL_cost 100 = .ok (.iconst (-1), 1) := by decide +kernel
theorem dL_cost_101 : decode cL_cost 101 = .ok (.ireturn, 1) := by decide +kernel
theorem dL_isReading_0 : decode cL_isReading 0 = .ok (.iconst (-1), 1) := by decide +kernel
theorem dL_isReading_1 : decode cL_isReading 1 = .ok (.istore 7, 2) := by decide +kernel
theorem dL_isReading_3 : decode cL_isReading 3 = .ok (.iconst (-1), 1) := by decide +kernel
theorem dL_isReading_4 : decode cL_isReading 4 = .ok (.istore 8, 2) := by decide +kernel
theorem dL_isReading_6 : decode cL_isReading 6 = .ok (.iconst 1, 1) := by decide +kernel
theorem dL_isReading_7 : decode cL_isReading 7 = .ok (.istore 9, 2) := by decide +kernel
theorem dL_isReading_9 : decode cL_isReading 9 = .ok (.iconst 0, 1) := by decide +kernel
theorem dL_isReading_10 : decode cL_isReading 10 = .ok (.istore 10, 2) := by decide +kernel
theorem dL_isReading_12 : decode cL_isReading 12 = .ok (.iload 10, 2) := by decide +kernel
theorem dL_isReading_14 : decode cL_isReading 14 = .ok (.aload 5, 2) := by decide +kernel
theorem dL_isReading_16 : decode cL_isReading 16 = .ok (.iconst 2, 1) := by decide +kernel
theorem dL_isReading_17 : decode cL_isReading 17 = .ok (.iaload, 1) := by decide +kernel
theorem dL_isReading_18 : decode cL_isReading 18 = .ok (.if_icmp .ge 101, 3) := by decide +kernel
theorem dL_isReading_21 : decode cL_isReading 21 = .ok (.iload 9, 2) := by decide +kernel
theorem dL_isReading_23 : decode cL_isReading 23 = .ok (.ifCond .eq 96, 3) := by decide +kernel
theorem dL_isReading_26 : decode cL_isReading 26 = .ok (.aload_n 0, 1) := by decide +kernel
theorem dL_isReading_27 : decode cL_isReading 27 = .ok (.iload 10, 2) := by decide +kernel
theorem dL_isReading_29 : decode cL_isReading 29 = .ok (.invokevirtual 63, 3) := by decide +kernel
theorem dL_isReading_32 : decode cL_isReading 32 = .ok (.istore 11, 2) := by decide +kernel
theorem dL_isReading_34 : decode cL_isReading 34 = .ok (.aload 4, 2) := by decide +kernel
theorem dL_isReading_36 : decode cL_isReading 36 = .ok (.aload_n 2, 1) := by decide +kernel
theorem dL_isReading_37 : decode cL_isReading 37 = .ok (.iload 6, 2) := by decide +kernel
theorem dL_isReading_39 : decode cL_isReading 39 = .ok (.iaload, 1) := by decide +kernel
theorem dL_isReading_40 : decode cL_isReading 40 = .ok (.aload_n 1, 1) := by decide +kernel
theorem dL_isReading_41 : decode cL_isReading 41 = .ok (.iconst 1, 1) := by decide +kernel
theorem dL_isReading_42 : decode cL_isReading 42 = .ok (.iload 11, 2) := by decide +kernel
theorem dL_isReading_44 : decode cL_isReading 44 = .ok (.iadd, 1) := by decide +kernel
theorem dL_isReading_45 : decode cL_isReading 45 = .ok (.iaload, 1) := by decide +kernel
theorem dL_isReading_46 : decode cL_isReading 46 = .ok (.invokestatic 70, 3) := by decide +kernel
theorem dL_isReading_49 : decode cL_isReading 49 = .ok (.istore 12, 2) := by decide +kernel
theorem dL_isReading_51 : decode cL_isReading 51 = .ok (.aload_n 0, 1) := by decide +kernel
theorem dL_isReading_52 : decode cL_isReading 52 = .ok (.iload 6, 2) := by decide +kernel
theorem dL_isReading_54 : decode cL_isReading 54 = .ok (.iload 11, 2) := by decide +kernel
theorem dL_isReading_56 : decode cL_isReading 56 = .ok (.invokevirtual 74, 3) := by decide +kernel
theorem dL_isReading_59 : decode cL_isReading 59 = .ok (.iload 12, 2) := by decide +kernel
theorem dL_isReading_61 : decode cL_isReading 61 = .ok (.if_icmp .ne 7, 3) := by decide +kernel
theorem dL_isReading_64 : decode cL_isReading 64 = .ok (.iconst 1, 1) := by decide +kernel
theorem dL_isReading_65 : decode cL_isReading 65 = .ok (.goto 4, 3) := by decide +kernel
theorem dL_isReading_68 : decode cL_isReading 68 = .ok (.iconst 0, 1) := by decide +kernel
theorem dL_isReading_69 : decode cL_isReading 69 = .ok (.istore 9, 2) := by decide +kernel
theorem dL_isReading_71 : decode cL_isReading 71 = .ok (.iload 12, 2) := by decide +kernel
theorem dL_isReading_73 : decode cL_isReading 73 = .ok (.ifCond .lt 20, 3) := by decide +kernel
theorem dL_isReading_76 : decode cL_isReading 76 = .ok (.iload 7, 2) := by decide +kernel
theorem dL_isReading_78 : decode cL_isReading 78 = .ok (.ifCond .lt 10, 3) := by decide +kernel
theorem dL_isReading_81 : decode cL_isReading 81 = .ok (.iload 12, 2) := by decide +kernel
theorem dL_isReading_83 : decode cL_isReading 83 = .ok (.iload 8, 2) := by decide +kernel
theorem dL_isReading_85 : decode cL_isReading 85 = .ok (.if_icmp .ge 8, 3) := by decide +kernel
theorem dL_isReading_88 : decode cL_isReading 88 = .ok (.iload 11, 2) := by decide +kernel
theorem dL_isReading_90 : decode cL_isReading 90 = .ok (.goto 5, 3) := by decide +kernel
theorem dL_isReading_93 : decode cL_isReading 93 = .ok (.iload 7, 2) := by decide +kernel
theorem dL_isReading_95 : decode cL_isReading 95 = .ok (.istore 7, 2) := by decide +kernel
theorem dL_isReading_97 : decode cL_isReading 97 = .ok (.iload 7, 2) := by decide +kernel
theorem dL_isReading_99 : decode cL_isReading 99 = .ok (.iload 11, 2) := by decide +kernel
theorem dL_isReading_101 : decode cL_isReading 101 = .ok (.if_icmp .ne 8, 3) := by decide +kernel
theorem dL_isReading_104 : decode cL_isReading 104 = .ok (.iload 12, 2) := by decide +kernel
theorem dL_isReading_106 : decode cL_isReading 106 = .ok (.goto 5, 3) := by decide +kernel
theorem dL_isReading_109 : decode cL_isReading 109 = .ok (.iload 8, 2) := by decide +kernel
theorem dL_isReading_111 : decode cL_isReading 111 = .ok (.istore 8, 2) := by decide +kernel
theorem dL_isReading_113 : decode cL_isReading 113 = .ok (.iinc 10 1, 3) := by decide +kernel
theorem dL_isReading_116 : decode cL_isReading 116 = .ok (.goto (-104), 3) := by decide +kernel
theorem dL_isReading_119 : decode cL_isReading 119 = .ok (.iload 9, 2) := by decide +kernel
theorem dL_isReading_121 : decode cL_isReading 121 = .ok (.ifCond .eq 47, 3) := by decide +kernel
theorem dL_isReading_124 : decode cL_isReading 124 = .ok (.aload_n 0, 1) := by decide +kernel
theorem dL_isReading_125 : decode cL_isReading 125 = .ok (.iload 6, 2) := by decide +kernel
theorem dL_isReading_127 : decode cL_isReading 127 = .ok (.invokevirtual 76, 3) := by decide +kernel
theorem dL_isReading_130 : decode cL_isReading 130 = .ok (.aload_n 3, 1) := by decide +kernel
theorem dL_isReading_131 : decode cL_isReading 131 = .ok (.iload 6, 2) := by decide +kernel
theorem dL_isReading_133 : decode cL_isReading 133 = .ok (.iaload, 1) := by decide +kernel
theorem dL_isReading_134 : decode cL_isReading 134 = .ok (.bipush 19, 2) := by decide +kernel
theorem dL_isReading_136 : decode cL_isReading 136 = .ok (.iconst 1, 1) := by decide +kernel
theorem dL_isReading_137 : decode cL_isReading 137 = .ok (.invokestatic 10, 3) := by decide +kernel
theorem dL_isReading_140 : decode cL_isReading 140 = .ok (.iconst 1, 1) := by decide +kernel
theorem dL_isReading_141 : decode cL_isReading 141 = .ok (.if_icmp .ne 18, 3) := by decide +kernel
theorem dL_isReading_144 : decode cL_isReading 144 = .ok (.aload_n 3, 1) := by decide +kernel
theorem dL_isReading_145 : decode cL_isReading 145 = .ok (.iload 6, 2) := by decide +kernel
theorem dL_isReading_147 : decode cL_isReading 147 = .ok (.iaload, 1) := by decide +kernel
theorem dL_isReading_148 : decode cL_isReading 148 = .ok (.bipush 20, 2) := by decide +kernel
theorem dL_isReading_150 : decode cL_isReading 150 = .ok (.iconst 4, 1) := by decide +kernel
theorem dL_isReading_151 : decode cL_isReading 151 = .ok (.invokestatic 10, 3) := by decide +kernel
theorem dL_isReading_154 : decode cL_isReading 154 = .ok (.iconst 1, 1) := by decide +kernel
theorem dL_isReading_155 : decode cL_isReading 155 = .ok (.isub, 1) := by decide +kernel
theorem dL_isReading_156 : decode cL_isReading 156 = .ok (.goto 5, 3) := by decide +kernel
theorem dL_isReading_159 : decode cL_isReading 159 = .ok (.iload 7, 2) := by decide +kernel
theorem dL_isReading_161 : decode cL_isReading 161 = .ok (.if_icmp .ne 7, 3) := by decide +kernel
theorem dL_isReading_164 : decode cL_isReading 164 = .ok (.iconst 1, 1) := by decide +kernel
theorem dL_isReading_165 : decode cL_isReading 165 = .ok (.goto 4, 3) := by decide +kernel
theorem dL_isReading_168 : decode cL_isReading 168 = .ok (.iconst 0, 1) := by decide +kernel
theorem dL_isReading_169 : decode cL_isReading 169 = .ok (.ireturn, 1) := by decide +kernel
theorem dL_areTrips_0 : decode cL_areTrips 0 = .ok (.iconst 0, 1) := by decide +kernel
theorem dL_areTrips_1 : decode cL_areTrips 1 = .ok (.istore 6, 2) := by decide +kernel
theorem dL_areTrips_3 : decode cL_areTrips 3 = .ok (.iconst 2, 1) := by decide +kernel
theorem dL_areTrips_4 : decode cL_areTrips 4 = .ok (.istore 7, 2) := by decide +kernel
theorem dL_areTrips_6 : decode cL_areTrips 6 = .ok (.iconst (-1), 1) := by decide +kernel
theorem dL_areTrips_7 : decode cL_areTrips 7 = .ok (.istore 8, 2) := by decide +kernel
theorem dL_areTrips_9 : decode cL_areTrips 9 = .ok (.iconst 1, 1) := by decide +kernel
theorem dL_areTrips_10 : decode cL_areTrips 10 = .ok (.istore 9, 2) := by decide +kernel
theorem dL_areTrips_12 : decode cL_areTrips 12 = .ok (.iconst 0, 1) := by decide +kernel
theorem dL_areTrips_13 : decode cL_areTrips 13 = .ok (.istore 10, 2) := by decide +kernel
theorem dL_areTrips_15 : decode cL_areTrips 15 = .ok (.iload 10, 2) := by decide +kernel
theorem dL_areTrips_17 : decode cL_areTrips 17 = .ok (.aload_n 3, 1) := by decide +kernel
theorem dL_areTrips_18 : decode cL_areTrips 18 = .ok (.iconst 3, 1) := by decide +kernel
theorem dL_areTrips_19 : decode cL_areTrips 19 = .ok (.iaload, 1) := by decide +kernel
theorem dL_areTrips_20 : decode cL_areTrips 20 = .ok (.if_icmp .gt 423, 3) := by decide +kernel
theorem dL_areTrips_23 : decode cL_areTrips 23 = .ok (.iload 9, 2) := by decide +kernel
theorem dL_areTrips_25 : decode cL_areTrips 25 = .ok (.ifCond .eq 418, 3) := by decide +kernel
theorem dL_areTrips_28 : decode cL_areTrips 28 = .ok (.iconst (-1), 1) := by decide +kernel
theorem dL_areTrips_29 : decode cL_areTrips 29 = .ok (.istore 11, 2) := by decide +kernel
theorem dL_areTrips_31 : decode cL_areTrips 31 = .ok (.iconst 0, 1) := by decide +kernel
theorem dL_areTrips_32 : decode cL_areTrips 32 = .ok (.istore 12, 2) := by decide +kernel
theorem dL_areTrips_34 : decode cL_areTrips 34 = .ok (.iload 12, 2) := by decide +kernel
theorem dL_areTrips_36 : decode cL_areTrips 36 = .ok (.aload_n 3, 1) := by decide +kernel
theorem dL_areTrips_37 : decode cL_areTrips 37 = .ok (.iconst 3, 1) := by decide +kernel
theorem dL_areTrips_38 : decode cL_areTrips 38 = .ok (.iaload, 1) := by decide +kernel
theorem dL_areTrips_39 : decode cL_areTrips 39 = .ok (.if_icmp .ge 115, 3) := by decide +kernel
theorem dL_areTrips_42 : decode cL_areTrips 42 = .ok (.iload 8, 2) := by decide +kernel
theorem dL_areTrips_44 : decode cL_areTrips 44 = .ok (.ifCond .lt 40, 3) := by decide +kernel
theorem dL_areTrips_47 : decode cL_areTrips 47 = .ok (.aload_n 1, 1) := by decide +kernel
theorem dL_areTrips_48 : decode cL_areTrips 48 = .ok (.iload 12, 2) := by decide +kernel
theorem dL_areTrips_50 : decode cL_areTrips 50 = .ok (.invokestatic 79, 3) := by decide +kernel
theorem dL_areTrips_53 : decode cL_areTrips 53 = .ok (.aload_n 1, 1) := by decide +kernel
theorem dL_areTrips_54 : decode cL_areTrips 54 = .ok (.iload 8, 2) := by decide +kernel
theorem dL_areTrips_56 : decode cL_areTrips 56 = .ok (.invokestatic 79, 3) := by decide +kernel
theorem dL_areTrips_59 : decode cL_areTrips 59 = .ok (.if_icmp .gt 25, 3) := by decide +kernel
theorem dL_areTrips_62 : decode cL_areTrips 62 = .ok (.aload_n 1, 1) := by decide +kernel
theorem dL_areTrips_63 : decode cL_areTrips 63 = .ok (.iload 12, 2) := by decide +kernel
theorem dL_areTrips_65 : decode cL_areTrips 65 = .ok (.invokestatic 79, 3) := by decide +kernel
theorem dL_areTrips_68 : decode cL_areTrips 68 = .ok (.aload_n 1, 1) := by decide +kernel
theorem dL_areTrips_69 : decode cL_areTrips 69 = .ok (.iload 8, 2) := by decide +kernel
theorem dL_areTrips_71 : decode cL_areTrips 71 = .ok (.invokestatic 79, 3) := by decide +kernel
theorem dL_areTrips_74 : decode cL_areTrips 74 = .ok (.if_icmp .ne 14, 3) := by decide +kernel
theorem dL_areTrips_77 : decode cL_areTrips 77 = .ok (.iload 12, 2) := by decide +kernel
theorem dL_areTrips_79 : decode cL_areTrips 79 = .ok (.iload 8, 2) := by decide +kernel
theorem dL_areTrips_81 : decode cL_areTrips 81 = .ok (.if_icmp .le 7, 3) := by decide +kernel
theorem dL_areTrips_84 : decode cL_areTrips 84 = .ok (.iconst 1, 1) := by decide +kernel
theorem dL_areTrips_85 : decode cL_areTrips 85 = .ok (.goto 4, 3) := by decide +kernel
theorem dL_areTrips_88 : decode cL_areTrips 88 = .ok (.iconst 0, 1) := by decide +kernel
theorem dL_areTrips_89 : decode cL_areTrips 89 = .ok (.istore 13, 2) := by decide +kernel
theorem dL_areTrips_91 : decode cL_areTrips 91 = .ok (.iload 11, 2) := by decide +kernel
theorem dL_areTrips_93 : decode cL_areTrips 93 = .ok (.ifCond .lt 18, 3) := by decide +kernel
theorem dL_areTrips_96 : decode cL_areTrips 96 = .ok (.aload_n 1, 1) := by decide +kernel
theorem dL_areTrips_97 : decode cL_areTrips 97 = .ok (.iload 12, 2) := by decide +kernel
theorem dL_areTrips_99 : decode cL_areTrips 99 = .ok (.invokestatic 79, 3) := by decide +kernel
theorem dL_areTrips_102 : decode cL_areTrips 102 = .ok (.aload_n 1, 1) := by decide +kernel
theorem dL_areTrips_103 : decode cL_areTrips 103 = .ok (.iload 11, 2) := by decide +kernel
theorem dL_areTrips_105 : decode cL_areTrips 105 = .ok (.invokestatic 79, 3) := by decide +kernel
theorem dL_areTrips_108 : decode cL_areTrips 108 = .ok (.if_icmp .ge 7, 3) := by decide +kernel
theorem dL_areTrips_111 : decode cL_areTrips 111 = .ok (.iconst 1, 1) := by decide +kernel
theorem dL_areTrips_112 : decode cL_areTrips 112 = .ok (.goto 4, 3) := by decide +kernel
theorem dL_areTrips_115 : decode cL_areTrips 115 = .ok (.iconst 0, 1) := by decide +kernel
theorem dL_areTrips_116 : decode cL_areTrips 116 = .ok (.istore 14, 2) := by decide +kernel
theorem dL_areTrips_118 : decode cL_areTrips 118 = .ok (.aload_n 0, 1) := by decide +kernel
theorem dL_areTrips_119 : decode cL_areTrips 119 = .ok (.iload 12, 2) := by decide +kernel
theorem dL_areTrips_121 : decode cL_areTrips 121 = .ok (.invokevirtual 76, 3) := by decide +kernel
theorem dL_areTrips_124 : decode cL_areTrips 124 = .ok (.iload 5, 2) := by decide +kernel
theorem dL_areTrips_126 : decode cL_areTrips 126 = .ok (.if_icmp .ne 18, 3) := by decide +kernel
theorem dL_areTrips_129 : decode cL_areTrips 129 = .ok (.iload 13, 2) := by decide +kernel
theorem dL_areTrips_131 : decode cL_areTrips 131 = .ok (.ifCond .eq 13, 3) := by decide +kernel
theorem dL_areTrips_134 : decode cL_areTrips 134 = .ok (.iload 14, 2) := by decide +kernel
theorem dL_areTrips_136 : decode cL_areTrips 136 = .ok (.ifCond .eq 8, 3) := by decide +kernel
theorem dL_areTrips_139 : decode cL_areTrips 139 = .ok (.iload 12, 2) := by decide +kernel
theorem dL_areTrips_141 : decode cL_areTrips 141 = .ok (.goto 5, 3) := by decide +kernel
theorem dL_areTrips_144 : decode cL_areTrips 144 = .ok (.iload 11, 2) := by decide +kernel
theorem dL_areTrips_146 : decode cL_areTrips 146 = .ok (.istore 11, 2) := by decide +kernel
theorem dL_areTrips_148 : decode cL_areTrips 148 = .ok (.iinc 12 1, 3) := by decide +kernel
theorem dL_areTrips_151 : decode cL_areTrips 151 = .ok (.goto (-117), 3) := by decide +kernel
theorem dL_areTrips_154 : decode cL_areTrips 154 = .ok (.iload 8, 2) := by decide +kernel
theorem dL_areTrips_156 : decode cL_areTrips 156 = .ok (.ifCond .lt 8, 3) := by decide +kernel
theorem dL_areTrips_159 : decode cL_areTrips 159 = .ok (.iload 11, 2) := by decide +kernel
theorem dL_areTrips_161 : decode cL_areTrips 161 = .ok (.ifCond .ge 7, 3) := by decide +kernel
theorem dL_areTrips_164 : decode cL_areTrips 164 = .ok (.iconst (-1), 1) := by decide +kernel
theorem dL_areTrips_165 : decode cL_areTrips 165 = .ok (.goto 25, 3) := by decide +kernel
theorem dL_areTrips_168 : decode cL_areTrips 168 = .ok (.aload_n 0, 1) := by decide +kernel
theorem dL_areTrips_169 : decode cL_areTrips 169 = .ok (.aload_n 1, 1) := by decide +kernel
theorem dL_areTrips_170 : decode cL_areTrips 170 = .ok (.iload 8, 2) := by decide +kernel
theorem dL_areTrips_172 : decode cL_areTrips 172 = .ok (.iaload, 1) := by decide +kernel
theorem dL_areTrips_173 : decode cL_areTrips 173 = .ok (.iconst 0, 1) := by decide +kernel
theorem dL_areTrips_174 : decode cL_areTrips 174 = .ok (.iconst 3, 1) := by decide +kernel
theorem dL_areTrips_175 : decode cL_areTrips 175 = .ok (.invokestatic 10, 3) := by decide +kernel
theorem dL_areTrips_178 : decode cL_areTrips 178 = .ok (.aload_n 1, 1) := by decide +kernel
theorem dL_areTrips_179 : decode cL_areTrips 179 = .ok (.iload 11, 2) := by decide +kernel
theorem dL_areTrips_181 : decode cL_areTrips 181 = .ok (.iaload, 1) := by decide +kernel
theorem dL_areTrips_182 : decode cL_areTrips 182 = .ok (.iconst 0, 1) := by decide +kernel
theorem dL_areTrips_183 : decode cL_areTrips 183 = .ok (.iconst 3, 1) := by decide +kernel
theorem dL_areTrips_184 : decode cL_areTrips 184 = .ok (.invokestatic 10, 3) := by decide +kernel
theorem dL_areTrips_187 : decode cL_areTrips 187 = .ok (.invokevirtual 44, 3) := by decide +kernel
theorem dL_areTrips_190 : decode cL_areTrips 190 = .ok (.istore 12, 2) := by decide +kernel
theorem dL_areTrips_192 : decode cL_areTrips 192 = .ok (.iload 8, 2) := by decide +kernel
theorem dL_areTrips_194 : decode cL_areTrips 194 = .ok (.ifCond .lt 8, 3) := by decide +kernel
theorem dL_areTrips_197 : decode cL_areTrips 197 = .ok (.iload 11, 2) := by decide +kernel
theorem dL_areTrips_199 : decode cL_areTrips 199 = .ok (.ifCond .ge 7, 3) := by decide +kernel
theorem dL_areTrips_202 : decode cL_areTrips 202 = .ok (.iconst 0, 1) := by decide +kernel
theorem dL_areTrips_203 : decode cL_areTrips 203 = .ok (.goto 16, 3) := by decide +kernel
theorem dL_areTrips_206 : decode cL_areTrips 206 = .ok (.aload_n 1, 1) := by decide +kernel
theorem dL_areTrips_207 : decode cL_areTrips 207 = .ok (.iload 11, 2) := by decide +kernel
theorem dL_areTrips_209 : decode cL_areTrips 209 = .ok (.invokestatic 79, 3) := by decide +kernel
theorem dL_areTrips_212 : decode cL_areTrips 212 = .ok (.aload_n 1, 1) := by decide +kernel
theorem dL_areTrips_213 : decode cL_areTrips 213 = .ok (.iload 8, 2) := by decide +kernel
theorem dL_areTrips_215 : decode cL_areTrips 215 = .ok (.invokestatic 79, 3) := by decide +kernel
theorem dL_areTrips_218 : decode cL_areTrips 218 = .ok (.isub, 1) := by decide +kernel
theorem dL_areTrips_219 : decode cL_areTrips 219 = .ok (.istore 13, 2) := by decide +kernel
theorem dL_areTrips_221 : decode cL_areTrips 221 = .ok (.iload 12, 2) := by decide +kernel
theorem dL_areTrips_223 : decode cL_areTrips 223 = .ok (.ifCond .lt 25, 3) := by decide +kernel
theorem dL_areTrips_226 : decode cL_areTrips 226 = .ok (.iload 13, 2) := by decide +kernel
theorem dL_areTrips_228 : decode cL_areTrips 228 = .ok (.iconst 2, 1) := by decide +kernel
theorem dL_areTrips_229 : decode cL_areTrips 229 = .ok (.iload 12, 2) := by decide +kernel
theorem dL_areTrips_231 : decode cL_areTrips 231 = .ok (.imul, 1) := by decide +kernel
theorem dL_areTrips_232 : decode cL_areTrips 232 = .ok (.aload_n 3, 1) := by decide +kernel
theorem dL_areTrips_233 : decode cL_areTrips 233 = .ok (.iconst 1, 1) := by decide +kernel
theorem dL_areTrips_234 : decode cL_areTrips 234 = .ok (.iaload, 1) := by decide +kernel
theorem dL_areTrips_235 : decode cL_areTrips 235 = .ok (.iadd, 1) := by decide +kernel
theorem dL_areTrips_236 : decode cL_areTrips 236 = .ok (.if_icmp .gt 12, 3) := by decide +kernel
theorem dL_areTrips_239 : decode cL_areTrips 239 = .ok (.iconst 4, 1) := by decide +kernel
theorem dL_areTrips_240 : decode cL_areTrips 240 = .ok (.iload 13, 2) := by decide +kernel
theorem dL_areTrips_242 : decode cL_areTrips 242 = .ok (.imul, 1) := by decide +kernel
theorem dL_areTrips_243 : decode cL_areTrips 243 = .ok (.iload 12, 2) := by decide +kernel
theorem dL_areTrips_245 : decode cL_areTrips 245 = .ok (.if_icmp .ge 7, 3) := by decide +kernel
theorem dL_areTrips_248 : decode cL_areTrips 248 = .ok (.iconst 1, 1) := by decide +kernel
theorem dL_areTrips_249 : decode cL_areTrips 249 = .ok (.goto 4, 3) := by decide +kernel
theorem dL_areTrips_252 : decode cL_areTrips 252 = .ok (.iconst 0, 1) := by decide +kernel
theorem dL_areTrips_253 : decode cL_areTrips 253 = .ok (.istore 14, 2) := by decide +kernel
theorem dL_areTrips_255 : decode cL_areTrips 255 = .ok (.iload 14, 2) := by decide +kernel
theorem dL_areTrips_257 : decode cL_areTrips 257 = .ok (.ifCond .eq 38, 3) := by decide +kernel
theorem dL_areTrips_260 : decode cL_areTrips 260 = .ok (.iload 6, 2) := by decide +kernel
theorem dL_areTrips_262 : decode cL_areTrips 262 = .ok (.ifCond .le 33, 3) := by decide +kernel
theorem dL_areTrips_265 : decode cL_areTrips 265 = .ok (.aload_n 0, 1) := by decide +kernel
theorem dL_areTrips_266 : decode cL_areTrips 266 = .ok (.iload 5, 2) := by decide +kernel
theorem dL_areTrips_268 : decode cL_areTrips 268 = .ok (.iload 6, 2) := by decide +kernel
theorem dL_areTrips_270 : decode cL_areTrips 270 = .ok (.iconst 1, 1) := by decide +kernel
theorem dL_areTrips_271 : decode cL_areTrips 271 = .ok (.isub, 1) := by decide +kernel
theorem dL_areTrips_272 : decode cL_areTrips 272 = .ok (.invokevirtual 35, 3) := by decide +kernel
theorem dL_areTrips_275 : decode cL_areTrips 275 = .ok (.aload 4, 2) := by decide +kernel
theorem dL_areTrips_277 : decode cL_areTrips 277 = .ok (.aload_n 2, 1) := by decide +kernel
theorem dL_areTrips_278 : decode cL_areTrips 278 = .ok (.iload 5, 2) := by decide +kernel
theorem dL_areTrips_280 : decode cL_areTrips 280 = .ok (.iaload, 1) := by decide +kernel
theorem dL_areTrips_281 : decode cL_areTrips 281 = .ok (.iaload, 1) := by decide +kernel
theorem dL_areTrips_282 : decode cL_areTrips 282 = .ok (.iload 7, 2) := by decide +kernel
theorem dL_areTrips_284 : decode cL_areTrips 284 = .ok (.imul, 1) := by decide +kernel
theorem dL_areTrips_285 : decode cL_areTrips 285 = .ok (.if_icmp .ne 7, 3) := by decide +kernel
theorem dL_areTrips_288 : decode cL_areTrips 288 = .ok (.iconst 1, 1) := by decide +kernel
theorem dL_areTrips_289 : decode cL_areTrips 289 = .ok (.goto 4, 3) := by decide +kernel
theorem dL_areTrips_292 : decode cL_areTrips 292 = .ok (.iconst 0, 1) := by decide +kernel
theorem dL_areTrips_293 : decode cL_areTrips 293 = .ok (.istore 9, 2) := by decide +kernel
theorem dL_areTrips_295 : decode cL_areTrips 295 = .ok (.iload 11, 2) := by decide +kernel
theorem dL_areTrips_297 : decode cL_areTrips 297 = .ok (.ifCond .ge 50, 3) := by decide +kernel
theorem dL_areTrips_300 : decode cL_areTrips 300 = .ok (.iload 9, 2) := by decide +kernel
theorem dL_areTrips_302 : decode cL_areTrips 302 = .ok (.ifCond .eq 43, 3) := by decide +kernel
theorem dL_areTrips_305 : decode cL_areTrips 305 = .ok (.aload_n 0, 1) := by decide +kernel
theorem dL_areTrips_306 : decode cL_areTrips 306 = .ok (.iload 5, 2) := by decide +kernel
theorem dL_areTrips_308 : decode cL_areTrips 308 = .ok (.invokevirtual 83, 3) := by decide +kernel
theorem dL_areTrips_311 : decode cL_areTrips 311 = .ok (.iload 6, 2) := by decide +kernel
theorem dL_areTrips_313 : decode cL_areTrips 313 = .ok (.if_icmp .ne 32, 3) := by decide +kernel
theorem dL_areTrips_316 : decode cL_areTrips 316 = .ok (.aload_n 0, 1) := by decide +kernel
theorem dL_areTrips_317 : decode cL_areTrips 317 = .ok (.iload 5, 2) := by decide +kernel
theorem dL_areTrips_319 : decode cL_areTrips 319 = .ok (.invokevirtual 86, 3) := by decide +kernel
theorem dL_areTrips_322 : decode cL_areTrips 322 = .ok (.iload 6, 2) := by decide +kernel
theorem dL_areTrips_324 : decode cL_areTrips 324 = .ok (.if_icmp .ne 21, 3) := by decide +kernel
theorem dL_areTrips_327 : decode cL_areTrips 327 = .ok (.aload_n 0, 1) := by decide +kernel
theorem dL_areTrips_328 : decode cL_areTrips 328 = .ok (.iconst 5, 1) := by decide +kernel
theorem dL_areTrips_329 : decode cL_areTrips 329 = .ok (.iload 5, 2) := by decide +kernel
theorem dL_areTrips_331 : decode cL_areTrips 331 = .ok (.iload 6, 2) := by decide +kernel
theorem dL_areTrips_333 : decode cL_areTrips 333 = .ok (.invokestatic 89, 3) := by decide +kernel
theorem dL_areTrips_336 : decode cL_areTrips 336 = .ok (.bipush (-107), 2) := by decide +kernel
theorem dL_areTrips_338 : decode cL_areTrips 338 = .ok (.if_icmp .ne 7, 3) := by decide +kernel
theorem dL_areTrips_341 : decode cL_areTrips 341 = .ok (.iconst 1, 1) := by decide +kernel
theorem dL_areTrips_342 : decode cL_areTrips 342 = .ok (.goto 4, 3) := by decide +kernel
theorem dL_areTrips_345 : decode cL_areTrips 345 = .ok (.iconst 0, 1) := by decide +kernel
theorem dL_areTrips_346 : decode cL_areTrips 346 = .ok (.ireturn, 1) := by decide +kernel
theorem dL_areTrips_347 : decode cL_areTrips 347 = .ok (.iload 6, 2) := by decide +kernel
theorem dL_areTrips_349 : decode cL_areTrips 349 = .ok (.iload 14, 2) := by decide +kernel
theorem dL_areTrips_351 : decode cL_areTrips 351 = .ok (.ifCond .eq 7, 3) := by decide +kernel
theorem dL_areTrips_354 : decode cL_areTrips 354 = .ok (.iconst 1, 1) := by decide +kernel
theorem dL_areTrips_355 : decode cL_areTrips 355 = .ok (.goto 4, 3) := by decide +kernel
theorem dL_areTrips_358 : decode cL_areTrips 358 = .ok (.iconst 0, 1) := by decide +kernel
theorem dL_areTrips_359 : decode cL_areTrips 359 = .ok (.iadd, 1) := by decide +kernel
theorem dL_areTrips_360 : decode cL_areTrips 360 = .ok (.istore 6, 2) := by decide +kernel
theorem dL_areTrips_362 : decode cL_areTrips 362 = .ok (.iload 14, 2) := by decide +kernel
theorem dL_areTrips_364 : decode cL_areTrips 364 = .ok (.ifCond .eq 7, 3) := by decide +kernel
theorem dL_areTrips_367 : decode cL_areTrips 367 = .ok (.iconst 2, 1) := by decide +kernel
theorem dL_areTrips_368 : decode cL_areTrips 368 = .ok (.goto 8, 3) := by decide +kernel
theorem dL_areTrips_371 : decode cL_areTrips 371 = .ok (.iload 7, 2) := by decide +kernel
theorem dL_areTrips_373 : decode cL_areTrips 373 = .ok (.iload 12, 2) := by decide +kernel
theorem dL_areTrips_375 : decode cL_areTrips 375 = .ok (.iadd, 1) := by decide +kernel
theorem dL_areTrips_376 : decode cL_areTrips 376 = .ok (.istore 7, 2) := by decide +kernel
theorem dL_areTrips_378 : decode cL_areTrips 378 = .ok (.iload 9, 2) := by decide +kernel
theorem dL_areTrips_380 : decode cL_areTrips 380 = .ok (.ifCond .eq 50, 3) := by decide +kernel
theorem dL_areTrips_383 : decode cL_areTrips 383 = .ok (.aload_n 0, 1) := by decide +kernel
theorem dL_areTrips_384 : decode cL_areTrips 384 = .ok (.iload 11, 2) := by decide +kernel
theorem dL_areTrips_386 : decode cL_areTrips 386 = .ok (.invokevirtual 93, 3) := by decide +kernel
theorem dL_areTrips_389 : decode cL_areTrips 389 = .ok (.iload 6, 2) := by decide +kernel
theorem dL_areTrips_391 : decode cL_areTrips 391 = .ok (.iconst 1, 1) := by decide +kernel
theorem dL_areTrips_392 : decode cL_areTrips 392 = .ok (.isub, 1) := by decide +kernel
theorem dL_areTrips_393 : decode cL_areTrips 393 = .ok (.if_icmp .ne 37, 3) := by decide +kernel
theorem dL_areTrips_396 : decode cL_areTrips 396 = .ok (.iload 14, 2) := by decide +kernel
theorem dL_areTrips_398 : decode cL_areTrips 398 = .ok (.ifCond .eq 28, 3) := by decide +kernel
theorem dL_areTrips_401 : decode cL_areTrips 401 = .ok (.aload_n 0, 1) := by decide +kernel
theorem dL_areTrips_402 : decode cL_areTrips 402 = .ok (.iload 5, 2) := by decide +kernel
theorem dL_areTrips_404 : decode cL_areTrips 404 = .ok (.iload 6, 2) := by decide +kernel
theorem dL_areTrips_406 : decode cL_areTrips 406 = .ok (.iconst 1, 1) := by decide +kernel
theorem dL_areTrips_407 : decode cL_areTrips 407 = .ok (.isub, 1) := by decide +kernel
theorem dL_areTrips_408 : decode cL_areTrips 408 = .ok (.invokevirtual 96, 3) := by decide +kernel
theorem dL_areTrips_411 : decode cL_areTrips 411 = .ok (.aload_n 0, 1) := by decide +kernel
theorem dL_areTrips_412 : decode cL_areTrips 412 = .ok (.iload 5, 2) := by decide +kernel
theorem dL_areTrips_414 : decode cL_areTrips 414 = .ok (.aload_n 1, 1) := by decide +kernel
theorem dL_areTrips_415 : decode cL_areTrips 415 = .ok (.iload 11, 2) := by decide +kernel
theorem dL_areTrips_417 : decode cL_areTrips 417 = .ok (.invokestatic 79, 3) := by decide +kernel
theorem dL_areTrips_420 : decode cL_areTrips 420 = .ok (.invokevirtual 99, 3) := by decide +kernel
theorem dL_areTrips_423 : decode cL_areTrips 423 = .ok (.if_icmp .ne 7, 3) := by decide +kernel
theorem dL_areTrips_426 : decode cL_areTrips 426 = .ok (.iconst 1, 1) := by decide +kernel
theorem dL_areTrips_427 : decode cL_areTrips 427 = .ok (.goto 4, 3) := by decide +kernel
theorem dL_areTrips_430 : decode cL_areTrips 430 = .ok (.iconst 0, 1) := by decide +kernel
theorem dL_areTrips_431 : decode cL_areTrips 431 = .ok (.istore 9, 2) := by decide +kernel
theorem dL_areTrips_433 : decode cL_areTrips 433 = .ok (.iload 11, 2) := by decide +kernel
theorem dL_areTrips_435 : decode cL_areTrips 435 = .ok (.istore 8, 2) := by decide +kernel
theorem dL_areTrips_437 : decode cL_areTrips 437 = .ok (.iinc 10 1, 3) := by decide +kernel
theorem dL_areTrips_440 : decode cL_areTrips 440 = .ok (.goto (-425), 3) := by decide +kernel
theorem dL_areTrips_443 : decode cL_areTrips 443 = .ok (.iconst 0, 1) := by decide +kernel
theorem dL_areTrips_444 : decode cL_areTrips 444 = .ok (.ireturn, 1) := by decide +kernel
theorem dL_areBills_0 : decode cL_areBills 0 = .ok (.bipush 7, 2) := by decide +kernel
theorem dL_areBills_2 : decode cL_areBills 2 = .ok (.newarray .int, 2) := by decide +kernel
theorem dL_areBills_4 : decode cL_areBills 4 = .ok (.astore_n 3, 1) := by decide +kernel
theorem dL_areBills_5 : decode cL_areBills 5 = .ok (.iconst 0, 1) := by decide +kernel
theorem dL_areBills_6 : decode cL_areBills 6 = .ok (.istore 4, 2) := by decide +kernel
theorem dL_areBills_8 : decode cL_areBills 8 = .ok (.iload 4, 2) := by decide +kernel
theorem dL_areBills_10 : decode cL_areBills 10 = .ok (.aload_n 1, 1) := by decide +kernel
theorem dL_areBills_11 : decode cL_areBills 11 = .ok (.iconst 2, 1) := by decide +kernel
theorem dL_areBills_12 : decode cL_areBills 12 = .ok (.iaload, 1) := by decide +kernel
theorem dL_areBills_13 : decode cL_areBills 13 = .ok (.if_icmp .ge 56, 3) := by decide +kernel
theorem dL_areBills_16 : decode cL_areBills 16 = .ok (.aload_n 0, 1) := by decide +kernel
theorem dL_areBills_17 : decode cL_areBills 17 = .ok (.iload 4, 2) := by decide +kernel
theorem dL_areBills_19 : decode cL_areBills 19 = .ok (.invokevirtual 83, 3) := by decide +kernel
theorem dL_areBills_22 : decode cL_areBills 22 = .ok (.istore 5, 2) := by decide +kernel
theorem dL_areBills_24 : decode cL_areBills 24 = .ok (.iconst 0, 1) := by decide +kernel
theorem dL_areBills_25 : decode cL_areBills 25 = .ok (.istore 6, 2) := by decide +kernel
theorem dL_areBills_27 : decode cL_areBills 27 = .ok (.iload 6, 2) := by decide +kernel
theorem dL_areBills_29 : decode cL_areBills 29 = .ok (.iload 5, 2) := by decide +kernel
theorem dL_areBills_31 : decode cL_areBills 31 = .ok (.if_icmp .ge 32, 3) := by decide +kernel
theorem dL_areBills_34 : decode cL_areBills 34 = .ok (.aload_n 3, 1) := by decide +kernel
theorem dL_areBills_35 : decode cL_areBills 35 = .ok (.iconst 1, 1) := by decide +kernel
theorem dL_areBills_36 : decode cL_areBills 36 = .ok (.aload_n 0, 1) := by decide +kernel
theorem dL_areBills_37 : decode cL_areBills 37 = .ok (.iload 4, 2) := by decide +kernel
theorem dL_areBills_39 : decode cL_areBills 39 = .ok (.iload 6, 2) := by decide +kernel
theorem dL_areBills_41 : decode cL_areBills 41 = .ok (.invokevirtual 96, 3) := by decide +kernel
theorem dL_areBills_44 : decode cL_areBills 44 = .ok (.iadd, 1) := by decide +kernel
theorem dL_areBills_45 : decode cL_areBills 45 = .ok (.dup2, 1) := by decide +kernel
theorem dL_areBills_46 : decode cL_areBills 46 = .ok (.iaload, 1) := by decide +kernel
theorem dL_areBills_47 : decode cL_areBills 47 = .ok (.aload_n 0, 1) := by decide +kernel
theorem dL_areBills_48 : decode cL_areBills 48 = .ok (.iload 4, 2) := by decide +kernel
theorem dL_areBills_50 : decode cL_areBills 50 = .ok (.iload 6, 2) := by decide +kernel
theorem dL_areBills_52 : decode cL_areBills 52 = .ok (.invokevirtual 35, 3) := by decide +kernel
theorem dL_areBills_55 : decode cL_areBills 55 = .ok (.iadd, 1) := by decide +kernel
theorem dL_areBills_56 : decode cL_areBills 56 = .ok (.iastore, 1) := by decide +kernel
theorem dL_areBills_57 : decode cL_areBills 57 = .ok (.iinc 6 1, 3) := by decide +kernel
theorem dL_areBills_60 : decode cL_areBills 60 = .ok (.goto (-33), 3) := by decide +kernel
theorem dL_areBills_63 : decode cL_areBills 63 = .ok (.iinc 4 1, 3) := by decide +kernel
theorem dL_areBills_66 : decode cL_areBills 66 = .ok (.goto (-58), 3) := by decide +kernel
theorem dL_areBills_69 : decode cL_areBills 69 = .ok (.lconst 0, 1) := by decide +kernel
theorem dL_areBills_70 : decode cL_areBills 70 = .ok (.lstore 4, 2) := by decide +kernel
theorem dL_areBills_72 : decode cL_areBills 72 = .ok (.lconst 0, 1) := by decide +kernel
theorem dL_areBills_73 : decode cL_areBills 73 = .ok (.lstore 6, 2) := by decide +kernel
theorem dL_areBills_75 : decode cL_areBills 75 = .ok (.iconst 1, 1) := by decide +kernel
theorem dL_areBills_76 : decode cL_areBills 76 = .ok (.istore 8, 2) := by decide +kernel
theorem dL_areBills_78 : decode cL_areBills 78 = .ok (.iconst 0, 1) := by decide +kernel
theorem dL_areBills_79 : decode cL_areBills 79 = .ok (.istore 9, 2) := by decide +kernel
theorem dL_areBills_81 : decode cL_areBills 81 = .ok (.iload 9, 2) := by decide +kernel
theorem dL_areBills_83 : decode cL_areBills 83 = .ok (.bipush 6, 2) := by decide +kernel
theorem dL_areBills_85 : decode cL_areBills 85 = .ok (.if_icmp .ge 120, 3) := by decide +kernel
theorem dL_areBills_88 : decode cL_areBills 88 = .ok (.aload_n 3, 1) := by decide +kernel
theorem dL_areBills_89 : decode cL_areBills 89 = .ok (.iconst 1, 1) := by decide +kernel
theorem dL_areBills_90 : decode cL_areBills 90 = .ok (.iload 9, 2) := by decide +kernel
theorem dL_areBills_92 : decode cL_areBills 92 = .ok (.iadd, 1) := by decide +kernel
theorem dL_areBills_93 : decode cL_areBills 93 = .ok (.iaload, 1) := by decide +kernel
theorem dL_areBills_94 : decode cL_areBills 94 = .ok (.i2l, 1) := by decide +kernel
theorem dL_areBills_95 : decode cL_areBills 95 = .ok (.aload_n 0, 1) := by decide +kernel
theorem dL_areBills_96 : decode cL_areBills 96 = .ok (.iload 9, 2) := by decide +kernel
theorem dL_areBills_98 : decode cL_areBills 98 = .ok (.invokevirtual 102, 3) := by decide +kernel
theorem dL_areBills_101 : decode cL_areBills 101 = .ok (.lsub, 1) := by decide +kernel
theorem dL_areBills_102 : decode cL_areBills 102 = .ok (.aload_n 0, 1) := by decide +kernel
theorem dL_areBills_103 : decode cL_areBills 103 = .ok (.iload 9, 2) := by decide +kernel
theorem dL_areBills_105 : decode cL_areBills 105 = .ok (.invokevirtual 106, 3) := by decide +kernel
theorem dL_areBills_108 : decode cL_areBills 108 = .ok (.ladd, 1) := by decide +kernel
theorem dL_areBills_109 : decode cL_areBills 109 = .ok (.lstore 10, 2) := by decide +kernel
theorem dL_areBills_111 : decode cL_areBills 111 = .ok (.iload 8, 2) := by decide +kernel
theorem dL_areBills_113 : decode cL_areBills 113 = .ok (.ifCond .eq 53, 3) := by decide +kernel
theorem dL_areBills_116 : decode cL_areBills 116 = .ok (.aload_n 0, 1) := by decide +kernel
theorem dL_areBills_117 : decode cL_areBills 117 = .ok (.iload 9, 2) := by decide +kernel
theorem dL_areBills_119 : decode cL_areBills 119 = .ok (.invokevirtual 109, 3) := by decide +kernel
theorem dL_areBills_122 : decode cL_areBills 122 = .ok (.aload_n 3, 1) := by decide +kernel
theorem dL_areBills_123 : decode cL_areBills 123 = .ok (.iconst 1, 1) := by decide +kernel
theorem dL_areBills_124 : decode cL_areBills 124 = .ok (.iload 9, 2) := by decide +kernel
theorem dL_areBills_126 : decode cL_areBills 126 = .ok (.iadd, 1) := by decide +kernel
theorem dL_areBills_127 : decode cL_areBills 127 = .ok (.iaload, 1) := by decide +kernel
theorem dL_areBills_128 : decode cL_areBills 128 = .ok (.if_icmp .ne 38, 3) := by decide +kernel
theorem dL_areBills_131 : decode cL_areBills 131 = .ok (.aload_n 0, 1) := by decide +kernel
theorem dL_areBills_132 : decode cL_areBills 132 = .ok (.iload 9, 2) := by decide +kernel
theorem dL_areBills_134 : decode cL_areBills 134 = .ok (.invokevirtual 112, 3) := by decide +kernel
theorem dL_areBills_137 : decode cL_areBills 137 = .ok (.aload_n 3, 1) := by decide +kernel
theorem dL_areBills_138 : decode cL_areBills 138 = .ok (.iconst 1, 1) := by decide +kernel
theorem dL_areBills_139 : decode cL_areBills 139 = .ok (.iload 9, 2) := by decide +kernel
theorem dL_areBills_141 : decode cL_areBills 141 = .ok (.iadd, 1) := by decide +kernel
theorem dL_areBills_142 : decode cL_areBills 142 = .ok (.iaload, 1) := by decide +kernel
theorem dL_areBills_143 : decode cL_areBills 143 = .ok (.if_icmp .ne 23, 3) := by decide +kernel
theorem dL_areBills_146 : decode cL_areBills 146 = .ok (.aload_n 0, 1) := by decide +kernel
theorem dL_areBills_147 : decode cL_areBills 147 = .ok (.iload 9, 2) := by decide +kernel
theorem dL_areBills_149 : decode cL_areBills 149 = .ok (.invokevirtual 102, 3) := by decide +kernel
theorem dL_areBills_152 : decode cL_areBills 152 = .ok (.aload_n 0, 1) := by decide +kernel
theorem dL_areBills_153 : decode cL_areBills 153 = .ok (.iload 9, 2) := by decide +kernel
theorem dL_areBills_155 : decode cL_areBills 155 = .ok (.invokevirtual 106, 3) := by decide +kernel
theorem dL_areBills_158 : decode cL_areBills 158 = .ok (.lcmp, 1) := by decide +kernel
theorem dL_areBills_159 : decode cL_areBills 159 = .ok (.ifCond .lt 7, 3) := by decide +kernel
theorem dL_areBills_162 : decode cL_areBills 162 = .ok (.iconst 1, 1) := by decide +kernel
theorem dL_areBills_163 : decode cL_areBills 163 = .ok (.goto 4, 3) := by decide +kernel
theorem dL_areBills_166 : decode cL_areBills 166 = .ok (.iconst 0, 1) := by decide +kernel
theorem dL_areBills_167 : decode cL_areBills 167 = .ok (.istore 8, 2) := by decide +kernel
theorem dL_areBills_169 : decode cL_areBills 169 = .ok (.lload 4, 2) := by decide +kernel
theorem dL_areBills_171 : decode cL_areBills 171 = .ok (.lload 10, 2) := by decide +kernel
theorem dL_areBills_173 : decode cL_areBills 173 = .ok (.lconst 0, 1) := by decide +kernel
theorem dL_areBills_174 : decode cL_areBills 174 = .ok (.lcmp, 1) := by decide +kernel
theorem dL_areBills_175 : decode cL_areBills 175 = .ok (.ifCond .ge 9, 3) := by decide +kernel
theorem dL_areBills_178 : decode cL_areBills 178 = .ok (.lload 10, 2) := by decide +kernel
theorem dL_areBills_180 : decode cL_areBills 180 = .ok (.lneg, 1) := by decide +kernel
theorem dL_areBills_181 : decode cL_areBills 181 = .ok (.goto 4, 3) := by decide +kernel
theorem dL_areBills_184 : decode cL_areBills 184 = .ok (.lconst 0, 1) := by decide +kernel
theorem dL_areBills_185 : decode cL_areBills 185 = .ok (.ladd, 1) := by decide +kernel
theorem dL_areBills_186 : decode cL_areBills 186 = .ok (.lstore 4, 2) := by decide +kernel
theorem dL_areBills_188 : decode cL_areBills 188 = .ok (.lload 6, 2) := by decide +kernel
theorem dL_areBills_190 : decode cL_areBills 190 = .ok (.aload_n 0, 1) := by decide +kernel
theorem dL_areBills_191 : decode cL_areBills 191 = .ok (.iload 9, 2) := by decide +kernel
theorem dL_areBills_193 : decode cL_areBills 193 = .ok (.invokevirtual 106, 3) := by decide +kernel
theorem dL_areBills_196 : decode cL_areBills 196 = .ok (.ladd, 1) := by decide +kernel
theorem dL_areBills_197 : decode cL_areBills 197 = .ok (.lstore 6, 2) := by decide +kernel
theorem dL_areBills_199 : decode cL_areBills 199 = .ok (.iinc 9 1, 3) := by decide +kernel
theorem dL_areBills_202 : decode cL_areBills 202 = .ok (.goto (-121), 3) := by decide +kernel
theorem dL_areBills_205 : decode cL_areBills 205 = .ok (.iload_n 2, 1) := by decide +kernel
theorem dL_areBills_206 : decode cL_areBills 206 = .ok (.ifCond .eq 8, 3) := by decide +kernel
theorem dL_areBills_209 : decode cL_areBills 209 = .ok (.iload 8, 2) := by decide +kernel
theorem dL_areBills_211 : decode cL_areBills 211 = .ok (.ifCond .ne 6, 3) := by decide +kernel
theorem dL_areBills_214 : decode cL_areBills 214 = .ok (.iload 8, 2) := by decide +kernel
theorem dL_areBills_216 : decode cL_areBills 216 = .ok (.ireturn, 1) := by decide +kernel
theorem dL_areBills_217 : decode cL_areBills 217 = .ok (.aload_n 0, 1) := by decide +kernel
theorem dL_areBills_218 : decode cL_areBills 218 = .ok (.invokevirtual 115, 3) := by decide +kernel
theorem dL_areBills_221 : decode cL_areBills 221 = .ok (.istore 9, 2) := by decide +kernel
theorem dL_areBills_223 : decode cL_areBills 223 = .ok (.iconst 0, 1) := by decide +kernel
theorem dL_areBills_224 : decode cL_areBills 224 = .ok (.istore 10, 2) := by decide +kernel
theorem dL_areBills_226 : decode cL_areBills 226 = .ok (.iload 10, 2) := by decide +kernel
theorem dL_areBills_228 : decode cL_areBills 228 = .ok (.bipush 6, 2) := by decide +kernel
theorem dL_areBills_230 : decode cL_areBills 230 = .ok (.if_icmp .ge 56, 3) := by decide +kernel
theorem dL_areBills_233 : decode cL_areBills 233 = .ok (.iload 8, 2) := by decide +kernel
theorem dL_areBills_235 : decode cL_areBills 235 = .ok (.ifCond .eq 51, 3) := by decide +kernel
theorem dL_areBills_238 : decode cL_areBills 238 = .ok (.aload_n 0, 1) := by decide +kernel
theorem dL_areBills_239 : decode cL_areBills 239 = .ok (.iload 10, 2) := by decide +kernel
theorem dL_areBills_241 : decode cL_areBills 241 = .ok (.invokevirtual 102, 3) := by decide +kernel
theorem dL_areBills_244 : decode cL_areBills 244 = .ok (.aload_n 0, 1) := by decide +kernel
theorem dL_areBills_245 : decode cL_areBills 245 = .ok (.iload 10, 2) := by decide +kernel
theorem dL_areBills_247 : decode cL_areBills 247 = .ok (.invokevirtual 106, 3) := by decide +kernel
theorem dL_areBills_250 : decode cL_areBills 250 = .ok (.lsub, 1) := by decide +kernel
theorem dL_areBills_251 : decode cL_areBills 251 = .ok (.aload_n 3, 1) := by decide +kernel
theorem dL_areBills_252 : decode cL_areBills 252 = .ok (.iconst 1, 1) := by decide +kernel
theorem dL_areBills_253 : decode cL_areBills 253 = .ok (.iload 10, 2) := by decide +kernel
theorem dL_areBills_255 : decode cL_areBills 255 = .ok (.iadd, 1) := by decide +kernel
theorem dL_areBills_256 : decode cL_areBills 256 = .ok (.iaload, 1) := by decide +kernel
theorem dL_areBills_257 : decode cL_areBills 257 = .ok (.i2l, 1) := by decide +kernel
theorem dL_areBills_258 : decode cL_areBills 258 = .ok (.lcmp, 1) := by decide +kernel
theorem dL_areBills_259 : decode cL_areBills 259 = .ok (.ifCond .ne 7, 3) := by decide +kernel
theorem dL_areBills_262 : decode cL_areBills 262 = .ok (.iconst 1, 1) := by decide +kernel
theorem dL_areBills_263 : decode cL_areBills 263 = .ok (.goto 4, 3) := by decide +kernel
theorem dL_areBills_266 : decode cL_areBills 266 = .ok (.iconst 0, 1) := by decide +kernel
theorem dL_areBills_267 : decode cL_areBills 267 = .ok (.istore 8, 2) := by decide +kernel
theorem dL_areBills_269 : decode cL_areBills 269 = .ok (.lload 6, 2) := by decide +kernel
theorem dL_areBills_271 : decode cL_areBills 271 = .ok (.aload_n 0, 1) := by decide +kernel
theorem dL_areBills_272 : decode cL_areBills 272 = .ok (.iload 10, 2) := by decide +kernel
theorem dL_areBills_274 : decode cL_areBills 274 = .ok (.invokevirtual 106, 3) := by decide +kernel
theorem dL_areBills_277 : decode cL_areBills 277 = .ok (.lsub, 1) := by decide +kernel
theorem dL_areBills_278 : decode cL_areBills 278 = .ok (.lstore 6, 2) := by decide +kernel
theorem dL_areBills_280 : decode cL_areBills 280 = .ok (.iinc 10 1, 3) := by decide +kernel
theorem dL_areBills_283 : decode cL_areBills 283 = .ok (.goto (-57), 3) := by decide +kernel
theorem dL_areBills_286 : decode cL_areBills 286 = .ok (.iload 8, 2) := by decide +kernel
theorem dL_areBills_288 : decode cL_areBills 288 = .ok (.ifCond .eq 32, 3) := by decide +kernel
theorem dL_areBills_291 : decode cL_areBills 291 = .ok (.iload 9, 2) := by decide +kernel
theorem dL_areBills_293 : decode cL_areBills 293 = .ok (.i2l, 1) := by decide +kernel
theorem dL_areBills_294 : decode cL_areBills 294 = .ok (.lload 4, 2) := by decide +kernel
theorem dL_areBills_296 : decode cL_areBills 296 = .ok (.lcmp, 1) := by decide +kernel
theorem dL_areBills_297 : decode cL_areBills 297 = .ok (.ifCond .ne 23, 3) := by decide +kernel
theorem dL_areBills_300 : decode cL_areBills 300 = .ok (.lload 6, 2) := by decide +kernel
theorem dL_areBills_302 : decode cL_areBills 302 = .ok (.lload 4, 2) := by decide +kernel
theorem dL_areBills_304 : decode cL_areBills 304 = .ok (.lneg, 1) := by decide +kernel
theorem dL_areBills_305 : decode cL_areBills 305 = .ok (.lcmp, 1) := by decide +kernel
theorem dL_areBills_306 : decode cL_areBills 306 = .ok (.ifCond .ne 14, 3) := by decide +kernel
theorem dL_areBills_309 : decode cL_areBills 309 = .ok (.aload_n 0, 1) := by decide +kernel
theorem dL_areBills_310 : decode cL_areBills 310 = .ok (.invokevirtual 115, 3) := by decide +kernel
theorem dL_areBills_313 : decode cL_areBills 313 = .ok (.ifCond .ne 7, 3) := by decide +kernel
theorem dL_areBills_316 : decode cL_areBills 316 = .ok (.iconst 1, 1) := by decide +kernel
theorem dL_areBills_317 : decode cL_areBills 317 = .ok (.goto 4, 3) := by decide +kernel
theorem dL_areBills_320 : decode cL_areBills 320 = .ok (.iconst 0, 1) := by decide +kernel
theorem dL_areBills_321 : decode cL_areBills 321 = .ok (.ireturn, 1) := by decide +kernel
theorem dL_texts_0 : decode cL_texts 0 = .ok (.aload 4, 2) := by decide +kernel
theorem dL_texts_2 : decode cL_texts 2 = .ok (.iconst 0, 1) := by decide +kernel
theorem dL_texts_3 : decode cL_texts 3 = .ok (.iaload, 1) := by decide +kernel
theorem dL_texts_4 : decode cL_texts 4 = .ok (.istore 5, 2) := by decide +kernel
theorem dL_texts_6 : decode cL_texts 6 = .ok (.iload 5, 2) := by decide +kernel
theorem dL_texts_8 : decode cL_texts 8 = .ok (.invokestatic 47, 3) := by decide +kernel
theorem dL_texts_11 : decode cL_texts 11 = .ok (.istore 6, 2) := by decide +kernel
theorem dL_texts_13 : decode cL_texts 13 = .ok (.iload_n 2, 1) := by decide +kernel
theorem dL_texts_14 : decode cL_texts 14 = .ok (.iconst 4, 1) := by decide +kernel
theorem dL_texts_15 : decode cL_texts 15 = .ok (.irem, 1) := by decide +kernel
theorem dL_texts_16 : decode cL_texts 16 = .ok (.ifCond .ne 12, 3) := by decide +kernel
theorem dL_texts_19 : decode cL_texts 19 = .ok (.iload_n 2, 1) := by decide +kernel
theorem dL_texts_20 : decode cL_texts 20 = .ok (.iconst 4, 1) := by decide +kernel
theorem dL_texts_21 : decode cL_texts 21 = .ok (.idiv, 1) := by decide +kernel
theorem dL_texts_22 : decode cL_texts 22 = .ok (.bipush 15, 2) := by decide +kernel
theorem dL_texts_24 : decode cL_texts 24 = .ok (.irem, 1) := by decide +kernel
theorem dL_texts_25 : decode cL_texts 25 = .ok (.goto 8, 3) := by decide +kernel
theorem dL_texts_28 : decode cL_texts 28 = .ok (.iload_n 2, 1) := by decide +kernel
theorem dL_texts_29 : decode cL_texts 29 = .ok (.iconst 4, 1) := by decide +kernel
theorem dL_texts_30 : decode cL_texts 30 = .ok (.idiv, 1) := by decide +kernel
theorem dL_texts_31 : decode cL_texts 31 = .ok (.iconst 3, 1) := by decide +kernel
theorem dL_texts_32 : decode cL_texts 32 = .ok (.irem, 1) := by decide +kernel
theorem dL_texts_33 : decode cL_texts 33 = .ok (.istore 7, 2) := by decide +kernel
theorem dL_texts_35 : decode cL_texts 35 = .ok (.iload_n 1, 1) := by decide +kernel
theorem dL_texts_36 : decode cL_texts 36 = .ok (.ifCond .ne 98, 3) := by decide +kernel
theorem dL_texts_39 : decode cL_texts 39 = .ok (.iload 6, 2) := by decide +kernel
theorem dL_texts_41 : decode cL_texts 41 = .ok (.bipush 6, 2) := by decide +kernel
theorem dL_texts_43 : decode cL_texts 43 = .ok (.if_icmp .ge 7, 3) := by decide +kernel
theorem dL_texts_46 : decode cL_texts 46 = .ok (.iconst 1, 1) := by decide +kernel
theorem dL_texts_47 : decode cL_texts 47 = .ok (.goto 4, 3) := by decide +kernel
theorem dL_texts_50 : decode cL_texts 50 = .ok (.iconst 0, 1) := by decide +kernel
theorem dL_texts_51 : decode cL_texts 51 = .ok (.istore 8, 2) := by decide +kernel
theorem dL_texts_53 : decode cL_texts 53 = .ok (.aload 4, 2) := by decide +kernel
theorem dL_texts_55 : decode cL_texts 55 = .ok (.iconst 0, 1) := by decide +kernel
theorem dL_texts_56 : decode cL_texts 56 = .ok (.iload 8, 2) := by decide +kernel
theorem dL_texts_58 : decode cL_texts 58 = .ok (.ifCond .eq 19, 3) := by decide +kernel
theorem dL_texts_61 : decode cL_texts 61 = .ok (.iload 5, 2) := by decide +kernel
theorem dL_texts_63 : decode cL_texts 63 = .ok (.ldc 118, 2) := by decide +kernel
theorem dL_texts_65 : decode cL_texts 65 = .ok (.iadd, 1) := by decide +kernel
theorem dL_texts_66 : decode cL_texts 66 = .ok (.iload 7, 2) := by decide +kernel
theorem dL_texts_68 : decode cL_texts 68 = .ok (.iconst 4, 1) := by decide +kernel
theorem dL_texts_69 : decode cL_texts 69 = .ok (.iload 6, 2) := by decide +kernel
theorem dL_texts_71 : decode cL_texts 71 = .ok (.imul, 1) := by decide +kernel
theorem dL_texts_72 : decode cL_texts 72 = .ok (.ishl, 1) := by decide +kernel
theorem dL_texts_73 : decode cL_texts 73 = .ok (.ior, 1) := by decide +kernel
theorem dL_texts_74 : decode cL_texts 74 = .ok (.goto 5, 3) := by decide +kernel
theorem dL_texts_77 : decode cL_texts 77 = .ok (.iload 5, 2) := by decide +kernel
theorem dL_texts_79 : decode cL_texts 79 = .ok (.iastore, 1) := by decide +kernel
theorem dL_texts_80 : decode cL_texts 80 = .ok (.aload_n 0, 1) := by decide +kernel
theorem dL_texts_81 : decode cL_texts 81 = .ok (.iconst 0, 1) := by decide +kernel
theorem dL_texts_82 : decode cL_texts 82 = .ok (.iload 7, 2) := by decide +kernel
theorem dL_texts_84 : decode cL_texts 84 = .ok (.iconst 0, 1) := by decide +kernel
theorem dL_texts_85 : decode cL_texts 85 = .ok (.invokestatic 89, 3) := by decide +kernel
theorem dL_texts_88 : decode cL_texts 88 = .ok (.istore 9, 2) := by decide +kernel
theorem dL_texts_90 : decode cL_texts 90 = .ok (.iload 8, 2) := by decide +kernel
theorem dL_texts_92 : decode cL_texts 92 = .ok (.ifCond .eq 29, 3) := by decide +kernel
theorem dL_texts_95 : decode cL_texts 95 = .ok (.iload 9, 2) := by decide +kernel
theorem dL_texts_97 : decode cL_texts 97 = .ok (.iload 6, 2) := by decide +kernel
theorem dL_texts_99 : decode cL_texts 99 = .ok (.if_icmp .le 18, 3) := by decide +kernel
theorem dL_texts_102 : decode cL_texts 102 = .ok (.iload 9, 2) := by decide +kernel
theorem dL_texts_104 : decode cL_texts 104 = .ok (.iconst 2, 1) := by decide +kernel
theorem dL_texts_105 : decode cL_texts 105 = .ok (.iload 6, 2) := by decide +kernel
theorem dL_texts_107 : decode cL_texts 107 = .ok (.imul, 1) := by decide +kernel
theorem dL_texts_108 : decode cL_texts 108 = .ok (.iconst 2, 1) := by decide +kernel
theorem dL_texts_109 : decode cL_texts 109 = .ok (.iadd, 1) := by decide +kernel
theorem dL_texts_110 : decode cL_texts 110 = .ok (.if_icmp .gt 7, 3) := by decide +kernel
theorem dL_texts_113 : decode cL_texts 113 = .ok (.iconst 1, 1) := by decide +kernel
theorem dL_texts_114 : decode cL_texts 114 = .ok (.goto 19, 3) := by decide +kernel
theorem dL_texts_117 : decode cL_texts 117 = .ok (.iconst 0, 1) := by decide +kernel
theorem dL_texts_118 : decode cL_texts 118 = .ok (.goto 15, 3) := by decide +kernel
theorem dL_texts_121 : decode cL_texts 121 = .ok (.iload 9, 2) := by decide +kernel
theorem dL_texts_123 : decode cL_texts 123 = .ok (.bipush (-108), 2) := by decide +kernel
theorem dL_texts_125 : decode cL_texts 125 = .ok (.if_icmp .ne 7, 3) := by decide +kernel
theorem dL_texts_128 : decode cL_texts 128 = .ok (.iconst 1, 1) := by decide +kernel
theorem dL_texts_129 : decode cL_texts 129 = .ok (.goto 4, 3) := by decide +kernel
theorem dL_texts_132 : decode cL_texts 132 = .ok (.iconst 0, 1) := by decide +kernel
theorem dL_texts_133 : decode cL_texts 133 = .ok (.ireturn, 1) := by decide +kernel
theorem dL_texts_134 : decode cL_texts 134 = .ok (.iload_n 1, 1) := by decide +kernel
theorem dL_texts_135 : decode cL_texts 135 = .ok (.iconst 1, 1) := by decide +kernel
theorem dL_texts_136 : decode cL_texts 136 = .ok (.if_icmp .ne 150, 3) := by decide +kernel
theorem dL_texts_139 : decode cL_texts 139 = .ok (.iload_n 3, 1) := by decide +kernel
theorem dL_texts_140 : decode cL_texts 140 = .ok (.iload 6, 2) := by decide +kernel
theorem dL_texts_142 : decode cL_texts 142 = .ok (.iconst 1, 1) := by decide +kernel
theorem dL_texts_143 : decode cL_texts 143 = .ok (.iadd, 1) := by decide +kernel
theorem dL_texts_144 : decode cL_texts 144 = .ok (.irem, 1) := by decide +kernel
theorem dL_texts_145 : decode cL_texts 145 = .ok (.istore 8, 2) := by decide +kernel
theorem dL_texts_147 : decode cL_texts 147 = .ok (.iload 6, 2) := by decide +kernel
theorem dL_texts_149 : decode cL_texts 149 = .ok (.bipush 6, 2) := by decide +kernel
theorem dL_texts_151 : decode cL_texts 151 = .ok (.if_icmp .ge 14, 3) := by decide +kernel
theorem dL_texts_154 : decode cL_texts 154 = .ok (.iload 8, 2) := by decide +kernel
theorem dL_texts_156 : decode cL_texts 156 = .ok (.iload 6, 2) := by decide +kernel
theorem dL_texts_158 : decode cL_texts 158 = .ok (.if_icmp .ge 7, 3) := by decide +kernel
theorem dL_texts_161 : decode cL_texts 161 = .ok (.iconst 1, 1) := by decide +kernel
theorem dL_texts_162 : decode cL_texts 162 = .ok (.goto 4, 3) := by decide +kernel
theorem dL_texts_165 : decode cL_texts 165 = .ok (.iconst 0, 1) := by decide +kernel
theorem dL_texts_166 : decode cL_texts 166 = .ok (.istore 9, 2) := by decide +kernel
theorem dL_texts_168 : decode cL_texts 168 = .ok (.aload_n 0, 1) := by decide +kernel
theorem dL_texts_169 : decode cL_texts 169 = .ok (.iconst 4, 1) := by decide +kernel
theorem dL_texts_170 : decode cL_texts 170 = .ok (.iload 7, 2) := by decide +kernel
theorem dL_texts_172 : decode cL_texts 172 = .ok (.iload 8, 2) := by decide +kernel
theorem dL_texts_174 : decode cL_texts 174 = .ok (.invokestatic 89, 3) := by decide +kernel
theorem dL_texts_177 : decode cL_texts 177 = .ok (.istore 10, 2) := by decide +kernel
theorem dL_texts_179 : decode cL_texts 179 = .ok (.iload 9, 2) := by decide +kernel
theorem dL_texts_181 : decode cL_texts 181 = .ok (.ifCond .eq 60, 3) := by decide +kernel
theorem dL_texts_184 : decode cL_texts 184 = .ok (.iload 5, 2) := by decide +kernel
theorem dL_texts_186 : decode cL_texts 186 = .ok (.iconst 1, 1) := by decide +kernel
theorem dL_texts_187 : decode cL_texts 187 = .ok (.iconst 4, 1) := by decide +kernel
theorem dL_texts_188 : decode cL_texts 188 = .ok (.iload 8, 2) := by decide +kernel
theorem dL_texts_190 : decode cL_texts 190 = .ok (.imul, 1) := by decide +kernel
theorem dL_texts_191 : decode cL_texts 191 = .ok (.ishl, 1) := by decide +kernel
theorem dL_texts_192 : decode cL_texts 192 = .ok (.iconst 1, 1) := by decide +kernel
theorem dL_texts_193 : decode cL_texts 193 = .ok (.isub, 1) := by decide +kernel
theorem dL_texts_194 : decode cL_texts 194 = .ok (.iand, 1) := by decide +kernel
theorem dL_texts_195 : decode cL_texts 195 = .ok (.istore 11, 2) := by decide +kernel
theorem dL_texts_197 : decode cL_texts 197 = .ok (.iload 5, 2) := by decide +kernel
theorem dL_texts_199 : decode cL_texts 199 = .ok (.ldc 119, 2) := by decide +kernel
theorem dL_texts_201 : decode cL_texts 201 = .ok (.iand, 1) := by decide +kernel
theorem dL_texts_202 : decode cL_texts 202 = .ok (.iconst 4, 1) := by decide +kernel
theorem dL_texts_203 : decode cL_texts 203 = .ok (.iload 8, 2) := by decide +kernel
theorem dL_texts_205 : decode cL_texts 205 = .ok (.imul, 1) := by decide +kernel
theorem dL_texts_206 : decode cL_texts 206 = .ok (.ishr, 1) := by decide +kernel
theorem dL_texts_207 : decode cL_texts 207 = .ok (.istore 12, 2) := by decide +kernel
theorem dL_texts_209 : decode cL_texts 209 = .ok (.aload 4, 2) := by decide +kernel
theorem dL_texts_211 : decode cL_texts 211 = .ok (.iconst 0, 1) := by decide +kernel
theorem dL_texts_212 : decode cL_texts 212 = .ok (.iload 11, 2) := by decide +kernel
theorem dL_texts_214 : decode cL_texts 214 = .ok (.iload 7, 2) := by decide +kernel
theorem dL_texts_216 : decode cL_texts 216 = .ok (.iconst 4, 1) := by decide +kernel
theorem dL_texts_217 : decode cL_texts 217 = .ok (.iload 8, 2) := by decide +kernel
theorem dL_texts_219 : decode cL_texts 219 = .ok (.imul, 1) := by decide +kernel
theorem dL_texts_220 : decode cL_texts 220 = .ok (.ishl, 1) := by decide +kernel
theorem dL_texts_221 : decode cL_texts 221 = .ok (.ior, 1) := by decide +kernel
theorem dL_texts_222 : decode cL_texts 222 = .ok (.iload 12, 2) := by decide +kernel
theorem dL_texts_224 : decode cL_texts 224 = .ok (.iconst 4, 1) := by decide +kernel
theorem dL_texts_225 : decode cL_texts 225 = .ok (.iload 8, 2) := by decide +kernel
theorem dL_texts_227 : decode cL_texts 227 = .ok (.imul, 1) := by decide +kernel
theorem dL_texts_228 : decode cL_texts 228 = .ok (.iconst 4, 1) := by decide +kernel
theorem dL_texts_229 : decode cL_texts 229 = .ok (.iadd, 1) := by decide +kernel
theorem dL_texts_230 : decode cL_texts 230 = .ok (.ishl, 1) := by decide +kernel
theorem dL_texts_231 : decode cL_texts 231 = .ok (.ior, 1) := by decide +kernel
theorem dL_texts_232 : decode cL_texts 232 = .ok (.iload 6, 2) := by decide +kernel
theorem dL_texts_234 : decode cL_texts 234 = .ok (.iconst 1, 1) := by decide +kernel
theorem dL_texts_235 : decode cL_texts 235 = .ok (.iadd, 1) := by decide +kernel
theorem dL_texts_236 : decode cL_texts 236 = .ok (.bipush 24, 2) := by decide +kernel
theorem dL_texts_238 : decode cL_texts 238 = .ok (.ishl, 1) := by decide +kernel
theorem dL_texts_239 : decode cL_texts 239 = .ok (.ior, 1) := by decide +kernel
theorem dL_texts_240 : decode cL_texts 240 = .ok (.iastore, 1) := by decide +kernel
theorem dL_texts_241 : decode cL_texts 241 = .ok (.iload 9, 2) := by decide +kernel
theorem dL_texts_243 : decode cL_texts 243 = .ok (.ifCond .eq 18, 3) := by decide +kernel
theorem dL_texts_246 : decode cL_texts 246 = .ok (.iload 10, 2) := by decide +kernel
theorem dL_texts_248 : decode cL_texts 248 = .ok (.iload 6, 2) := by decide +kernel
theorem dL_texts_250 : decode cL_texts 250 = .ok (.if_icmp .le 7, 3) := by decide +kernel
theorem dL_texts_253 : decode cL_texts 253 = .ok (.iconst 1, 1) := by decide +kernel
theorem dL_texts_254 : decode cL_texts 254 = .ok (.goto 31, 3) := by decide +kernel
theorem dL_texts_257 : decode cL_texts 257 = .ok (.iconst 0, 1) := by decide +kernel
theorem dL_texts_258 : decode cL_texts 258 = .ok (.goto 27, 3) := by decide +kernel
theorem dL_texts_261 : decode cL_texts 261 = .ok (.iload 10, 2) := by decide +kernel
theorem dL_texts_263 : decode cL_texts 263 = .ok (.iload 8, 2) := by decide +kernel
theorem dL_texts_265 : decode cL_texts 265 = .ok (.iload 6, 2) := by decide +kernel
theorem dL_texts_267 : decode cL_texts 267 = .ok (.if_icmp .ne 8, 3) := by decide +kernel
theorem dL_texts_270 : decode cL_texts 270 = .ok (.bipush (-109), 2) := by decide +kernel
theorem dL_texts_272 : decode cL_texts 272 = .ok (.goto 5, 3) := by decide +kernel
theorem dL_texts_275 : decode cL_texts 275 = .ok (.bipush (-108), 2) := by decide +kernel
theorem dL_texts_277 : decode cL_texts 277 = .ok (.if_icmp .ne 7, 3) := by decide +kernel
theorem dL_texts_280 : decode cL_texts 280 = .ok (.iconst 1, 1) := by decide +kernel
theorem dL_texts_281 : decode cL_texts 281 = .ok (.goto 4, 3) := by decide +kernel
theorem dL_texts_284 : decode cL_texts 284 = .ok (.iconst 0, 1) := by decide +kernel
theorem dL_texts_285 : decode cL_texts 285 = .ok (.ireturn, 1) := by decide +kernel
theorem dL_texts_286 : decode cL_texts 286 = .ok (.iload_n 1, 1) := by decide +kernel
theorem dL_texts_287 : decode cL_texts 287 = .ok (.iconst 2, 1) := by decide +kernel
theorem dL_texts_288 : decode cL_texts 288 = .ok (.if_icmp .ne 71, 3) := by decide +kernel
theorem dL_texts_291 : decode cL_texts 291 = .ok (.iconst 0, 1) := by decide +kernel
theorem dL_texts_292 : decode cL_texts 292 = .ok (.istore 8, 2) := by decide +kernel
theorem dL_texts_294 : decode cL_texts 294 = .ok (.iconst 0, 1) := by decide +kernel
theorem dL_texts_295 : decode cL_texts 295 = .ok (.istore 9, 2) := by decide +kernel
theorem dL_texts_297 : decode cL_texts 297 = .ok (.iload 9, 2) := by decide +kernel
theorem dL_texts_299 : decode cL_texts 299 = .ok (.iload 6, 2) := by decide +kernel
theorem dL_texts_301 : decode cL_texts 301 = .ok (.if_icmp .ge 31, 3) := by decide +kernel
theorem dL_texts_304 : decode cL_texts 304 = .ok (.iload 8, 2) := by decide +kernel
theorem dL_texts_306 : decode cL_texts 306 = .ok (.iload 5, 2) := by decide +kernel
theorem dL_texts_308 : decode cL_texts 308 = .ok (.iload 9, 2) := by decide +kernel
theorem dL_texts_310 : decode cL_texts 310 = .ok (.invokestatic 50, 3) := by decide +kernel
theorem dL_texts_313 : decode cL_texts 313 = .ok (.iconst 4, 1) := by decide +kernel
theorem dL_texts_314 : decode cL_texts 314 = .ok (.iload 6, 2) := by decide +kernel
theorem dL_texts_316 : decode cL_texts 316 = .ok (.iconst 1, 1) := by decide +kernel
theorem dL_texts_317 : decode cL_texts 317 = .ok (.isub, 1) := by decide +kernel
theorem dL_texts_318 : decode cL_texts 318 = .ok (.iload 9, 2) := by decide +kernel
theorem dL_texts_320 : decode cL_texts 320 = .ok (.isub, 1) := by decide +kernel
theorem dL_texts_321 : decode cL_texts 321 = .ok (.imul, 1) := by decide +kernel
theorem dL_texts_322 : decode cL_texts 322 = .ok (.ishl, 1) := by decide +kernel
theorem dL_texts_323 : decode cL_texts 323 = .ok (.ior, 1) := by decide +kernel
theorem dL_texts_324 : decode cL_texts 324 = .ok (.istore 8, 2) := by decide +kernel
theorem dL_texts_326 : decode cL_texts 326 = .ok (.iinc 9 1, 3) := by decide +kernel
theorem dL_texts_329 : decode cL_texts 329 = .ok (.goto (-32), 3) := by decide +kernel
theorem dL_texts_332 : decode cL_texts 332 = .ok (.aload 4, 2) := by decide +kernel
theorem dL_texts_334 : decode cL_texts 334 = .ok (.iconst 0, 1) := by decide +kernel
theorem dL_texts_335 : decode cL_texts 335 = .ok (.iload 8, 2) := by decide +kernel
theorem dL_texts_337 : decode cL_texts 337 = .ok (.iload 6, 2) := by decide +kernel
theorem dL_texts_339 : decode cL_texts 339 = .ok (.bipush 24, 2) := by decide +kernel
theorem dL_texts_341 : decode cL_texts 341 = .ok (.ishl, 1) := by decide +kernel
theorem dL_texts_342 : decode cL_texts 342 = .ok (.ior, 1) := by decide +kernel
theorem dL_texts_343 : decode cL_texts 343 = .ok (.iastore, 1) := by decide +kernel
theorem dL_texts_344 : decode cL_texts 344 = .ok (.aload_n 0, 1) := by decide +kernel
theorem dL_texts_345 : decode cL_texts 345 = .ok (.invokevirtual 120, 3) := by decide +kernel
theorem dL_texts_348 : decode cL_texts 348 = .ok (.iload 6, 2) := by decide +kernel
theorem dL_texts_350 : decode cL_texts 350 = .ok (.if_icmp .ne 7, 3) := by decide +kernel
theorem dL_texts_353 : decode cL_texts 353 = .ok (.iconst 1, 1) := by decide +kernel
theorem dL_texts_354 : decode cL_texts 354 = .ok (.goto 4, 3) := by decide +kernel
theorem dL_texts_357 : decode cL_texts 357 = .ok (.iconst 0, 1) := by decide +kernel
theorem dL_texts_358 : decode cL_texts 358 = .ok (.ireturn, 1) := by decide +kernel
theorem dL_texts_359 : decode cL_texts 359 = .ok (.aload 4, 2) := by decide +kernel
theorem dL_texts_361 : decode cL_texts 361 = .ok (.iconst 0, 1) := by decide +kernel
theorem dL_texts_362 : decode cL_texts 362 = .ok (.iconst 0, 1) := by decide +kernel
theorem dL_texts_363 : decode cL_texts 363 = .ok (.iastore, 1) := by decide +kernel
theorem dL_texts_364 : decode cL_texts 364 = .ok (.aload_n 0, 1) := by decide +kernel
theorem dL_texts_365 : decode cL_texts 365 = .ok (.invokevirtual 123, 3) := by decide +kernel
theorem dL_texts_368 : decode cL_texts 368 = .ok (.iload 6, 2) := by decide +kernel
theorem dL_texts_370 : decode cL_texts 370 = .ok (.if_icmp .ne 7, 3) := by decide +kernel
theorem dL_texts_373 : decode cL_texts 373 = .ok (.iconst 1, 1) := by decide +kernel
theorem dL_texts_374 : decode cL_texts 374 = .ok (.goto 4, 3) := by decide +kernel
theorem dL_texts_377 : decode cL_texts 377 = .ok (.iconst 0, 1) := by decide +kernel
theorem dL_texts_378 : decode cL_texts 378 = .ok (.ireturn, 1) := by decide +kernel
theorem dL_plates_0 : decode cL_plates 0 = .ok (.iload_n 1, 1) := by decide +kernel
theorem dL_plates_1 : decode cL_plates 1 = .ok (.ifCond .ne 244, 3) := by decide +kernel
theorem dL_plates_4 : decode cL_plates 4 = .ok (.aload 4, 2) := by decide +kernel
theorem dL_plates_6 : decode cL_plates 6 = .ok (.iconst 0, 1) := by decide +kernel
theorem dL_plates_7 : decode cL_plates 7 = .ok (.iaload, 1) := by decide +kernel
theorem dL_plates_8 : decode cL_plates 8 = .ok (.invokestatic 47, 3) := by decide +kernel
theorem dL_plates_11 : decode cL_plates 11 = .ok (.ifCond .le 16, 3) := by decide +kernel
theorem dL_plates_14 : decode cL_plates 14 = .ok (.aload 6, 2) := by decide +kernel
theorem dL_plates_16 : decode cL_plates 16 = .ok (.iconst 2, 1) := by decide +kernel
theorem dL_plates_17 : decode cL_plates 17 = .ok (.iaload, 1) := by decide +kernel
theorem dL_plates_18 : decode cL_plates 18 = .ok (.bipush 10, 2) := by decide +kernel
theorem dL_plates_20 : decode cL_plates 20 = .ok (.if_icmp .ge 7, 3) := by decide +kernel
theorem dL_plates_23 : decode cL_plates 23 = .ok (.iconst 1, 1) := by decide +kernel
theorem dL_plates_24 : decode cL_plates 24 = .ok (.goto 4, 3) := by decide +kernel
theorem dL_plates_27 : decode cL_plates 27 = .ok (.iconst 0, 1) := by decide +kernel
theorem dL_plates_28 : decode cL_plates 28 = .ok (.istore 7, 2) := by decide +kernel
theorem dL_plates_30 : decode cL_plates 30 = .ok (.iconst 0, 1) := by decide +kernel
theorem dL_plates_31 : decode cL_plates 31 = .ok (.istore 8, 2) := by decide +kernel
theorem dL_plates_33 : decode cL_plates 33 = .ok (.iload 8, 2) := by decide +kernel
theorem dL_plates_35 : decode cL_plates 35 = .ok (.aload 4, 2) := by decide +kernel
theorem dL_plates_37 : decode cL_plates 37 = .ok (.iconst 0, 1) := by decide +kernel
theorem dL_plates_38 : decode cL_plates 38 = .ok (.iaload, 1) := by decide +kernel
theorem dL_plates_39 : decode cL_plates 39 = .ok (.invokestatic 47, 3) := by decide +kernel
theorem dL_plates_42 : decode cL_plates 42 = .ok (.if_icmp .ge 35, 3) := by decide +kernel
theorem dL_plates_45 : decode cL_plates 45 = .ok (.iload 7, 2) := by decide +kernel
theorem dL_plates_47 : decode cL_plates 47 = .ok (.ifCond .eq 21, 3) := by decide +kernel
theorem dL_plates_50 : decode cL_plates 50 = .ok (.aload 4, 2) := by decide +kernel
theorem dL_plates_52 : decode cL_plates 52 = .ok (.iconst 0, 1) := by decide +kernel
theorem dL_plates_53 : decode cL_plates 53 = .ok (.iaload, 1) := by decide +kernel
theorem dL_plates_54 : decode cL_plates 54 = .ok (.iload 8, 2) := by decide +kernel
theorem dL_plates_56 : decode cL_plates 56 = .ok (.invokestatic 50, 3) := by decide +kernel
theorem dL_plates_59 : decode cL_plates 59 = .ok (.bipush 14, 2) := by decide +kernel
theorem dL_plates_61 : decode cL_plates 61 = .ok (.if_icmp .eq 7, 3) := by decide +kernel
theorem dL_plates_64 : decode cL_plates 64 = .ok (.iconst 1, 1) := by decide +kernel
theorem dL_plates_65 : decode cL_plates 65 = .ok (.goto 4, 3) := by decide +kernel
theorem dL_plates_68 : decode cL_plates 68 = .ok (.iconst 0, 1) := by decide +kernel
theorem dL_plates_69 : decode cL_plates 69 = .ok (.istore 7, 2) := by decide +kernel
theorem dL_plates_71 : decode cL_plates 71 = .ok (.iinc 8 1, 3) := by decide +kernel
theorem dL_plates_74 : decode cL_plates 74 = .ok (.goto (-41), 3) := by decide +kernel
theorem dL_plates_77 : decode cL_plates 77 = .ok (.iconst 1, 1) := by decide +kernel
theorem dL_plates_78 : decode cL_plates 78 = .ok (.istore 8, 2) := by decide +kernel
theorem dL_plates_80 : decode cL_plates 80 = .ok (.iload 8, 2) := by decide +kernel
theorem dL_plates_82 : decode cL_plates 82 = .ok (.aload 6, 2) := by decide +kernel
theorem dL_plates_84 : decode cL_plates 84 = .ok (.iconst 2, 1) := by decide +kernel
theorem dL_plates_85 : decode cL_plates 85 = .ok (.iaload, 1) := by decide +kernel
theorem dL_plates_86 : decode cL_plates 86 = .ok (.if_icmp .gt 33, 3) := by decide +kernel
theorem dL_plates_89 : decode cL_plates 89 = .ok (.iload 7, 2) := by decide +kernel
theorem dL_plates_91 : decode cL_plates 91 = .ok (.ifCond .eq 19, 3) := by decide +kernel
theorem dL_plates_94 : decode cL_plates 94 = .ok (.aload 4, 2) := by decide +kernel
theorem dL_plates_96 : decode cL_plates 96 = .ok (.iload 8, 2) := by decide +kernel
theorem dL_plates_98 : decode cL_plates 98 = .ok (.iaload, 1) := by decide +kernel
theorem dL_plates_99 : decode cL_plates 99 = .ok (.aload 4, 2) := by decide +kernel
theorem dL_plates_101 : decode cL_plates 101 = .ok (.iconst 0, 1) := by decide +kernel
theorem dL_plates_102 : decode cL_plates 102 = .ok (.iaload, 1) := by decide +kernel
theorem dL_plates_103 : decode cL_plates 103 = .ok (.if_icmp .eq 7, 3) := by decide +kernel
theorem dL_plates_106 : decode cL_plates 106 = .ok (.iconst 1, 1) := by decide +kernel
theorem dL_plates_107 : decode cL_plates 107 = .ok (.goto 4, 3) := by decide +kernel
theorem dL_plates_110 : decode cL_plates 110 = .ok (.iconst 0, 1) := by decide +kernel
theorem dL_plates_111 : decode cL_plates 111 = .ok (.istore 7, 2) := by decide +kernel
theorem dL_plates_113 : decode cL_plates 113 = .ok (.iinc 8 1, 3) := by decide +kernel
theorem dL_plates_116 : decode cL_plates 116 = .ok (.goto (-36), 3) := by decide +kernel
theorem dL_plates_119 : decode cL_plates 119 = .ok (.iload 7, 2) := by decide +kernel
theorem dL_plates_121 : decode cL_plates 121 = .ok (.ifCond .eq 34, 3) := by decide +kernel
theorem dL_plates_124 : decode cL_plates 124 = .ok (.aload 5, 2) := by decide +kernel
theorem dL_plates_126 : decode cL_plates 126 = .ok (.aload 6, 2) := by decide +kernel
theorem dL_plates_128 : decode cL_plates 128 = .ok (.iconst 2, 1) := by decide +kernel
theorem dL_plates_129 : decode cL_plates 129 = .ok (.iaload, 1) := by decide +kernel
theorem dL_plates_130 : decode cL_plates 130 = .ok (.iload_n 3, 1) := by decide +kernel
theorem dL_plates_131 : decode cL_plates 131 = .ok (.iconst 4, 1) := by decide +kernel
theorem dL_plates_132 : decode cL_plates 132 = .ok (.irem, 1) := by decide +kernel
theorem dL_plates_133 : decode cL_plates 133 = .ok (.iastore, 1) := by decide +kernel
theorem dL_plates_134 : decode cL_plates 134 = .ok (.aload 4, 2) := by decide +kernel
theorem dL_plates_136 : decode cL_plates 136 = .ok (.iconst 1, 1) := by decide +kernel
theorem dL_plates_137 : decode cL_plates 137 = .ok (.aload 6, 2) := by decide +kernel
theorem dL_plates_139 : decode cL_plates 139 = .ok (.iconst 2, 1) := by decide +kernel
theorem dL_plates_140 : decode cL_plates 140 = .ok (.iaload, 1) := by decide +kernel
theorem dL_plates_141 : decode cL_plates 141 = .ok (.iadd, 1) := by decide +kernel
theorem dL_plates_142 : decode cL_plates 142 = .ok (.aload 4, 2) := by decide +kernel
theorem dL_plates_144 : decode cL_plates 144 = .ok (.iconst 0, 1) := by decide +kernel
theorem dL_plates_145 : decode cL_plates 145 = .ok (.iaload, 1) := by decide +kernel
theorem dL_plates_146 : decode cL_plates 146 = .ok (.iastore, 1) := by decide +kernel
theorem dL_plates_147 : decode cL_plates 147 = .ok (.aload 6, 2) := by decide +kernel
theorem dL_plates_149 : decode cL_plates 149 = .ok (.iconst 2, 1) := by decide +kernel
theorem dL_plates_150 : decode cL_plates 150 = .ok (.dup2, 1) := by decide +kernel
theorem dL_plates_151 : decode cL_plates 151 = .ok (.iaload, 1) := by decide +kernel
theorem dL_plates_152 : decode cL_plates 152 = .ok (.iconst 1, 1) := by decide +kernel
theorem dL_plates_153 : decode cL_plates 153 = .ok (.iadd, 1) := by decide +kernel
theorem dL_plates_154 : decode cL_plates 154 = .ok (.iastore, 1) := by decide +kernel
theorem dL_plates_155 : decode cL_plates 155 = .ok (.aload_n 0, 1) := by decide +kernel
theorem dL_plates_156 : decode cL_plates 156 = .ok (.iconst 1, 1) := by decide +kernel
theorem dL_plates_157 : decode cL_plates 157 = .ok (.iload_n 2, 1) := by decide +kernel
theorem dL_plates_158 : decode cL_plates 158 = .ok (.bipush 6, 2) := by decide +kernel
theorem dL_plates_160 : decode cL_plates 160 = .ok (.irem, 1) := by decide +kernel
theorem dL_plates_161 : decode cL_plates 161 = .ok (.iload_n 3, 1) := by decide +kernel
theorem dL_plates_162 : decode cL_plates 162 = .ok (.iconst 4, 1) := by decide +kernel
theorem dL_plates_163 : decode cL_plates 163 = .ok (.irem, 1) := by decide +kernel
theorem dL_plates_164 : decode cL_plates 164 = .ok (.invokestatic 89, 3) := by decide +kernel
theorem dL_plates_167 : decode cL_plates 167 = .ok (.iload 7, 2) := by decide +kernel
theorem dL_plates_169 : decode cL_plates 169 = .ok (.ifCond .eq 12, 3) := by decide +kernel
theorem dL_plates_172 : decode cL_plates 172 = .ok (.aload 6, 2) := by decide +kernel
theorem dL_plates_174 : decode cL_plates 174 = .ok (.iconst 2, 1) := by decide +kernel
theorem dL_plates_175 : decode cL_plates 175 = .ok (.iaload, 1) := by decide +kernel
theorem dL_plates_176 : decode cL_plates 176 = .ok (.iconst 1, 1) := by decide +kernel
theorem dL_plates_177 : decode cL_plates 177 = .ok (.isub, 1) := by decide +kernel
theorem dL_plates_178 : decode cL_plates 178 = .ok (.goto 5, 3) := by decide +kernel
theorem dL_plates_181 : decode cL_plates 181 = .ok (.bipush (-108), 2) := by decide +kernel
theorem dL_plates_183 : decode cL_plates 183 = .ok (.if_icmp .ne 60, 3) := by decide +kernel
theorem dL_plates_186 : decode cL_plates 186 = .ok (.iload 7, 2) := by decide +kernel
theorem dL_plates_188 : decode cL_plates 188 = .ok (.ifCond .eq 51, 3) := by decide +kernel
theorem dL_plates_191 : decode cL_plates 191 = .ok (.aload_n 0, 1) := by decide +kernel
theorem dL_plates_192 : decode cL_plates 192 = .ok (.aload 6, 2) := by decide +kernel
theorem dL_plates_194 : decode cL_plates 194 = .ok (.iconst 2, 1) := by decide +kernel
theorem dL_plates_195 : decode cL_plates 195 = .ok (.iaload, 1) := by decide +kernel
theorem dL_plates_196 : decode cL_plates 196 = .ok (.iconst 1, 1) := by decide +kernel
theorem dL_plates_197 : decode cL_plates 197 = .ok (.isub, 1) := by decide +kernel
theorem dL_plates_198 : decode cL_plates 198 = .ok (.aload 6, 2) := by decide +kernel
theorem dL_plates_200 : decode cL_plates 200 = .ok (.iconst 0, 1) := by decide +kernel
theorem dL_plates_201 : decode cL_plates 201 = .ok (.iaload, 1) := by decide +kernel
theorem dL_plates_202 : decode cL_plates 202 = .ok (.invokevirtual 99, 3) := by decide +kernel
theorem dL_plates_205 : decode cL_plates 205 = .ok (.iload_n 2, 1) := by decide +kernel
theorem dL_plates_206 : decode cL_plates 206 = .ok (.bipush 6, 2) := by decide +kernel
theorem dL_plates_208 : decode cL_plates 208 = .ok (.irem, 1) := by decide +kernel
theorem dL_plates_209 : decode cL_plates 209 = .ok (.if_icmp .ne 34, 3) := by decide +kernel
theorem dL_plates_212 : decode cL_plates 212 = .ok (.aload 6, 2) := by decide +kernel
theorem dL_plates_214 : decode cL_plates 214 = .ok (.iconst 0, 1) := by decide +kernel
theorem dL_plates_215 : decode cL_plates 215 = .ok (.iaload, 1) := by decide +kernel
theorem dL_plates_216 : decode cL_plates 216 = .ok (.ifCond .eq 23, 3) := by decide +kernel
theorem dL_plates_219 : decode cL_plates 219 = .ok (.aload_n 0, 1) := by decide +kernel
theorem dL_plates_220 : decode cL_plates 220 = .ok (.aload 6, 2) := by decide +kernel
theorem dL_plates_222 : decode cL_plates 222 = .ok (.iconst 2, 1) := by decide +kernel
theorem dL_plates_223 : decode cL_plates 223 = .ok (.iaload, 1) := by decide +kernel
theorem dL_plates_224 : decode cL_plates 224 = .ok (.iconst 1, 1) := by decide +kernel
