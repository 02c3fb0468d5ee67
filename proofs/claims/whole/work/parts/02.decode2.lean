theorem dX9_dueAnew_5 : decode cX9_dueAnew 5 = .ok (.istore_n 2, 1) := by decide +kernel
theorem dX9_dueAnew_6 : decode cX9_dueAnew 6 = .ok (.iconst 0, 1) := by decide +kernel
theorem dX9_dueAnew_7 : decode cX9_dueAnew 7 = .ok (.istore_n 3, 1) := by decide +kernel
theorem dX9_dueAnew_8 : decode cX9_dueAnew 8 = .ok (.iload_n 3, 1) := by decide +kernel
theorem dX9_dueAnew_9 : decode cX9_dueAnew 9 = .ok (.aload_n 0, 1) := by decide +kernel
theorem dX9_dueAnew_10 : decode cX9_dueAnew 10 = .ok (.getfield 79, 3) := by decide +kernel
theorem dX9_dueAnew_13 : decode cX9_dueAnew 13 = .ok (.if_icmp .ge 33, 3) := by decide +kernel
theorem dX9_dueAnew_16 : decode cX9_dueAnew 16 = .ok (.aload_n 0, 1) := by decide +kernel
theorem dX9_dueAnew_17 : decode cX9_dueAnew 17 = .ok (.getfield 36, 3) := by decide +kernel
theorem dX9_dueAnew_20 : decode cX9_dueAnew 20 = .ok (.iload_n 3, 1) := by decide +kernel
theorem dX9_dueAnew_21 : decode cX9_dueAnew 21 = .ok (.aaload, 1) := by decide +kernel
theorem dX9_dueAnew_22 : decode cX9_dueAnew 22 = .ok (.astore 4, 2) := by decide +kernel
theorem dX9_dueAnew_24 : decode cX9_dueAnew 24 = .ok (.iload_n 2, 1) := by decide +kernel
theorem dX9_dueAnew_25 : decode cX9_dueAnew 25 = .ok (.aload_n 0, 1) := by decide +kernel
theorem dX9_dueAnew_26 : decode cX9_dueAnew 26 = .ok (.aload 4, 2) := by decide +kernel
theorem dX9_dueAnew_28 : decode cX9_dueAnew 28 = .ok (.aload_n 0, 1) := by decide +kernel
theorem dX9_dueAnew_29 : decode cX9_dueAnew 29 = .ok (.aload 4, 2) := by decide +kernel
theorem dX9_dueAnew_31 : decode cX9_dueAnew 31 = .ok (.invokevirtual 281, 3) := by decide +kernel
theorem dX9_dueAnew_34 : decode cX9_dueAnew 34 = .ok (.iload_n 1, 1) := by decide +kernel
theorem dX9_dueAnew_35 : decode cX9_dueAnew 35 = .ok (.invokevirtual 306, 3) := by decide +kernel
theorem dX9_dueAnew_38 : decode cX9_dueAnew 38 = .ok (.iadd, 1) := by decide +kernel
theorem dX9_dueAnew_39 : decode cX9_dueAnew 39 = .ok (.istore_n 2, 1) := by decide +kernel
theorem dX9_dueAnew_40 : decode cX9_dueAnew 40 = .ok (.iinc 3 1, 3) := by decide +kernel
theorem dX9_dueAnew_43 : decode cX9_dueAnew 43 = .ok (.goto (-35), 3) := by decide +kernel
theorem dX9_dueAnew_46 : decode cX9_dueAnew 46 = .ok (.iload_n 2, 1) := by decide +kernel
theorem dX9_dueAnew_47 : decode cX9_dueAnew 47 = .ok (.ireturn, 1) := by decide +kernel
theorem dX9_settle_0 : decode cX9_settle 0 = .ok (.lconst 0, 1) := by decide +kernel
theorem dX9_settle_1 : decode cX9_settle 1 = .ok (.lstore_n 1, 1) := by decide +kernel
theorem dX9_settle_2 : decode cX9_settle 2 = .ok (.iconst 0, 1) := by decide +kernel
theorem dX9_settle_3 : decode cX9_settle 3 = .ok (.istore_n 3, 1) := by decide +kernel
theorem dX9_settle_4 : decode cX9_settle 4 = .ok (.iload_n 3, 1) := by decide +kernel
theorem dX9_settle_5 : decode cX9_settle 5 = .ok (.bipush 6, 2) := by decide +kernel
theorem dX9_settle_7 : decode cX9_settle 7 = .ok (.if_icmp .ge 68, 3) := by decide +kernel
theorem dX9_settle_10 : decode cX9_settle 10 = .ok (.aload_n 0, 1) := by decide +kernel
theorem dX9_settle_11 : decode cX9_settle 11 = .ok (.iload_n 3, 1) := by decide +kernel
theorem dX9_settle_12 : decode cX9_settle 12 = .ok (.invokevirtual 303, 3) := by decide +kernel
theorem dX9_settle_15 : decode cX9_settle 15 = .ok (.i2l, 1) := by decide +kernel
theorem dX9_settle_16 : decode cX9_settle 16 = .ok (.aload_n 0, 1) := by decide +kernel
theorem dX9_settle_17 : decode cX9_settle 17 = .ok (.getfield 61, 3) := by decide +kernel
theorem dX9_settle_20 : decode cX9_settle 20 = .ok (.iload_n 3, 1) := by decide +kernel
theorem dX9_settle_21 : decode cX9_settle 21 = .ok (.laload, 1) := by decide +kernel
theorem dX9_settle_22 : decode cX9_settle 22 = .ok (.aload_n 0, 1) := by decide +kernel
theorem dX9_settle_23 : decode cX9_settle 23 = .ok (.getfield 65, 3) := by decide +kernel
theorem dX9_settle_26 : decode cX9_settle 26 = .ok (.iload_n 3, 1) := by decide +kernel
theorem dX9_settle_27 : decode cX9_settle 27 = .ok (.laload, 1) := by decide +kernel
theorem dX9_settle_28 : decode cX9_settle 28 = .ok (.lsub, 1) := by decide +kernel
theorem dX9_settle_29 : decode cX9_settle 29 = .ok (.lsub, 1) := by decide +kernel
theorem dX9_settle_30 : decode cX9_settle 30 = .ok (.lstore 4, 2) := by decide +kernel
theorem dX9_settle_32 : decode cX9_settle 32 = .ok (.lload 4, 2) := by decide +kernel
theorem dX9_settle_34 : decode cX9_settle 34 = .ok (.lconst 0, 1) := by decide +kernel
theorem dX9_settle_35 : decode cX9_settle 35 = .ok (.lcmp, 1) := by decide +kernel
theorem dX9_settle_36 : decode cX9_settle 36 = .ok (.ifCond .lt 17, 3) := by decide +kernel
theorem dX9_settle_39 : decode cX9_settle 39 = .ok (.aload_n 0, 1) := by decide +kernel
theorem dX9_settle_40 : decode cX9_settle 40 = .ok (.getfield 61, 3) := by decide +kernel
theorem dX9_settle_43 : decode cX9_settle 43 = .ok (.iload_n 3, 1) := by decide +kernel
theorem dX9_settle_44 : decode cX9_settle 44 = .ok (.dup2, 1) := by decide +kernel
theorem dX9_settle_45 : decode cX9_settle 45 = .ok (.laload, 1) := by decide +kernel
theorem dX9_settle_46 : decode cX9_settle 46 = .ok (.lload 4, 2) := by decide +kernel
theorem dX9_settle_48 : decode cX9_settle 48 = .ok (.ladd, 1) := by decide +kernel
theorem dX9_settle_49 : decode cX9_settle 49 = .ok (.lastore, 1) := by decide +kernel
theorem dX9_settle_50 : decode cX9_settle 50 = .ok (.goto 19, 3) := by decide +kernel
theorem dX9_settle_53 : decode cX9_settle 53 = .ok (.aload_n 0, 1) := by decide +kernel
theorem dX9_settle_54 : decode cX9_settle 54 = .ok (.getfield 65, 3) := by decide +kernel
theorem dX9_settle_57 : decode cX9_settle 57 = .ok (.iload_n 3, 1) := by decide +kernel
theorem dX9_settle_58 : decode cX9_settle 58 = .ok (.dup2, 1) := by decide +kernel
theorem dX9_settle_59 : decode cX9_settle 59 = .ok (.laload, 1) := by decide +kernel
theorem dX9_settle_60 : decode cX9_settle 60 = .ok (.lload 4, 2) := by decide +kernel
theorem dX9_settle_62 : decode cX9_settle 62 = .ok (.lsub, 1) := by decide +kernel
theorem dX9_settle_63 : decode cX9_settle 63 = .ok (.lastore, 1) := by decide +kernel
theorem dX9_settle_64 : decode cX9_settle 64 = .ok (.lload_n 1, 1) := by decide +kernel
theorem dX9_settle_65 : decode cX9_settle 65 = .ok (.lload 4, 2) := by decide +kernel
theorem dX9_settle_67 : decode cX9_settle 67 = .ok (.lsub, 1) := by decide +kernel
theorem dX9_settle_68 : decode cX9_settle 68 = .ok (.lstore_n 1, 1) := by decide +kernel
theorem dX9_settle_69 : decode cX9_settle 69 = .ok (.iinc 3 1, 3) := by decide +kernel
theorem dX9_settle_72 : decode cX9_settle 72 = .ok (.goto (-68), 3) := by decide +kernel
theorem dX9_settle_75 : decode cX9_settle 75 = .ok (.lload_n 1, 1) := by decide +kernel
theorem dX9_settle_76 : decode cX9_settle 76 = .ok (.l2i, 1) := by decide +kernel
theorem dX9_settle_77 : decode cX9_settle 77 = .ok (.ireturn, 1) := by decide +kernel
theorem dX9_billed_0 : decode cX9_billed 0 = .ok (.iload_n 1, 1) := by decide +kernel
theorem dX9_billed_1 : decode cX9_billed 1 = .ok (.invokestatic 181, 3) := by decide +kernel
theorem dX9_billed_4 : decode cX9_billed 4 = .ok (.aload_n 0, 1) := by decide +kernel
theorem dX9_billed_5 : decode cX9_billed 5 = .ok (.getfield 61, 3) := by decide +kernel
theorem dX9_billed_8 : decode cX9_billed 8 = .ok (.iload_n 1, 1) := by decide +kernel
theorem dX9_billed_9 : decode cX9_billed 9 = .ok (.laload, 1) := by decide +kernel
theorem dX9_billed_10 : decode cX9_billed 10 = .ok (.lreturn, 1) := by decide +kernel
theorem dX9_paidBack_0 : decode cX9_paidBack 0 = .ok (.iload_n 1, 1) := by decide +kernel
theorem dX9_paidBack_1 : decode cX9_paidBack 1 = .ok (.invokestatic 181, 3) := by decide +kernel
theorem dX9_paidBack_4 : decode cX9_paidBack 4 = .ok (.aload_n 0, 1) := by decide +kernel
theorem dX9_paidBack_5 : decode cX9_paidBack 5 = .ok (.getfield 65, 3) := by decide +kernel
theorem dX9_paidBack_8 : decode cX9_paidBack 8 = .ok (.iload_n 1, 1) := by decide +kernel
theorem dX9_paidBack_9 : decode cX9_paidBack 9 = .ok (.laload, 1) := by decide +kernel
theorem dX9_paidBack_10 : decode cX9_paidBack 10 = .ok (.lreturn, 1) := by decide +kernel
theorem dX9_warrant_0 : decode cX9_warrant 0 = .ok (.aload_n 0, 1) := by decide +kernel
theorem dX9_warrant_1 : decode cX9_warrant 1 = .ok (.iload_n 1, 1) := by decide +kernel
theorem dX9_warrant_2 : decode cX9_warrant 2 = .ok (.invokevirtual 213, 3) := by decide +kernel
theorem dX9_warrant_5 : decode cX9_warrant 5 = .ok (.astore 4, 2) := by decide +kernel
theorem dX9_warrant_7 : decode cX9_warrant 7 = .ok (.iload_n 2, 1) := by decide +kernel
theorem dX9_warrant_8 : decode cX9_warrant 8 = .ok (.iconst 0, 1) := by decide +kernel
theorem dX9_warrant_9 : decode cX9_warrant 9 = .ok (.bipush 34, 2) := by decide +kernel
theorem dX9_warrant_11 : decode cX9_warrant 11 = .ok (.invokestatic 91, 3) := by decide +kernel
theorem dX9_warrant_14 : decode cX9_warrant 14 = .ok (.ifCond .eq 13, 3) := by decide +kernel
theorem dX9_warrant_17 : decode cX9_warrant 17 = .ok (.iload_n 3, 1) := by decide +kernel
theorem dX9_warrant_18 : decode cX9_warrant 18 = .ok (.iload_n 2, 1) := by decide +kernel
theorem dX9_warrant_19 : decode cX9_warrant 19 = .ok (.bipush 34, 2) := by decide +kernel
theorem dX9_warrant_21 : decode cX9_warrant 21 = .ok (.invokestatic 91, 3) := by decide +kernel
theorem dX9_warrant_24 : decode cX9_warrant 24 = .ok (.ifCond .ne 14, 3) := by decide +kernel
theorem dX9_warrant_27 : decode cX9_warrant 27 = .ok (.new 95, 3) := by decide +kernel
theorem dX9_warrant_30 : decode cX9_warrant 30 = .ok (.dup, 1) := by decide +kernel
theorem dX9_warrant_31 : decode cX9_warrant 31 = .ok (.ldc_w 310, 3) := by decide +kernel
theorem dX9_warrant_34 : decode cX9_warrant 34 = .ok (.invokespecial 99, 3) := by decide +kernel
theorem dX9_warrant_37 : decode cX9_warrant 37 = .ok (.athrow, 1) := by decide +kernel
theorem dX9_warrant_38 : decode cX9_warrant 38 = .ok (.aload_n 0, 1) := by decide +kernel
theorem dX9_warrant_39 : decode cX9_warrant 39 = .ok (.getfield 85, 3) := by decide +kernel
theorem dX9_warrant_42 : decode cX9_warrant 42 = .ok (.bipush 8, 2) := by decide +kernel
theorem dX9_warrant_44 : decode cX9_warrant 44 = .ok (.if_icmp .lt 14, 3) := by decide +kernel
theorem dX9_warrant_47 : decode cX9_warrant 47 = .ok (.new 103, 3) := by decide +kernel
theorem dX9_warrant_50 : decode cX9_warrant 50 = .ok (.dup, 1) := by decide +kernel
theorem dX9_warrant_51 : decode cX9_warrant 51 = .ok (.ldc_w 312, 3) := by decide +kernel
theorem dX9_warrant_54 : decode cX9_warrant 54 = .ok (.invokespecial 107, 3) := by decide +kernel
theorem dX9_warrant_57 : decode cX9_warrant 57 = .ok (.athrow, 1) := by decide +kernel
theorem dX9_warrant_58 : decode cX9_warrant 58 = .ok (.aload_n 0, 1) := by decide +kernel
theorem dX9_warrant_59 : decode cX9_warrant 59 = .ok (.getfield 51, 3) := by decide +kernel
theorem dX9_warrant_62 : decode cX9_warrant 62 = .ok (.aload_n 0, 1) := by decide +kernel
theorem dX9_warrant_63 : decode cX9_warrant 63 = .ok (.getfield 85, 3) := by decide +kernel
theorem dX9_warrant_66 : decode cX9_warrant 66 = .ok (.new 49, 3) := by decide +kernel
theorem dX9_warrant_69 : decode cX9_warrant 69 = .ok (.dup, 1) := by decide +kernel
theorem dX9_warrant_70 : decode cX9_warrant 70 = .ok (.aload_n 0, 1) := by decide +kernel
theorem dX9_warrant_71 : decode cX9_warrant 71 = .ok (.getfield 85, 3) := by decide +kernel
theorem dX9_warrant_74 : decode cX9_warrant 74 = .ok (.aload 4, 2) := by decide +kernel
theorem dX9_warrant_76 : decode cX9_warrant 76 = .ok (.getfield 275, 3) := by decide +kernel
theorem dX9_warrant_79 : decode cX9_warrant 79 = .ok (.iload_n 2, 1) := by decide +kernel
theorem dX9_warrant_80 : decode cX9_warrant 80 = .ok (.iload_n 3, 1) := by decide +kernel
theorem dX9_warrant_81 : decode cX9_warrant 81 = .ok (.invokespecial 314, 3) := by decide +kernel
theorem dX9_warrant_84 : decode cX9_warrant 84 = .ok (.aastore, 1) := by decide +kernel
theorem dX9_warrant_85 : decode cX9_warrant 85 = .ok (.aload_n 0, 1) := by decide +kernel
theorem dX9_warrant_86 : decode cX9_warrant 86 = .ok (.dup, 1) := by decide +kernel
theorem dX9_warrant_87 : decode cX9_warrant 87 = .ok (.getfield 85, 3) := by decide +kernel
theorem dX9_warrant_90 : decode cX9_warrant 90 = .ok (.iconst 1, 1) := by decide +kernel
theorem dX9_warrant_91 : decode cX9_warrant 91 = .ok (.iadd, 1) := by decide +kernel
theorem dX9_warrant_92 : decode cX9_warrant 92 = .ok (.putfield 85, 3) := by decide +kernel
theorem dX9_warrant_95 : decode cX9_warrant 95 = .ok (.aload_n 0, 1) := by decide +kernel
theorem dX9_warrant_96 : decode cX9_warrant 96 = .ok (.getfield 85, 3) := by decide +kernel
theorem dX9_warrant_99 : decode cX9_warrant 99 = .ok (.iconst 1, 1) := by decide +kernel
theorem dX9_warrant_100 : decode cX9_warrant 100 = .ok (.isub, 1) := by decide +kernel
theorem dX9_warrant_101 : decode cX9_warrant 101 = .ok (.ireturn, 1) := by decide +kernel
theorem dX9_ask_0 : decode cX9_ask 0 = .ok (.aload_n 0, 1) := by decide +kernel
theorem dX9_ask_1 : decode cX9_ask 1 = .ok (.iload_n 1, 1) := by decide +kernel
theorem dX9_ask_2 : decode cX9_ask 2 = .ok (.invokevirtual 317, 3) := by decide +kernel
theorem dX9_ask_5 : decode cX9_ask 5 = .ok (.astore_n 3, 1) := by decide +kernel
theorem dX9_ask_6 : decode cX9_ask 6 = .ok (.aload_n 0, 1) := by decide +kernel
theorem dX9_ask_7 : decode cX9_ask 7 = .ok (.getfield 88, 3) := by decide +kernel
theorem dX9_ask_10 : decode cX9_ask 10 = .ok (.bipush 40, 2) := by decide +kernel
theorem dX9_ask_12 : decode cX9_ask 12 = .ok (.if_icmp .lt 14, 3) := by decide +kernel
theorem dX9_ask_15 : decode cX9_ask 15 = .ok (.new 103, 3) := by decide +kernel
theorem dX9_ask_18 : decode cX9_ask 18 = .ok (.dup, 1) := by decide +kernel
theorem dX9_ask_19 : decode cX9_ask 19 = .ok (.ldc_w 321, 3) := by decide +kernel
theorem dX9_ask_22 : decode cX9_ask 22 = .ok (.invokespecial 107, 3) := by decide +kernel
theorem dX9_ask_25 : decode cX9_ask 25 = .ok (.athrow, 1) := by decide +kernel
theorem dX9_ask_26 : decode cX9_ask 26 = .ok (.aload_n 3, 1) := by decide +kernel
theorem dX9_ask_27 : decode cX9_ask 27 = .ok (.iload_n 2, 1) := by decide +kernel
theorem dX9_ask_28 : decode cX9_ask 28 = .ok (.invokevirtual 323, 3) := by decide +kernel
theorem dX9_ask_31 : decode cX9_ask 31 = .ok (.astore 4, 2) := by decide +kernel
theorem dX9_ask_33 : decode cX9_ask 33 = .ok (.aload 4, 2) := by decide +kernel
theorem dX9_ask_35 : decode cX9_ask 35 = .ok (.ifnonnull 14, 3) := by decide +kernel
theorem dX9_ask_38 : decode cX9_ask 38 = .ok (.new 164, 3) := by decide +kernel
theorem dX9_ask_41 : decode cX9_ask 41 = .ok (.dup, 1) := by decide +kernel
theorem dX9_ask_42 : decode cX9_ask 42 = .ok (.ldc_w 326, 3) := by decide +kernel
theorem dX9_ask_45 : decode cX9_ask 45 = .ok (.invokespecial 168, 3) := by decide +kernel
theorem dX9_ask_48 : decode cX9_ask 48 = .ok (.athrow, 1) := by decide +kernel
theorem dX9_ask_49 : decode cX9_ask 49 = .ok (.aload_n 0, 1) := by decide +kernel
theorem dX9_ask_50 : decode cX9_ask 50 = .ok (.getfield 57, 3) := by decide +kernel
theorem dX9_ask_53 : decode cX9_ask 53 = .ok (.aload_n 0, 1) := by decide +kernel
theorem dX9_ask_54 : decode cX9_ask 54 = .ok (.getfield 88, 3) := by decide +kernel
theorem dX9_ask_57 : decode cX9_ask 57 = .ok (.new 55, 3) := by decide +kernel
theorem dX9_ask_60 : decode cX9_ask 60 = .ok (.dup, 1) := by decide +kernel
theorem dX9_ask_61 : decode cX9_ask 61 = .ok (.aload_n 3, 1) := by decide +kernel
theorem dX9_ask_62 : decode cX9_ask 62 = .ok (.getfield 328, 3) := by decide +kernel
theorem dX9_ask_65 : decode cX9_ask 65 = .ok (.iload_n 2, 1) := by decide +kernel
theorem dX9_ask_66 : decode cX9_ask 66 = .ok (.aload 4, 2) := by decide +kernel
theorem dX9_ask_68 : decode cX9_ask 68 = .ok (.getfield 329, 3) := by decide +kernel
theorem dX9_ask_71 : decode cX9_ask 71 = .ok (.aload 4, 2) := by decide +kernel
theorem dX9_ask_73 : decode cX9_ask 73 = .ok (.getfield 300, 3) := by decide +kernel
theorem dX9_ask_76 : decode cX9_ask 76 = .ok (.invokespecial 332, 3) := by decide +kernel
theorem dX9_ask_79 : decode cX9_ask 79 = .ok (.aastore, 1) := by decide +kernel
theorem dX9_ask_80 : decode cX9_ask 80 = .ok (.aload_n 0, 1) := by decide +kernel
theorem dX9_ask_81 : decode cX9_ask 81 = .ok (.dup, 1) := by decide +kernel
theorem dX9_ask_82 : decode cX9_ask 82 = .ok (.getfield 88, 3) := by decide +kernel
theorem dX9_ask_85 : decode cX9_ask 85 = .ok (.iconst 1, 1) := by decide +kernel
theorem dX9_ask_86 : decode cX9_ask 86 = .ok (.iadd, 1) := by decide +kernel
theorem dX9_ask_87 : decode cX9_ask 87 = .ok (.putfield 88, 3) := by decide +kernel
theorem dX9_ask_90 : decode cX9_ask 90 = .ok (.ldc_w 335, 3) := by decide +kernel
theorem dX9_ask_93 : decode cX9_ask 93 = .ok (.aload 4, 2) := by decide +kernel
theorem dX9_ask_95 : decode cX9_ask 95 = .ok (.getfield 329, 3) := by decide +kernel
theorem dX9_ask_98 : decode cX9_ask 98 = .ok (.imul, 1) := by decide +kernel
theorem dX9_ask_99 : decode cX9_ask 99 = .ok (.aload 4, 2) := by decide +kernel
theorem dX9_ask_101 : decode cX9_ask 101 = .ok (.getfield 300, 3) := by decide +kernel
theorem dX9_ask_104 : decode cX9_ask 104 = .ok (.iadd, 1) := by decide +kernel
theorem dX9_ask_105 : decode cX9_ask 105 = .ok (.ireturn, 1) := by decide +kernel
theorem dX9_stale_0 : decode cX9_stale 0 = .ok (.aload_n 0, 1) := by decide +kernel
theorem dX9_stale_1 : decode cX9_stale 1 = .ok (.iload_n 1, 1) := by decide +kernel
theorem dX9_stale_2 : decode cX9_stale 2 = .ok (.invokevirtual 317, 3) := by decide +kernel
theorem dX9_stale_5 : decode cX9_stale 5 = .ok (.astore_n 2, 1) := by decide +kernel
theorem dX9_stale_6 : decode cX9_stale 6 = .ok (.iconst 0, 1) := by decide +kernel
theorem dX9_stale_7 : decode cX9_stale 7 = .ok (.istore_n 3, 1) := by decide +kernel
theorem dX9_stale_8 : decode cX9_stale 8 = .ok (.iconst 0, 1) := by decide +kernel
theorem dX9_stale_9 : decode cX9_stale 9 = .ok (.istore 4, 2) := by decide +kernel
theorem dX9_stale_11 : decode cX9_stale 11 = .ok (.iload 4, 2) := by decide +kernel
theorem dX9_stale_13 : decode cX9_stale 13 = .ok (.aload_n 0, 1) := by decide +kernel
theorem dX9_stale_14 : decode cX9_stale 14 = .ok (.getfield 88, 3) := by decide +kernel
theorem dX9_stale_17 : decode cX9_stale 17 = .ok (.if_icmp .ge 50, 3) := by decide +kernel
theorem dX9_stale_20 : decode cX9_stale 20 = .ok (.aload_n 0, 1) := by decide +kernel
theorem dX9_stale_21 : decode cX9_stale 21 = .ok (.getfield 57, 3) := by decide +kernel
theorem dX9_stale_24 : decode cX9_stale 24 = .ok (.iload 4, 2) := by decide +kernel
theorem dX9_stale_26 : decode cX9_stale 26 = .ok (.aaload, 1) := by decide +kernel
theorem dX9_stale_27 : decode cX9_stale 27 = .ok (.astore 5, 2) := by decide +kernel
theorem dX9_stale_29 : decode cX9_stale 29 = .ok (.aload 5, 2) := by decide +kernel
theorem dX9_stale_31 : decode cX9_stale 31 = .ok (.getfield 336, 3) := by decide +kernel
theorem dX9_stale_34 : decode cX9_stale 34 = .ok (.aload_n 2, 1) := by decide +kernel
theorem dX9_stale_35 : decode cX9_stale 35 = .ok (.getfield 328, 3) := by decide +kernel
theorem dX9_stale_38 : decode cX9_stale 38 = .ok (.if_icmp .ne 23, 3) := by decide +kernel
theorem dX9_stale_41 : decode cX9_stale 41 = .ok (.aload 5, 2) := by decide +kernel
theorem dX9_stale_43 : decode cX9_stale 43 = .ok (.aload_n 2, 1) := by decide +kernel
theorem dX9_stale_44 : decode cX9_stale 44 = .ok (.aload 5, 2) := by decide +kernel
theorem dX9_stale_46 : decode cX9_stale 46 = .ok (.getfield 339, 3) := by decide +kernel
theorem dX9_stale_49 : decode cX9_stale 49 = .ok (.invokevirtual 323, 3) := by decide +kernel
theorem dX9_stale_52 : decode cX9_stale 52 = .ok (.invokevirtual 342, 3) := by decide +kernel
theorem dX9_stale_55 : decode cX9_stale 55 = .ok (.ifCond .ne 6, 3) := by decide +kernel
theorem dX9_stale_58 : decode cX9_stale 58 = .ok (.iinc 3 1, 3) := by decide +kernel
theorem dX9_stale_61 : decode cX9_stale 61 = .ok (.iinc 4 1, 3) := by decide +kernel
theorem dX9_stale_64 : decode cX9_stale 64 = .ok (.goto (-53), 3) := by decide +kernel
theorem dX9_stale_67 : decode cX9_stale 67 = .ok (.iload_n 3, 1) := by decide +kernel
theorem dX9_stale_68 : decode cX9_stale 68 = .ok (.ireturn, 1) := by decide +kernel
theorem dX9_isWithin_0 : decode cX9_isWithin 0 = .ok (.iload_n 1, 1) := by decide +kernel
theorem dX9_isWithin_1 : decode cX9_isWithin 1 = .ok (.iload_n 0, 1) := by decide +kernel
theorem dX9_isWithin_2 : decode cX9_isWithin 2 = .ok (.if_icmp .gt 12, 3) := by decide +kernel
theorem dX9_isWithin_5 : decode cX9_isWithin 5 = .ok (.iload_n 0, 1) := by decide +kernel
theorem dX9_isWithin_6 : decode cX9_isWithin 6 = .ok (.iload_n 2, 1) := by decide +kernel
theorem dX9_isWithin_7 : decode cX9_isWithin 7 = .ok (.if_icmp .gt 7, 3) := by decide +kernel
theorem dX9_isWithin_10 : decode cX9_isWithin 10 = .ok (.iconst 1, 1) := by decide +kernel
theorem dX9_isWithin_11 : decode cX9_isWithin 11 = .ok (.goto 4, 3) := by decide +kernel
theorem dX9_isWithin_14 : decode cX9_isWithin 14 = .ok (.iconst 0, 1) := by decide +kernel
theorem dX9_isWithin_15 : decode cX9_isWithin 15 = .ok (.ireturn, 1) := by decide +kernel
theorem dX9_requireGate_0 : decode cX9_requireGate 0 = .ok (.iload_n 0, 1) := by decide +kernel
theorem dX9_requireGate_1 : decode cX9_requireGate 1 = .ok (.iconst 0, 1) := by decide +kernel
theorem dX9_requireGate_2 : decode cX9_requireGate 2 = .ok (.bipush 7, 2) := by decide +kernel
theorem dX9_requireGate_4 : decode cX9_requireGate 4 = .ok (.invokestatic 91, 3) := by decide +kernel
theorem dX9_requireGate_7 : decode cX9_requireGate 7 = .ok (.ifCond .ne 14, 3) := by decide +kernel
theorem dX9_requireGate_10 : decode cX9_requireGate 10 = .ok (.new 346, 3) := by decide +kernel
theorem dX9_requireGate_13 : decode cX9_requireGate 13 = .ok (.dup, 1) := by decide +kernel
theorem dX9_requireGate_14 : decode cX9_requireGate 14 = .ok (.ldc_w 348, 3) := by decide +kernel
theorem dX9_requireGate_17 : decode cX9_requireGate 17 = .ok (.invokespecial 350, 3) := by decide +kernel
theorem dX9_requireGate_20 : decode cX9_requireGate 20 = .ok (.athrow, 1) := by decide +kernel
theorem dX9_requireGate_21 : decode cX9_requireGate 21 = .ok (.return_, 1) := by decide +kernel
theorem dX9_requireSign_0 : decode cX9_requireSign 0 = .ok (.iload_n 0, 1) := by decide +kernel
theorem dX9_requireSign_1 : decode cX9_requireSign 1 = .ok (.iconst 0, 1) := by decide +kernel
theorem dX9_requireSign_2 : decode cX9_requireSign 2 = .ok (.bipush 14, 2) := by decide +kernel
theorem dX9_requireSign_4 : decode cX9_requireSign 4 = .ok (.invokestatic 91, 3) := by decide +kernel
theorem dX9_requireSign_7 : decode cX9_requireSign 7 = .ok (.ifCond .ne 14, 3) := by decide +kernel
theorem dX9_requireSign_10 : decode cX9_requireSign 10 = .ok (.new 346, 3) := by decide +kernel
theorem dX9_requireSign_13 : decode cX9_requireSign 13 = .ok (.dup, 1) := by decide +kernel
theorem dX9_requireSign_14 : decode cX9_requireSign 14 = .ok (.ldc_w 351, 3) := by decide +kernel
theorem dX9_requireSign_17 : decode cX9_requireSign 17 = .ok (.invokespecial 350, 3) := by decide +kernel
theorem dX9_requireSign_20 : decode cX9_requireSign 20 = .ok (.athrow, 1) := by decide +kernel
theorem dX9_requireSign_21 : decode cX9_requireSign 21 = .ok (.return_, 1) := by decide +kernel
theorem dX9_requireDriver_0 : decode cX9_requireDriver 0 = .ok (.iload_n 0, 1) := by decide +kernel
theorem dX9_requireDriver_1 : decode cX9_requireDriver 1 = .ok (.iconst 0, 1) := by decide +kernel
theorem dX9_requireDriver_2 : decode cX9_requireDriver 2 = .ok (.iconst 5, 1) := by decide +kernel
theorem dX9_requireDriver_3 : decode cX9_requireDriver 3 = .ok (.invokestatic 91, 3) := by decide +kernel
theorem dX9_requireDriver_6 : decode cX9_requireDriver 6 = .ok (.ifCond .ne 14, 3) := by decide +kernel
theorem dX9_requireDriver_9 : decode cX9_requireDriver 9 = .ok (.new 346, 3) := by decide +kernel
theorem dX9_requireDriver_12 : decode cX9_requireDriver 12 = .ok (.dup, 1) := by decide +kernel
theorem dX9_requireDriver_13 : decode cX9_requireDriver 13 = .ok (.ldc_w 353, 3) := by decide +kernel
theorem dX9_requireDriver_16 : decode cX9_requireDriver 16 = .ok (.invokespecial 350, 3) := by decide +kernel
theorem dX9_requireDriver_19 : decode cX9_requireDriver 19 = .ok (.athrow, 1) := by decide +kernel
theorem dX9_requireDriver_20 : decode cX9_requireDriver 20 = .ok (.return_, 1) := by decide +kernel
theorem dX9_requireClass_0 : decode cX9_requireClass 0 = .ok (.iload_n 0, 1) := by decide +kernel
theorem dX9_requireClass_1 : decode cX9_requireClass 1 = .ok (.iconst 0, 1) := by decide +kernel
theorem dX9_requireClass_2 : decode cX9_requireClass 2 = .ok (.iconst 3, 1) := by decide +kernel
theorem dX9_requireClass_3 : decode cX9_requireClass 3 = .ok (.invokestatic 91, 3) := by decide +kernel
theorem dX9_requireClass_6 : decode cX9_requireClass 6 = .ok (.ifCond .ne 14, 3) := by decide +kernel
theorem dX9_requireClass_9 : decode cX9_requireClass 9 = .ok (.new 95, 3) := by decide +kernel
theorem dX9_requireClass_12 : decode cX9_requireClass 12 = .ok (.dup, 1) := by decide +kernel
theorem dX9_requireClass_13 : decode cX9_requireClass 13 = .ok (.ldc_w 355, 3) := by decide +kernel
theorem dX9_requireClass_16 : decode cX9_requireClass 16 = .ok (.invokespecial 99, 3) := by decide +kernel
theorem dX9_requireClass_19 : decode cX9_requireClass 19 = .ok (.athrow, 1) := by decide +kernel
theorem dX9_requireClass_20 : decode cX9_requireClass 20 = .ok (.return_, 1) := by decide +kernel
theorem dX9_requireMinute_0 : decode cX9_requireMinute 0 = .ok (.iload_n 1, 1) := by decide +kernel
theorem dX9_requireMinute_1 : decode cX9_requireMinute 1 = .ok (.iconst 0, 1) := by decide +kernel
theorem dX9_requireMinute_2 : decode cX9_requireMinute 2 = .ok (.aload_n 0, 1) := by decide +kernel
theorem dX9_requireMinute_3 : decode cX9_requireMinute 3 = .ok (.getfield 75, 3) := by decide +kernel
theorem dX9_requireMinute_6 : decode cX9_requireMinute 6 = .ok (.invokestatic 91, 3) := by decide +kernel
theorem dX9_requireMinute_9 : decode cX9_requireMinute 9 = .ok (.ifCond .ne 14, 3) := by decide +kernel
theorem dX9_requireMinute_12 : decode cX9_requireMinute 12 = .ok (.new 95, 3) := by decide +kernel
theorem dX9_requireMinute_15 : decode cX9_requireMinute 15 = .ok (.dup, 1) := by decide +kernel
theorem dX9_requireMinute_16 : decode cX9_requireMinute 16 = .ok (.ldc_w 357, 3) := by decide +kernel
theorem dX9_requireMinute_19 : decode cX9_requireMinute 19 = .ok (.invokespecial 99, 3) := by decide +kernel
theorem dX9_requireMinute_22 : decode cX9_requireMinute 22 = .ok (.athrow, 1) := by decide +kernel
theorem dX9_requireMinute_23 : decode cX9_requireMinute 23 = .ok (.return_, 1) := by decide +kernel
theorem dX9_requireRoomForSign_0 : decode cX9_requireRoomForSign 0 = .ok (.aload_n 0, 1) := by decide +kernel
theorem dX9_requireRoomForSign_1 : decode cX9_requireRoomForSign 1 = .ok (.getfield 23, 3) := by decide +kernel
theorem dX9_requireRoomForSign_4 : decode cX9_requireRoomForSign 4 = .ok (.getfield 144, 3) := by decide +kernel
theorem dX9_requireRoomForSign_7 : decode cX9_requireRoomForSign 7 = .ok (.bipush 6, 2) := by decide +kernel
theorem dX9_requireRoomForSign_9 : decode cX9_requireRoomForSign 9 = .ok (.if_icmp .lt 14, 3) := by decide +kernel
theorem dX9_requireRoomForSign_12 : decode cX9_requireRoomForSign 12 = .ok (.new 103, 3) := by decide +kernel
theorem dX9_requireRoomForSign_15 : decode cX9_requireRoomForSign 15 = .ok (.dup, 1) := by decide +kernel
theorem dX9_requireRoomForSign_16 : decode cX9_requireRoomForSign 16 = .ok (.ldc_w 359, 3) := by decide +kernel
theorem dX9_requireRoomForSign_19 : decode cX9_requireRoomForSign 19 = .ok (.invokespecial 107, 3) := by decide +kernel
theorem dX9_requireRoomForSign_22 : decode cX9_requireRoomForSign 22 = .ok (.athrow, 1) := by decide +kernel
theorem dX9_requireRoomForSign_23 : decode cX9_requireRoomForSign 23 = .ok (.return_, 1) := by decide +kernel
theorem dX9_plateNumbered_0 : decode cX9_plateNumbered 0 = .ok (.iload_n 1, 1) := by decide +kernel
theorem dX9_plateNumbered_1 : decode cX9_plateNumbered 1 = .ok (.iconst 0, 1) := by decide +kernel
theorem dX9_plateNumbered_2 : decode cX9_plateNumbered 2 = .ok (.aload_n 0, 1) := by decide +kernel
theorem dX9_plateNumbered_3 : decode cX9_plateNumbered 3 = .ok (.getfield 79, 3) := by decide +kernel
theorem dX9_plateNumbered_6 : decode cX9_plateNumbered 6 = .ok (.iconst 1, 1) := by decide +kernel
theorem dX9_plateNumbered_7 : decode cX9_plateNumbered 7 = .ok (.isub, 1) := by decide +kernel
theorem dX9_plateNumbered_8 : decode cX9_plateNumbered 8 = .ok (.invokestatic 91, 3) := by decide +kernel
theorem dX9_plateNumbered_11 : decode cX9_plateNumbered 11 = .ok (.ifCond .ne 14, 3) := by decide +kernel
theorem dX9_plateNumbered_14 : decode cX9_plateNumbered 14 = .ok (.new 346, 3) := by decide +kernel
theorem dX9_plateNumbered_17 : decode cX9_plateNumbered 17 = .ok (.dup, 1) := by decide +kernel
theorem dX9_plateNumbered_18 : decode cX9_plateNumbered 18 = .ok (.ldc_w 361, 3) := by decide +kernel
theorem dX9_plateNumbered_21 : decode cX9_plateNumbered 21 = .ok (.invokespecial 350, 3) := by decide +kernel
theorem dX9_plateNumbered_24 : decode cX9_plateNumbered 24 = .ok (.athrow, 1) := by decide +kernel
theorem dX9_plateNumbered_25 : decode cX9_plateNumbered 25 = .ok (.aload_n 0, 1) := by decide +kernel
theorem dX9_plateNumbered_26 : decode cX9_plateNumbered 26 = .ok (.getfield 36, 3) := by decide +kernel
theorem dX9_plateNumbered_29 : decode cX9_plateNumbered 29 = .ok (.iload_n 1, 1) := by decide +kernel
theorem dX9_plateNumbered_30 : decode cX9_plateNumbered 30 = .ok (.aaload, 1) := by decide +kernel
theorem dX9_plateNumbered_31 : decode cX9_plateNumbered 31 = .ok (.areturn, 1) := by decide +kernel
theorem dX9_readingNumbered_0 : decode cX9_readingNumbered 0 = .ok (.iload_n 1, 1) := by decide +kernel
theorem dX9_readingNumbered_1 : decode cX9_readingNumbered 1 = .ok (.iconst 0, 1) := by decide +kernel
theorem dX9_readingNumbered_2 : decode cX9_readingNumbered 2 = .ok (.aload_n 0, 1) := by decide +kernel
theorem dX9_readingNumbered_3 : decode cX9_readingNumbered 3 = .ok (.getfield 82, 3) := by decide +kernel
theorem dX9_readingNumbered_6 : decode cX9_readingNumbered 6 = .ok (.iconst 1, 1) := by decide +kernel
theorem dX9_readingNumbered_7 : decode cX9_readingNumbered 7 = .ok (.isub, 1) := by decide +kernel
theorem dX9_readingNumbered_8 : decode cX9_readingNumbered 8 = .ok (.invokestatic 91, 3) := by decide +kernel
theorem dX9_readingNumbered_11 : decode cX9_readingNumbered 11 = .ok (.ifCond .ne 14, 3) := by decide +kernel
theorem dX9_readingNumbered_14 : decode cX9_readingNumbered 14 = .ok (.new 346, 3) := by decide +kernel
theorem dX9_readingNumbered_17 : decode cX9_readingNumbered 17 = .ok (.dup, 1) := by decide +kernel
theorem dX9_readingNumbered_18 : decode cX9_readingNumbered 18 = .ok (.ldc_w 363, 3) := by decide +kernel
theorem dX9_readingNumbered_21 : decode cX9_readingNumbered 21 = .ok (.invokespecial 350, 3) := by decide +kernel
theorem dX9_readingNumbered_24 : decode cX9_readingNumbered 24 = .ok (.athrow, 1) := by decide +kernel
theorem dX9_readingNumbered_25 : decode cX9_readingNumbered 25 = .ok (.aload_n 0, 1) := by decide +kernel
theorem dX9_readingNumbered_26 : decode cX9_readingNumbered 26 = .ok (.getfield 45, 3) := by decide +kernel
theorem dX9_readingNumbered_29 : decode cX9_readingNumbered 29 = .ok (.iload_n 1, 1) := by decide +kernel
theorem dX9_readingNumbered_30 : decode cX9_readingNumbered 30 = .ok (.aaload, 1) := by decide +kernel
theorem dX9_readingNumbered_31 : decode cX9_readingNumbered 31 = .ok (.areturn, 1) := by decide +kernel
theorem dX9_warrantNumbered_0 : decode cX9_warrantNumbered 0 = .ok (.iload_n 1, 1) := by decide +kernel
theorem dX9_warrantNumbered_1 : decode cX9_warrantNumbered 1 = .ok (.iconst 0, 1) := by decide +kernel
theorem dX9_warrantNumbered_2 : decode cX9_warrantNumbered 2 = .ok (.aload_n 0, 1) := by decide +kernel
theorem dX9_warrantNumbered_3 : decode cX9_warrantNumbered 3 = .ok (.getfield 85, 3) := by decide +kernel
theorem dX9_warrantNumbered_6 : decode cX9_warrantNumbered 6 = .ok (.iconst 1, 1) := by decide +kernel
theorem dX9_warrantNumbered_7 : decode cX9_warrantNumbered 7 = .ok (.isub, 1) := by decide +kernel
theorem dX9_warrantNumbered_8 : decode cX9_warrantNumbered 8 = .ok (.invokestatic 91, 3) := by decide +kernel
theorem dX9_warrantNumbered_11 : decode cX9_warrantNumbered 11 = .ok (.ifCond .ne 14, 3) := by decide +kernel
theorem dX9_warrantNumbered_14 : decode cX9_warrantNumbered 14 = .ok (.new 346, 3) := by decide +kernel
theorem dX9_warrantNumbered_17 : decode cX9_warrantNumbered 17 = .ok (.dup, 1) := by decide +kernel
theorem dX9_warrantNumbered_18 : decode cX9_warrantNumbered 18 = .ok (.ldc_w 365, 3) := by decide +kernel
theorem dX9_warrantNumbered_21 : decode cX9_warrantNumbered 21 = .ok (.invokespecial 350, 3) := by decide +kernel
theorem dX9_warrantNumbered_24 : decode cX9_warrantNumbered 24 = .ok (.athrow, 1) := by decide +kernel
theorem dX9_warrantNumbered_25 : decode cX9_warrantNumbered 25 = .ok (.aload_n 0, 1) := by decide +kernel
theorem dX9_warrantNumbered_26 : decode cX9_warrantNumbered 26 = .ok (.getfield 51, 3) := by decide +kernel
theorem dX9_warrantNumbered_29 : decode cX9_warrantNumbered 29 = .ok (.iload_n 1, 1) := by decide +kernel
theorem dX9_warrantNumbered_30 : decode cX9_warrantNumbered 30 = .ok (.aaload, 1) := by decide +kernel
theorem dX9_warrantNumbered_31 : decode cX9_warrantNumbered 31 = .ok (.areturn, 1) := by decide +kernel
theorem dX9_requiredBeginning_0 : decode cX9_requiredBeginning 0 = .ok (.aload_n 0, 1) := by decide +kernel
theorem dX9_requiredBeginning_1 : decode cX9_requiredBeginning 1 = .ok (.getfield 275, 3) := by decide +kernel
theorem dX9_requiredBeginning_4 : decode cX9_requiredBeginning 4 = .ok (.iload_n 1, 1) := by decide +kernel
theorem dX9_requiredBeginning_5 : decode cX9_requiredBeginning 5 = .ok (.invokevirtual 367, 3) := by decide +kernel
theorem dX9_requiredBeginning_8 : decode cX9_requiredBeginning 8 = .ok (.istore_n 2, 1) := by decide +kernel
theorem dX9_requiredBeginning_9 : decode cX9_requiredBeginning 9 = .ok (.iload_n 2, 1) := by decide +kernel
theorem dX9_requiredBeginning_10 : decode cX9_requiredBeginning 10 = .ok (.iconst (-1), 1) := by decide +kernel
theorem dX9_requiredBeginning_11 : decode cX9_requiredBeginning 11 = .ok (.if_icmp .ne 14, 3) := by decide +kernel
theorem dX9_requiredBeginning_14 : decode cX9_requiredBeginning 14 = .ok (.new 346, 3) := by decide +kernel
theorem dX9_requiredBeginning_17 : decode cX9_requiredBeginning 17 = .ok (.dup, 1) := by decide +kernel
theorem dX9_requiredBeginning_18 : decode cX9_requiredBeginning 18 = .ok (.ldc_w 370, 3) := by decide +kernel
theorem dX9_requiredBeginning_21 : decode cX9_requiredBeginning 21 = .ok (.invokespecial 350, 3) := by decide +kernel
theorem dX9_requiredBeginning_24 : decode cX9_requiredBeginning 24 = .ok (.athrow, 1) := by decide +kernel
theorem dX9_requiredBeginning_25 : decode cX9_requiredBeginning 25 = .ok (.iload_n 2, 1) := by decide +kernel
theorem dX9_requiredBeginning_26 : decode cX9_requiredBeginning 26 = .ok (.ireturn, 1) := by decide +kernel
theorem dX9_numberOf_0 : decode cX9_numberOf 0 = .ok (.aload_n 0, 1) := by decide +kernel
theorem dX9_numberOf_1 : decode cX9_numberOf 1 = .ok (.ifnonnull 7, 3) := by decide +kernel
theorem dX9_numberOf_4 : decode cX9_numberOf 4 = .ok (.iconst (-1), 1) := by decide +kernel
theorem dX9_numberOf_5 : decode cX9_numberOf 5 = .ok (.goto 7, 3) := by decide +kernel
theorem dX9_numberOf_8 : decode cX9_numberOf 8 = .ok (.aload_n 0, 1) := by decide +kernel
theorem dX9_numberOf_9 : decode cX9_numberOf 9 = .ok (.getfield 210, 3) := by decide +kernel
theorem dX9_numberOf_12 : decode cX9_numberOf 12 = .ok (.ireturn, 1) := by decide +kernel
theorem dX9_isTaken_0 : decode cX9_isTaken 0 = .ok (.iconst 0, 1) := by decide +kernel
theorem dX9_isTaken_1 : decode cX9_isTaken 1 = .ok (.istore_n 2, 1) := by decide +kernel
theorem dX9_isTaken_2 : decode cX9_isTaken 2 = .ok (.iload_n 2, 1) := by decide +kernel
theorem dX9_isTaken_3 : decode cX9_isTaken 3 = .ok (.aload_n 0, 1) := by decide +kernel
theorem dX9_isTaken_4 : decode cX9_isTaken 4 = .ok (.getfield 79, 3) := by decide +kernel
theorem dX9_isTaken_7 : decode cX9_isTaken 7 = .ok (.if_icmp .ge 27, 3) := by decide +kernel
theorem dX9_isTaken_10 : decode cX9_isTaken 10 = .ok (.aload_n 0, 1) := by decide +kernel
theorem dX9_isTaken_11 : decode cX9_isTaken 11 = .ok (.getfield 36, 3) := by decide +kernel
theorem dX9_isTaken_14 : decode cX9_isTaken 14 = .ok (.iload_n 2, 1) := by decide +kernel
theorem dX9_isTaken_15 : decode cX9_isTaken 15 = .ok (.aaload, 1) := by decide +kernel
theorem dX9_isTaken_16 : decode cX9_isTaken 16 = .ok (.getfield 270, 3) := by decide +kernel
theorem dX9_isTaken_19 : decode cX9_isTaken 19 = .ok (.aload_n 1, 1) := by decide +kernel
theorem dX9_isTaken_20 : decode cX9_isTaken 20 = .ok (.invokevirtual 372, 3) := by decide +kernel
theorem dX9_isTaken_23 : decode cX9_isTaken 23 = .ok (.ifCond .eq 5, 3) := by decide +kernel
theorem dX9_isTaken_26 : decode cX9_isTaken 26 = .ok (.iconst 1, 1) := by decide +kernel
theorem dX9_isTaken_27 : decode cX9_isTaken 27 = .ok (.ireturn, 1) := by decide +kernel
theorem dX9_isTaken_28 : decode cX9_isTaken 28 = .ok (.iinc 2 1, 3) := by decide +kernel
theorem dX9_isTaken_31 : decode cX9_isTaken 31 = .ok (.goto (-29), 3) := by decide +kernel
theorem dX9_isTaken_34 : decode cX9_isTaken 34 = .ok (.iconst 0, 1) := by decide +kernel
theorem dX9_isTaken_35 : decode cX9_isTaken 35 = .ok (.ireturn, 1) := by decide +kernel
theorem dX9_putInOrder_0 : decode cX9_putInOrder 0 = .ok (.aload_n 0, 1) := by decide +kernel
theorem dX9_putInOrder_1 : decode cX9_putInOrder 1 = .ok (.getfield 79, 3) := by decide +kernel
theorem dX9_putInOrder_4 : decode cX9_putInOrder 4 = .ok (.istore_n 2, 1) := by decide +kernel
theorem dX9_putInOrder_5 : decode cX9_putInOrder 5 = .ok (.iload_n 2, 1) := by decide +kernel
theorem dX9_putInOrder_6 : decode cX9_putInOrder 6 = .ok (.ifCond .le 44, 3) := by decide +kernel
theorem dX9_putInOrder_9 : decode cX9_putInOrder 9 = .ok (.aload_n 1, 1) := by decide +kernel
theorem dX9_putInOrder_10 : decode cX9_putInOrder 10 = .ok (.getfield 270, 3) := by decide +kernel
theorem dX9_putInOrder_13 : decode cX9_putInOrder 13 = .ok (.aload_n 0, 1) := by decide +kernel
theorem dX9_putInOrder_14 : decode cX9_putInOrder 14 = .ok (.getfield 40, 3) := by decide +kernel
theorem dX9_putInOrder_17 : decode cX9_putInOrder 17 = .ok (.iload_n 2, 1) := by decide +kernel
theorem dX9_putInOrder_18 : decode cX9_putInOrder 18 = .ok (.iconst 1, 1) := by decide +kernel
theorem dX9_putInOrder_19 : decode cX9_putInOrder 19 = .ok (.isub, 1) := by decide +kernel
theorem dX9_putInOrder_20 : decode cX9_putInOrder 20 = .ok (.aaload, 1) := by decide +kernel
theorem dX9_putInOrder_21 : decode cX9_putInOrder 21 = .ok (.getfield 270, 3) := by decide +kernel
theorem dX9_putInOrder_24 : decode cX9_putInOrder 24 = .ok (.invokevirtual 375, 3) := by decide +kernel
theorem dX9_putInOrder_27 : decode cX9_putInOrder 27 = .ok (.ifCond .eq 23, 3) := by decide +kernel
theorem dX9_putInOrder_30 : decode cX9_putInOrder 30 = .ok (.aload_n 0, 1) := by decide +kernel
theorem dX9_putInOrder_31 : decode cX9_putInOrder 31 = .ok (.getfield 40, 3) := by decide +kernel
theorem dX9_putInOrder_34 : decode cX9_putInOrder 34 = .ok (.iload_n 2, 1) := by decide +kernel
theorem dX9_putInOrder_35 : decode cX9_putInOrder 35 = .ok (.aload_n 0, 1) := by decide +kernel
theorem dX9_putInOrder_36 : decode cX9_putInOrder 36 = .ok (.getfield 40, 3) := by decide +kernel
theorem dX9_putInOrder_39 : decode cX9_putInOrder 39 = .ok (.iload_n 2, 1) := by decide +kernel
theorem dX9_putInOrder_40 : decode cX9_putInOrder 40 = .ok (.iconst 1, 1) := by decide +kernel
theorem dX9_putInOrder_41 : decode cX9_putInOrder 41 = .ok (.isub, 1) := by decide +kernel
theorem dX9_putInOrder_42 : decode cX9_putInOrder 42 = .ok (.aaload, 1) := by decide +kernel
theorem dX9_putInOrder_43 : decode cX9_putInOrder 43 = .ok (.aastore, 1) := by decide +kernel
theorem dX9_putInOrder_44 : decode cX9_putInOrder 44 = .ok (.iinc 2 (-1), 3) := by decide +kernel
theorem dX9_putInOrder_47 : decode cX9_putInOrder 47 = .ok (.goto (-42), 3) := by decide +kernel
theorem dX9_putInOrder_50 : decode cX9_putInOrder 50 = .ok (.aload_n 0, 1) := by decide +kernel
theorem dX9_putInOrder_51 : decode cX9_putInOrder 51 = .ok (.getfield 40, 3) := by decide +kernel
theorem dX9_putInOrder_54 : decode cX9_putInOrder 54 = .ok (.iload_n 2, 1) := by decide +kernel
theorem dX9_putInOrder_55 : decode cX9_putInOrder 55 = .ok (.aload_n 1, 1) := by decide +kernel
theorem dX9_putInOrder_56 : decode cX9_putInOrder 56 = .ok (.aastore, 1) := by decide +kernel
theorem dX9_putInOrder_57 : decode cX9_putInOrder 57 = .ok (.return_, 1) := by decide +kernel
theorem dX9_plateByText_0 : decode cX9_plateByText 0 = .ok (.aconst_null, 1) := by decide +kernel
theorem dX9_plateByText_1 : decode cX9_plateByText 1 = .ok (.astore_n 2, 1) := by decide +kernel
theorem dX9_plateByText_2 : decode cX9_plateByText 2 = .ok (.iconst 0, 1) := by decide +kernel
theorem dX9_plateByText_3 : decode cX9_plateByText 3 = .ok (.istore_n 3, 1) := by decide +kernel
theorem dX9_plateByText_4 : decode cX9_plateByText 4 = .ok (.iconst 0, 1) := by decide +kernel
theorem dX9_plateByText_5 : decode cX9_plateByText 5 = .ok (.istore 4, 2) := by decide +kernel
theorem dX9_plateByText_7 : decode cX9_plateByText 7 = .ok (.iload 4, 2) := by decide +kernel
theorem dX9_plateByText_9 : decode cX9_plateByText 9 = .ok (.aload_n 0, 1) := by decide +kernel
theorem dX9_plateByText_10 : decode cX9_plateByText 10 = .ok (.getfield 79, 3) := by decide +kernel
theorem dX9_plateByText_13 : decode cX9_plateByText 13 = .ok (.if_icmp .ge 58, 3) := by decide +kernel
theorem dX9_plateByText_16 : decode cX9_plateByText 16 = .ok (.aload_n 0, 1) := by decide +kernel
theorem dX9_plateByText_17 : decode cX9_plateByText 17 = .ok (.getfield 40, 3) := by decide +kernel
theorem dX9_plateByText_20 : decode cX9_plateByText 20 = .ok (.iload 4, 2) := by decide +kernel
theorem dX9_plateByText_22 : decode cX9_plateByText 22 = .ok (.aaload, 1) := by decide +kernel
theorem dX9_plateByText_23 : decode cX9_plateByText 23 = .ok (.astore 5, 2) := by decide +kernel
theorem dX9_plateByText_25 : decode cX9_plateByText 25 = .ok (.aload_n 0, 1) := by decide +kernel
theorem dX9_plateByText_26 : decode cX9_plateByText 26 = .ok (.getfield 30, 3) := by decide +kernel
theorem dX9_plateByText_29 : decode cX9_plateByText 29 = .ok (.aload_n 1, 1) := by decide +kernel
theorem dX9_plateByText_30 : decode cX9_plateByText 30 = .ok (.getfield 267, 3) := by decide +kernel
theorem dX9_plateByText_33 : decode cX9_plateByText 33 = .ok (.aload 5, 2) := by decide +kernel
theorem dX9_plateByText_35 : decode cX9_plateByText 35 = .ok (.getfield 270, 3) := by decide +kernel
theorem dX9_plateByText_38 : decode cX9_plateByText 38 = .ok (.invokevirtual 271, 3) := by decide +kernel
theorem dX9_plateByText_41 : decode cX9_plateByText 41 = .ok (.istore 6, 2) := by decide +kernel
theorem dX9_plateByText_43 : decode cX9_plateByText 43 = .ok (.iload 6, 2) := by decide +kernel
theorem dX9_plateByText_45 : decode cX9_plateByText 45 = .ok (.iconst (-1), 1) := by decide +kernel
theorem dX9_plateByText_46 : decode cX9_plateByText 46 = .ok (.if_icmp .eq 19, 3) := by decide +kernel
theorem dX9_plateByText_49 : decode cX9_plateByText 49 = .ok (.aload_n 2, 1) := by decide +kernel
theorem dX9_plateByText_50 : decode cX9_plateByText 50 = .ok (.ifnull 9, 3) := by decide +kernel
theorem dX9_plateByText_53 : decode cX9_plateByText 53 = .ok (.iload 6, 2) := by decide +kernel
theorem dX9_plateByText_55 : decode cX9_plateByText 55 = .ok (.iload_n 3, 1) := by decide +kernel
theorem dX9_plateByText_56 : decode cX9_plateByText 56 = .ok (.if_icmp .ge 9, 3) := by decide +kernel
theorem dX9_plateByText_59 : decode cX9_plateByText 59 = .ok (.aload 5, 2) := by decide +kernel
theorem dX9_plateByText_61 : decode cX9_plateByText 61 = .ok (.astore_n 2, 1) := by decide +kernel
theorem dX9_plateByText_62 : decode cX9_plateByText 62 = .ok (.iload 6, 2) := by decide +kernel
theorem dX9_plateByText_64 : decode cX9_plateByText 64 = .ok (.istore_n 3, 1) := by decide +kernel
theorem dX9_plateByText_65 : decode cX9_plateByText 65 = .ok (.iinc 4 1, 3) := by decide +kernel
theorem dX9_plateByText_68 : decode cX9_plateByText 68 = .ok (.goto (-61), 3) := by decide +kernel
theorem dX9_plateByText_71 : decode cX9_plateByText 71 = .ok (.aload_n 2, 1) := by decide +kernel
theorem dX9_plateByText_72 : decode cX9_plateByText 72 = .ok (.areturn, 1) := by decide +kernel
theorem dX9_leadAllBack_0 : decode cX9_leadAllBack 0 = .ok (.iconst 0, 1) := by decide +kernel
theorem dX9_leadAllBack_1 : decode cX9_leadAllBack 1 = .ok (.istore_n 1, 1) := by decide +kernel
theorem dX9_leadAllBack_2 : decode cX9_leadAllBack 2 = .ok (.iload_n 1, 1) := by decide +kernel
theorem dX9_leadAllBack_3 : decode cX9_leadAllBack 3 = .ok (.aload_n 0, 1) := by decide +kernel
theorem dX9_leadAllBack_4 : decode cX9_leadAllBack 4 = .ok (.getfield 82, 3) := by decide +kernel
theorem dX9_leadAllBack_7 : decode cX9_leadAllBack 7 = .ok (.if_icmp .ge 33, 3) := by decide +kernel
theorem dX9_leadAllBack_10 : decode cX9_leadAllBack 10 = .ok (.aload_n 0, 1) := by decide +kernel
theorem dX9_leadAllBack_11 : decode cX9_leadAllBack 11 = .ok (.getfield 45, 3) := by decide +kernel
theorem dX9_leadAllBack_14 : decode cX9_leadAllBack 14 = .ok (.iload_n 1, 1) := by decide +kernel
theorem dX9_leadAllBack_15 : decode cX9_leadAllBack 15 = .ok (.aaload, 1) := by decide +kernel
theorem dX9_leadAllBack_16 : decode cX9_leadAllBack 16 = .ok (.astore_n 2, 1) := by decide +kernel
theorem dX9_leadAllBack_17 : decode cX9_leadAllBack 17 = .ok (.aload_n 2, 1) := by decide +kernel
theorem dX9_leadAllBack_18 : decode cX9_leadAllBack 18 = .ok (.getfield 261, 3) := by decide +kernel
theorem dX9_leadAllBack_21 : decode cX9_leadAllBack 21 = .ok (.ifCond .ne 13, 3) := by decide +kernel
theorem dX9_leadAllBack_24 : decode cX9_leadAllBack 24 = .ok (.aload_n 0, 1) := by decide +kernel
theorem dX9_leadAllBack_25 : decode cX9_leadAllBack 25 = .ok (.aload_n 2, 1) := by decide +kernel
theorem dX9_leadAllBack_26 : decode cX9_leadAllBack 26 = .ok (.aload_n 0, 1) := by decide +kernel
theorem dX9_leadAllBack_27 : decode cX9_leadAllBack 27 = .ok (.aload_n 2, 1) := by decide +kernel
theorem dX9_leadAllBack_28 : decode cX9_leadAllBack 28 = .ok (.invokevirtual 240, 3) := by decide +kernel
theorem dX9_leadAllBack_31 : decode cX9_leadAllBack 31 = .ok (.invokevirtual 244, 3) := by decide +kernel
theorem dX9_leadAllBack_34 : decode cX9_leadAllBack 34 = .ok (.iinc 1 1, 3) := by decide +kernel
theorem dX9_leadAllBack_37 : decode cX9_leadAllBack 37 = .ok (.goto (-35), 3) := by decide +kernel
theorem dX9_leadAllBack_40 : decode cX9_leadAllBack 40 = .ok (.return_, 1) := by decide +kernel
theorem dX9_move_0 : decode cX9_move 0 = .ok (.aload_n 1, 1) := by decide +kernel
theorem dX9_move_1 : decode cX9_move 1 = .ok (.getfield 253, 3) := by decide +kernel
theorem dX9_move_4 : decode cX9_move 4 = .ok (.invokestatic 257, 3) := by decide +kernel
theorem dX9_move_7 : decode cX9_move 7 = .ok (.aload_n 2, 1) := by decide +kernel
theorem dX9_move_8 : decode cX9_move 8 = .ok (.invokestatic 257, 3) := by decide +kernel
theorem dX9_move_11 : decode cX9_move 11 = .ok (.if_icmp .ne 4, 3) := by decide +kernel
theorem dX9_move_14 : decode cX9_move 14 = .ok (.return_, 1) := by decide +kernel
theorem dX9_move_15 : decode cX9_move 15 = .ok (.aload_n 1, 1) := by decide +kernel
theorem dX9_move_16 : decode cX9_move 16 = .ok (.getfield 253, 3) := by decide +kernel
theorem dX9_move_19 : decode cX9_move 19 = .ok (.ifnull 18, 3) := by decide +kernel
theorem dX9_move_22 : decode cX9_move 22 = .ok (.aload_n 1, 1) := by decide +kernel
theorem dX9_move_23 : decode cX9_move 23 = .ok (.getfield 253, 3) := by decide +kernel
theorem dX9_move_26 : decode cX9_move 26 = .ok (.getfield 275, 3) := by decide +kernel
theorem dX9_move_29 : decode cX9_move 29 = .ok (.aload_n 1, 1) := by decide +kernel
theorem dX9_move_30 : decode cX9_move 30 = .ok (.aload_n 0, 1) := by decide +kernel
theorem dX9_move_31 : decode cX9_move 31 = .ok (.getfield 10, 3) := by decide +kernel
theorem dX9_move_34 : decode cX9_move 34 = .ok (.invokevirtual 378, 3) := by decide +kernel
theorem dX9_move_37 : decode cX9_move 37 = .ok (.aload_n 1, 1) := by decide +kernel
theorem dX9_move_38 : decode cX9_move 38 = .ok (.aload_n 2, 1) := by decide +kernel
theorem dX9_move_39 : decode cX9_move 39 = .ok (.putfield 253, 3) := by decide +kernel
theorem dX9_move_42 : decode cX9_move 42 = .ok (.aload_n 2, 1) := by decide +kernel
theorem dX9_move_43 : decode cX9_move 43 = .ok (.ifnull 15, 3) := by decide +kernel
theorem dX9_move_46 : decode cX9_move 46 = .ok (.aload_n 2, 1) := by decide +kernel
theorem dX9_move_47 : decode cX9_move 47 = .ok (.getfield 275, 3) := by decide +kernel
theorem dX9_move_50 : decode cX9_move 50 = .ok (.aload_n 1, 1) := by decide +kernel
theorem dX9_move_51 : decode cX9_move 51 = .ok (.aload_n 0, 1) := by decide +kernel
theorem dX9_move_52 : decode cX9_move 52 = .ok (.getfield 10, 3) := by decide +kernel
theorem dX9_move_55 : decode cX9_move 55 = .ok (.invokevirtual 382, 3) := by decide +kernel
theorem dX9_move_58 : decode cX9_move 58 = .ok (.return_, 1) := by decide +kernel
theorem dX9_joinAllAgain_0 : decode cX9_joinAllAgain 0 = .ok (.iconst 0, 1) := by decide +kernel
theorem dX9_joinAllAgain_1 : decode cX9_joinAllAgain 1 = .ok (.istore_n 1, 1) := by decide +kernel
theorem dX9_joinAllAgain_2 : decode cX9_joinAllAgain 2 = .ok (.iload_n 1, 1) := by decide +kernel
theorem dX9_joinAllAgain_3 : decode cX9_joinAllAgain 3 = .ok (.aload_n 0, 1) := by decide +kernel
theorem dX9_joinAllAgain_4 : decode cX9_joinAllAgain 4 = .ok (.getfield 79, 3) := by decide +kernel
theorem dX9_joinAllAgain_7 : decode cX9_joinAllAgain 7 = .ok (.if_icmp .ge 25, 3) := by decide +kernel
theorem dX9_joinAllAgain_10 : decode cX9_joinAllAgain 10 = .ok (.aload_n 0, 1) := by decide +kernel
theorem dX9_joinAllAgain_11 : decode cX9_joinAllAgain 11 = .ok (.getfield 36, 3) := by decide +kernel
theorem dX9_joinAllAgain_14 : decode cX9_joinAllAgain 14 = .ok (.iload_n 1, 1) := by decide +kernel
theorem dX9_joinAllAgain_15 : decode cX9_joinAllAgain 15 = .ok (.aaload, 1) := by decide +kernel
theorem dX9_joinAllAgain_16 : decode cX9_joinAllAgain 16 = .ok (.getfield 275, 3) := by decide +kernel
theorem dX9_joinAllAgain_19 : decode cX9_joinAllAgain 19 = .ok (.aload_n 0, 1) := by decide +kernel
theorem dX9_joinAllAgain_20 : decode cX9_joinAllAgain 20 = .ok (.getfield 10, 3) := by decide +kernel
theorem dX9_joinAllAgain_23 : decode cX9_joinAllAgain 23 = .ok (.invokevirtual 384, 3) := by decide +kernel
theorem dX9_joinAllAgain_26 : decode cX9_joinAllAgain 26 = .ok (.iinc 1 1, 3) := by decide +kernel
theorem dX9_joinAllAgain_29 : decode cX9_joinAllAgain 29 = .ok (.goto (-27), 3) := by decide +kernel
theorem dX9_joinAllAgain_32 : decode cX9_joinAllAgain 32 = .ok (.return_, 1) := by decide +kernel
theorem dX9_joinAnew_0 : decode cX9_joinAnew 0 = .ok (.aload_n 0, 1) := by decide +kernel
theorem dX9_joinAnew_1 : decode cX9_joinAnew 1 = .ok (.getfield 71, 3) := by decide +kernel
theorem dX9_joinAnew_4 : decode cX9_joinAnew 4 = .ok (.iconst 0, 1) := by decide +kernel
theorem dX9_joinAnew_5 : decode cX9_joinAnew 5 = .ok (.putfield 388, 3) := by decide +kernel
theorem dX9_joinAnew_8 : decode cX9_joinAnew 8 = .ok (.iconst 0, 1) := by decide +kernel
theorem dX9_joinAnew_9 : decode cX9_joinAnew 9 = .ok (.istore_n 2, 1) := by decide +kernel
theorem dX9_joinAnew_10 : decode cX9_joinAnew 10 = .ok (.iload_n 2, 1) := by decide +kernel
theorem dX9_joinAnew_11 : decode cX9_joinAnew 11 = .ok (.aload_n 0, 1) := by decide +kernel
theorem dX9_joinAnew_12 : decode cX9_joinAnew 12 = .ok (.getfield 82, 3) := by decide +kernel
theorem dX9_joinAnew_15 : decode cX9_joinAnew 15 = .ok (.if_icmp .ge 39, 3) := by decide +kernel
theorem dX9_joinAnew_18 : decode cX9_joinAnew 18 = .ok (.aload_n 0, 1) := by decide +kernel
theorem dX9_joinAnew_19 : decode cX9_joinAnew 19 = .ok (.getfield 45, 3) := by decide +kernel
theorem dX9_joinAnew_22 : decode cX9_joinAnew 22 = .ok (.iload_n 2, 1) := by decide +kernel
theorem dX9_joinAnew_23 : decode cX9_joinAnew 23 = .ok (.aaload, 1) := by decide +kernel
theorem dX9_joinAnew_24 : decode cX9_joinAnew 24 = .ok (.astore_n 3, 1) := by decide +kernel
theorem dX9_joinAnew_25 : decode cX9_joinAnew 25 = .ok (.aload_n 3, 1) := by decide +kernel
theorem dX9_joinAnew_26 : decode cX9_joinAnew 26 = .ok (.getfield 253, 3) := by decide +kernel
theorem dX9_joinAnew_29 : decode cX9_joinAnew 29 = .ok (.invokestatic 257, 3) := by decide +kernel
theorem dX9_joinAnew_32 : decode cX9_joinAnew 32 = .ok (.aload_n 1, 1) := by decide +kernel
theorem dX9_joinAnew_33 : decode cX9_joinAnew 33 = .ok (.getfield 210, 3) := by decide +kernel
theorem dX9_joinAnew_36 : decode cX9_joinAnew 36 = .ok (.if_icmp .ne 12, 3) := by decide +kernel
theorem dX9_joinAnew_39 : decode cX9_joinAnew 39 = .ok (.aload_n 0, 1) := by decide +kernel
theorem dX9_joinAnew_40 : decode cX9_joinAnew 40 = .ok (.getfield 71, 3) := by decide +kernel
theorem dX9_joinAnew_43 : decode cX9_joinAnew 43 = .ok (.aload_n 3, 1) := by decide +kernel
theorem dX9_joinAnew_44 : decode cX9_joinAnew 44 = .ok (.invokevirtual 389, 3) := by decide +kernel
theorem dX9_joinAnew_47 : decode cX9_joinAnew 47 = .ok (.pop, 1) := by decide +kernel
theorem dX9_joinAnew_48 : decode cX9_joinAnew 48 = .ok (.iinc 2 1, 3) := by decide +kernel
theorem dX9_joinAnew_51 : decode cX9_joinAnew 51 = .ok (.goto (-41), 3) := by decide +kernel
theorem dX9_joinAnew_54 : decode cX9_joinAnew 54 = .ok (.aload_n 0, 1) := by decide +kernel
theorem dX9_joinAnew_55 : decode cX9_joinAnew 55 = .ok (.getfield 71, 3) := by decide +kernel
theorem dX9_joinAnew_58 : decode cX9_joinAnew 58 = .ok (.aload_n 0, 1) := by decide +kernel
theorem dX9_joinAnew_59 : decode cX9_joinAnew 59 = .ok (.getfield 10, 3) := by decide +kernel
theorem dX9_joinAnew_62 : decode cX9_joinAnew 62 = .ok (.invokevirtual 384, 3) := by decide +kernel
theorem dX9_joinAnew_65 : decode cX9_joinAnew 65 = .ok (.aload_n 0, 1) := by decide +kernel
theorem dX9_joinAnew_66 : decode cX9_joinAnew 66 = .ok (.getfield 71, 3) := by decide +kernel
theorem dX9_joinAnew_69 : decode cX9_joinAnew 69 = .ok (.areturn, 1) := by decide +kernel
theorem dX9_dueByKept_0 : decode cX9_dueByKept 0 = .ok (.iconst 0, 1) := by decide +kernel
theorem dX9_dueByKept_1 : decode cX9_dueByKept 1 = .ok (.istore_n 2, 1) := by decide +kernel
theorem dX9_dueByKept_2 : decode cX9_dueByKept 2 = .ok (.iconst 0, 1) := by decide +kernel
theorem dX9_dueByKept_3 : decode cX9_dueByKept 3 = .ok (.istore_n 3, 1) := by decide +kernel
theorem dX9_dueByKept_4 : decode cX9_dueByKept 4 = .ok (.iload_n 3, 1) := by decide +kernel
theorem dX9_dueByKept_5 : decode cX9_dueByKept 5 = .ok (.aload_n 0, 1) := by decide +kernel
theorem dX9_dueByKept_6 : decode cX9_dueByKept 6 = .ok (.getfield 79, 3) := by decide +kernel
theorem dX9_dueByKept_9 : decode cX9_dueByKept 9 = .ok (.if_icmp .ge 32, 3) := by decide +kernel
theorem dX9_dueByKept_12 : decode cX9_dueByKept 12 = .ok (.aload_n 0, 1) := by decide +kernel
theorem dX9_dueByKept_13 : decode cX9_dueByKept 13 = .ok (.getfield 36, 3) := by decide +kernel
theorem dX9_dueByKept_16 : decode cX9_dueByKept 16 = .ok (.iload_n 3, 1) := by decide +kernel
theorem dX9_dueByKept_17 : decode cX9_dueByKept 17 = .ok (.aaload, 1) := by decide +kernel
theorem dX9_dueByKept_18 : decode cX9_dueByKept 18 = .ok (.astore 4, 2) := by decide +kernel
theorem dX9_dueByKept_20 : decode cX9_dueByKept 20 = .ok (.iload_n 2, 1) := by decide +kernel
theorem dX9_dueByKept_21 : decode cX9_dueByKept 21 = .ok (.aload_n 0, 1) := by decide +kernel
theorem dX9_dueByKept_22 : decode cX9_dueByKept 22 = .ok (.aload 4, 2) := by decide +kernel
theorem dX9_dueByKept_24 : decode cX9_dueByKept 24 = .ok (.aload 4, 2) := by decide +kernel
theorem dX9_dueByKept_26 : decode cX9_dueByKept 26 = .ok (.getfield 275, 3) := by decide +kernel
theorem dX9_dueByKept_29 : decode cX9_dueByKept 29 = .ok (.iload_n 1, 1) := by decide +kernel
theorem dX9_dueByKept_30 : decode cX9_dueByKept 30 = .ok (.invokevirtual 306, 3) := by decide +kernel
theorem dX9_dueByKept_33 : decode cX9_dueByKept 33 = .ok (.iadd, 1) := by decide +kernel
theorem dX9_dueByKept_34 : decode cX9_dueByKept 34 = .ok (.istore_n 2, 1) := by decide +kernel
theorem dX9_dueByKept_35 : decode cX9_dueByKept 35 = .ok (.iinc 3 1, 3) := by decide +kernel
theorem dX9_dueByKept_38 : decode cX9_dueByKept 38 = .ok (.goto (-34), 3) := by decide +kernel
theorem dX9_dueByKept_41 : decode cX9_dueByKept 41 = .ok (.iload_n 2, 1) := by decide +kernel
theorem dX9_dueByKept_42 : decode cX9_dueByKept 42 = .ok (.ireturn, 1) := by decide +kernel
theorem dX9_dueFor_0 : decode cX9_dueFor 0 = .ok (.iconst 0, 1) := by decide +kernel
theorem dX9_dueFor_1 : decode cX9_dueFor 1 = .ok (.istore 4, 2) := by decide +kernel
theorem dX9_dueFor_3 : decode cX9_dueFor 3 = .ok (.iconst 0, 1) := by decide +kernel
theorem dX9_dueFor_4 : decode cX9_dueFor 4 = .ok (.istore 5, 2) := by decide +kernel
theorem dX9_dueFor_6 : decode cX9_dueFor 6 = .ok (.iload 5, 2) := by decide +kernel
theorem dX9_dueFor_8 : decode cX9_dueFor 8 = .ok (.aload_n 2, 1) := by decide +kernel
theorem dX9_dueFor_9 : decode cX9_dueFor 9 = .ok (.getfield 388, 3) := by decide +kernel
theorem dX9_dueFor_12 : decode cX9_dueFor 12 = .ok (.if_icmp .ge 50, 3) := by decide +kernel
theorem dX9_dueFor_15 : decode cX9_dueFor 15 = .ok (.aload_n 2, 1) := by decide +kernel
theorem dX9_dueFor_16 : decode cX9_dueFor 16 = .ok (.getfield 392, 3) := by decide +kernel
theorem dX9_dueFor_19 : decode cX9_dueFor 19 = .ok (.iload 5, 2) := by decide +kernel
theorem dX9_dueFor_21 : decode cX9_dueFor 21 = .ok (.baload, 1) := by decide +kernel
theorem dX9_dueFor_22 : decode cX9_dueFor 22 = .ok (.ifCond .eq 34, 3) := by decide +kernel
theorem dX9_dueFor_25 : decode cX9_dueFor 25 = .ok (.aload_n 1, 1) := by decide +kernel
theorem dX9_dueFor_26 : decode cX9_dueFor 26 = .ok (.aload_n 2, 1) := by decide +kernel
theorem dX9_dueFor_27 : decode cX9_dueFor 27 = .ok (.getfield 297, 3) := by decide +kernel
theorem dX9_dueFor_30 : decode cX9_dueFor 30 = .ok (.iload 5, 2) := by decide +kernel
theorem dX9_dueFor_32 : decode cX9_dueFor 32 = .ok (.aaload, 1) := by decide +kernel
theorem dX9_dueFor_33 : decode cX9_dueFor 33 = .ok (.getfield 300, 3) := by decide +kernel
theorem dX9_dueFor_36 : decode cX9_dueFor 36 = .ok (.invokevirtual 232, 3) := by decide +kernel
theorem dX9_dueFor_39 : decode cX9_dueFor 39 = .ok (.iload_n 3, 1) := by decide +kernel
theorem dX9_dueFor_40 : decode cX9_dueFor 40 = .ok (.if_icmp .ne 16, 3) := by decide +kernel
theorem dX9_dueFor_43 : decode cX9_dueFor 43 = .ok (.iload 4, 2) := by decide +kernel
theorem dX9_dueFor_45 : decode cX9_dueFor 45 = .ok (.aload_n 0, 1) := by decide +kernel
theorem dX9_dueFor_46 : decode cX9_dueFor 46 = .ok (.aload_n 2, 1) := by decide +kernel
theorem dX9_dueFor_47 : decode cX9_dueFor 47 = .ok (.iload 5, 2) := by decide +kernel
theorem dX9_dueFor_49 : decode cX9_dueFor 49 = .ok (.aload_n 1, 1) := by decide +kernel
theorem dX9_dueFor_50 : decode cX9_dueFor 50 = .ok (.invokevirtual 293, 3) := by decide +kernel
theorem dX9_dueFor_53 : decode cX9_dueFor 53 = .ok (.iadd, 1) := by decide +kernel
theorem dX9_dueFor_54 : decode cX9_dueFor 54 = .ok (.istore 4, 2) := by decide +kernel
theorem dX9_dueFor_56 : decode cX9_dueFor 56 = .ok (.iinc 5 1, 3) := by decide +kernel
theorem dX9_dueFor_59 : decode cX9_dueFor 59 = .ok (.goto (-53), 3) := by decide +kernel
theorem dX9_dueFor_62 : decode cX9_dueFor 62 = .ok (.iload 4, 2) := by decide +kernel
theorem dX9_dueFor_64 : decode cX9_dueFor 64 = .ok (.ireturn, 1) := by decide +kernel
theorem dX9_tollFrom_0 : decode cX9_tollFrom 0 = .ok (.aload_n 0, 1) := by decide +kernel
theorem dX9_tollFrom_1 : decode cX9_tollFrom 1 = .ok (.getfield 16, 3) := by decide +kernel
theorem dX9_tollFrom_4 : decode cX9_tollFrom 4 = .ok (.aload_n 3, 1) := by decide +kernel
theorem dX9_tollFrom_5 : decode cX9_tollFrom 5 = .ok (.getfield 396, 3) := by decide +kernel
theorem dX9_tollFrom_8 : decode cX9_tollFrom 8 = .ok (.iaload, 1) := by decide +kernel
theorem dX9_tollFrom_9 : decode cX9_tollFrom 9 = .ok (.aload_n 1, 1) := by decide +kernel
theorem dX9_tollFrom_10 : decode cX9_tollFrom 10 = .ok (.iload_n 2, 1) := by decide +kernel
theorem dX9_tollFrom_11 : decode cX9_tollFrom 11 = .ok (.aload_n 0, 1) := by decide +kernel
theorem dX9_tollFrom_12 : decode cX9_tollFrom 12 = .ok (.getfield 10, 3) := by decide +kernel
theorem dX9_tollFrom_15 : decode cX9_tollFrom 15 = .ok (.invokevirtual 399, 3) := by decide +kernel
theorem dX9_tollFrom_18 : decode cX9_tollFrom 18 = .ok (.iconst 2, 1) := by decide +kernel
theorem dX9_tollFrom_19 : decode cX9_tollFrom 19 = .ok (.iadd, 1) := by decide +kernel
theorem dX9_tollFrom_20 : decode cX9_tollFrom 20 = .ok (.imul, 1) := by decide +kernel
theorem dX9_tollFrom_21 : decode cX9_tollFrom 21 = .ok (.ireturn, 1) := by decide +kernel
theorem dX10_init_0 : decode cX10_init 0 = .ok (.aload_n 0, 1) := by decide +kernel
theorem dX10_init_1 : decode cX10_init 1 = .ok (.invokespecial 1, 3) := by decide +kernel
theorem dX10_init_4 : decode cX10_init 4 = .ok (.aload_n 0, 1) := by decide +kernel
theorem dX10_init_5 : decode cX10_init 5 = .ok (.bipush 30, 2) := by decide +kernel
theorem dX10_init_7 : decode cX10_init 7 = .ok (.putfield 7, 3) := by decide +kernel
theorem dX10_init_10 : decode cX10_init 10 = .ok (.aload_n 0, 1) := by decide +kernel
theorem dX10_init_11 : decode cX10_init 11 = .ok (.bipush 64, 2) := by decide +kernel
theorem dX10_init_13 : decode cX10_init 13 = .ok (.newarray .int, 2) := by decide +kernel
theorem dX10_init_15 : decode cX10_init 15 = .ok (.putfield 13, 3) := by decide +kernel
theorem dX10_init_18 : decode cX10_init 18 = .ok (.aload_n 0, 1) := by decide +kernel
theorem dX10_init_19 : decode cX10_init 19 = .ok (.bipush 64, 2) := by decide +kernel
theorem dX10_init_21 : decode cX10_init 21 = .ok (.newarray .int, 2) := by decide +kernel
theorem dX10_init_23 : decode cX10_init 23 = .ok (.putfield 17, 3) := by decide +kernel
theorem dX10_init_26 : decode cX10_init 26 = .ok (.aload_n 0, 1) := by decide +kernel
theorem dX10_init_27 : decode cX10_init 27 = .ok (.iconst 4, 1) := by decide +kernel
theorem dX10_init_28 : decode cX10_init 28 = .ok (.newarray .int, 2) := by decide +kernel
theorem dX10_init_30 : decode cX10_init 30 = .ok (.putfield 20, 3) := by decide +kernel
theorem dX10_init_33 : decode cX10_init 33 = .ok (.aload_n 0, 1) := by decide +kernel
theorem dX10_init_34 : decode cX10_init 34 = .ok (.bipush 6, 2) := by decide +kernel
theorem dX10_init_36 : decode cX10_init 36 = .ok (.newarray .int, 2) := by decide +kernel
theorem dX10_init_38 : decode cX10_init 38 = .ok (.putfield 23, 3) := by decide +kernel
theorem dX10_init_41 : decode cX10_init 41 = .ok (.aload_n 0, 1) := by decide +kernel
theorem dX10_init_42 : decode cX10_init 42 = .ok (.sipush 225, 3) := by decide +kernel
theorem dX10_init_45 : decode cX10_init 45 = .ok (.newarray .boolean, 2) := by decide +kernel
theorem dX10_init_47 : decode cX10_init 47 = .ok (.putfield 26, 3) := by decide +kernel
theorem dX10_init_50 : decode cX10_init 50 = .ok (.aload_n 0, 1) := by decide +kernel
theorem dX10_init_51 : decode cX10_init 51 = .ok (.bipush 10, 2) := by decide +kernel
theorem dX10_init_53 : decode cX10_init 53 = .ok (.newarray .int, 2) := by decide +kernel
theorem dX10_init_55 : decode cX10_init 55 = .ok (.putfield 30, 3) := by decide +kernel
theorem dX10_init_58 : decode cX10_init 58 = .ok (.aload_n 0, 1) := by decide +kernel
theorem dX10_init_59 : decode cX10_init 59 = .ok (.bipush 60, 2) := by decide +kernel
theorem dX10_init_61 : decode cX10_init 61 = .ok (.newarray .int, 2) := by decide +kernel
theorem dX10_init_63 : decode cX10_init 63 = .ok (.putfield 33, 3) := by decide +kernel
theorem dX10_init_66 : decode cX10_init 66 = .ok (.aload_n 0, 1) := by decide +kernel
theorem dX10_init_67 : decode cX10_init 67 = .ok (.bipush 10, 2) := by decide +kernel
theorem dX10_init_69 : decode cX10_init 69 = .ok (.newarray .int, 2) := by decide +kernel
theorem dX10_init_71 : decode cX10_init 71 = .ok (.putfield 36, 3) := by decide +kernel
theorem dX10_init_74 : decode cX10_init 74 = .ok (.aload_n 0, 1) := by decide +kernel
theorem dX10_init_75 : decode cX10_init 75 = .ok (.sipush 700, 3) := by decide +kernel
theorem dX10_init_78 : decode cX10_init 78 = .ok (.newarray .int, 2) := by decide +kernel
theorem dX10_init_80 : decode cX10_init 80 = .ok (.putfield 39, 3) := by decide +kernel
theorem dX10_init_83 : decode cX10_init 83 = .ok (.aload_n 0, 1) := by decide +kernel
theorem dX10_init_84 : decode cX10_init 84 = .ok (.sipush 700, 3) := by decide +kernel
theorem dX10_init_87 : decode cX10_init 87 = .ok (.newarray .int, 2) := by decide +kernel
theorem dX10_init_89 : decode cX10_init 89 = .ok (.putfield 42, 3) := by decide +kernel
theorem dX10_init_92 : decode cX10_init 92 = .ok (.aload_n 0, 1) := by decide +kernel
theorem dX10_init_93 : decode cX10_init 93 = .ok (.sipush 700, 3) := by decide +kernel
theorem dX10_init_96 : decode cX10_init 96 = .ok (.newarray .int, 2) := by decide +kernel
theorem dX10_init_98 : decode cX10_init 98 = .ok (.putfield 45, 3) := by decide +kernel
theorem dX10_init_101 : decode cX10_init 101 = .ok (.aload_n 0, 1) := by decide +kernel
theorem dX10_init_102 : decode cX10_init 102 = .ok (.bipush 60, 2) := by decide +kernel
theorem dX10_init_104 : decode cX10_init 104 = .ok (.newarray .int, 2) := by decide +kernel
theorem dX10_init_106 : decode cX10_init 106 = .ok (.putfield 48, 3) := by decide +kernel
theorem dX10_init_109 : decode cX10_init 109 = .ok (.aload_n 0, 1) := by decide +kernel
theorem dX10_init_110 : decode cX10_init 110 = .ok (.bipush 60, 2) := by decide +kernel
theorem dX10_init_112 : decode cX10_init 112 = .ok (.newarray .int, 2) := by decide +kernel
theorem dX10_init_114 : decode cX10_init 114 = .ok (.putfield 51, 3) := by decide +kernel
theorem dX10_init_117 : decode cX10_init 117 = .ok (.aload_n 0, 1) := by decide +kernel
theorem dX10_init_118 : decode cX10_init 118 = .ok (.bipush 60, 2) := by decide +kernel
theorem dX10_init_120 : decode cX10_init 120 = .ok (.newarray .int, 2) := by decide +kernel
theorem dX10_init_122 : decode cX10_init 122 = .ok (.putfield 54, 3) := by decide +kernel
theorem dX10_init_125 : decode cX10_init 125 = .ok (.aload_n 0, 1) := by decide +kernel
theorem dX10_init_126 : decode cX10_init 126 = .ok (.sipush 360, 3) := by decide +kernel
theorem dX10_init_129 : decode cX10_init 129 = .ok (.newarray .int, 2) := by decide +kernel
theorem dX10_init_131 : decode cX10_init 131 = .ok (.putfield 57, 3) := by decide +kernel
theorem dX10_init_134 : decode cX10_init 134 = .ok (.aload_n 0, 1) := by decide +kernel
theorem dX10_init_135 : decode cX10_init 135 = .ok (.bipush 60, 2) := by decide +kernel
theorem dX10_init_137 : decode cX10_init 137 = .ok (.newarray .boolean, 2) := by decide +kernel
theorem dX10_init_139 : decode cX10_init 139 = .ok (.putfield 60, 3) := by decide +kernel
theorem dX10_init_142 : decode cX10_init 142 = .ok (.aload_n 0, 1) := by decide +kernel
theorem dX10_init_143 : decode cX10_init 143 = .ok (.bipush 60, 2) := by decide +kernel
theorem dX10_init_145 : decode cX10_init 145 = .ok (.newarray .int, 2) := by decide +kernel
theorem dX10_init_147 : decode cX10_init 147 = .ok (.putfield 63, 3) := by decide +kernel
theorem dX10_init_150 : decode cX10_init 150 = .ok (.aload_n 0, 1) := by decide +kernel
theorem dX10_init_151 : decode cX10_init 151 = .ok (.bipush 60, 2) := by decide +kernel
theorem dX10_init_153 : decode cX10_init 153 = .ok (.newarray .int, 2) := by decide +kernel
theorem dX10_init_155 : decode cX10_init 155 = .ok (.putfield 66, 3) := by decide +kernel
theorem dX10_init_158 : decode cX10_init 158 = .ok (.aload_n 0, 1) := by decide +kernel
theorem dX10_init_159 : decode cX10_init 159 = .ok (.bipush 60, 2) := by decide +kernel
theorem dX10_init_161 : decode cX10_init 161 = .ok (.newarray .int, 2) := by decide +kernel
theorem dX10_init_163 : decode cX10_init 163 = .ok (.putfield 69, 3) := by decide +kernel
theorem dX10_init_166 : decode cX10_init 166 = .ok (.aload_n 0, 1) := by decide +kernel
theorem dX10_init_167 : decode cX10_init 167 = .ok (.bipush 6, 2) := by decide +kernel
theorem dX10_init_169 : decode cX10_init 169 = .ok (.newarray .long, 2) := by decide +kernel
theorem dX10_init_171 : decode cX10_init 171 = .ok (.putfield 72, 3) := by decide +kernel
theorem dX10_init_174 : decode cX10_init 174 = .ok (.aload_n 0, 1) := by decide +kernel
theorem dX10_init_175 : decode cX10_init 175 = .ok (.bipush 6, 2) := by decide +kernel
theorem dX10_init_177 : decode cX10_init 177 = .ok (.newarray .long, 2) := by decide +kernel
theorem dX10_init_179 : decode cX10_init 179 = .ok (.putfield 76, 3) := by decide +kernel
theorem dX10_init_182 : decode cX10_init 182 = .ok (.aload_n 0, 1) := by decide +kernel
theorem dX10_init_183 : decode cX10_init 183 = .ok (.bipush 8, 2) := by decide +kernel
theorem dX10_init_185 : decode cX10_init 185 = .ok (.newarray .int, 2) := by decide +kernel
theorem dX10_init_187 : decode cX10_init 187 = .ok (.putfield 79, 3) := by decide +kernel
theorem dX10_init_190 : decode cX10_init 190 = .ok (.aload_n 0, 1) := by decide +kernel
theorem dX10_init_191 : decode cX10_init 191 = .ok (.bipush 8, 2) := by decide +kernel
theorem dX10_init_193 : decode cX10_init 193 = .ok (.newarray .int, 2) := by decide +kernel
theorem dX10_init_195 : decode cX10_init 195 = .ok (.putfield 82, 3) := by decide +kernel
theorem dX10_init_198 : decode cX10_init 198 = .ok (.aload_n 0, 1) := by decide +kernel
theorem dX10_init_199 : decode cX10_init 199 = .ok (.bipush 8, 2) := by decide +kernel
theorem dX10_init_201 : decode cX10_init 201 = .ok (.newarray .int, 2) := by decide +kernel
theorem dX10_init_203 : decode cX10_init 203 = .ok (.putfield 85, 3) := by decide +kernel
theorem dX10_init_206 : decode cX10_init 206 = .ok (.aload_n 0, 1) := by decide +kernel
theorem dX10_init_207 : decode cX10_init 207 = .ok (.bipush 40, 2) := by decide +kernel
theorem dX10_init_209 : decode cX10_init 209 = .ok (.newarray .int, 2) := by decide +kernel
theorem dX10_init_211 : decode cX10_init 211 = .ok (.putfield 88, 3) := by decide +kernel
theorem dX10_init_214 : decode cX10_init 214 = .ok (.aload_n 0, 1) := by decide +kernel
theorem dX10_init_215 : decode cX10_init 215 = .ok (.bipush 40, 2) := by decide +kernel
theorem dX10_init_217 : decode cX10_init 217 = .ok (.newarray .int, 2) := by decide +kernel
theorem dX10_init_219 : decode cX10_init 219 = .ok (.putfield 91, 3) := by decide +kernel
theorem dX10_init_222 : decode cX10_init 222 = .ok (.aload_n 0, 1) := by decide +kernel
theorem dX10_init_223 : decode cX10_init 223 = .ok (.bipush 40, 2) := by decide +kernel
theorem dX10_init_225 : decode cX10_init 225 = .ok (.newarray .int, 2) := by decide +kernel
theorem dX10_init_227 : decode cX10_init 227 = .ok (.putfield 94, 3) := by decide +kernel
theorem dX10_init_230 : decode cX10_init 230 = .ok (.iconst 0, 1) := by decide +kernel
theorem dX10_init_231 : decode cX10_init 231 = .ok (.istore_n 1, 1) := by decide +kernel
theorem dX10_init_232 : decode cX10_init 232 = .ok (.iload_n 1, 1) := by decide +kernel
theorem dX10_init_233 : decode cX10_init 233 = .ok (.iconst 4, 1) := by decide +kernel
theorem dX10_init_234 : decode cX10_init 234 = .ok (.if_icmp .ge 18, 3) := by decide +kernel
theorem dX10_init_237 : decode cX10_init 237 = .ok (.aload_n 0, 1) := by decide +kernel
theorem dX10_init_238 : decode cX10_init 238 = .ok (.getfield 20, 3) := by decide +kernel
theorem dX10_init_241 : decode cX10_init 241 = .ok (.iload_n 1, 1) := by decide +kernel
theorem dX10_init_242 : decode cX10_init 242 = .ok (.iconst 1, 1) := by decide +kernel
theorem dX10_init_243 : decode cX10_init 243 = .ok (.iload_n 1, 1) := by decide +kernel
theorem dX10_init_244 : decode cX10_init 244 = .ok (.ishl, 1) := by decide +kernel
theorem dX10_init_245 : decode cX10_init 245 = .ok (.iastore, 1) := by decide +kernel
theorem dX10_init_246 : decode cX10_init 246 = .ok (.iinc 1 1, 3) := by decide +kernel
theorem dX10_init_249 : decode cX10_init 249 = .ok (.goto (-17), 3) := by decide +kernel
theorem dX10_init_252 : decode cX10_init 252 = .ok (.aload_n 0, 1) := by decide +kernel
theorem dX10_init_253 : decode cX10_init 253 = .ok (.invokevirtual 97, 3) := by decide +kernel
theorem dX10_init_256 : decode cX10_init 256 = .ok (.return_, 1) := by decide +kernel
theorem dX10_thrown_0 : decode cX10_thrown 0 = .ok (.aload_n 0, 1) := by decide +kernel
theorem dX10_thrown_1 : decode cX10_thrown 1 = .ok (.getfield 100, 3) := by decide +kernel
theorem dX10_thrown_4 : decode cX10_thrown 4 = .ok (.ireturn, 1) := by decide +kernel
theorem dX10_can_0 : decode cX10_can 0 = .ok (.aload_n 0, 1) := by decide +kernel
theorem dX10_can_1 : decode cX10_can 1 = .ok (.iload_n 1, 1) := by decide +kernel
theorem dX10_can_2 : decode cX10_can 2 = .ok (.putfield 100, 3) := by decide +kernel
theorem dX10_can_5 : decode cX10_can 5 = .ok (.iload_n 1, 1) := by decide +kernel
theorem dX10_can_6 : decode cX10_can 6 = .ok (.ifCond .ne 7, 3) := by decide +kernel
theorem dX10_can_9 : decode cX10_can 9 = .ok (.iconst 1, 1) := by decide +kernel
theorem dX10_can_10 : decode cX10_can 10 = .ok (.goto 4, 3) := by decide +kernel
theorem dX10_can_13 : decode cX10_can 13 = .ok (.iconst 0, 1) := by decide +kernel
theorem dX10_can_14 : decode cX10_can 14 = .ok (.ireturn, 1) := by decide +kernel
theorem dX10_isIn_0 : decode cX10_isIn 0 = .ok (.iload_n 0, 1) := by decide +kernel
theorem dX10_isIn_1 : decode cX10_isIn 1 = .ok (.iload_n 1, 1) := by decide +kernel
theorem dX10_isIn_2 : decode cX10_isIn 2 = .ok (.if_icmp .lt 12, 3) := by decide +kernel
theorem dX10_isIn_5 : decode cX10_isIn 5 = .ok (.iload_n 0, 1) := by decide +kernel
theorem dX10_isIn_6 : decode cX10_isIn 6 = .ok (.iload_n 2, 1) := by decide +kernel
theorem dX10_isIn_7 : decode cX10_isIn 7 = .ok (.if_icmp .gt 7, 3) := by decide +kernel
theorem dX10_isIn_10 : decode cX10_isIn 10 = .ok (.iconst 1, 1) := by decide +kernel
theorem dX10_isIn_11 : decode cX10_isIn 11 = .ok (.goto 4, 3) := by decide +kernel
theorem dX10_isIn_14 : decode cX10_isIn 14 = .ok (.iconst 0, 1) := by decide +kernel
theorem dX10_isIn_15 : decode cX10_isIn 15 = .ok (.ireturn, 1) := by decide +kernel
theorem dX10_isGate_0 : decode cX10_isGate 0 = .ok (.iload_n 0, 1) := by decide +kernel
theorem dX10_isGate_1 : decode cX10_isGate 1 = .ok (.iconst 0, 1) := by decide +kernel
theorem dX10_isGate_2 : decode cX10_isGate 2 = .ok (.bipush 7, 2) := by decide +kernel
theorem dX10_isGate_4 : decode cX10_isGate 4 = .ok (.invokestatic 103, 3) := by decide +kernel
theorem dX10_isGate_7 : decode cX10_isGate 7 = .ok (.ireturn, 1) := by decide +kernel
theorem dX10_isPlate_0 : decode cX10_isPlate 0 = .ok (.iload_n 1, 1) := by decide +kernel
theorem dX10_isPlate_1 : decode cX10_isPlate 1 = .ok (.iconst 0, 1) := by decide +kernel
theorem dX10_isPlate_2 : decode cX10_isPlate 2 = .ok (.aload_n 0, 1) := by decide +kernel
theorem dX10_isPlate_3 : decode cX10_isPlate 3 = .ok (.getfield 107, 3) := by decide +kernel
theorem dX10_isPlate_6 : decode cX10_isPlate 6 = .ok (.iconst 1, 1) := by decide +kernel
theorem dX10_isPlate_7 : decode cX10_isPlate 7 = .ok (.isub, 1) := by decide +kernel
theorem dX10_isPlate_8 : decode cX10_isPlate 8 = .ok (.invokestatic 103, 3) := by decide +kernel
theorem dX10_isPlate_11 : decode cX10_isPlate 11 = .ok (.ireturn, 1) := by decide +kernel
theorem dX10_isDriver_0 : decode cX10_isDriver 0 = .ok (.iload_n 0, 1) := by decide +kernel
theorem dX10_isDriver_1 : decode cX10_isDriver 1 = .ok (.iconst 0, 1) := by decide +kernel
theorem dX10_isDriver_2 : decode cX10_isDriver 2 = .ok (.iconst 5, 1) := by decide +kernel
theorem dX10_isDriver_3 : decode cX10_isDriver 3 = .ok (.invokestatic 103, 3) := by decide +kernel
theorem dX10_isDriver_6 : decode cX10_isDriver 6 = .ok (.ireturn, 1) := by decide +kernel
theorem dX10_isReading_0 : decode cX10_isReading 0 = .ok (.iload_n 1, 1) := by decide +kernel
theorem dX10_isReading_1 : decode cX10_isReading 1 = .ok (.iconst 0, 1) := by decide +kernel
theorem dX10_isReading_2 : decode cX10_isReading 2 = .ok (.aload_n 0, 1) := by decide +kernel
theorem dX10_isReading_3 : decode cX10_isReading 3 = .ok (.getfield 110, 3) := by decide +kernel
theorem dX10_isReading_6 : decode cX10_isReading 6 = .ok (.iconst 1, 1) := by decide +kernel
theorem dX10_isReading_7 : decode cX10_isReading 7 = .ok (.isub, 1) := by decide +kernel
theorem dX10_isReading_8 : decode cX10_isReading 8 = .ok (.invokestatic 103, 3) := by decide +kernel
theorem dX10_isReading_11 : decode cX10_isReading 11 = .ok (.ireturn, 1) := by decide +kernel
theorem dX10_pass_0 : decode cX10_pass 0 = .ok (.aload_n 0, 1) := by decide +kernel
theorem dX10_pass_1 : decode cX10_pass 1 = .ok (.iload_n 1, 1) := by decide +kernel
theorem dX10_pass_2 : decode cX10_pass 2 = .ok (.iconst 1, 1) := by decide +kernel
theorem dX10_pass_3 : decode cX10_pass 3 = .ok (.sipush 2000, 3) := by decide +kernel
theorem dX10_pass_6 : decode cX10_pass 6 = .ok (.invokestatic 103, 3) := by decide +kernel
theorem dX10_pass_9 : decode cX10_pass 9 = .ok (.ifCond .ne 7, 3) := by decide +kernel
theorem dX10_pass_12 : decode cX10_pass 12 = .ok (.iconst 1, 1) := by decide +kernel
theorem dX10_pass_13 : decode cX10_pass 13 = .ok (.goto 19, 3) := by decide +kernel
theorem dX10_pass_16 : decode cX10_pass 16 = .ok (.aload_n 0, 1) := by decide +kernel
theorem dX10_pass_17 : decode cX10_pass 17 = .ok (.getfield 113, 3) := by decide +kernel
theorem dX10_pass_20 : decode cX10_pass 20 = .ok (.iload_n 1, 1) := by decide +kernel
theorem dX10_pass_21 : decode cX10_pass 21 = .ok (.iadd, 1) := by decide +kernel
theorem dX10_pass_22 : decode cX10_pass 22 = .ok (.ldc 116, 2) := by decide +kernel
theorem dX10_pass_24 : decode cX10_pass 24 = .ok (.if_icmp .le 7, 3) := by decide +kernel
theorem dX10_pass_27 : decode cX10_pass 27 = .ok (.iconst 2, 1) := by decide +kernel
theorem dX10_pass_28 : decode cX10_pass 28 = .ok (.goto 4, 3) := by decide +kernel
theorem dX10_pass_31 : decode cX10_pass 31 = .ok (.iconst 0, 1) := by decide +kernel
theorem dX10_pass_32 : decode cX10_pass 32 = .ok (.invokevirtual 117, 3) := by decide +kernel
theorem dX10_pass_35 : decode cX10_pass 35 = .ok (.ifCond .ne 5, 3) := by decide +kernel
theorem dX10_pass_38 : decode cX10_pass 38 = .ok (.iconst 0, 1) := by decide +kernel
theorem dX10_pass_39 : decode cX10_pass 39 = .ok (.ireturn, 1) := by decide +kernel
theorem dX10_pass_40 : decode cX10_pass 40 = .ok (.aload_n 0, 1) := by decide +kernel
theorem dX10_pass_41 : decode cX10_pass 41 = .ok (.dup, 1) := by decide +kernel
theorem dX10_pass_42 : decode cX10_pass 42 = .ok (.getfield 113, 3) := by decide +kernel
theorem dX10_pass_45 : decode cX10_pass 45 = .ok (.iload_n 1, 1) := by decide +kernel
theorem dX10_pass_46 : decode cX10_pass 46 = .ok (.iadd, 1) := by decide +kernel
theorem dX10_pass_47 : decode cX10_pass 47 = .ok (.putfield 113, 3) := by decide +kernel
theorem dX10_pass_50 : decode cX10_pass 50 = .ok (.aload_n 0, 1) := by decide +kernel
theorem dX10_pass_51 : decode cX10_pass 51 = .ok (.getfield 113, 3) := by decide +kernel
theorem dX10_pass_54 : decode cX10_pass 54 = .ok (.ireturn, 1) := by decide +kernel
theorem dX10_now_0 : decode cX10_now 0 = .ok (.aload_n 0, 1) := by decide +kernel
theorem dX10_now_1 : decode cX10_now 1 = .ok (.iconst 0, 1) := by decide +kernel
theorem dX10_now_2 : decode cX10_now 2 = .ok (.putfield 100, 3) := by decide +kernel
theorem dX10_now_5 : decode cX10_now 5 = .ok (.aload_n 0, 1) := by decide +kernel
theorem dX10_now_6 : decode cX10_now 6 = .ok (.getfield 113, 3) := by decide +kernel
theorem dX10_now_9 : decode cX10_now 9 = .ok (.ireturn, 1) := by decide +kernel
theorem dX10_measures_0 : decode cX10_measures 0 = .ok (.iconst 0, 1) := by decide +kernel
theorem dX10_measures_1 : decode cX10_measures 1 = .ok (.istore_n 1, 1) := by decide +kernel
theorem dX10_measures_2 : decode cX10_measures 2 = .ok (.iload_n 1, 1) := by decide +kernel
theorem dX10_measures_3 : decode cX10_measures 3 = .ok (.bipush 64, 2) := by decide +kernel
theorem dX10_measures_5 : decode cX10_measures 5 = .ok (.if_icmp .ge 49, 3) := by decide +kernel
theorem dX10_measures_8 : decode cX10_measures 8 = .ok (.aload_n 0, 1) := by decide +kernel
theorem dX10_measures_9 : decode cX10_measures 9 = .ok (.getfield 17, 3) := by decide +kernel
theorem dX10_measures_12 : decode cX10_measures 12 = .ok (.iload_n 1, 1) := by decide +kernel
theorem dX10_measures_13 : decode cX10_measures 13 = .ok (.iload_n 1, 1) := by decide +kernel
theorem dX10_measures_14 : decode cX10_measures 14 = .ok (.bipush 8, 2) := by decide +kernel
theorem dX10_measures_16 : decode cX10_measures 16 = .ok (.idiv, 1) := by decide +kernel
theorem dX10_measures_17 : decode cX10_measures 17 = .ok (.iload_n 1, 1) := by decide +kernel
theorem dX10_measures_18 : decode cX10_measures 18 = .ok (.bipush 8, 2) := by decide +kernel
theorem dX10_measures_20 : decode cX10_measures 20 = .ok (.irem, 1) := by decide +kernel
theorem dX10_measures_21 : decode cX10_measures 21 = .ok (.if_icmp .ne 7, 3) := by decide +kernel
theorem dX10_measures_24 : decode cX10_measures 24 = .ok (.iconst 0, 1) := by decide +kernel
theorem dX10_measures_25 : decode cX10_measures 25 = .ok (.goto 22, 3) := by decide +kernel
theorem dX10_measures_28 : decode cX10_measures 28 = .ok (.aload_n 0, 1) := by decide +kernel
theorem dX10_measures_29 : decode cX10_measures 29 = .ok (.getfield 13, 3) := by decide +kernel
theorem dX10_measures_32 : decode cX10_measures 32 = .ok (.iload_n 1, 1) := by decide +kernel
theorem dX10_measures_33 : decode cX10_measures 33 = .ok (.iaload, 1) := by decide +kernel
theorem dX10_measures_34 : decode cX10_measures 34 = .ok (.ifCond .ne 7, 3) := by decide +kernel
theorem dX10_measures_37 : decode cX10_measures 37 = .ok (.iconst (-1), 1) := by decide +kernel
theorem dX10_measures_38 : decode cX10_measures 38 = .ok (.goto 9, 3) := by decide +kernel
theorem dX10_measures_41 : decode cX10_measures 41 = .ok (.aload_n 0, 1) := by decide +kernel
theorem dX10_measures_42 : decode cX10_measures 42 = .ok (.getfield 13, 3) := by decide +kernel
theorem dX10_measures_45 : decode cX10_measures 45 = .ok (.iload_n 1, 1) := by decide +kernel
theorem dX10_measures_46 : decode cX10_measures 46 = .ok (.iaload, 1) := by decide +kernel
theorem dX10_measures_47 : decode cX10_measures 47 = .ok (.iastore, 1) := by decide +kernel
theorem dX10_measures_48 : decode cX10_measures 48 = .ok (.iinc 1 1, 3) := by decide +kernel
theorem dX10_measures_51 : decode cX10_measures 51 = .ok (.goto (-49), 3) := by decide +kernel
theorem dX10_measures_54 : decode cX10_measures 54 = .ok (.iconst 0, 1) := by decide +kernel
theorem dX10_measures_55 : decode cX10_measures 55 = .ok (.istore_n 1, 1) := by decide +kernel
theorem dX10_measures_56 : decode cX10_measures 56 = .ok (.iload_n 1, 1) := by decide +kernel
theorem dX10_measures_57 : decode cX10_measures 57 = .ok (.bipush 8, 2) := by decide +kernel
theorem dX10_measures_59 : decode cX10_measures 59 = .ok (.if_icmp .ge 119, 3) := by decide +kernel
theorem dX10_measures_62 : decode cX10_measures 62 = .ok (.iconst 0, 1) := by decide +kernel
theorem dX10_measures_63 : decode cX10_measures 63 = .ok (.istore_n 2, 1) := by decide +kernel
theorem dX10_measures_64 : decode cX10_measures 64 = .ok (.iload_n 2, 1) := by decide +kernel
theorem dX10_measures_65 : decode cX10_measures 65 = .ok (.bipush 64, 2) := by decide +kernel
theorem dX10_measures_67 : decode cX10_measures 67 = .ok (.if_icmp .ge 105, 3) := by decide +kernel
theorem dX10_measures_70 : decode cX10_measures 70 = .ok (.aload_n 0, 1) := by decide +kernel
theorem dX10_measures_71 : decode cX10_measures 71 = .ok (.getfield 17, 3) := by decide +kernel
theorem dX10_measures_74 : decode cX10_measures 74 = .ok (.bipush 8, 2) := by decide +kernel
theorem dX10_measures_76 : decode cX10_measures 76 = .ok (.iload_n 2, 1) := by decide +kernel
theorem dX10_measures_77 : decode cX10_measures 77 = .ok (.bipush 8, 2) := by decide +kernel
theorem dX10_measures_79 : decode cX10_measures 79 = .ok (.idiv, 1) := by decide +kernel
theorem dX10_measures_80 : decode cX10_measures 80 = .ok (.imul, 1) := by decide +kernel
theorem dX10_measures_81 : decode cX10_measures 81 = .ok (.iload_n 1, 1) := by decide +kernel
theorem dX10_measures_82 : decode cX10_measures 82 = .ok (.iadd, 1) := by decide +kernel
theorem dX10_measures_83 : decode cX10_measures 83 = .ok (.iaload, 1) := by decide +kernel
theorem dX10_measures_84 : decode cX10_measures 84 = .ok (.istore_n 3, 1) := by decide +kernel
theorem dX10_measures_85 : decode cX10_measures 85 = .ok (.aload_n 0, 1) := by decide +kernel
theorem dX10_measures_86 : decode cX10_measures 86 = .ok (.getfield 17, 3) := by decide +kernel
theorem dX10_measures_89 : decode cX10_measures 89 = .ok (.bipush 8, 2) := by decide +kernel
theorem dX10_measures_91 : decode cX10_measures 91 = .ok (.iload_n 1, 1) := by decide +kernel
theorem dX10_measures_92 : decode cX10_measures 92 = .ok (.imul, 1) := by decide +kernel
theorem dX10_measures_93 : decode cX10_measures 93 = .ok (.iload_n 2, 1) := by decide +kernel
theorem dX10_measures_94 : decode cX10_measures 94 = .ok (.bipush 8, 2) := by decide +kernel
theorem dX10_measures_96 : decode cX10_measures 96 = .ok (.irem, 1) := by decide +kernel
theorem dX10_measures_97 : decode cX10_measures 97 = .ok (.iadd, 1) := by decide +kernel
theorem dX10_measures_98 : decode cX10_measures 98 = .ok (.iaload, 1) := by decide +kernel
theorem dX10_measures_99 : decode cX10_measures 99 = .ok (.istore 4, 2) := by decide +kernel
theorem dX10_measures_101 : decode cX10_measures 101 = .ok (.iload_n 3, 1) := by decide +kernel
theorem dX10_measures_102 : decode cX10_measures 102 = .ok (.iconst (-1), 1) := by decide +kernel
theorem dX10_measures_103 : decode cX10_measures 103 = .ok (.if_icmp .eq 36, 3) := by decide +kernel
theorem dX10_measures_106 : decode cX10_measures 106 = .ok (.iload 4, 2) := by decide +kernel
theorem dX10_measures_108 : decode cX10_measures 108 = .ok (.iconst (-1), 1) := by decide +kernel
theorem dX10_measures_109 : decode cX10_measures 109 = .ok (.if_icmp .eq 30, 3) := by decide +kernel
theorem dX10_measures_112 : decode cX10_measures 112 = .ok (.aload_n 0, 1) := by decide +kernel
theorem dX10_measures_113 : decode cX10_measures 113 = .ok (.getfield 17, 3) := by decide +kernel
theorem dX10_measures_116 : decode cX10_measures 116 = .ok (.iload_n 2, 1) := by decide +kernel
theorem dX10_measures_117 : decode cX10_measures 117 = .ok (.iaload, 1) := by decide +kernel
theorem dX10_measures_118 : decode cX10_measures 118 = .ok (.iconst (-1), 1) := by decide +kernel
theorem dX10_measures_119 : decode cX10_measures 119 = .ok (.if_icmp .eq 16, 3) := by decide +kernel
theorem dX10_measures_122 : decode cX10_measures 122 = .ok (.iload_n 3, 1) := by decide +kernel
theorem dX10_measures_123 : decode cX10_measures 123 = .ok (.iload 4, 2) := by decide +kernel
theorem dX10_measures_125 : decode cX10_measures 125 = .ok (.iadd, 1) := by decide +kernel
theorem dX10_measures_126 : decode cX10_measures 126 = .ok (.aload_n 0, 1) := by decide +kernel
theorem dX10_measures_127 : decode cX10_measures 127 = .ok (.getfield 17, 3) := by decide +kernel
theorem dX10_measures_130 : decode cX10_measures 130 = .ok (.iload_n 2, 1) := by decide +kernel
theorem dX10_measures_131 : decode cX10_measures 131 = .ok (.iaload, 1) := by decide +kernel
theorem dX10_measures_132 : decode cX10_measures 132 = .ok (.if_icmp .ge 7, 3) := by decide +kernel
theorem dX10_measures_135 : decode cX10_measures 135 = .ok (.iconst 1, 1) := by decide +kernel
theorem dX10_measures_136 : decode cX10_measures 136 = .ok (.goto 4, 3) := by decide +kernel
theorem dX10_measures_139 : decode cX10_measures 139 = .ok (.iconst 0, 1) := by decide +kernel
theorem dX10_measures_140 : decode cX10_measures 140 = .ok (.istore 5, 2) := by decide +kernel
theorem dX10_measures_142 : decode cX10_measures 142 = .ok (.aload_n 0, 1) := by decide +kernel
theorem dX10_measures_143 : decode cX10_measures 143 = .ok (.getfield 17, 3) := by decide +kernel
theorem dX10_measures_146 : decode cX10_measures 146 = .ok (.iload_n 2, 1) := by decide +kernel
theorem dX10_measures_147 : decode cX10_measures 147 = .ok (.iload 5, 2) := by decide +kernel
theorem dX10_measures_149 : decode cX10_measures 149 = .ok (.ifCond .eq 10, 3) := by decide +kernel
theorem dX10_measures_152 : decode cX10_measures 152 = .ok (.iload_n 3, 1) := by decide +kernel
theorem dX10_measures_153 : decode cX10_measures 153 = .ok (.iload 4, 2) := by decide +kernel
theorem dX10_measures_155 : decode cX10_measures 155 = .ok (.iadd, 1) := by decide +kernel
theorem dX10_measures_156 : decode cX10_measures 156 = .ok (.goto 9, 3) := by decide +kernel
theorem dX10_measures_159 : decode cX10_measures 159 = .ok (.aload_n 0, 1) := by decide +kernel
theorem dX10_measures_160 : decode cX10_measures 160 = .ok (.getfield 17, 3) := by decide +kernel
theorem dX10_measures_163 : decode cX10_measures 163 = .ok (.iload_n 2, 1) := by decide +kernel
theorem dX10_measures_164 : decode cX10_measures 164 = .ok (.iaload, 1) := by decide +kernel
theorem dX10_measures_165 : decode cX10_measures 165 = .ok (.iastore, 1) := by decide +kernel
theorem dX10_measures_166 : decode cX10_measures 166 = .ok (.iinc 2 1, 3) := by decide +kernel
theorem dX10_measures_169 : decode cX10_measures 169 = .ok (.goto (-105), 3) := by decide +kernel
theorem dX10_measures_172 : decode cX10_measures 172 = .ok (.iinc 1 1, 3) := by decide +kernel
theorem dX10_measures_175 : decode cX10_measures 175 = .ok (.goto (-119), 3) := by decide +kernel
theorem dX10_measures_178 : decode cX10_measures 178 = .ok (.return_, 1) := by decide +kernel
theorem dX10_road_0 : decode cX10_road 0 = .ok (.iload_n 1, 1) := by decide +kernel
theorem dX10_road_1 : decode cX10_road 1 = .ok (.invokestatic 121, 3) := by decide +kernel
theorem dX10_road_4 : decode cX10_road 4 = .ok (.ifCond .eq 14, 3) := by decide +kernel
theorem dX10_road_7 : decode cX10_road 7 = .ok (.iload_n 2, 1) := by decide +kernel
theorem dX10_road_8 : decode cX10_road 8 = .ok (.invokestatic 121, 3) := by decide +kernel
theorem dX10_road_11 : decode cX10_road 11 = .ok (.ifCond .eq 7, 3) := by decide +kernel
theorem dX10_road_14 : decode cX10_road 14 = .ok (.iconst 1, 1) := by decide +kernel
theorem dX10_road_15 : decode cX10_road 15 = .ok (.goto 4, 3) := by decide +kernel
theorem dX10_road_18 : decode cX10_road 18 = .ok (.iconst 0, 1) := by decide +kernel
theorem dX10_road_19 : decode cX10_road 19 = .ok (.istore 4, 2) := by decide +kernel
theorem dX10_road_21 : decode cX10_road 21 = .ok (.aload_n 0, 1) := by decide +kernel
theorem dX10_road_22 : decode cX10_road 22 = .ok (.iload 4, 2) := by decide +kernel
theorem dX10_road_24 : decode cX10_road 24 = .ok (.ifCond .ne 7, 3) := by decide +kernel
theorem dX10_road_27 : decode cX10_road 27 = .ok (.iconst 1, 1) := by decide +kernel
theorem dX10_road_28 : decode cX10_road 28 = .ok (.goto 24, 3) := by decide +kernel
theorem dX10_road_31 : decode cX10_road 31 = .ok (.iload_n 1, 1) := by decide +kernel
theorem dX10_road_32 : decode cX10_road 32 = .ok (.iload_n 2, 1) := by decide +kernel
theorem dX10_road_33 : decode cX10_road 33 = .ok (.if_icmp .eq 14, 3) := by decide +kernel
theorem dX10_road_36 : decode cX10_road 36 = .ok (.iload_n 3, 1) := by decide +kernel
theorem dX10_road_37 : decode cX10_road 37 = .ok (.iconst 0, 1) := by decide +kernel
theorem dX10_road_38 : decode cX10_road 38 = .ok (.sipush 200, 3) := by decide +kernel
theorem dX10_road_41 : decode cX10_road 41 = .ok (.invokestatic 103, 3) := by decide +kernel
theorem dX10_road_44 : decode cX10_road 44 = .ok (.ifCond .ne 7, 3) := by decide +kernel
theorem dX10_road_47 : decode cX10_road 47 = .ok (.iconst 2, 1) := by decide +kernel
theorem dX10_road_48 : decode cX10_road 48 = .ok (.goto 4, 3) := by decide +kernel
theorem dX10_road_51 : decode cX10_road 51 = .ok (.iconst 0, 1) := by decide +kernel
theorem dX10_road_52 : decode cX10_road 52 = .ok (.invokevirtual 117, 3) := by decide +kernel
theorem dX10_road_55 : decode cX10_road 55 = .ok (.ifCond .ne 5, 3) := by decide +kernel
theorem dX10_road_58 : decode cX10_road 58 = .ok (.iconst 0, 1) := by decide +kernel
theorem dX10_road_59 : decode cX10_road 59 = .ok (.ireturn, 1) := by decide +kernel
theorem dX10_road_60 : decode cX10_road 60 = .ok (.aload_n 0, 1) := by decide +kernel
theorem dX10_road_61 : decode cX10_road 61 = .ok (.getfield 13, 3) := by decide +kernel
theorem dX10_road_64 : decode cX10_road 64 = .ok (.bipush 8, 2) := by decide +kernel
theorem dX10_road_66 : decode cX10_road 66 = .ok (.iload_n 1, 1) := by decide +kernel
theorem dX10_road_67 : decode cX10_road 67 = .ok (.imul, 1) := by decide +kernel
theorem dX10_road_68 : decode cX10_road 68 = .ok (.iload_n 2, 1) := by decide +kernel
theorem dX10_road_69 : decode cX10_road 69 = .ok (.iadd, 1) := by decide +kernel
theorem dX10_road_70 : decode cX10_road 70 = .ok (.iaload, 1) := by decide +kernel
theorem dX10_road_71 : decode cX10_road 71 = .ok (.istore 5, 2) := by decide +kernel
theorem dX10_road_73 : decode cX10_road 73 = .ok (.aload_n 0, 1) := by decide +kernel
theorem dX10_road_74 : decode cX10_road 74 = .ok (.getfield 13, 3) := by decide +kernel
theorem dX10_road_77 : decode cX10_road 77 = .ok (.bipush 8, 2) := by decide +kernel
theorem dX10_road_79 : decode cX10_road 79 = .ok (.iload_n 1, 1) := by decide +kernel
theorem dX10_road_80 : decode cX10_road 80 = .ok (.imul, 1) := by decide +kernel
theorem dX10_road_81 : decode cX10_road 81 = .ok (.iload_n 2, 1) := by decide +kernel
theorem dX10_road_82 : decode cX10_road 82 = .ok (.iadd, 1) := by decide +kernel
theorem dX10_road_83 : decode cX10_road 83 = .ok (.iload_n 3, 1) := by decide +kernel
theorem dX10_road_84 : decode cX10_road 84 = .ok (.iastore, 1) := by decide +kernel
theorem dX10_road_85 : decode cX10_road 85 = .ok (.aload_n 0, 1) := by decide +kernel
theorem dX10_road_86 : decode cX10_road 86 = .ok (.getfield 13, 3) := by decide +kernel
theorem dX10_road_89 : decode cX10_road 89 = .ok (.bipush 8, 2) := by decide +kernel
theorem dX10_road_91 : decode cX10_road 91 = .ok (.iload_n 2, 1) := by decide +kernel
theorem dX10_road_92 : decode cX10_road 92 = .ok (.imul, 1) := by decide +kernel
theorem dX10_road_93 : decode cX10_road 93 = .ok (.iload_n 1, 1) := by decide +kernel
theorem dX10_road_94 : decode cX10_road 94 = .ok (.iadd, 1) := by decide +kernel
theorem dX10_road_95 : decode cX10_road 95 = .ok (.iload_n 3, 1) := by decide +kernel
theorem dX10_road_96 : decode cX10_road 96 = .ok (.iastore, 1) := by decide +kernel
theorem dX10_road_97 : decode cX10_road 97 = .ok (.aload_n 0, 1) := by decide +kernel
theorem dX10_road_98 : decode cX10_road 98 = .ok (.invokevirtual 97, 3) := by decide +kernel
theorem dX10_road_101 : decode cX10_road 101 = .ok (.iload 5, 2) := by decide +kernel
theorem dX10_road_103 : decode cX10_road 103 = .ok (.ireturn, 1) := by decide +kernel
theorem dX10_distance_0 : decode cX10_distance 0 = .ok (.aload_n 0, 1) := by decide +kernel
theorem dX10_distance_1 : decode cX10_distance 1 = .ok (.iload_n 1, 1) := by decide +kernel
theorem dX10_distance_2 : decode cX10_distance 2 = .ok (.invokestatic 121, 3) := by decide +kernel
theorem dX10_distance_5 : decode cX10_distance 5 = .ok (.ifCond .eq 14, 3) := by decide +kernel
theorem dX10_distance_8 : decode cX10_distance 8 = .ok (.iload_n 2, 1) := by decide +kernel
theorem dX10_distance_9 : decode cX10_distance 9 = .ok (.invokestatic 121, 3) := by decide +kernel
theorem dX10_distance_12 : decode cX10_distance 12 = .ok (.ifCond .eq 7, 3) := by decide +kernel
theorem dX10_distance_15 : decode cX10_distance 15 = .ok (.iconst 0, 1) := by decide +kernel
theorem dX10_distance_16 : decode cX10_distance 16 = .ok (.goto 4, 3) := by decide +kernel
theorem dX10_distance_19 : decode cX10_distance 19 = .ok (.iconst 1, 1) := by decide +kernel
theorem dX10_distance_20 : decode cX10_distance 20 = .ok (.invokevirtual 117, 3) := by decide +kernel
theorem dX10_distance_23 : decode cX10_distance 23 = .ok (.ifCond .eq 17, 3) := by decide +kernel
theorem dX10_distance_26 : decode cX10_distance 26 = .ok (.aload_n 0, 1) := by decide +kernel
theorem dX10_distance_27 : decode cX10_distance 27 = .ok (.getfield 17, 3) := by decide +kernel
theorem dX10_distance_30 : decode cX10_distance 30 = .ok (.bipush 8, 2) := by decide +kernel
theorem dX10_distance_32 : decode cX10_distance 32 = .ok (.iload_n 1, 1) := by decide +kernel
theorem dX10_distance_33 : decode cX10_distance 33 = .ok (.imul, 1) := by decide +kernel
theorem dX10_distance_34 : decode cX10_distance 34 = .ok (.iload_n 2, 1) := by decide +kernel
theorem dX10_distance_35 : decode cX10_distance 35 = .ok (.iadd, 1) := by decide +kernel
theorem dX10_distance_36 : decode cX10_distance 36 = .ok (.iaload, 1) := by decide +kernel
theorem dX10_distance_37 : decode cX10_distance 37 = .ok (.goto 4, 3) := by decide +kernel
theorem dX10_distance_40 : decode cX10_distance 40 = .ok (.iconst 0, 1) := by decide +kernel
theorem dX10_distance_41 : decode cX10_distance 41 = .ok (.ireturn, 1) := by decide +kernel
theorem dX10_setPause_0 : decode cX10_setPause 0 = .ok (.aload_n 0, 1) := by decide +kernel
theorem dX10_setPause_1 : decode cX10_setPause 1 = .ok (.iload_n 1, 1) := by decide +kernel
theorem dX10_setPause_2 : decode cX10_setPause 2 = .ok (.iconst 0, 1) := by decide +kernel
theorem dX10_setPause_3 : decode cX10_setPause 3 = .ok (.sipush 500, 3) := by decide +kernel
theorem dX10_setPause_6 : decode cX10_setPause 6 = .ok (.invokestatic 103, 3) := by decide +kernel
theorem dX10_setPause_9 : decode cX10_setPause 9 = .ok (.ifCond .eq 7, 3) := by decide +kernel
theorem dX10_setPause_12 : decode cX10_setPause 12 = .ok (.iconst 0, 1) := by decide +kernel
theorem dX10_setPause_13 : decode cX10_setPause 13 = .ok (.goto 4, 3) := by decide +kernel
theorem dX10_setPause_16 : decode cX10_setPause 16 = .ok (.iconst 1, 1) := by decide +kernel
theorem dX10_setPause_17 : decode cX10_setPause 17 = .ok (.invokevirtual 117, 3) := by decide +kernel
theorem dX10_setPause_20 : decode cX10_setPause 20 = .ok (.ifCond .ne 5, 3) := by decide +kernel
theorem dX10_setPause_23 : decode cX10_setPause 23 = .ok (.iconst 0, 1) := by decide +kernel
theorem dX10_setPause_24 : decode cX10_setPause 24 = .ok (.ireturn, 1) := by decide +kernel
theorem dX10_setPause_25 : decode cX10_setPause 25 = .ok (.aload_n 0, 1) := by decide +kernel
theorem dX10_setPause_26 : decode cX10_setPause 26 = .ok (.getfield 7, 3) := by decide +kernel
theorem dX10_setPause_29 : decode cX10_setPause 29 = .ok (.istore_n 2, 1) := by decide +kernel
theorem dX10_setPause_30 : decode cX10_setPause 30 = .ok (.aload_n 0, 1) := by decide +kernel
theorem dX10_setPause_31 : decode cX10_setPause 31 = .ok (.iload_n 1, 1) := by decide +kernel
theorem dX10_setPause_32 : decode cX10_setPause 32 = .ok (.putfield 7, 3) := by decide +kernel
theorem dX10_setPause_35 : decode cX10_setPause 35 = .ok (.iload_n 2, 1) := by decide +kernel
theorem dX10_setPause_36 : decode cX10_setPause 36 = .ok (.ireturn, 1) := by decide +kernel
theorem dX10_setRate_0 : decode cX10_setRate 0 = .ok (.aload_n 0, 1) := by decide +kernel
theorem dX10_setRate_1 : decode cX10_setRate 1 = .ok (.iload_n 1, 1) := by decide +kernel
theorem dX10_setRate_2 : decode cX10_setRate 2 = .ok (.iconst 0, 1) := by decide +kernel
theorem dX10_setRate_3 : decode cX10_setRate 3 = .ok (.iconst 3, 1) := by decide +kernel
theorem dX10_setRate_4 : decode cX10_setRate 4 = .ok (.invokestatic 103, 3) := by decide +kernel
theorem dX10_setRate_7 : decode cX10_setRate 7 = .ok (.ifCond .eq 17, 3) := by decide +kernel
theorem dX10_setRate_10 : decode cX10_setRate 10 = .ok (.iload_n 2, 1) := by decide +kernel
theorem dX10_setRate_11 : decode cX10_setRate 11 = .ok (.iconst 0, 1) := by decide +kernel
theorem dX10_setRate_12 : decode cX10_setRate 12 = .ok (.bipush 50, 2) := by decide +kernel
theorem dX10_setRate_14 : decode cX10_setRate 14 = .ok (.invokestatic 103, 3) := by decide +kernel
theorem dX10_setRate_17 : decode cX10_setRate 17 = .ok (.ifCond .eq 7, 3) := by decide +kernel
theorem dX10_setRate_20 : decode cX10_setRate 20 = .ok (.iconst 0, 1) := by decide +kernel
theorem dX10_setRate_21 : decode cX10_setRate 21 = .ok (.goto 4, 3) := by decide +kernel
theorem dX10_setRate_24 : decode cX10_setRate 24 = .ok (.iconst 1, 1) := by decide +kernel
theorem dX10_setRate_25 : decode cX10_setRate 25 = .ok (.invokevirtual 117, 3) := by decide +kernel
theorem dX10_setRate_28 : decode cX10_setRate 28 = .ok (.ifCond .ne 5, 3) := by decide +kernel
theorem dX10_setRate_31 : decode cX10_setRate 31 = .ok (.iconst 0, 1) := by decide +kernel
theorem dX10_setRate_32 : decode cX10_setRate 32 = .ok (.ireturn, 1) := by decide +kernel
theorem dX10_setRate_33 : decode cX10_setRate 33 = .ok (.aload_n 0, 1) := by decide +kernel
theorem dX10_setRate_34 : decode cX10_setRate 34 = .ok (.getfield 20, 3) := by decide +kernel
theorem dX10_setRate_37 : decode cX10_setRate 37 = .ok (.iload_n 1, 1) := by decide +kernel
theorem dX10_setRate_38 : decode cX10_setRate 38 = .ok (.iaload, 1) := by decide +kernel
theorem dX10_setRate_39 : decode cX10_setRate 39 = .ok (.istore_n 3, 1) := by decide +kernel
theorem dX10_setRate_40 : decode cX10_setRate 40 = .ok (.aload_n 0, 1) := by decide +kernel
theorem dX10_setRate_41 : decode cX10_setRate 41 = .ok (.getfield 20, 3) := by decide +kernel
theorem dX10_setRate_44 : decode cX10_setRate 44 = .ok (.iload_n 1, 1) := by decide +kernel
theorem dX10_setRate_45 : decode cX10_setRate 45 = .ok (.iload_n 2, 1) := by decide +kernel
theorem dX10_setRate_46 : decode cX10_setRate 46 = .ok (.iastore, 1) := by decide +kernel
theorem dX10_setRate_47 : decode cX10_setRate 47 = .ok (.iload_n 3, 1) := by decide +kernel
theorem dX10_setRate_48 : decode cX10_setRate 48 = .ok (.ireturn, 1) := by decide +kernel
theorem dX10_isSign_0 : decode cX10_isSign 0 = .ok (.iload_n 0, 1) := by decide +kernel
theorem dX10_isSign_1 : decode cX10_isSign 1 = .ok (.iconst 0, 1) := by decide +kernel
theorem dX10_isSign_2 : decode cX10_isSign 2 = .ok (.bipush 14, 2) := by decide +kernel
theorem dX10_isSign_4 : decode cX10_isSign 4 = .ok (.invokestatic 103, 3) := by decide +kernel
theorem dX10_isSign_7 : decode cX10_isSign 7 = .ok (.ireturn, 1) := by decide +kernel
theorem dX10_isPair_0 : decode cX10_isPair 0 = .ok (.iload_n 0, 1) := by decide +kernel
theorem dX10_isPair_1 : decode cX10_isPair 1 = .ok (.bipush 10, 2) := by decide +kernel
theorem dX10_isPair_3 : decode cX10_isPair 3 = .ok (.bipush 13, 2) := by decide +kernel
theorem dX10_isPair_5 : decode cX10_isPair 5 = .ok (.invokestatic 103, 3) := by decide +kernel
theorem dX10_isPair_8 : decode cX10_isPair 8 = .ok (.ireturn, 1) := by decide +kernel
theorem dX10_chars_0 : decode cX10_chars 0 = .ok (.iconst 0, 1) := by decide +kernel
theorem dX10_chars_1 : decode cX10_chars 1 = .ok (.istore_n 1, 1) := by decide +kernel
theorem dX10_chars_2 : decode cX10_chars 2 = .ok (.iconst 0, 1) := by decide +kernel
theorem dX10_chars_3 : decode cX10_chars 3 = .ok (.istore_n 2, 1) := by decide +kernel
theorem dX10_chars_4 : decode cX10_chars 4 = .ok (.iload_n 2, 1) := by decide +kernel
theorem dX10_chars_5 : decode cX10_chars 5 = .ok (.aload_n 0, 1) := by decide +kernel
theorem dX10_chars_6 : decode cX10_chars 6 = .ok (.getfield 124, 3) := by decide +kernel
theorem dX10_chars_9 : decode cX10_chars 9 = .ok (.if_icmp .ge 29, 3) := by decide +kernel
theorem dX10_chars_12 : decode cX10_chars 12 = .ok (.iload_n 1, 1) := by decide +kernel
theorem dX10_chars_13 : decode cX10_chars 13 = .ok (.aload_n 0, 1) := by decide +kernel
theorem dX10_chars_14 : decode cX10_chars 14 = .ok (.getfield 23, 3) := by decide +kernel
theorem dX10_chars_17 : decode cX10_chars 17 = .ok (.iload_n 2, 1) := by decide +kernel
theorem dX10_chars_18 : decode cX10_chars 18 = .ok (.iaload, 1) := by decide +kernel
theorem dX10_chars_19 : decode cX10_chars 19 = .ok (.invokestatic 127, 3) := by decide +kernel
theorem dX10_chars_22 : decode cX10_chars 22 = .ok (.ifCond .eq 7, 3) := by decide +kernel
theorem dX10_chars_25 : decode cX10_chars 25 = .ok (.iconst 2, 1) := by decide +kernel
theorem dX10_chars_26 : decode cX10_chars 26 = .ok (.goto 4, 3) := by decide +kernel
theorem dX10_chars_29 : decode cX10_chars 29 = .ok (.iconst 1, 1) := by decide +kernel
theorem dX10_chars_30 : decode cX10_chars 30 = .ok (.iadd, 1) := by decide +kernel
theorem dX10_chars_31 : decode cX10_chars 31 = .ok (.istore_n 1, 1) := by decide +kernel
theorem dX10_chars_32 : decode cX10_chars 32 = .ok (.iinc 2 1, 3) := by decide +kernel
theorem dX10_chars_35 : decode cX10_chars 35 = .ok (.goto (-31), 3) := by decide +kernel
theorem dX10_chars_38 : decode cX10_chars 38 = .ok (.iload_n 1, 1) := by decide +kernel
theorem dX10_chars_39 : decode cX10_chars 39 = .ok (.ireturn, 1) := by decide +kernel
theorem dX10_puts_0 : decode cX10_puts 0 = .ok (.aload_n 0, 1) := by decide +kernel
theorem dX10_puts_1 : decode cX10_puts 1 = .ok (.getfield 124, 3) := by decide +kernel
theorem dX10_puts_4 : decode cX10_puts 4 = .ok (.istore_n 3, 1) := by decide +kernel
theorem dX10_puts_5 : decode cX10_puts 5 = .ok (.iload_n 3, 1) := by decide +kernel
theorem dX10_puts_6 : decode cX10_puts 6 = .ok (.iload_n 2, 1) := by decide +kernel
theorem dX10_puts_7 : decode cX10_puts 7 = .ok (.if_icmp .le 23, 3) := by decide +kernel
theorem dX10_puts_10 : decode cX10_puts 10 = .ok (.aload_n 0, 1) := by decide +kernel
theorem dX10_puts_11 : decode cX10_puts 11 = .ok (.getfield 23, 3) := by decide +kernel
theorem dX10_puts_14 : decode cX10_puts 14 = .ok (.iload_n 3, 1) := by decide +kernel
theorem dX10_puts_15 : decode cX10_puts 15 = .ok (.aload_n 0, 1) := by decide +kernel
theorem dX10_puts_16 : decode cX10_puts 16 = .ok (.getfield 23, 3) := by decide +kernel
theorem dX10_puts_19 : decode cX10_puts 19 = .ok (.iload_n 3, 1) := by decide +kernel
theorem dX10_puts_20 : decode cX10_puts 20 = .ok (.iconst 1, 1) := by decide +kernel
theorem dX10_puts_21 : decode cX10_puts 21 = .ok (.isub, 1) := by decide +kernel
theorem dX10_puts_22 : decode cX10_puts 22 = .ok (.iaload, 1) := by decide +kernel
theorem dX10_puts_23 : decode cX10_puts 23 = .ok (.iastore, 1) := by decide +kernel
theorem dX10_puts_24 : decode cX10_puts 24 = .ok (.iinc 3 (-1), 3) := by decide +kernel
theorem dX10_puts_27 : decode cX10_puts 27 = .ok (.goto (-22), 3) := by decide +kernel
theorem dX10_puts_30 : decode cX10_puts 30 = .ok (.aload_n 0, 1) := by decide +kernel
theorem dX10_puts_31 : decode cX10_puts 31 = .ok (.getfield 23, 3) := by decide +kernel
theorem dX10_puts_34 : decode cX10_puts 34 = .ok (.iload_n 2, 1) := by decide +kernel
theorem dX10_puts_35 : decode cX10_puts 35 = .ok (.iload_n 1, 1) := by decide +kernel
theorem dX10_puts_36 : decode cX10_puts 36 = .ok (.iastore, 1) := by decide +kernel
theorem dX10_puts_37 : decode cX10_puts 37 = .ok (.aload_n 0, 1) := by decide +kernel
theorem dX10_puts_38 : decode cX10_puts 38 = .ok (.dup, 1) := by decide +kernel
theorem dX10_puts_39 : decode cX10_puts 39 = .ok (.getfield 124, 3) := by decide +kernel
theorem dX10_puts_42 : decode cX10_puts 42 = .ok (.iconst 1, 1) := by decide +kernel
theorem dX10_puts_43 : decode cX10_puts 43 = .ok (.iadd, 1) := by decide +kernel
theorem dX10_puts_44 : decode cX10_puts 44 = .ok (.putfield 124, 3) := by decide +kernel
theorem dX10_puts_47 : decode cX10_puts 47 = .ok (.aload_n 0, 1) := by decide +kernel
theorem dX10_puts_48 : decode cX10_puts 48 = .ok (.invokevirtual 130, 3) := by decide +kernel
theorem dX10_puts_51 : decode cX10_puts 51 = .ok (.ireturn, 1) := by decide +kernel
theorem dX10_spell_0 : decode cX10_spell 0 = .ok (.aload_n 0, 1) := by decide +kernel
theorem dX10_spell_1 : decode cX10_spell 1 = .ok (.iload_n 1, 1) := by decide +kernel
theorem dX10_spell_2 : decode cX10_spell 2 = .ok (.invokestatic 134, 3) := by decide +kernel
theorem dX10_spell_5 : decode cX10_spell 5 = .ok (.ifCond .ne 7, 3) := by decide +kernel
theorem dX10_spell_8 : decode cX10_spell 8 = .ok (.iconst 1, 1) := by decide +kernel
theorem dX10_spell_9 : decode cX10_spell 9 = .ok (.goto 17, 3) := by decide +kernel
theorem dX10_spell_12 : decode cX10_spell 12 = .ok (.aload_n 0, 1) := by decide +kernel
theorem dX10_spell_13 : decode cX10_spell 13 = .ok (.getfield 124, 3) := by decide +kernel
theorem dX10_spell_16 : decode cX10_spell 16 = .ok (.bipush 6, 2) := by decide +kernel
theorem dX10_spell_18 : decode cX10_spell 18 = .ok (.if_icmp .ne 7, 3) := by decide +kernel
theorem dX10_spell_21 : decode cX10_spell 21 = .ok (.iconst 2, 1) := by decide +kernel
theorem dX10_spell_22 : decode cX10_spell 22 = .ok (.goto 4, 3) := by decide +kernel
theorem dX10_spell_25 : decode cX10_spell 25 = .ok (.iconst 0, 1) := by decide +kernel
theorem dX10_spell_26 : decode cX10_spell 26 = .ok (.invokevirtual 117, 3) := by decide +kernel
theorem dX10_spell_29 : decode cX10_spell 29 = .ok (.ifCond .eq 15, 3) := by decide +kernel
theorem dX10_spell_32 : decode cX10_spell 32 = .ok (.aload_n 0, 1) := by decide +kernel
theorem dX10_spell_33 : decode cX10_spell 33 = .ok (.iload_n 1, 1) := by decide +kernel
theorem dX10_spell_34 : decode cX10_spell 34 = .ok (.aload_n 0, 1) := by decide +kernel
theorem dX10_spell_35 : decode cX10_spell 35 = .ok (.getfield 124, 3) := by decide +kernel
theorem dX10_spell_38 : decode cX10_spell 38 = .ok (.invokevirtual 137, 3) := by decide +kernel
theorem dX10_spell_41 : decode cX10_spell 41 = .ok (.goto 4, 3) := by decide +kernel
theorem dX10_spell_44 : decode cX10_spell 44 = .ok (.iconst 0, 1) := by decide +kernel
theorem dX10_spell_45 : decode cX10_spell 45 = .ok (.ireturn, 1) := by decide +kernel
theorem dX10_insert_0 : decode cX10_insert 0 = .ok (.aload_n 0, 1) := by decide +kernel
theorem dX10_insert_1 : decode cX10_insert 1 = .ok (.iload_n 1, 1) := by decide +kernel
theorem dX10_insert_2 : decode cX10_insert 2 = .ok (.invokestatic 134, 3) := by decide +kernel
theorem dX10_insert_5 : decode cX10_insert 5 = .ok (.ifCond .ne 7, 3) := by decide +kernel
theorem dX10_insert_8 : decode cX10_insert 8 = .ok (.iconst 1, 1) := by decide +kernel
theorem dX10_insert_9 : decode cX10_insert 9 = .ok (.goto 35, 3) := by decide +kernel
theorem dX10_insert_12 : decode cX10_insert 12 = .ok (.iload_n 2, 1) := by decide +kernel
theorem dX10_insert_13 : decode cX10_insert 13 = .ok (.iconst 0, 1) := by decide +kernel
theorem dX10_insert_14 : decode cX10_insert 14 = .ok (.aload_n 0, 1) := by decide +kernel
theorem dX10_insert_15 : decode cX10_insert 15 = .ok (.getfield 124, 3) := by decide +kernel
theorem dX10_insert_18 : decode cX10_insert 18 = .ok (.iconst 1, 1) := by decide +kernel
theorem dX10_insert_19 : decode cX10_insert 19 = .ok (.isub, 1) := by decide +kernel
theorem dX10_insert_20 : decode cX10_insert 20 = .ok (.invokestatic 103, 3) := by decide +kernel
theorem dX10_insert_23 : decode cX10_insert 23 = .ok (.ifCond .ne 7, 3) := by decide +kernel
theorem dX10_insert_26 : decode cX10_insert 26 = .ok (.iconst 2, 1) := by decide +kernel
theorem dX10_insert_27 : decode cX10_insert 27 = .ok (.goto 17, 3) := by decide +kernel
theorem dX10_insert_30 : decode cX10_insert 30 = .ok (.aload_n 0, 1) := by decide +kernel
theorem dX10_insert_31 : decode cX10_insert 31 = .ok (.getfield 124, 3) := by decide +kernel
theorem dX10_insert_34 : decode cX10_insert 34 = .ok (.bipush 6, 2) := by decide +kernel
theorem dX10_insert_36 : decode cX10_insert 36 = .ok (.if_icmp .ne 7, 3) := by decide +kernel
theorem dX10_insert_39 : decode cX10_insert 39 = .ok (.iconst 3, 1) := by decide +kernel
theorem dX10_insert_40 : decode cX10_insert 40 = .ok (.goto 4, 3) := by decide +kernel
theorem dX10_insert_43 : decode cX10_insert 43 = .ok (.iconst 0, 1) := by decide +kernel
theorem dX10_insert_44 : decode cX10_insert 44 = .ok (.invokevirtual 117, 3) := by decide +kernel
theorem dX10_insert_47 : decode cX10_insert 47 = .ok (.ifCond .eq 12, 3) := by decide +kernel
theorem dX10_insert_50 : decode cX10_insert 50 = .ok (.aload_n 0, 1) := by decide +kernel
theorem dX10_insert_51 : decode cX10_insert 51 = .ok (.iload_n 1, 1) := by decide +kernel
theorem dX10_insert_52 : decode cX10_insert 52 = .ok (.iload_n 2, 1) := by decide +kernel
theorem dX10_insert_53 : decode cX10_insert 53 = .ok (.invokevirtual 137, 3) := by decide +kernel
theorem dX10_insert_56 : decode cX10_insert 56 = .ok (.goto 4, 3) := by decide +kernel
theorem dX10_insert_59 : decode cX10_insert 59 = .ok (.iconst 0, 1) := by decide +kernel
theorem dX10_insert_60 : decode cX10_insert 60 = .ok (.ireturn, 1) := by decide +kernel
theorem dX10_mirror_0 : decode cX10_mirror 0 = .ok (.aload_n 0, 1) := by decide +kernel
theorem dX10_mirror_1 : decode cX10_mirror 1 = .ok (.iconst 0, 1) := by decide +kernel
theorem dX10_mirror_2 : decode cX10_mirror 2 = .ok (.putfield 100, 3) := by decide +kernel
theorem dX10_mirror_5 : decode cX10_mirror 5 = .ok (.iconst 0, 1) := by decide +kernel
theorem dX10_mirror_6 : decode cX10_mirror 6 = .ok (.istore_n 1, 1) := by decide +kernel
theorem dX10_mirror_7 : decode cX10_mirror 7 = .ok (.iload_n 1, 1) := by decide +kernel
theorem dX10_mirror_8 : decode cX10_mirror 8 = .ok (.aload_n 0, 1) := by decide +kernel
theorem dX10_mirror_9 : decode cX10_mirror 9 = .ok (.getfield 124, 3) := by decide +kernel
theorem dX10_mirror_12 : decode cX10_mirror 12 = .ok (.iconst 2, 1) := by decide +kernel
theorem dX10_mirror_13 : decode cX10_mirror 13 = .ok (.idiv, 1) := by decide +kernel
theorem dX10_mirror_14 : decode cX10_mirror 14 = .ok (.if_icmp .ge 49, 3) := by decide +kernel
theorem dX10_mirror_17 : decode cX10_mirror 17 = .ok (.aload_n 0, 1) := by decide +kernel
theorem dX10_mirror_18 : decode cX10_mirror 18 = .ok (.getfield 23, 3) := by decide +kernel
theorem dX10_mirror_21 : decode cX10_mirror 21 = .ok (.iload_n 1, 1) := by decide +kernel
theorem dX10_mirror_22 : decode cX10_mirror 22 = .ok (.iaload, 1) := by decide +kernel
theorem dX10_mirror_23 : decode cX10_mirror 23 = .ok (.istore_n 2, 1) := by decide +kernel
theorem dX10_mirror_24 : decode cX10_mirror 24 = .ok (.aload_n 0, 1) := by decide +kernel
theorem dX10_mirror_25 : decode cX10_mirror 25 = .ok (.getfield 23, 3) := by decide +kernel
theorem dX10_mirror_28 : decode cX10_mirror 28 = .ok (.iload_n 1, 1) := by decide +kernel
theorem dX10_mirror_29 : decode cX10_mirror 29 = .ok (.aload_n 0, 1) := by decide +kernel
theorem dX10_mirror_30 : decode cX10_mirror 30 = .ok (.getfield 23, 3) := by decide +kernel
theorem dX10_mirror_33 : decode cX10_mirror 33 = .ok (.aload_n 0, 1) := by decide +kernel
theorem dX10_mirror_34 : decode cX10_mirror 34 = .ok (.getfield 124, 3) := by decide +kernel
theorem dX10_mirror_37 : decode cX10_mirror 37 = .ok (.iconst 1, 1) := by decide +kernel
theorem dX10_mirror_38 : decode cX10_mirror 38 = .ok (.isub, 1) := by decide +kernel
theorem dX10_mirror_39 : decode cX10_mirror 39 = .ok (.iload_n 1, 1) := by decide +kernel
theorem dX10_mirror_40 : decode cX10_mirror 40 = .ok (.isub, 1) := by decide +kernel
theorem dX10_mirror_41 : decode cX10_mirror 41 = .ok (.iaload, 1) := by decide +kernel
theorem dX10_mirror_42 : decode cX10_mirror 42 = .ok (.iastore, 1) := by decide +kernel
theorem dX10_mirror_43 : decode cX10_mirror 43 = .ok (.aload_n 0, 1) := by decide +kernel
theorem dX10_mirror_44 : decode cX10_mirror 44 = .ok (.getfield 23, 3) := by decide +kernel
theorem dX10_mirror_47 : decode cX10_mirror 47 = .ok (.aload_n 0, 1) := by decide +kernel
theorem dX10_mirror_48 : decode cX10_mirror 48 = .ok (.getfield 124, 3) := by decide +kernel
theorem dX10_mirror_51 : decode cX10_mirror 51 = .ok (.iconst 1, 1) := by decide +kernel
theorem dX10_mirror_52 : decode cX10_mirror 52 = .ok (.isub, 1) := by decide +kernel
theorem dX10_mirror_53 : decode cX10_mirror 53 = .ok (.iload_n 1, 1) := by decide +kernel
theorem dX10_mirror_54 : decode cX10_mirror 54 = .ok (.isub, 1) := by decide +kernel
theorem dX10_mirror_55 : decode cX10_mirror 55 = .ok (.iload_n 2, 1) := by decide +kernel
theorem dX10_mirror_56 : decode cX10_mirror 56 = .ok (.iastore, 1) := by decide +kernel
theorem dX10_mirror_57 : decode cX10_mirror 57 = .ok (.iinc 1 1, 3) := by decide +kernel
theorem dX10_mirror_60 : decode cX10_mirror 60 = .ok (.goto (-53), 3) := by decide +kernel
theorem dX10_mirror_63 : decode cX10_mirror 63 = .ok (.aload_n 0, 1) := by decide +kernel
theorem dX10_mirror_64 : decode cX10_mirror 64 = .ok (.getfield 124, 3) := by decide +kernel
theorem dX10_mirror_67 : decode cX10_mirror 67 = .ok (.ireturn, 1) := by decide +kernel
theorem dX10_clearSpelled_0 : decode cX10_clearSpelled 0 = .ok (.aload_n 0, 1) := by decide +kernel
theorem dX10_clearSpelled_1 : decode cX10_clearSpelled 1 = .ok (.iconst 0, 1) := by decide +kernel
theorem dX10_clearSpelled_2 : decode cX10_clearSpelled 2 = .ok (.putfield 100, 3) := by decide +kernel
theorem dX10_clearSpelled_5 : decode cX10_clearSpelled 5 = .ok (.aload_n 0, 1) := by decide +kernel
theorem dX10_clearSpelled_6 : decode cX10_clearSpelled 6 = .ok (.getfield 124, 3) := by decide +kernel
theorem dX10_clearSpelled_9 : decode cX10_clearSpelled 9 = .ok (.istore_n 1, 1) := by decide +kernel
theorem dX10_clearSpelled_10 : decode cX10_clearSpelled 10 = .ok (.aload_n 0, 1) := by decide +kernel
theorem dX10_clearSpelled_11 : decode cX10_clearSpelled 11 = .ok (.iconst 0, 1) := by decide +kernel
theorem dX10_clearSpelled_12 : decode cX10_clearSpelled 12 = .ok (.putfield 124, 3) := by decide +kernel
theorem dX10_clearSpelled_15 : decode cX10_clearSpelled 15 = .ok (.iload_n 1, 1) := by decide +kernel
theorem dX10_clearSpelled_16 : decode cX10_clearSpelled 16 = .ok (.ireturn, 1) := by decide +kernel
theorem dX10_charAt_0 : decode cX10_charAt 0 = .ok (.iload_n 1, 1) := by decide +kernel
theorem dX10_charAt_1 : decode cX10_charAt 1 = .ok (.istore_n 2, 1) := by decide +kernel
theorem dX10_charAt_2 : decode cX10_charAt 2 = .ok (.iconst 0, 1) := by decide +kernel
theorem dX10_charAt_3 : decode cX10_charAt 3 = .ok (.istore_n 3, 1) := by decide +kernel
theorem dX10_charAt_4 : decode cX10_charAt 4 = .ok (.iload_n 3, 1) := by decide +kernel
theorem dX10_charAt_5 : decode cX10_charAt 5 = .ok (.aload_n 0, 1) := by decide +kernel
theorem dX10_charAt_6 : decode cX10_charAt 6 = .ok (.getfield 124, 3) := by decide +kernel
theorem dX10_charAt_9 : decode cX10_charAt 9 = .ok (.if_icmp .ge 98, 3) := by decide +kernel
theorem dX10_charAt_12 : decode cX10_charAt 12 = .ok (.iload_n 1, 1) := by decide +kernel
theorem dX10_charAt_13 : decode cX10_charAt 13 = .ok (.ifCond .lt 94, 3) := by decide +kernel
theorem dX10_charAt_16 : decode cX10_charAt 16 = .ok (.aload_n 0, 1) := by decide +kernel
theorem dX10_charAt_17 : decode cX10_charAt 17 = .ok (.getfield 23, 3) := by decide +kernel
theorem dX10_charAt_20 : decode cX10_charAt 20 = .ok (.iload_n 3, 1) := by decide +kernel
theorem dX10_charAt_21 : decode cX10_charAt 21 = .ok (.iaload, 1) := by decide +kernel
theorem dX10_charAt_22 : decode cX10_charAt 22 = .ok (.istore 4, 2) := by decide +kernel
theorem dX10_charAt_24 : decode cX10_charAt 24 = .ok (.iload 4, 2) := by decide +kernel
theorem dX10_charAt_26 : decode cX10_charAt 26 = .ok (.invokestatic 127, 3) := by decide +kernel
theorem dX10_charAt_29 : decode cX10_charAt 29 = .ok (.ifCond .eq 7, 3) := by decide +kernel
theorem dX10_charAt_32 : decode cX10_charAt 32 = .ok (.iconst 2, 1) := by decide +kernel
theorem dX10_charAt_33 : decode cX10_charAt 33 = .ok (.goto 4, 3) := by decide +kernel
theorem dX10_charAt_36 : decode cX10_charAt 36 = .ok (.iconst 1, 1) := by decide +kernel
theorem dX10_charAt_37 : decode cX10_charAt 37 = .ok (.istore 5, 2) := by decide +kernel
theorem dX10_charAt_39 : decode cX10_charAt 39 = .ok (.iload_n 2, 1) := by decide +kernel
theorem dX10_charAt_40 : decode cX10_charAt 40 = .ok (.iload 5, 2) := by decide +kernel
theorem dX10_charAt_42 : decode cX10_charAt 42 = .ok (.if_icmp .ge 54, 3) := by decide +kernel
theorem dX10_charAt_45 : decode cX10_charAt 45 = .ok (.aload_n 0, 1) := by decide +kernel
theorem dX10_charAt_46 : decode cX10_charAt 46 = .ok (.iconst 0, 1) := by decide +kernel
theorem dX10_charAt_47 : decode cX10_charAt 47 = .ok (.putfield 100, 3) := by decide +kernel
theorem dX10_charAt_50 : decode cX10_charAt 50 = .ok (.iload 4, 2) := by decide +kernel
theorem dX10_charAt_52 : decode cX10_charAt 52 = .ok (.bipush 14, 2) := by decide +kernel
theorem dX10_charAt_54 : decode cX10_charAt 54 = .ok (.if_icmp .ne 8, 3) := by decide +kernel
theorem dX10_charAt_57 : decode cX10_charAt 57 = .ok (.bipush 63, 2) := by decide +kernel
theorem dX10_charAt_59 : decode cX10_charAt 59 = .ok (.goto 35, 3) := by decide +kernel
theorem dX10_charAt_62 : decode cX10_charAt 62 = .ok (.iload 4, 2) := by decide +kernel
theorem dX10_charAt_64 : decode cX10_charAt 64 = .ok (.bipush 10, 2) := by decide +kernel
theorem dX10_charAt_66 : decode cX10_charAt 66 = .ok (.if_icmp .ge 11, 3) := by decide +kernel
theorem dX10_charAt_69 : decode cX10_charAt 69 = .ok (.bipush 65, 2) := by decide +kernel
theorem dX10_charAt_71 : decode cX10_charAt 71 = .ok (.iload 4, 2) := by decide +kernel
theorem dX10_charAt_73 : decode cX10_charAt 73 = .ok (.iadd, 1) := by decide +kernel
theorem dX10_charAt_74 : decode cX10_charAt 74 = .ok (.goto 20, 3) := by decide +kernel
theorem dX10_charAt_77 : decode cX10_charAt 77 = .ok (.iload_n 2, 1) := by decide +kernel
theorem dX10_charAt_78 : decode cX10_charAt 78 = .ok (.ifCond .ne 8, 3) := by decide +kernel
theorem dX10_charAt_81 : decode cX10_charAt 81 = .ok (.ldc 141, 2) := by decide +kernel
theorem dX10_charAt_83 : decode cX10_charAt 83 = .ok (.goto 11, 3) := by decide +kernel
theorem dX10_charAt_86 : decode cX10_charAt 86 = .ok (.ldc 142, 2) := by decide +kernel
theorem dX10_charAt_88 : decode cX10_charAt 88 = .ok (.iload 4, 2) := by decide +kernel
theorem dX10_charAt_90 : decode cX10_charAt 90 = .ok (.iadd, 1) := by decide +kernel
theorem dX10_charAt_91 : decode cX10_charAt 91 = .ok (.bipush 10, 2) := by decide +kernel
theorem dX10_charAt_93 : decode cX10_charAt 93 = .ok (.isub, 1) := by decide +kernel
theorem dX10_charAt_94 : decode cX10_charAt 94 = .ok (.i2c, 1) := by decide +kernel
theorem dX10_charAt_95 : decode cX10_charAt 95 = .ok (.ireturn, 1) := by decide +kernel
theorem dX10_charAt_96 : decode cX10_charAt 96 = .ok (.iload_n 2, 1) := by decide +kernel
theorem dX10_charAt_97 : decode cX10_charAt 97 = .ok (.iload 5, 2) := by decide +kernel
theorem dX10_charAt_99 : decode cX10_charAt 99 = .ok (.isub, 1) := by decide +kernel
theorem dX10_charAt_100 : decode cX10_charAt 100 = .ok (.istore_n 2, 1) := by decide +kernel
theorem dX10_charAt_101 : decode cX10_charAt 101 = .ok (.iinc 3 1, 3) := by decide +kernel
theorem dX10_charAt_104 : decode cX10_charAt 104 = .ok (.goto (-100), 3) := by decide +kernel
theorem dX10_charAt_107 : decode cX10_charAt 107 = .ok (.aload_n 0, 1) := by decide +kernel
theorem dX10_charAt_108 : decode cX10_charAt 108 = .ok (.iconst 1, 1) := by decide +kernel
theorem dX10_charAt_109 : decode cX10_charAt 109 = .ok (.putfield 100, 3) := by decide +kernel
theorem dX10_charAt_112 : decode cX10_charAt 112 = .ok (.bipush 97, 2) := by decide +kernel
theorem dX10_charAt_114 : decode cX10_charAt 114 = .ok (.ireturn, 1) := by decide +kernel
theorem dX10_alike_0 : decode cX10_alike 0 = .ok (.iload_n 1, 1) := by decide +kernel
theorem dX10_alike_1 : decode cX10_alike 1 = .ok (.invokestatic 134, 3) := by decide +kernel
theorem dX10_alike_4 : decode cX10_alike 4 = .ok (.ifCond .eq 14, 3) := by decide +kernel
theorem dX10_alike_7 : decode cX10_alike 7 = .ok (.iload_n 2, 1) := by decide +kernel
theorem dX10_alike_8 : decode cX10_alike 8 = .ok (.invokestatic 134, 3) := by decide +kernel
theorem dX10_alike_11 : decode cX10_alike 11 = .ok (.ifCond .eq 7, 3) := by decide +kernel
theorem dX10_alike_14 : decode cX10_alike 14 = .ok (.iconst 1, 1) := by decide +kernel
theorem dX10_alike_15 : decode cX10_alike 15 = .ok (.goto 4, 3) := by decide +kernel
theorem dX10_alike_18 : decode cX10_alike 18 = .ok (.iconst 0, 1) := by decide +kernel
theorem dX10_alike_19 : decode cX10_alike 19 = .ok (.istore_n 3, 1) := by decide +kernel
theorem dX10_alike_20 : decode cX10_alike 20 = .ok (.aload_n 0, 1) := by decide +kernel
theorem dX10_alike_21 : decode cX10_alike 21 = .ok (.iload_n 3, 1) := by decide +kernel
theorem dX10_alike_22 : decode cX10_alike 22 = .ok (.ifCond .ne 7, 3) := by decide +kernel
theorem dX10_alike_25 : decode cX10_alike 25 = .ok (.iconst 1, 1) := by decide +kernel
theorem dX10_alike_26 : decode cX10_alike 26 = .ok (.goto 25, 3) := by decide +kernel
theorem dX10_alike_29 : decode cX10_alike 29 = .ok (.iload_n 1, 1) := by decide +kernel
theorem dX10_alike_30 : decode cX10_alike 30 = .ok (.iload_n 2, 1) := by decide +kernel
theorem dX10_alike_31 : decode cX10_alike 31 = .ok (.if_icmp .eq 15, 3) := by decide +kernel
theorem dX10_alike_34 : decode cX10_alike 34 = .ok (.iload_n 1, 1) := by decide +kernel
theorem dX10_alike_35 : decode cX10_alike 35 = .ok (.bipush 14, 2) := by decide +kernel
theorem dX10_alike_37 : decode cX10_alike 37 = .ok (.if_icmp .eq 9, 3) := by decide +kernel
theorem dX10_alike_40 : decode cX10_alike 40 = .ok (.iload_n 2, 1) := by decide +kernel
theorem dX10_alike_41 : decode cX10_alike 41 = .ok (.bipush 14, 2) := by decide +kernel
theorem dX10_alike_43 : decode cX10_alike 43 = .ok (.if_icmp .ne 7, 3) := by decide +kernel
theorem dX10_alike_46 : decode cX10_alike 46 = .ok (.iconst 2, 1) := by decide +kernel
theorem dX10_alike_47 : decode cX10_alike 47 = .ok (.goto 4, 3) := by decide +kernel
theorem dX10_alike_50 : decode cX10_alike 50 = .ok (.iconst 0, 1) := by decide +kernel
theorem dX10_alike_51 : decode cX10_alike 51 = .ok (.invokevirtual 117, 3) := by decide +kernel
theorem dX10_alike_54 : decode cX10_alike 54 = .ok (.ifCond .ne 5, 3) := by decide +kernel
theorem dX10_alike_57 : decode cX10_alike 57 = .ok (.iconst 0, 1) := by decide +kernel
theorem dX10_alike_58 : decode cX10_alike 58 = .ok (.ireturn, 1) := by decide +kernel
theorem dX10_alike_59 : decode cX10_alike 59 = .ok (.aload_n 0, 1) := by decide +kernel
theorem dX10_alike_60 : decode cX10_alike 60 = .ok (.getfield 26, 3) := by decide +kernel
theorem dX10_alike_63 : decode cX10_alike 63 = .ok (.bipush 15, 2) := by decide +kernel
theorem dX10_alike_65 : decode cX10_alike 65 = .ok (.iload_n 1, 1) := by decide +kernel
theorem dX10_alike_66 : decode cX10_alike 66 = .ok (.imul, 1) := by decide +kernel
theorem dX10_alike_67 : decode cX10_alike 67 = .ok (.iload_n 2, 1) := by decide +kernel
theorem dX10_alike_68 : decode cX10_alike 68 = .ok (.iadd, 1) := by decide +kernel
theorem dX10_alike_69 : decode cX10_alike 69 = .ok (.baload, 1) := by decide +kernel
theorem dX10_alike_70 : decode cX10_alike 70 = .ok (.ifCond .ne 7, 3) := by decide +kernel
theorem dX10_alike_73 : decode cX10_alike 73 = .ok (.iconst 1, 1) := by decide +kernel
theorem dX10_alike_74 : decode cX10_alike 74 = .ok (.goto 4, 3) := by decide +kernel
theorem dX10_alike_77 : decode cX10_alike 77 = .ok (.iconst 0, 1) := by decide +kernel
theorem dX10_alike_78 : decode cX10_alike 78 = .ok (.istore 4, 2) := by decide +kernel
theorem dX10_alike_80 : decode cX10_alike 80 = .ok (.aload_n 0, 1) := by decide +kernel
theorem dX10_alike_81 : decode cX10_alike 81 = .ok (.getfield 26, 3) := by decide +kernel
theorem dX10_alike_84 : decode cX10_alike 84 = .ok (.bipush 15, 2) := by decide +kernel
theorem dX10_alike_86 : decode cX10_alike 86 = .ok (.iload_n 1, 1) := by decide +kernel
theorem dX10_alike_87 : decode cX10_alike 87 = .ok (.imul, 1) := by decide +kernel
theorem dX10_alike_88 : decode cX10_alike 88 = .ok (.iload_n 2, 1) := by decide +kernel
theorem dX10_alike_89 : decode cX10_alike 89 = .ok (.iadd, 1) := by decide +kernel
theorem dX10_alike_90 : decode cX10_alike 90 = .ok (.iload 4, 2) := by decide +kernel
theorem dX10_alike_92 : decode cX10_alike 92 = .ok (.bastore, 1) := by decide +kernel
theorem dX10_alike_93 : decode cX10_alike 93 = .ok (.aload_n 0, 1) := by decide +kernel
theorem dX10_alike_94 : decode cX10_alike 94 = .ok (.getfield 26, 3) := by decide +kernel
theorem dX10_alike_97 : decode cX10_alike 97 = .ok (.bipush 15, 2) := by decide +kernel
theorem dX10_alike_99 : decode cX10_alike 99 = .ok (.iload_n 2, 1) := by decide +kernel
theorem dX10_alike_100 : decode cX10_alike 100 = .ok (.imul, 1) := by decide +kernel
theorem dX10_alike_101 : decode cX10_alike 101 = .ok (.iload_n 1, 1) := by decide +kernel
theorem dX10_alike_102 : decode cX10_alike 102 = .ok (.iadd, 1) := by decide +kernel
theorem dX10_alike_103 : decode cX10_alike 103 = .ok (.iload 4, 2) := by decide +kernel
theorem dX10_alike_105 : decode cX10_alike 105 = .ok (.bastore, 1) := by decide +kernel
theorem dX10_alike_106 : decode cX10_alike 106 = .ok (.iload 4, 2) := by decide +kernel
theorem dX10_alike_108 : decode cX10_alike 108 = .ok (.ireturn, 1) := by decide +kernel
theorem dX10_isTaken_0 : decode cX10_isTaken 0 = .ok (.iconst 0, 1) := by decide +kernel
theorem dX10_isTaken_1 : decode cX10_isTaken 1 = .ok (.istore_n 1, 1) := by decide +kernel
theorem dX10_isTaken_2 : decode cX10_isTaken 2 = .ok (.iconst 0, 1) := by decide +kernel
theorem dX10_isTaken_3 : decode cX10_isTaken 3 = .ok (.istore_n 2, 1) := by decide +kernel
theorem dX10_isTaken_4 : decode cX10_isTaken 4 = .ok (.iload_n 2, 1) := by decide +kernel
theorem dX10_isTaken_5 : decode cX10_isTaken 5 = .ok (.aload_n 0, 1) := by decide +kernel
theorem dX10_isTaken_6 : decode cX10_isTaken 6 = .ok (.getfield 107, 3) := by decide +kernel
theorem dX10_isTaken_9 : decode cX10_isTaken 9 = .ok (.if_icmp .ge 92, 3) := by decide +kernel
theorem dX10_isTaken_12 : decode cX10_isTaken 12 = .ok (.aload_n 0, 1) := by decide +kernel
theorem dX10_isTaken_13 : decode cX10_isTaken 13 = .ok (.getfield 30, 3) := by decide +kernel
theorem dX10_isTaken_16 : decode cX10_isTaken 16 = .ok (.iload_n 2, 1) := by decide +kernel
theorem dX10_isTaken_17 : decode cX10_isTaken 17 = .ok (.iaload, 1) := by decide +kernel
theorem dX10_isTaken_18 : decode cX10_isTaken 18 = .ok (.aload_n 0, 1) := by decide +kernel
theorem dX10_isTaken_19 : decode cX10_isTaken 19 = .ok (.getfield 124, 3) := by decide +kernel
theorem dX10_isTaken_22 : decode cX10_isTaken 22 = .ok (.if_icmp .ne 7, 3) := by decide +kernel
theorem dX10_isTaken_25 : decode cX10_isTaken 25 = .ok (.iconst 1, 1) := by decide +kernel
theorem dX10_isTaken_26 : decode cX10_isTaken 26 = .ok (.goto 4, 3) := by decide +kernel
theorem dX10_isTaken_29 : decode cX10_isTaken 29 = .ok (.iconst 0, 1) := by decide +kernel
theorem dX10_isTaken_30 : decode cX10_isTaken 30 = .ok (.istore_n 3, 1) := by decide +kernel
theorem dX10_isTaken_31 : decode cX10_isTaken 31 = .ok (.iconst 0, 1) := by decide +kernel
theorem dX10_isTaken_32 : decode cX10_isTaken 32 = .ok (.istore 4, 2) := by decide +kernel
theorem dX10_isTaken_34 : decode cX10_isTaken 34 = .ok (.iload 4, 2) := by decide +kernel
theorem dX10_isTaken_36 : decode cX10_isTaken 36 = .ok (.aload_n 0, 1) := by decide +kernel
theorem dX10_isTaken_37 : decode cX10_isTaken 37 = .ok (.getfield 124, 3) := by decide +kernel
theorem dX10_isTaken_40 : decode cX10_isTaken 40 = .ok (.if_icmp .ge 41, 3) := by decide +kernel
theorem dX10_isTaken_43 : decode cX10_isTaken 43 = .ok (.iload_n 3, 1) := by decide +kernel
theorem dX10_isTaken_44 : decode cX10_isTaken 44 = .ok (.ifCond .eq 37, 3) := by decide +kernel
theorem dX10_isTaken_47 : decode cX10_isTaken 47 = .ok (.aload_n 0, 1) := by decide +kernel
theorem dX10_isTaken_48 : decode cX10_isTaken 48 = .ok (.getfield 33, 3) := by decide +kernel
theorem dX10_isTaken_51 : decode cX10_isTaken 51 = .ok (.bipush 6, 2) := by decide +kernel
theorem dX10_isTaken_53 : decode cX10_isTaken 53 = .ok (.iload_n 2, 1) := by decide +kernel
theorem dX10_isTaken_54 : decode cX10_isTaken 54 = .ok (.imul, 1) := by decide +kernel
theorem dX10_isTaken_55 : decode cX10_isTaken 55 = .ok (.iload 4, 2) := by decide +kernel
theorem dX10_isTaken_57 : decode cX10_isTaken 57 = .ok (.iadd, 1) := by decide +kernel
theorem dX10_isTaken_58 : decode cX10_isTaken 58 = .ok (.iaload, 1) := by decide +kernel
theorem dX10_isTaken_59 : decode cX10_isTaken 59 = .ok (.aload_n 0, 1) := by decide +kernel
theorem dX10_isTaken_60 : decode cX10_isTaken 60 = .ok (.getfield 23, 3) := by decide +kernel
theorem dX10_isTaken_63 : decode cX10_isTaken 63 = .ok (.iload 4, 2) := by decide +kernel
theorem dX10_isTaken_65 : decode cX10_isTaken 65 = .ok (.iaload, 1) := by decide +kernel
theorem dX10_isTaken_66 : decode cX10_isTaken 66 = .ok (.if_icmp .ne 7, 3) := by decide +kernel
theorem dX10_isTaken_69 : decode cX10_isTaken 69 = .ok (.iconst 1, 1) := by decide +kernel
theorem dX10_isTaken_70 : decode cX10_isTaken 70 = .ok (.goto 4, 3) := by decide +kernel
theorem dX10_isTaken_73 : decode cX10_isTaken 73 = .ok (.iconst 0, 1) := by decide +kernel
theorem dX10_isTaken_74 : decode cX10_isTaken 74 = .ok (.istore_n 3, 1) := by decide +kernel
theorem dX10_isTaken_75 : decode cX10_isTaken 75 = .ok (.iinc 4 1, 3) := by decide +kernel
theorem dX10_isTaken_78 : decode cX10_isTaken 78 = .ok (.goto (-44), 3) := by decide +kernel
theorem dX10_isTaken_81 : decode cX10_isTaken 81 = .ok (.iload_n 1, 1) := by decide +kernel
theorem dX10_isTaken_82 : decode cX10_isTaken 82 = .ok (.ifCond .ne 7, 3) := by decide +kernel
theorem dX10_isTaken_85 : decode cX10_isTaken 85 = .ok (.iload_n 3, 1) := by decide +kernel
theorem dX10_isTaken_86 : decode cX10_isTaken 86 = .ok (.ifCond .eq 7, 3) := by decide +kernel
theorem dX10_isTaken_89 : decode cX10_isTaken 89 = .ok (.iconst 1, 1) := by decide +kernel
theorem dX10_isTaken_90 : decode cX10_isTaken 90 = .ok (.goto 4, 3) := by decide +kernel
theorem dX10_isTaken_93 : decode cX10_isTaken 93 = .ok (.iconst 0, 1) := by decide +kernel
theorem dX10_isTaken_94 : decode cX10_isTaken 94 = .ok (.istore_n 1, 1) := by decide +kernel
theorem dX10_isTaken_95 : decode cX10_isTaken 95 = .ok (.iinc 2 1, 3) := by decide +kernel
theorem dX10_isTaken_98 : decode cX10_isTaken 98 = .ok (.goto (-94), 3) := by decide +kernel
theorem dX10_isTaken_101 : decode cX10_isTaken 101 = .ok (.iload_n 1, 1) := by decide +kernel
theorem dX10_isTaken_102 : decode cX10_isTaken 102 = .ok (.ireturn, 1) := by decide +kernel
theorem dX10_isPlain_0 : decode cX10_isPlain 0 = .ok (.aload_n 0, 1) := by decide +kernel
theorem dX10_isPlain_1 : decode cX10_isPlain 1 = .ok (.getfield 124, 3) := by decide +kernel
theorem dX10_isPlain_4 : decode cX10_isPlain 4 = .ok (.ifCond .le 7, 3) := by decide +kernel
theorem dX10_isPlain_7 : decode cX10_isPlain 7 = .ok (.iconst 1, 1) := by decide +kernel
theorem dX10_isPlain_8 : decode cX10_isPlain 8 = .ok (.goto 4, 3) := by decide +kernel
theorem dX10_isPlain_11 : decode cX10_isPlain 11 = .ok (.iconst 0, 1) := by decide +kernel
theorem dX10_isPlain_12 : decode cX10_isPlain 12 = .ok (.istore_n 1, 1) := by decide +kernel
theorem dX10_isPlain_13 : decode cX10_isPlain 13 = .ok (.iconst 0, 1) := by decide +kernel
theorem dX10_isPlain_14 : decode cX10_isPlain 14 = .ok (.istore_n 2, 1) := by decide +kernel
theorem dX10_isPlain_15 : decode cX10_isPlain 15 = .ok (.iload_n 2, 1) := by decide +kernel
theorem dX10_isPlain_16 : decode cX10_isPlain 16 = .ok (.aload_n 0, 1) := by decide +kernel
theorem dX10_isPlain_17 : decode cX10_isPlain 17 = .ok (.getfield 124, 3) := by decide +kernel
theorem dX10_isPlain_20 : decode cX10_isPlain 20 = .ok (.if_icmp .ge 30, 3) := by decide +kernel
theorem dX10_isPlain_23 : decode cX10_isPlain 23 = .ok (.iload_n 1, 1) := by decide +kernel
theorem dX10_isPlain_24 : decode cX10_isPlain 24 = .ok (.ifCond .eq 18, 3) := by decide +kernel
theorem dX10_isPlain_27 : decode cX10_isPlain 27 = .ok (.aload_n 0, 1) := by decide +kernel
theorem dX10_isPlain_28 : decode cX10_isPlain 28 = .ok (.getfield 23, 3) := by decide +kernel
theorem dX10_isPlain_31 : decode cX10_isPlain 31 = .ok (.iload_n 2, 1) := by decide +kernel
theorem dX10_isPlain_32 : decode cX10_isPlain 32 = .ok (.iaload, 1) := by decide +kernel
theorem dX10_isPlain_33 : decode cX10_isPlain 33 = .ok (.bipush 14, 2) := by decide +kernel
theorem dX10_isPlain_35 : decode cX10_isPlain 35 = .ok (.if_icmp .eq 7, 3) := by decide +kernel
theorem dX10_isPlain_38 : decode cX10_isPlain 38 = .ok (.iconst 1, 1) := by decide +kernel
theorem dX10_isPlain_39 : decode cX10_isPlain 39 = .ok (.goto 4, 3) := by decide +kernel
theorem dX10_isPlain_42 : decode cX10_isPlain 42 = .ok (.iconst 0, 1) := by decide +kernel
theorem dX10_isPlain_43 : decode cX10_isPlain 43 = .ok (.istore_n 1, 1) := by decide +kernel
theorem dX10_isPlain_44 : decode cX10_isPlain 44 = .ok (.iinc 2 1, 3) := by decide +kernel
theorem dX10_isPlain_47 : decode cX10_isPlain 47 = .ok (.goto (-32), 3) := by decide +kernel
theorem dX10_isPlain_50 : decode cX10_isPlain 50 = .ok (.iload_n 1, 1) := by decide +kernel
theorem dX10_isPlain_51 : decode cX10_isPlain 51 = .ok (.ireturn, 1) := by decide +kernel
theorem dX10_holds_0 : decode cX10_holds 0 = .ok (.aload_n 0, 1) := by decide +kernel
theorem dX10_holds_1 : decode cX10_holds 1 = .ok (.getfield 39, 3) := by decide +kernel
theorem dX10_holds_4 : decode cX10_holds 4 = .ok (.aload_n 0, 1) := by decide +kernel
theorem dX10_holds_5 : decode cX10_holds 5 = .ok (.getfield 143, 3) := by decide +kernel
theorem dX10_holds_8 : decode cX10_holds 8 = .ok (.iload_n 1, 1) := by decide +kernel
theorem dX10_holds_9 : decode cX10_holds 9 = .ok (.iastore, 1) := by decide +kernel
theorem dX10_holds_10 : decode cX10_holds 10 = .ok (.aload_n 0, 1) := by decide +kernel
theorem dX10_holds_11 : decode cX10_holds 11 = .ok (.getfield 42, 3) := by decide +kernel
theorem dX10_holds_14 : decode cX10_holds 14 = .ok (.aload_n 0, 1) := by decide +kernel
theorem dX10_holds_15 : decode cX10_holds 15 = .ok (.getfield 143, 3) := by decide +kernel
theorem dX10_holds_18 : decode cX10_holds 18 = .ok (.iload_n 2, 1) := by decide +kernel
theorem dX10_holds_19 : decode cX10_holds 19 = .ok (.iastore, 1) := by decide +kernel
theorem dX10_holds_20 : decode cX10_holds 20 = .ok (.aload_n 0, 1) := by decide +kernel
theorem dX10_holds_21 : decode cX10_holds 21 = .ok (.getfield 45, 3) := by decide +kernel
theorem dX10_holds_24 : decode cX10_holds 24 = .ok (.aload_n 0, 1) := by decide +kernel
theorem dX10_holds_25 : decode cX10_holds 25 = .ok (.getfield 143, 3) := by decide +kernel
theorem dX10_holds_28 : decode cX10_holds 28 = .ok (.aload_n 0, 1) := by decide +kernel
theorem dX10_holds_29 : decode cX10_holds 29 = .ok (.getfield 113, 3) := by decide +kernel
theorem dX10_holds_32 : decode cX10_holds 32 = .ok (.iastore, 1) := by decide +kernel
theorem dX10_holds_33 : decode cX10_holds 33 = .ok (.aload_n 0, 1) := by decide +kernel
theorem dX10_holds_34 : decode cX10_holds 34 = .ok (.dup, 1) := by decide +kernel
theorem dX10_holds_35 : decode cX10_holds 35 = .ok (.getfield 143, 3) := by decide +kernel
theorem dX10_holds_38 : decode cX10_holds 38 = .ok (.iconst 1, 1) := by decide +kernel
theorem dX10_holds_39 : decode cX10_holds 39 = .ok (.iadd, 1) := by decide +kernel
theorem dX10_holds_40 : decode cX10_holds 40 = .ok (.putfield 143, 3) := by decide +kernel
theorem dX10_holds_43 : decode cX10_holds 43 = .ok (.return_, 1) := by decide +kernel
theorem dX10_register_0 : decode cX10_register 0 = .ok (.iload_n 1, 1) := by decide +kernel
theorem dX10_register_1 : decode cX10_register 1 = .ok (.invokestatic 146, 3) := by decide +kernel
theorem dX10_register_4 : decode cX10_register 4 = .ok (.istore_n 3, 1) := by decide +kernel
theorem dX10_register_5 : decode cX10_register 5 = .ok (.iload_n 2, 1) := by decide +kernel
theorem dX10_register_6 : decode cX10_register 6 = .ok (.iconst 0, 1) := by decide +kernel
theorem dX10_register_7 : decode cX10_register 7 = .ok (.iconst 3, 1) := by decide +kernel
theorem dX10_register_8 : decode cX10_register 8 = .ok (.invokestatic 103, 3) := by decide +kernel
theorem dX10_register_11 : decode cX10_register 11 = .ok (.istore 4, 2) := by decide +kernel
theorem dX10_register_13 : decode cX10_register 13 = .ok (.aload_n 0, 1) := by decide +kernel
theorem dX10_register_14 : decode cX10_register 14 = .ok (.iload_n 3, 1) := by decide +kernel
theorem dX10_register_15 : decode cX10_register 15 = .ok (.ifCond .ne 7, 3) := by decide +kernel
theorem dX10_register_18 : decode cX10_register 18 = .ok (.iconst 1, 1) := by decide +kernel
theorem dX10_register_19 : decode cX10_register 19 = .ok (.goto 40, 3) := by decide +kernel
theorem dX10_register_22 : decode cX10_register 22 = .ok (.iload 4, 2) := by decide +kernel
theorem dX10_register_24 : decode cX10_register 24 = .ok (.ifCond .ne 7, 3) := by decide +kernel
theorem dX10_register_27 : decode cX10_register 27 = .ok (.iconst 2, 1) := by decide +kernel
theorem dX10_register_28 : decode cX10_register 28 = .ok (.goto 31, 3) := by decide +kernel
theorem dX10_register_31 : decode cX10_register 31 = .ok (.aload_n 0, 1) := by decide +kernel
theorem dX10_register_32 : decode cX10_register 32 = .ok (.invokevirtual 149, 3) := by decide +kernel
theorem dX10_register_35 : decode cX10_register 35 = .ok (.ifCond .eq 19, 3) := by decide +kernel
theorem dX10_register_38 : decode cX10_register 38 = .ok (.aload_n 0, 1) := by decide +kernel
theorem dX10_register_39 : decode cX10_register 39 = .ok (.invokevirtual 153, 3) := by decide +kernel
theorem dX10_register_42 : decode cX10_register 42 = .ok (.ifCond .ne 12, 3) := by decide +kernel
theorem dX10_register_45 : decode cX10_register 45 = .ok (.aload_n 0, 1) := by decide +kernel
theorem dX10_register_46 : decode cX10_register 46 = .ok (.getfield 107, 3) := by decide +kernel
theorem dX10_register_49 : decode cX10_register 49 = .ok (.bipush 10, 2) := by decide +kernel
theorem dX10_register_51 : decode cX10_register 51 = .ok (.if_icmp .ne 7, 3) := by decide +kernel
theorem dX10_register_54 : decode cX10_register 54 = .ok (.iconst 3, 1) := by decide +kernel
theorem dX10_register_55 : decode cX10_register 55 = .ok (.goto 4, 3) := by decide +kernel
theorem dX10_register_58 : decode cX10_register 58 = .ok (.iconst 0, 1) := by decide +kernel
theorem dX10_register_59 : decode cX10_register 59 = .ok (.invokevirtual 117, 3) := by decide +kernel
theorem dX10_register_62 : decode cX10_register 62 = .ok (.ifCond .ne 5, 3) := by decide +kernel
theorem dX10_register_65 : decode cX10_register 65 = .ok (.iconst 0, 1) := by decide +kernel
theorem dX10_register_66 : decode cX10_register 66 = .ok (.ireturn, 1) := by decide +kernel
theorem dX10_register_67 : decode cX10_register 67 = .ok (.aload_n 0, 1) := by decide +kernel
theorem dX10_register_68 : decode cX10_register 68 = .ok (.getfield 30, 3) := by decide +kernel
theorem dX10_register_71 : decode cX10_register 71 = .ok (.aload_n 0, 1) := by decide +kernel
theorem dX10_register_72 : decode cX10_register 72 = .ok (.getfield 107, 3) := by decide +kernel
theorem dX10_register_75 : decode cX10_register 75 = .ok (.aload_n 0, 1) := by decide +kernel
theorem dX10_register_76 : decode cX10_register 76 = .ok (.getfield 124, 3) := by decide +kernel
theorem dX10_register_79 : decode cX10_register 79 = .ok (.iastore, 1) := by decide +kernel
theorem dX10_register_80 : decode cX10_register 80 = .ok (.iconst 0, 1) := by decide +kernel
theorem dX10_register_81 : decode cX10_register 81 = .ok (.istore 5, 2) := by decide +kernel
theorem dX10_register_83 : decode cX10_register 83 = .ok (.iload 5, 2) := by decide +kernel
theorem dX10_register_85 : decode cX10_register 85 = .ok (.aload_n 0, 1) := by decide +kernel
theorem dX10_register_86 : decode cX10_register 86 = .ok (.getfield 124, 3) := by decide +kernel
theorem dX10_register_89 : decode cX10_register 89 = .ok (.if_icmp .ge 31, 3) := by decide +kernel
theorem dX10_register_92 : decode cX10_register 92 = .ok (.aload_n 0, 1) := by decide +kernel
theorem dX10_register_93 : decode cX10_register 93 = .ok (.getfield 33, 3) := by decide +kernel
theorem dX10_register_96 : decode cX10_register 96 = .ok (.bipush 6, 2) := by decide +kernel
theorem dX10_register_98 : decode cX10_register 98 = .ok (.aload_n 0, 1) := by decide +kernel
theorem dX10_register_99 : decode cX10_register 99 = .ok (.getfield 107, 3) := by decide +kernel
theorem dX10_register_102 : decode cX10_register 102 = .ok (.imul, 1) := by decide +kernel
theorem dX10_register_103 : decode cX10_register 103 = .ok (.iload 5, 2) := by decide +kernel
theorem dX10_register_105 : decode cX10_register 105 = .ok (.iadd, 1) := by decide +kernel
theorem dX10_register_106 : decode cX10_register 106 = .ok (.aload_n 0, 1) := by decide +kernel
theorem dX10_register_107 : decode cX10_register 107 = .ok (.getfield 23, 3) := by decide +kernel
theorem dX10_register_110 : decode cX10_register 110 = .ok (.iload 5, 2) := by decide +kernel
theorem dX10_register_112 : decode cX10_register 112 = .ok (.iaload, 1) := by decide +kernel
theorem dX10_register_113 : decode cX10_register 113 = .ok (.iastore, 1) := by decide +kernel
theorem dX10_register_114 : decode cX10_register 114 = .ok (.iinc 5 1, 3) := by decide +kernel
theorem dX10_register_117 : decode cX10_register 117 = .ok (.goto (-34), 3) := by decide +kernel
theorem dX10_register_120 : decode cX10_register 120 = .ok (.aload_n 0, 1) := by decide +kernel
theorem dX10_register_121 : decode cX10_register 121 = .ok (.getfield 36, 3) := by decide +kernel
theorem dX10_register_124 : decode cX10_register 124 = .ok (.aload_n 0, 1) := by decide +kernel
theorem dX10_register_125 : decode cX10_register 125 = .ok (.getfield 107, 3) := by decide +kernel
theorem dX10_register_128 : decode cX10_register 128 = .ok (.iload_n 2, 1) := by decide +kernel
theorem dX10_register_129 : decode cX10_register 129 = .ok (.iastore, 1) := by decide +kernel
theorem dX10_register_130 : decode cX10_register 130 = .ok (.aload_n 0, 1) := by decide +kernel
theorem dX10_register_131 : decode cX10_register 131 = .ok (.aload_n 0, 1) := by decide +kernel
theorem dX10_register_132 : decode cX10_register 132 = .ok (.getfield 107, 3) := by decide +kernel
theorem dX10_register_135 : decode cX10_register 135 = .ok (.iload_n 1, 1) := by decide +kernel
theorem dX10_register_136 : decode cX10_register 136 = .ok (.invokevirtual 156, 3) := by decide +kernel
theorem dX10_register_139 : decode cX10_register 139 = .ok (.aload_n 0, 1) := by decide +kernel
theorem dX10_register_140 : decode cX10_register 140 = .ok (.dup, 1) := by decide +kernel
theorem dX10_register_141 : decode cX10_register 141 = .ok (.getfield 107, 3) := by decide +kernel
theorem dX10_register_144 : decode cX10_register 144 = .ok (.iconst 1, 1) := by decide +kernel
theorem dX10_register_145 : decode cX10_register 145 = .ok (.iadd, 1) := by decide +kernel
theorem dX10_register_146 : decode cX10_register 146 = .ok (.putfield 107, 3) := by decide +kernel
theorem dX10_register_149 : decode cX10_register 149 = .ok (.aload_n 0, 1) := by decide +kernel
theorem dX10_register_150 : decode cX10_register 150 = .ok (.getfield 107, 3) := by decide +kernel
theorem dX10_register_153 : decode cX10_register 153 = .ok (.iconst 1, 1) := by decide +kernel
theorem dX10_register_154 : decode cX10_register 154 = .ok (.isub, 1) := by decide +kernel
theorem dX10_register_155 : decode cX10_register 155 = .ok (.ireturn, 1) := by decide +kernel
theorem dX10_holderAt_0 : decode cX10_holderAt 0 = .ok (.iconst (-1), 1) := by decide +kernel
theorem dX10_holderAt_1 : decode cX10_holderAt 1 = .ok (.istore_n 3, 1) := by decide +kernel
theorem dX10_holderAt_2 : decode cX10_holderAt 2 = .ok (.iconst 0, 1) := by decide +kernel
theorem dX10_holderAt_3 : decode cX10_holderAt 3 = .ok (.istore 4, 2) := by decide +kernel
theorem dX10_holderAt_5 : decode cX10_holderAt 5 = .ok (.iload 4, 2) := by decide +kernel
theorem dX10_holderAt_7 : decode cX10_holderAt 7 = .ok (.aload_n 0, 1) := by decide +kernel
theorem dX10_holderAt_8 : decode cX10_holderAt 8 = .ok (.getfield 143, 3) := by decide +kernel
theorem dX10_holderAt_11 : decode cX10_holderAt 11 = .ok (.if_icmp .ge 43, 3) := by decide +kernel
theorem dX10_holderAt_14 : decode cX10_holderAt 14 = .ok (.aload_n 0, 1) := by decide +kernel
theorem dX10_holderAt_15 : decode cX10_holderAt 15 = .ok (.getfield 39, 3) := by decide +kernel
theorem dX10_holderAt_18 : decode cX10_holderAt 18 = .ok (.iload 4, 2) := by decide +kernel
theorem dX10_holderAt_20 : decode cX10_holderAt 20 = .ok (.iaload, 1) := by decide +kernel
theorem dX10_holderAt_21 : decode cX10_holderAt 21 = .ok (.iload_n 1, 1) := by decide +kernel
theorem dX10_holderAt_22 : decode cX10_holderAt 22 = .ok (.if_icmp .ne 24, 3) := by decide +kernel
theorem dX10_holderAt_25 : decode cX10_holderAt 25 = .ok (.aload_n 0, 1) := by decide +kernel
theorem dX10_holderAt_26 : decode cX10_holderAt 26 = .ok (.getfield 45, 3) := by decide +kernel
theorem dX10_holderAt_29 : decode cX10_holderAt 29 = .ok (.iload 4, 2) := by decide +kernel
theorem dX10_holderAt_31 : decode cX10_holderAt 31 = .ok (.iaload, 1) := by decide +kernel
theorem dX10_holderAt_32 : decode cX10_holderAt 32 = .ok (.iload_n 2, 1) := by decide +kernel
theorem dX10_holderAt_33 : decode cX10_holderAt 33 = .ok (.if_icmp .gt 13, 3) := by decide +kernel
theorem dX10_holderAt_36 : decode cX10_holderAt 36 = .ok (.aload_n 0, 1) := by decide +kernel
theorem dX10_holderAt_37 : decode cX10_holderAt 37 = .ok (.getfield 42, 3) := by decide +kernel
theorem dX10_holderAt_40 : decode cX10_holderAt 40 = .ok (.iload 4, 2) := by decide +kernel
theorem dX10_holderAt_42 : decode cX10_holderAt 42 = .ok (.iaload, 1) := by decide +kernel
theorem dX10_holderAt_43 : decode cX10_holderAt 43 = .ok (.goto 4, 3) := by decide +kernel
theorem dX10_holderAt_46 : decode cX10_holderAt 46 = .ok (.iload_n 3, 1) := by decide +kernel
theorem dX10_holderAt_47 : decode cX10_holderAt 47 = .ok (.istore_n 3, 1) := by decide +kernel
theorem dX10_holderAt_48 : decode cX10_holderAt 48 = .ok (.iinc 4 1, 3) := by decide +kernel
theorem dX10_holderAt_51 : decode cX10_holderAt 51 = .ok (.goto (-46), 3) := by decide +kernel
theorem dX10_holderAt_54 : decode cX10_holderAt 54 = .ok (.iload_n 3, 1) := by decide +kernel
theorem dX10_holderAt_55 : decode cX10_holderAt 55 = .ok (.ireturn, 1) := by decide +kernel
theorem dX10_sell_0 : decode cX10_sell 0 = .ok (.aload_n 0, 1) := by decide +kernel
theorem dX10_sell_1 : decode cX10_sell 1 = .ok (.aload_n 0, 1) := by decide +kernel
theorem dX10_sell_2 : decode cX10_sell 2 = .ok (.iload_n 1, 1) := by decide +kernel
theorem dX10_sell_3 : decode cX10_sell 3 = .ok (.invokevirtual 160, 3) := by decide +kernel
theorem dX10_sell_6 : decode cX10_sell 6 = .ok (.ifCond .eq 14, 3) := by decide +kernel
theorem dX10_sell_9 : decode cX10_sell 9 = .ok (.iload_n 2, 1) := by decide +kernel
theorem dX10_sell_10 : decode cX10_sell 10 = .ok (.invokestatic 146, 3) := by decide +kernel
theorem dX10_sell_13 : decode cX10_sell 13 = .ok (.ifCond .eq 7, 3) := by decide +kernel
theorem dX10_sell_16 : decode cX10_sell 16 = .ok (.iconst 0, 1) := by decide +kernel
theorem dX10_sell_17 : decode cX10_sell 17 = .ok (.goto 4, 3) := by decide +kernel
theorem dX10_sell_20 : decode cX10_sell 20 = .ok (.iconst 1, 1) := by decide +kernel
theorem dX10_sell_21 : decode cX10_sell 21 = .ok (.invokevirtual 117, 3) := by decide +kernel
theorem dX10_sell_24 : decode cX10_sell 24 = .ok (.ifCond .ne 5, 3) := by decide +kernel
theorem dX10_sell_27 : decode cX10_sell 27 = .ok (.iconst 0, 1) := by decide +kernel
theorem dX10_sell_28 : decode cX10_sell 28 = .ok (.ireturn, 1) := by decide +kernel
theorem dX10_sell_29 : decode cX10_sell 29 = .ok (.aload_n 0, 1) := by decide +kernel
theorem dX10_sell_30 : decode cX10_sell 30 = .ok (.iload_n 1, 1) := by decide +kernel
theorem dX10_sell_31 : decode cX10_sell 31 = .ok (.aload_n 0, 1) := by decide +kernel
theorem dX10_sell_32 : decode cX10_sell 32 = .ok (.getfield 113, 3) := by decide +kernel
theorem dX10_sell_35 : decode cX10_sell 35 = .ok (.invokevirtual 163, 3) := by decide +kernel
theorem dX10_sell_38 : decode cX10_sell 38 = .ok (.istore_n 3, 1) := by decide +kernel
theorem dX10_sell_39 : decode cX10_sell 39 = .ok (.aload_n 0, 1) := by decide +kernel
theorem dX10_sell_40 : decode cX10_sell 40 = .ok (.iload_n 1, 1) := by decide +kernel
theorem dX10_sell_41 : decode cX10_sell 41 = .ok (.iload_n 2, 1) := by decide +kernel
theorem dX10_sell_42 : decode cX10_sell 42 = .ok (.invokevirtual 156, 3) := by decide +kernel
theorem dX10_sell_45 : decode cX10_sell 45 = .ok (.iload_n 3, 1) := by decide +kernel
theorem dX10_sell_46 : decode cX10_sell 46 = .ok (.ireturn, 1) := by decide +kernel
theorem dX10_plates_0 : decode cX10_plates 0 = .ok (.aload_n 0, 1) := by decide +kernel
theorem dX10_plates_1 : decode cX10_plates 1 = .ok (.iconst 0, 1) := by decide +kernel
theorem dX10_plates_2 : decode cX10_plates 2 = .ok (.putfield 100, 3) := by decide +kernel
theorem dX10_plates_5 : decode cX10_plates 5 = .ok (.aload_n 0, 1) := by decide +kernel
theorem dX10_plates_6 : decode cX10_plates 6 = .ok (.getfield 107, 3) := by decide +kernel
theorem dX10_plates_9 : decode cX10_plates 9 = .ok (.ireturn, 1) := by decide +kernel
theorem dX10_isAhead_0 : decode cX10_isAhead 0 = .ok (.iconst 1, 1) := by decide +kernel
theorem dX10_isAhead_1 : decode cX10_isAhead 1 = .ok (.istore_n 3, 1) := by decide +kernel
theorem dX10_isAhead_2 : decode cX10_isAhead 2 = .ok (.iload_n 3, 1) := by decide +kernel
theorem dX10_isAhead_3 : decode cX10_isAhead 3 = .ok (.aload_n 0, 1) := by decide +kernel
theorem dX10_isAhead_4 : decode cX10_isAhead 4 = .ok (.getfield 30, 3) := by decide +kernel
theorem dX10_isAhead_7 : decode cX10_isAhead 7 = .ok (.iload_n 1, 1) := by decide +kernel
theorem dX10_isAhead_8 : decode cX10_isAhead 8 = .ok (.iaload, 1) := by decide +kernel
theorem dX10_isAhead_9 : decode cX10_isAhead 9 = .ok (.if_icmp .gt 34, 3) := by decide +kernel
theorem dX10_isAhead_12 : decode cX10_isAhead 12 = .ok (.iload_n 3, 1) := by decide +kernel
theorem dX10_isAhead_13 : decode cX10_isAhead 13 = .ok (.aload_n 0, 1) := by decide +kernel
theorem dX10_isAhead_14 : decode cX10_isAhead 14 = .ok (.getfield 30, 3) := by decide +kernel
theorem dX10_isAhead_17 : decode cX10_isAhead 17 = .ok (.iload_n 2, 1) := by decide +kernel
theorem dX10_isAhead_18 : decode cX10_isAhead 18 = .ok (.iaload, 1) := by decide +kernel
theorem dX10_isAhead_19 : decode cX10_isAhead 19 = .ok (.if_icmp .gt 24, 3) := by decide +kernel
theorem dX10_isAhead_22 : decode cX10_isAhead 22 = .ok (.aload_n 0, 1) := by decide +kernel
theorem dX10_isAhead_23 : decode cX10_isAhead 23 = .ok (.iload_n 1, 1) := by decide +kernel
theorem dX10_isAhead_24 : decode cX10_isAhead 24 = .ok (.iload_n 3, 1) := by decide +kernel
theorem dX10_isAhead_25 : decode cX10_isAhead 25 = .ok (.invokevirtual 166, 3) := by decide +kernel
theorem dX10_isAhead_28 : decode cX10_isAhead 28 = .ok (.aload_n 0, 1) := by decide +kernel
theorem dX10_isAhead_29 : decode cX10_isAhead 29 = .ok (.iload_n 2, 1) := by decide +kernel
theorem dX10_isAhead_30 : decode cX10_isAhead 30 = .ok (.iload_n 3, 1) := by decide +kernel
theorem dX10_isAhead_31 : decode cX10_isAhead 31 = .ok (.invokevirtual 166, 3) := by decide +kernel
theorem dX10_isAhead_34 : decode cX10_isAhead 34 = .ok (.if_icmp .ne 9, 3) := by decide +kernel
theorem dX10_isAhead_37 : decode cX10_isAhead 37 = .ok (.iinc 3 1, 3) := by decide +kernel
theorem dX10_isAhead_40 : decode cX10_isAhead 40 = .ok (.goto (-38), 3) := by decide +kernel
