theorem dX10_isAhead_43 : decode cX10_isAhead 43 = .ok (.iload_n 3, 1) := by decide +kernel
theorem dX10_isAhead_44 : decode cX10_isAhead 44 = .ok (.aload_n 0, 1) := by decide +kernel
theorem dX10_isAhead_45 : decode cX10_isAhead 45 = .ok (.getfield 30, 3) := by decide +kernel
theorem dX10_isAhead_48 : decode cX10_isAhead 48 = .ok (.iload_n 1, 1) := by decide +kernel
theorem dX10_isAhead_49 : decode cX10_isAhead 49 = .ok (.iaload, 1) := by decide +kernel
theorem dX10_isAhead_50 : decode cX10_isAhead 50 = .ok (.if_icmp .gt 13, 3) := by decide +kernel
theorem dX10_isAhead_53 : decode cX10_isAhead 53 = .ok (.iload_n 3, 1) := by decide +kernel
theorem dX10_isAhead_54 : decode cX10_isAhead 54 = .ok (.aload_n 0, 1) := by decide +kernel
theorem dX10_isAhead_55 : decode cX10_isAhead 55 = .ok (.getfield 30, 3) := by decide +kernel
theorem dX10_isAhead_58 : decode cX10_isAhead 58 = .ok (.iload_n 2, 1) := by decide +kernel
theorem dX10_isAhead_59 : decode cX10_isAhead 59 = .ok (.iaload, 1) := by decide +kernel
theorem dX10_isAhead_60 : decode cX10_isAhead 60 = .ok (.if_icmp .le 7, 3) := by decide +kernel
theorem dX10_isAhead_63 : decode cX10_isAhead 63 = .ok (.iconst 1, 1) := by decide +kernel
theorem dX10_isAhead_64 : decode cX10_isAhead 64 = .ok (.goto 4, 3) := by decide +kernel
theorem dX10_isAhead_67 : decode cX10_isAhead 67 = .ok (.iconst 0, 1) := by decide +kernel
theorem dX10_isAhead_68 : decode cX10_isAhead 68 = .ok (.istore 4, 2) := by decide +kernel
theorem dX10_isAhead_70 : decode cX10_isAhead 70 = .ok (.iload 4, 2) := by decide +kernel
theorem dX10_isAhead_72 : decode cX10_isAhead 72 = .ok (.ifCond .eq 26, 3) := by decide +kernel
theorem dX10_isAhead_75 : decode cX10_isAhead 75 = .ok (.aload_n 0, 1) := by decide +kernel
theorem dX10_isAhead_76 : decode cX10_isAhead 76 = .ok (.getfield 30, 3) := by decide +kernel
theorem dX10_isAhead_79 : decode cX10_isAhead 79 = .ok (.iload_n 1, 1) := by decide +kernel
theorem dX10_isAhead_80 : decode cX10_isAhead 80 = .ok (.iaload, 1) := by decide +kernel
theorem dX10_isAhead_81 : decode cX10_isAhead 81 = .ok (.aload_n 0, 1) := by decide +kernel
theorem dX10_isAhead_82 : decode cX10_isAhead 82 = .ok (.getfield 30, 3) := by decide +kernel
theorem dX10_isAhead_85 : decode cX10_isAhead 85 = .ok (.iload_n 2, 1) := by decide +kernel
theorem dX10_isAhead_86 : decode cX10_isAhead 86 = .ok (.iaload, 1) := by decide +kernel
theorem dX10_isAhead_87 : decode cX10_isAhead 87 = .ok (.if_icmp .ge 7, 3) := by decide +kernel
theorem dX10_isAhead_90 : decode cX10_isAhead 90 = .ok (.iconst 1, 1) := by decide +kernel
theorem dX10_isAhead_91 : decode cX10_isAhead 91 = .ok (.goto 27, 3) := by decide +kernel
theorem dX10_isAhead_94 : decode cX10_isAhead 94 = .ok (.iconst 0, 1) := by decide +kernel
theorem dX10_isAhead_95 : decode cX10_isAhead 95 = .ok (.goto 23, 3) := by decide +kernel
theorem dX10_isAhead_98 : decode cX10_isAhead 98 = .ok (.aload_n 0, 1) := by decide +kernel
theorem dX10_isAhead_99 : decode cX10_isAhead 99 = .ok (.iload_n 1, 1) := by decide +kernel
theorem dX10_isAhead_100 : decode cX10_isAhead 100 = .ok (.iload_n 3, 1) := by decide +kernel
theorem dX10_isAhead_101 : decode cX10_isAhead 101 = .ok (.invokevirtual 166, 3) := by decide +kernel
theorem dX10_isAhead_104 : decode cX10_isAhead 104 = .ok (.aload_n 0, 1) := by decide +kernel
theorem dX10_isAhead_105 : decode cX10_isAhead 105 = .ok (.iload_n 2, 1) := by decide +kernel
theorem dX10_isAhead_106 : decode cX10_isAhead 106 = .ok (.iload_n 3, 1) := by decide +kernel
theorem dX10_isAhead_107 : decode cX10_isAhead 107 = .ok (.invokevirtual 166, 3) := by decide +kernel
theorem dX10_isAhead_110 : decode cX10_isAhead 110 = .ok (.if_icmp .ge 7, 3) := by decide +kernel
theorem dX10_isAhead_113 : decode cX10_isAhead 113 = .ok (.iconst 1, 1) := by decide +kernel
theorem dX10_isAhead_114 : decode cX10_isAhead 114 = .ok (.goto 4, 3) := by decide +kernel
theorem dX10_isAhead_117 : decode cX10_isAhead 117 = .ok (.iconst 0, 1) := by decide +kernel
theorem dX10_isAhead_118 : decode cX10_isAhead 118 = .ok (.ireturn, 1) := by decide +kernel
theorem dX10_signAt_0 : decode cX10_signAt 0 = .ok (.aload_n 0, 1) := by decide +kernel
theorem dX10_signAt_1 : decode cX10_signAt 1 = .ok (.getfield 33, 3) := by decide +kernel
theorem dX10_signAt_4 : decode cX10_signAt 4 = .ok (.bipush 6, 2) := by decide +kernel
theorem dX10_signAt_6 : decode cX10_signAt 6 = .ok (.iload_n 1, 1) := by decide +kernel
theorem dX10_signAt_7 : decode cX10_signAt 7 = .ok (.imul, 1) := by decide +kernel
theorem dX10_signAt_8 : decode cX10_signAt 8 = .ok (.aload_n 0, 1) := by decide +kernel
theorem dX10_signAt_9 : decode cX10_signAt 9 = .ok (.getfield 30, 3) := by decide +kernel
theorem dX10_signAt_12 : decode cX10_signAt 12 = .ok (.iload_n 1, 1) := by decide +kernel
theorem dX10_signAt_13 : decode cX10_signAt 13 = .ok (.iaload, 1) := by decide +kernel
theorem dX10_signAt_14 : decode cX10_signAt 14 = .ok (.iadd, 1) := by decide +kernel
theorem dX10_signAt_15 : decode cX10_signAt 15 = .ok (.iload_n 2, 1) := by decide +kernel
theorem dX10_signAt_16 : decode cX10_signAt 16 = .ok (.isub, 1) := by decide +kernel
theorem dX10_signAt_17 : decode cX10_signAt 17 = .ok (.iaload, 1) := by decide +kernel
theorem dX10_signAt_18 : decode cX10_signAt 18 = .ok (.ireturn, 1) := by decide +kernel
theorem dX10_plateAt_0 : decode cX10_plateAt 0 = .ok (.iconst (-1), 1) := by decide +kernel
theorem dX10_plateAt_1 : decode cX10_plateAt 1 = .ok (.istore_n 2, 1) := by decide +kernel
theorem dX10_plateAt_2 : decode cX10_plateAt 2 = .ok (.iconst 0, 1) := by decide +kernel
theorem dX10_plateAt_3 : decode cX10_plateAt 3 = .ok (.istore_n 3, 1) := by decide +kernel
theorem dX10_plateAt_4 : decode cX10_plateAt 4 = .ok (.iload_n 3, 1) := by decide +kernel
theorem dX10_plateAt_5 : decode cX10_plateAt 5 = .ok (.aload_n 0, 1) := by decide +kernel
theorem dX10_plateAt_6 : decode cX10_plateAt 6 = .ok (.getfield 107, 3) := by decide +kernel
theorem dX10_plateAt_9 : decode cX10_plateAt 9 = .ok (.if_icmp .ge 62, 3) := by decide +kernel
theorem dX10_plateAt_12 : decode cX10_plateAt 12 = .ok (.iconst 0, 1) := by decide +kernel
theorem dX10_plateAt_13 : decode cX10_plateAt 13 = .ok (.istore 4, 2) := by decide +kernel
theorem dX10_plateAt_15 : decode cX10_plateAt 15 = .ok (.iconst 0, 1) := by decide +kernel
theorem dX10_plateAt_16 : decode cX10_plateAt 16 = .ok (.istore 5, 2) := by decide +kernel
theorem dX10_plateAt_18 : decode cX10_plateAt 18 = .ok (.iload 5, 2) := by decide +kernel
theorem dX10_plateAt_20 : decode cX10_plateAt 20 = .ok (.aload_n 0, 1) := by decide +kernel
theorem dX10_plateAt_21 : decode cX10_plateAt 21 = .ok (.getfield 107, 3) := by decide +kernel
theorem dX10_plateAt_24 : decode cX10_plateAt 24 = .ok (.if_icmp .ge 29, 3) := by decide +kernel
theorem dX10_plateAt_27 : decode cX10_plateAt 27 = .ok (.iload 4, 2) := by decide +kernel
theorem dX10_plateAt_29 : decode cX10_plateAt 29 = .ok (.aload_n 0, 1) := by decide +kernel
theorem dX10_plateAt_30 : decode cX10_plateAt 30 = .ok (.iload 5, 2) := by decide +kernel
theorem dX10_plateAt_32 : decode cX10_plateAt 32 = .ok (.iload_n 3, 1) := by decide +kernel
theorem dX10_plateAt_33 : decode cX10_plateAt 33 = .ok (.invokevirtual 169, 3) := by decide +kernel
theorem dX10_plateAt_36 : decode cX10_plateAt 36 = .ok (.ifCond .eq 7, 3) := by decide +kernel
theorem dX10_plateAt_39 : decode cX10_plateAt 39 = .ok (.iconst 1, 1) := by decide +kernel
theorem dX10_plateAt_40 : decode cX10_plateAt 40 = .ok (.goto 4, 3) := by decide +kernel
theorem dX10_plateAt_43 : decode cX10_plateAt 43 = .ok (.iconst 0, 1) := by decide +kernel
theorem dX10_plateAt_44 : decode cX10_plateAt 44 = .ok (.iadd, 1) := by decide +kernel
theorem dX10_plateAt_45 : decode cX10_plateAt 45 = .ok (.istore 4, 2) := by decide +kernel
theorem dX10_plateAt_47 : decode cX10_plateAt 47 = .ok (.iinc 5 1, 3) := by decide +kernel
theorem dX10_plateAt_50 : decode cX10_plateAt 50 = .ok (.goto (-32), 3) := by decide +kernel
theorem dX10_plateAt_53 : decode cX10_plateAt 53 = .ok (.iload 4, 2) := by decide +kernel
theorem dX10_plateAt_55 : decode cX10_plateAt 55 = .ok (.iload_n 1, 1) := by decide +kernel
theorem dX10_plateAt_56 : decode cX10_plateAt 56 = .ok (.if_icmp .ne 7, 3) := by decide +kernel
theorem dX10_plateAt_59 : decode cX10_plateAt 59 = .ok (.iload_n 3, 1) := by decide +kernel
theorem dX10_plateAt_60 : decode cX10_plateAt 60 = .ok (.goto 4, 3) := by decide +kernel
theorem dX10_plateAt_63 : decode cX10_plateAt 63 = .ok (.iload_n 2, 1) := by decide +kernel
theorem dX10_plateAt_64 : decode cX10_plateAt 64 = .ok (.istore_n 2, 1) := by decide +kernel
theorem dX10_plateAt_65 : decode cX10_plateAt 65 = .ok (.iinc 3 1, 3) := by decide +kernel
theorem dX10_plateAt_68 : decode cX10_plateAt 68 = .ok (.goto (-64), 3) := by decide +kernel
theorem dX10_plateAt_71 : decode cX10_plateAt 71 = .ok (.aload_n 0, 1) := by decide +kernel
theorem dX10_plateAt_72 : decode cX10_plateAt 72 = .ok (.iload_n 2, 1) := by decide +kernel
theorem dX10_plateAt_73 : decode cX10_plateAt 73 = .ok (.iconst (-1), 1) := by decide +kernel
theorem dX10_plateAt_74 : decode cX10_plateAt 74 = .ok (.if_icmp .ne 7, 3) := by decide +kernel
theorem dX10_plateAt_77 : decode cX10_plateAt 77 = .ok (.iconst 1, 1) := by decide +kernel
theorem dX10_plateAt_78 : decode cX10_plateAt 78 = .ok (.goto 4, 3) := by decide +kernel
theorem dX10_plateAt_81 : decode cX10_plateAt 81 = .ok (.iconst 0, 1) := by decide +kernel
theorem dX10_plateAt_82 : decode cX10_plateAt 82 = .ok (.invokevirtual 117, 3) := by decide +kernel
theorem dX10_plateAt_85 : decode cX10_plateAt 85 = .ok (.ifCond .eq 7, 3) := by decide +kernel
theorem dX10_plateAt_88 : decode cX10_plateAt 88 = .ok (.iload_n 2, 1) := by decide +kernel
theorem dX10_plateAt_89 : decode cX10_plateAt 89 = .ok (.goto 4, 3) := by decide +kernel
theorem dX10_plateAt_92 : decode cX10_plateAt 92 = .ok (.iconst 0, 1) := by decide +kernel
theorem dX10_plateAt_93 : decode cX10_plateAt 93 = .ok (.ireturn, 1) := by decide +kernel
theorem dX10_holder_0 : decode cX10_holder 0 = .ok (.aload_n 0, 1) := by decide +kernel
theorem dX10_holder_1 : decode cX10_holder 1 = .ok (.aload_n 0, 1) := by decide +kernel
theorem dX10_holder_2 : decode cX10_holder 2 = .ok (.iload_n 1, 1) := by decide +kernel
theorem dX10_holder_3 : decode cX10_holder 3 = .ok (.invokevirtual 160, 3) := by decide +kernel
theorem dX10_holder_6 : decode cX10_holder 6 = .ok (.ifCond .ne 7, 3) := by decide +kernel
theorem dX10_holder_9 : decode cX10_holder 9 = .ok (.iconst 1, 1) := by decide +kernel
theorem dX10_holder_10 : decode cX10_holder 10 = .ok (.goto 20, 3) := by decide +kernel
theorem dX10_holder_13 : decode cX10_holder 13 = .ok (.iload_n 2, 1) := by decide +kernel
theorem dX10_holder_14 : decode cX10_holder 14 = .ok (.iconst 0, 1) := by decide +kernel
theorem dX10_holder_15 : decode cX10_holder 15 = .ok (.aload_n 0, 1) := by decide +kernel
theorem dX10_holder_16 : decode cX10_holder 16 = .ok (.getfield 113, 3) := by decide +kernel
theorem dX10_holder_19 : decode cX10_holder 19 = .ok (.invokestatic 103, 3) := by decide +kernel
theorem dX10_holder_22 : decode cX10_holder 22 = .ok (.ifCond .eq 7, 3) := by decide +kernel
theorem dX10_holder_25 : decode cX10_holder 25 = .ok (.iconst 0, 1) := by decide +kernel
theorem dX10_holder_26 : decode cX10_holder 26 = .ok (.goto 4, 3) := by decide +kernel
theorem dX10_holder_29 : decode cX10_holder 29 = .ok (.iconst 2, 1) := by decide +kernel
theorem dX10_holder_30 : decode cX10_holder 30 = .ok (.invokevirtual 117, 3) := by decide +kernel
theorem dX10_holder_33 : decode cX10_holder 33 = .ok (.ifCond .eq 12, 3) := by decide +kernel
theorem dX10_holder_36 : decode cX10_holder 36 = .ok (.aload_n 0, 1) := by decide +kernel
theorem dX10_holder_37 : decode cX10_holder 37 = .ok (.iload_n 1, 1) := by decide +kernel
theorem dX10_holder_38 : decode cX10_holder 38 = .ok (.iload_n 2, 1) := by decide +kernel
theorem dX10_holder_39 : decode cX10_holder 39 = .ok (.invokevirtual 163, 3) := by decide +kernel
theorem dX10_holder_42 : decode cX10_holder 42 = .ok (.goto 4, 3) := by decide +kernel
theorem dX10_holder_45 : decode cX10_holder 45 = .ok (.iconst 0, 1) := by decide +kernel
theorem dX10_holder_46 : decode cX10_holder 46 = .ok (.ireturn, 1) := by decide +kernel
theorem dX10_read_0 : decode cX10_read 0 = .ok (.iload_n 1, 1) := by decide +kernel
theorem dX10_read_1 : decode cX10_read 1 = .ok (.invokestatic 121, 3) := by decide +kernel
theorem dX10_read_4 : decode cX10_read 4 = .ok (.istore_n 3, 1) := by decide +kernel
theorem dX10_read_5 : decode cX10_read 5 = .ok (.aload_n 0, 1) := by decide +kernel
theorem dX10_read_6 : decode cX10_read 6 = .ok (.iload_n 3, 1) := by decide +kernel
theorem dX10_read_7 : decode cX10_read 7 = .ok (.ifCond .ne 7, 3) := by decide +kernel
theorem dX10_read_10 : decode cX10_read 10 = .ok (.iconst 1, 1) := by decide +kernel
theorem dX10_read_11 : decode cX10_read 11 = .ok (.goto 40, 3) := by decide +kernel
theorem dX10_read_14 : decode cX10_read 14 = .ok (.iload_n 2, 1) := by decide +kernel
theorem dX10_read_15 : decode cX10_read 15 = .ok (.iconst 0, 1) := by decide +kernel
theorem dX10_read_16 : decode cX10_read 16 = .ok (.aload_n 0, 1) := by decide +kernel
theorem dX10_read_17 : decode cX10_read 17 = .ok (.getfield 113, 3) := by decide +kernel
theorem dX10_read_20 : decode cX10_read 20 = .ok (.invokestatic 103, 3) := by decide +kernel
theorem dX10_read_23 : decode cX10_read 23 = .ok (.ifCond .ne 7, 3) := by decide +kernel
theorem dX10_read_26 : decode cX10_read 26 = .ok (.iconst 2, 1) := by decide +kernel
theorem dX10_read_27 : decode cX10_read 27 = .ok (.goto 24, 3) := by decide +kernel
theorem dX10_read_30 : decode cX10_read 30 = .ok (.aload_n 0, 1) := by decide +kernel
theorem dX10_read_31 : decode cX10_read 31 = .ok (.getfield 124, 3) := by decide +kernel
theorem dX10_read_34 : decode cX10_read 34 = .ok (.ifCond .eq 12, 3) := by decide +kernel
theorem dX10_read_37 : decode cX10_read 37 = .ok (.aload_n 0, 1) := by decide +kernel
theorem dX10_read_38 : decode cX10_read 38 = .ok (.getfield 110, 3) := by decide +kernel
theorem dX10_read_41 : decode cX10_read 41 = .ok (.bipush 60, 2) := by decide +kernel
theorem dX10_read_43 : decode cX10_read 43 = .ok (.if_icmp .ne 7, 3) := by decide +kernel
theorem dX10_read_46 : decode cX10_read 46 = .ok (.iconst 3, 1) := by decide +kernel
theorem dX10_read_47 : decode cX10_read 47 = .ok (.goto 4, 3) := by decide +kernel
theorem dX10_read_50 : decode cX10_read 50 = .ok (.iconst 0, 1) := by decide +kernel
theorem dX10_read_51 : decode cX10_read 51 = .ok (.invokevirtual 117, 3) := by decide +kernel
theorem dX10_read_54 : decode cX10_read 54 = .ok (.ifCond .ne 5, 3) := by decide +kernel
theorem dX10_read_57 : decode cX10_read 57 = .ok (.iconst 0, 1) := by decide +kernel
theorem dX10_read_58 : decode cX10_read 58 = .ok (.ireturn, 1) := by decide +kernel
theorem dX10_read_59 : decode cX10_read 59 = .ok (.aload_n 0, 1) := by decide +kernel
theorem dX10_read_60 : decode cX10_read 60 = .ok (.getfield 48, 3) := by decide +kernel
theorem dX10_read_63 : decode cX10_read 63 = .ok (.aload_n 0, 1) := by decide +kernel
theorem dX10_read_64 : decode cX10_read 64 = .ok (.getfield 110, 3) := by decide +kernel
theorem dX10_read_67 : decode cX10_read 67 = .ok (.iload_n 1, 1) := by decide +kernel
theorem dX10_read_68 : decode cX10_read 68 = .ok (.iastore, 1) := by decide +kernel
theorem dX10_read_69 : decode cX10_read 69 = .ok (.aload_n 0, 1) := by decide +kernel
theorem dX10_read_70 : decode cX10_read 70 = .ok (.getfield 51, 3) := by decide +kernel
theorem dX10_read_73 : decode cX10_read 73 = .ok (.aload_n 0, 1) := by decide +kernel
theorem dX10_read_74 : decode cX10_read 74 = .ok (.getfield 110, 3) := by decide +kernel
theorem dX10_read_77 : decode cX10_read 77 = .ok (.iload_n 2, 1) := by decide +kernel
theorem dX10_read_78 : decode cX10_read 78 = .ok (.iastore, 1) := by decide +kernel
theorem dX10_read_79 : decode cX10_read 79 = .ok (.aload_n 0, 1) := by decide +kernel
theorem dX10_read_80 : decode cX10_read 80 = .ok (.getfield 54, 3) := by decide +kernel
theorem dX10_read_83 : decode cX10_read 83 = .ok (.aload_n 0, 1) := by decide +kernel
theorem dX10_read_84 : decode cX10_read 84 = .ok (.getfield 110, 3) := by decide +kernel
theorem dX10_read_87 : decode cX10_read 87 = .ok (.aload_n 0, 1) := by decide +kernel
theorem dX10_read_88 : decode cX10_read 88 = .ok (.getfield 124, 3) := by decide +kernel
theorem dX10_read_91 : decode cX10_read 91 = .ok (.iastore, 1) := by decide +kernel
theorem dX10_read_92 : decode cX10_read 92 = .ok (.iconst 0, 1) := by decide +kernel
theorem dX10_read_93 : decode cX10_read 93 = .ok (.istore 4, 2) := by decide +kernel
theorem dX10_read_95 : decode cX10_read 95 = .ok (.iload 4, 2) := by decide +kernel
theorem dX10_read_97 : decode cX10_read 97 = .ok (.aload_n 0, 1) := by decide +kernel
theorem dX10_read_98 : decode cX10_read 98 = .ok (.getfield 124, 3) := by decide +kernel
theorem dX10_read_101 : decode cX10_read 101 = .ok (.if_icmp .ge 31, 3) := by decide +kernel
theorem dX10_read_104 : decode cX10_read 104 = .ok (.aload_n 0, 1) := by decide +kernel
theorem dX10_read_105 : decode cX10_read 105 = .ok (.getfield 57, 3) := by decide +kernel
theorem dX10_read_108 : decode cX10_read 108 = .ok (.bipush 6, 2) := by decide +kernel
theorem dX10_read_110 : decode cX10_read 110 = .ok (.aload_n 0, 1) := by decide +kernel
theorem dX10_read_111 : decode cX10_read 111 = .ok (.getfield 110, 3) := by decide +kernel
theorem dX10_read_114 : decode cX10_read 114 = .ok (.imul, 1) := by decide +kernel
theorem dX10_read_115 : decode cX10_read 115 = .ok (.iload 4, 2) := by decide +kernel
theorem dX10_read_117 : decode cX10_read 117 = .ok (.iadd, 1) := by decide +kernel
theorem dX10_read_118 : decode cX10_read 118 = .ok (.aload_n 0, 1) := by decide +kernel
theorem dX10_read_119 : decode cX10_read 119 = .ok (.getfield 23, 3) := by decide +kernel
theorem dX10_read_122 : decode cX10_read 122 = .ok (.iload 4, 2) := by decide +kernel
theorem dX10_read_124 : decode cX10_read 124 = .ok (.iaload, 1) := by decide +kernel
theorem dX10_read_125 : decode cX10_read 125 = .ok (.iastore, 1) := by decide +kernel
theorem dX10_read_126 : decode cX10_read 126 = .ok (.iinc 4 1, 3) := by decide +kernel
theorem dX10_read_129 : decode cX10_read 129 = .ok (.goto (-34), 3) := by decide +kernel
theorem dX10_read_132 : decode cX10_read 132 = .ok (.aload_n 0, 1) := by decide +kernel
theorem dX10_read_133 : decode cX10_read 133 = .ok (.dup, 1) := by decide +kernel
theorem dX10_read_134 : decode cX10_read 134 = .ok (.getfield 110, 3) := by decide +kernel
theorem dX10_read_137 : decode cX10_read 137 = .ok (.iconst 1, 1) := by decide +kernel
theorem dX10_read_138 : decode cX10_read 138 = .ok (.iadd, 1) := by decide +kernel
theorem dX10_read_139 : decode cX10_read 139 = .ok (.putfield 110, 3) := by decide +kernel
theorem dX10_read_142 : decode cX10_read 142 = .ok (.aload_n 0, 1) := by decide +kernel
theorem dX10_read_143 : decode cX10_read 143 = .ok (.getfield 110, 3) := by decide +kernel
theorem dX10_read_146 : decode cX10_read 146 = .ok (.iconst 1, 1) := by decide +kernel
theorem dX10_read_147 : decode cX10_read 147 = .ok (.isub, 1) := by decide +kernel
theorem dX10_read_148 : decode cX10_read 148 = .ok (.ireturn, 1) := by decide +kernel
theorem dX10_costOf_0 : decode cX10_costOf 0 = .ok (.aload_n 0, 1) := by decide +kernel
theorem dX10_costOf_1 : decode cX10_costOf 1 = .ok (.getfield 54, 3) := by decide +kernel
theorem dX10_costOf_4 : decode cX10_costOf 4 = .ok (.iload_n 1, 1) := by decide +kernel
theorem dX10_costOf_5 : decode cX10_costOf 5 = .ok (.iaload, 1) := by decide +kernel
theorem dX10_costOf_6 : decode cX10_costOf 6 = .ok (.aload_n 0, 1) := by decide +kernel
theorem dX10_costOf_7 : decode cX10_costOf 7 = .ok (.getfield 30, 3) := by decide +kernel
theorem dX10_costOf_10 : decode cX10_costOf 10 = .ok (.iload_n 2, 1) := by decide +kernel
theorem dX10_costOf_11 : decode cX10_costOf 11 = .ok (.iaload, 1) := by decide +kernel
theorem dX10_costOf_12 : decode cX10_costOf 12 = .ok (.if_icmp .ne 7, 3) := by decide +kernel
theorem dX10_costOf_15 : decode cX10_costOf 15 = .ok (.iconst 0, 1) := by decide +kernel
theorem dX10_costOf_16 : decode cX10_costOf 16 = .ok (.goto 4, 3) := by decide +kernel
theorem dX10_costOf_19 : decode cX10_costOf 19 = .ok (.iconst (-1), 1) := by decide +kernel
theorem dX10_costOf_20 : decode cX10_costOf 20 = .ok (.istore_n 3, 1) := by decide +kernel
theorem dX10_costOf_21 : decode cX10_costOf 21 = .ok (.iconst 0, 1) := by decide +kernel
theorem dX10_costOf_22 : decode cX10_costOf 22 = .ok (.istore 4, 2) := by decide +kernel
theorem dX10_costOf_24 : decode cX10_costOf 24 = .ok (.iload 4, 2) := by decide +kernel
theorem dX10_costOf_26 : decode cX10_costOf 26 = .ok (.aload_n 0, 1) := by decide +kernel
theorem dX10_costOf_27 : decode cX10_costOf 27 = .ok (.getfield 54, 3) := by decide +kernel
theorem dX10_costOf_30 : decode cX10_costOf 30 = .ok (.iload_n 1, 1) := by decide +kernel
theorem dX10_costOf_31 : decode cX10_costOf 31 = .ok (.iaload, 1) := by decide +kernel
theorem dX10_costOf_32 : decode cX10_costOf 32 = .ok (.if_icmp .ge 102, 3) := by decide +kernel
theorem dX10_costOf_35 : decode cX10_costOf 35 = .ok (.iload_n 3, 1) := by decide +kernel
theorem dX10_costOf_36 : decode cX10_costOf 36 = .ok (.iconst (-1), 1) := by decide +kernel
theorem dX10_costOf_37 : decode cX10_costOf 37 = .ok (.if_icmp .eq 97, 3) := by decide +kernel
theorem dX10_costOf_40 : decode cX10_costOf 40 = .ok (.aload_n 0, 1) := by decide +kernel
theorem dX10_costOf_41 : decode cX10_costOf 41 = .ok (.getfield 57, 3) := by decide +kernel
theorem dX10_costOf_44 : decode cX10_costOf 44 = .ok (.bipush 6, 2) := by decide +kernel
theorem dX10_costOf_46 : decode cX10_costOf 46 = .ok (.iload_n 1, 1) := by decide +kernel
theorem dX10_costOf_47 : decode cX10_costOf 47 = .ok (.imul, 1) := by decide +kernel
theorem dX10_costOf_48 : decode cX10_costOf 48 = .ok (.iload 4, 2) := by decide +kernel
theorem dX10_costOf_50 : decode cX10_costOf 50 = .ok (.iadd, 1) := by decide +kernel
theorem dX10_costOf_51 : decode cX10_costOf 51 = .ok (.iaload, 1) := by decide +kernel
theorem dX10_costOf_52 : decode cX10_costOf 52 = .ok (.istore 5, 2) := by decide +kernel
theorem dX10_costOf_54 : decode cX10_costOf 54 = .ok (.aload_n 0, 1) := by decide +kernel
theorem dX10_costOf_55 : decode cX10_costOf 55 = .ok (.getfield 33, 3) := by decide +kernel
theorem dX10_costOf_58 : decode cX10_costOf 58 = .ok (.bipush 6, 2) := by decide +kernel
theorem dX10_costOf_60 : decode cX10_costOf 60 = .ok (.iload_n 2, 1) := by decide +kernel
theorem dX10_costOf_61 : decode cX10_costOf 61 = .ok (.imul, 1) := by decide +kernel
theorem dX10_costOf_62 : decode cX10_costOf 62 = .ok (.iload 4, 2) := by decide +kernel
theorem dX10_costOf_64 : decode cX10_costOf 64 = .ok (.iadd, 1) := by decide +kernel
theorem dX10_costOf_65 : decode cX10_costOf 65 = .ok (.iaload, 1) := by decide +kernel
theorem dX10_costOf_66 : decode cX10_costOf 66 = .ok (.istore 6, 2) := by decide +kernel
theorem dX10_costOf_68 : decode cX10_costOf 68 = .ok (.iload 5, 2) := by decide +kernel
theorem dX10_costOf_70 : decode cX10_costOf 70 = .ok (.iload 6, 2) := by decide +kernel
theorem dX10_costOf_72 : decode cX10_costOf 72 = .ok (.if_icmp .ne 7, 3) := by decide +kernel
theorem dX10_costOf_75 : decode cX10_costOf 75 = .ok (.iconst 0, 1) := by decide +kernel
theorem dX10_costOf_76 : decode cX10_costOf 76 = .ok (.goto 35, 3) := by decide +kernel
theorem dX10_costOf_79 : decode cX10_costOf 79 = .ok (.iload 5, 2) := by decide +kernel
theorem dX10_costOf_81 : decode cX10_costOf 81 = .ok (.bipush 14, 2) := by decide +kernel
theorem dX10_costOf_83 : decode cX10_costOf 83 = .ok (.if_icmp .ne 7, 3) := by decide +kernel
theorem dX10_costOf_86 : decode cX10_costOf 86 = .ok (.iconst 2, 1) := by decide +kernel
theorem dX10_costOf_87 : decode cX10_costOf 87 = .ok (.goto 24, 3) := by decide +kernel
theorem dX10_costOf_90 : decode cX10_costOf 90 = .ok (.aload_n 0, 1) := by decide +kernel
theorem dX10_costOf_91 : decode cX10_costOf 91 = .ok (.getfield 26, 3) := by decide +kernel
theorem dX10_costOf_94 : decode cX10_costOf 94 = .ok (.bipush 15, 2) := by decide +kernel
theorem dX10_costOf_96 : decode cX10_costOf 96 = .ok (.iload 5, 2) := by decide +kernel
theorem dX10_costOf_98 : decode cX10_costOf 98 = .ok (.imul, 1) := by decide +kernel
theorem dX10_costOf_99 : decode cX10_costOf 99 = .ok (.iload 6, 2) := by decide +kernel
theorem dX10_costOf_101 : decode cX10_costOf 101 = .ok (.iadd, 1) := by decide +kernel
theorem dX10_costOf_102 : decode cX10_costOf 102 = .ok (.baload, 1) := by decide +kernel
theorem dX10_costOf_103 : decode cX10_costOf 103 = .ok (.ifCond .eq 7, 3) := by decide +kernel
theorem dX10_costOf_106 : decode cX10_costOf 106 = .ok (.iconst 1, 1) := by decide +kernel
theorem dX10_costOf_107 : decode cX10_costOf 107 = .ok (.goto 4, 3) := by decide +kernel
theorem dX10_costOf_110 : decode cX10_costOf 110 = .ok (.iconst (-1), 1) := by decide +kernel
theorem dX10_costOf_111 : decode cX10_costOf 111 = .ok (.istore 7, 2) := by decide +kernel
theorem dX10_costOf_113 : decode cX10_costOf 113 = .ok (.iload 7, 2) := by decide +kernel
theorem dX10_costOf_115 : decode cX10_costOf 115 = .ok (.iconst (-1), 1) := by decide +kernel
theorem dX10_costOf_116 : decode cX10_costOf 116 = .ok (.if_icmp .ne 7, 3) := by decide +kernel
theorem dX10_costOf_119 : decode cX10_costOf 119 = .ok (.iconst (-1), 1) := by decide +kernel
theorem dX10_costOf_120 : decode cX10_costOf 120 = .ok (.goto 7, 3) := by decide +kernel
theorem dX10_costOf_123 : decode cX10_costOf 123 = .ok (.iload_n 3, 1) := by decide +kernel
theorem dX10_costOf_124 : decode cX10_costOf 124 = .ok (.iload 7, 2) := by decide +kernel
theorem dX10_costOf_126 : decode cX10_costOf 126 = .ok (.iadd, 1) := by decide +kernel
theorem dX10_costOf_127 : decode cX10_costOf 127 = .ok (.istore_n 3, 1) := by decide +kernel
theorem dX10_costOf_128 : decode cX10_costOf 128 = .ok (.iinc 4 1, 3) := by decide +kernel
theorem dX10_costOf_131 : decode cX10_costOf 131 = .ok (.goto (-107), 3) := by decide +kernel
theorem dX10_costOf_134 : decode cX10_costOf 134 = .ok (.iload_n 3, 1) := by decide +kernel
theorem dX10_costOf_135 : decode cX10_costOf 135 = .ok (.ireturn, 1) := by decide +kernel
theorem dX10_plateFor_0 : decode cX10_plateFor 0 = .ok (.iconst (-1), 1) := by decide +kernel
theorem dX10_plateFor_1 : decode cX10_plateFor 1 = .ok (.istore_n 2, 1) := by decide +kernel
theorem dX10_plateFor_2 : decode cX10_plateFor 2 = .ok (.iconst (-1), 1) := by decide +kernel
theorem dX10_plateFor_3 : decode cX10_plateFor 3 = .ok (.istore_n 3, 1) := by decide +kernel
theorem dX10_plateFor_4 : decode cX10_plateFor 4 = .ok (.iconst 0, 1) := by decide +kernel
theorem dX10_plateFor_5 : decode cX10_plateFor 5 = .ok (.istore 4, 2) := by decide +kernel
theorem dX10_plateFor_7 : decode cX10_plateFor 7 = .ok (.iload 4, 2) := by decide +kernel
theorem dX10_plateFor_9 : decode cX10_plateFor 9 = .ok (.aload_n 0, 1) := by decide +kernel
theorem dX10_plateFor_10 : decode cX10_plateFor 10 = .ok (.getfield 107, 3) := by decide +kernel
theorem dX10_plateFor_13 : decode cX10_plateFor 13 = .ok (.if_icmp .ge 66, 3) := by decide +kernel
theorem dX10_plateFor_16 : decode cX10_plateFor 16 = .ok (.aload_n 0, 1) := by decide +kernel
theorem dX10_plateFor_17 : decode cX10_plateFor 17 = .ok (.getfield 60, 3) := by decide +kernel
theorem dX10_plateFor_20 : decode cX10_plateFor 20 = .ok (.iload_n 1, 1) := by decide +kernel
theorem dX10_plateFor_21 : decode cX10_plateFor 21 = .ok (.baload, 1) := by decide +kernel
theorem dX10_plateFor_22 : decode cX10_plateFor 22 = .ok (.ifCond .ne 57, 3) := by decide +kernel
theorem dX10_plateFor_25 : decode cX10_plateFor 25 = .ok (.aload_n 0, 1) := by decide +kernel
theorem dX10_plateFor_26 : decode cX10_plateFor 26 = .ok (.iload_n 1, 1) := by decide +kernel
theorem dX10_plateFor_27 : decode cX10_plateFor 27 = .ok (.iload 4, 2) := by decide +kernel
theorem dX10_plateFor_29 : decode cX10_plateFor 29 = .ok (.invokevirtual 173, 3) := by decide +kernel
theorem dX10_plateFor_32 : decode cX10_plateFor 32 = .ok (.istore 5, 2) := by decide +kernel
theorem dX10_plateFor_34 : decode cX10_plateFor 34 = .ok (.iload 5, 2) := by decide +kernel
theorem dX10_plateFor_36 : decode cX10_plateFor 36 = .ok (.iconst (-1), 1) := by decide +kernel
theorem dX10_plateFor_37 : decode cX10_plateFor 37 = .ok (.if_icmp .eq 36, 3) := by decide +kernel
theorem dX10_plateFor_40 : decode cX10_plateFor 40 = .ok (.iload_n 2, 1) := by decide +kernel
theorem dX10_plateFor_41 : decode cX10_plateFor 41 = .ok (.iconst (-1), 1) := by decide +kernel
theorem dX10_plateFor_42 : decode cX10_plateFor 42 = .ok (.if_icmp .eq 25, 3) := by decide +kernel
theorem dX10_plateFor_45 : decode cX10_plateFor 45 = .ok (.iload 5, 2) := by decide +kernel
theorem dX10_plateFor_47 : decode cX10_plateFor 47 = .ok (.iload_n 3, 1) := by decide +kernel
theorem dX10_plateFor_48 : decode cX10_plateFor 48 = .ok (.if_icmp .lt 19, 3) := by decide +kernel
theorem dX10_plateFor_51 : decode cX10_plateFor 51 = .ok (.iload 5, 2) := by decide +kernel
theorem dX10_plateFor_53 : decode cX10_plateFor 53 = .ok (.iload_n 3, 1) := by decide +kernel
theorem dX10_plateFor_54 : decode cX10_plateFor 54 = .ok (.if_icmp .ne 19, 3) := by decide +kernel
theorem dX10_plateFor_57 : decode cX10_plateFor 57 = .ok (.aload_n 0, 1) := by decide +kernel
theorem dX10_plateFor_58 : decode cX10_plateFor 58 = .ok (.iload 4, 2) := by decide +kernel
theorem dX10_plateFor_60 : decode cX10_plateFor 60 = .ok (.iload_n 2, 1) := by decide +kernel
theorem dX10_plateFor_61 : decode cX10_plateFor 61 = .ok (.invokevirtual 169, 3) := by decide +kernel
theorem dX10_plateFor_64 : decode cX10_plateFor 64 = .ok (.ifCond .eq 9, 3) := by decide +kernel
theorem dX10_plateFor_67 : decode cX10_plateFor 67 = .ok (.iload 4, 2) := by decide +kernel
theorem dX10_plateFor_69 : decode cX10_plateFor 69 = .ok (.istore_n 2, 1) := by decide +kernel
theorem dX10_plateFor_70 : decode cX10_plateFor 70 = .ok (.iload 5, 2) := by decide +kernel
theorem dX10_plateFor_72 : decode cX10_plateFor 72 = .ok (.istore_n 3, 1) := by decide +kernel
theorem dX10_plateFor_73 : decode cX10_plateFor 73 = .ok (.iinc 4 1, 3) := by decide +kernel
theorem dX10_plateFor_76 : decode cX10_plateFor 76 = .ok (.goto (-69), 3) := by decide +kernel
theorem dX10_plateFor_79 : decode cX10_plateFor 79 = .ok (.aload_n 0, 1) := by decide +kernel
theorem dX10_plateFor_80 : decode cX10_plateFor 80 = .ok (.getfield 60, 3) := by decide +kernel
theorem dX10_plateFor_83 : decode cX10_plateFor 83 = .ok (.iload_n 1, 1) := by decide +kernel
theorem dX10_plateFor_84 : decode cX10_plateFor 84 = .ok (.baload, 1) := by decide +kernel
theorem dX10_plateFor_85 : decode cX10_plateFor 85 = .ok (.ifCond .eq 12, 3) := by decide +kernel
theorem dX10_plateFor_88 : decode cX10_plateFor 88 = .ok (.aload_n 0, 1) := by decide +kernel
theorem dX10_plateFor_89 : decode cX10_plateFor 89 = .ok (.getfield 63, 3) := by decide +kernel
theorem dX10_plateFor_92 : decode cX10_plateFor 92 = .ok (.iload_n 1, 1) := by decide +kernel
theorem dX10_plateFor_93 : decode cX10_plateFor 93 = .ok (.iaload, 1) := by decide +kernel
theorem dX10_plateFor_94 : decode cX10_plateFor 94 = .ok (.goto 4, 3) := by decide +kernel
theorem dX10_plateFor_97 : decode cX10_plateFor 97 = .ok (.iload_n 2, 1) := by decide +kernel
theorem dX10_plateFor_98 : decode cX10_plateFor 98 = .ok (.ireturn, 1) := by decide +kernel
theorem dX10_correct_0 : decode cX10_correct 0 = .ok (.aload_n 0, 1) := by decide +kernel
theorem dX10_correct_1 : decode cX10_correct 1 = .ok (.iload_n 1, 1) := by decide +kernel
theorem dX10_correct_2 : decode cX10_correct 2 = .ok (.invokevirtual 176, 3) := by decide +kernel
theorem dX10_correct_5 : decode cX10_correct 5 = .ok (.ifCond .eq 21, 3) := by decide +kernel
theorem dX10_correct_8 : decode cX10_correct 8 = .ok (.iload_n 2, 1) := by decide +kernel
theorem dX10_correct_9 : decode cX10_correct 9 = .ok (.iconst (-1), 1) := by decide +kernel
theorem dX10_correct_10 : decode cX10_correct 10 = .ok (.aload_n 0, 1) := by decide +kernel
theorem dX10_correct_11 : decode cX10_correct 11 = .ok (.getfield 107, 3) := by decide +kernel
theorem dX10_correct_14 : decode cX10_correct 14 = .ok (.iconst 1, 1) := by decide +kernel
theorem dX10_correct_15 : decode cX10_correct 15 = .ok (.isub, 1) := by decide +kernel
theorem dX10_correct_16 : decode cX10_correct 16 = .ok (.invokestatic 103, 3) := by decide +kernel
theorem dX10_correct_19 : decode cX10_correct 19 = .ok (.ifCond .eq 7, 3) := by decide +kernel
theorem dX10_correct_22 : decode cX10_correct 22 = .ok (.iconst 1, 1) := by decide +kernel
theorem dX10_correct_23 : decode cX10_correct 23 = .ok (.goto 4, 3) := by decide +kernel
theorem dX10_correct_26 : decode cX10_correct 26 = .ok (.iconst 0, 1) := by decide +kernel
theorem dX10_correct_27 : decode cX10_correct 27 = .ok (.istore_n 3, 1) := by decide +kernel
theorem dX10_correct_28 : decode cX10_correct 28 = .ok (.aload_n 0, 1) := by decide +kernel
theorem dX10_correct_29 : decode cX10_correct 29 = .ok (.iload_n 3, 1) := by decide +kernel
theorem dX10_correct_30 : decode cX10_correct 30 = .ok (.ifCond .eq 7, 3) := by decide +kernel
theorem dX10_correct_33 : decode cX10_correct 33 = .ok (.iconst 0, 1) := by decide +kernel
theorem dX10_correct_34 : decode cX10_correct 34 = .ok (.goto 4, 3) := by decide +kernel
theorem dX10_correct_37 : decode cX10_correct 37 = .ok (.iconst 1, 1) := by decide +kernel
theorem dX10_correct_38 : decode cX10_correct 38 = .ok (.invokevirtual 117, 3) := by decide +kernel
theorem dX10_correct_41 : decode cX10_correct 41 = .ok (.ifCond .ne 5, 3) := by decide +kernel
theorem dX10_correct_44 : decode cX10_correct 44 = .ok (.iconst 0, 1) := by decide +kernel
theorem dX10_correct_45 : decode cX10_correct 45 = .ok (.ireturn, 1) := by decide +kernel
theorem dX10_correct_46 : decode cX10_correct 46 = .ok (.aload_n 0, 1) := by decide +kernel
theorem dX10_correct_47 : decode cX10_correct 47 = .ok (.iload_n 1, 1) := by decide +kernel
theorem dX10_correct_48 : decode cX10_correct 48 = .ok (.invokevirtual 179, 3) := by decide +kernel
theorem dX10_correct_51 : decode cX10_correct 51 = .ok (.istore 4, 2) := by decide +kernel
theorem dX10_correct_53 : decode cX10_correct 53 = .ok (.aload_n 0, 1) := by decide +kernel
theorem dX10_correct_54 : decode cX10_correct 54 = .ok (.getfield 60, 3) := by decide +kernel
theorem dX10_correct_57 : decode cX10_correct 57 = .ok (.iload_n 1, 1) := by decide +kernel
theorem dX10_correct_58 : decode cX10_correct 58 = .ok (.iconst 1, 1) := by decide +kernel
theorem dX10_correct_59 : decode cX10_correct 59 = .ok (.bastore, 1) := by decide +kernel
theorem dX10_correct_60 : decode cX10_correct 60 = .ok (.aload_n 0, 1) := by decide +kernel
theorem dX10_correct_61 : decode cX10_correct 61 = .ok (.getfield 63, 3) := by decide +kernel
theorem dX10_correct_64 : decode cX10_correct 64 = .ok (.iload_n 1, 1) := by decide +kernel
theorem dX10_correct_65 : decode cX10_correct 65 = .ok (.iload_n 2, 1) := by decide +kernel
theorem dX10_correct_66 : decode cX10_correct 66 = .ok (.iastore, 1) := by decide +kernel
theorem dX10_correct_67 : decode cX10_correct 67 = .ok (.iload 4, 2) := by decide +kernel
theorem dX10_correct_69 : decode cX10_correct 69 = .ok (.ireturn, 1) := by decide +kernel
theorem dX10_uncorrect_0 : decode cX10_uncorrect 0 = .ok (.aload_n 0, 1) := by decide +kernel
theorem dX10_uncorrect_1 : decode cX10_uncorrect 1 = .ok (.aload_n 0, 1) := by decide +kernel
theorem dX10_uncorrect_2 : decode cX10_uncorrect 2 = .ok (.iload_n 1, 1) := by decide +kernel
theorem dX10_uncorrect_3 : decode cX10_uncorrect 3 = .ok (.invokevirtual 176, 3) := by decide +kernel
theorem dX10_uncorrect_6 : decode cX10_uncorrect 6 = .ok (.ifCond .ne 7, 3) := by decide +kernel
theorem dX10_uncorrect_9 : decode cX10_uncorrect 9 = .ok (.iconst 1, 1) := by decide +kernel
theorem dX10_uncorrect_10 : decode cX10_uncorrect 10 = .ok (.goto 17, 3) := by decide +kernel
theorem dX10_uncorrect_13 : decode cX10_uncorrect 13 = .ok (.aload_n 0, 1) := by decide +kernel
theorem dX10_uncorrect_14 : decode cX10_uncorrect 14 = .ok (.getfield 60, 3) := by decide +kernel
theorem dX10_uncorrect_17 : decode cX10_uncorrect 17 = .ok (.iload_n 1, 1) := by decide +kernel
theorem dX10_uncorrect_18 : decode cX10_uncorrect 18 = .ok (.baload, 1) := by decide +kernel
theorem dX10_uncorrect_19 : decode cX10_uncorrect 19 = .ok (.ifCond .eq 7, 3) := by decide +kernel
theorem dX10_uncorrect_22 : decode cX10_uncorrect 22 = .ok (.iconst 0, 1) := by decide +kernel
theorem dX10_uncorrect_23 : decode cX10_uncorrect 23 = .ok (.goto 4, 3) := by decide +kernel
theorem dX10_uncorrect_26 : decode cX10_uncorrect 26 = .ok (.iconst 2, 1) := by decide +kernel
theorem dX10_uncorrect_27 : decode cX10_uncorrect 27 = .ok (.invokevirtual 117, 3) := by decide +kernel
theorem dX10_uncorrect_30 : decode cX10_uncorrect 30 = .ok (.ifCond .ne 5, 3) := by decide +kernel
theorem dX10_uncorrect_33 : decode cX10_uncorrect 33 = .ok (.iconst 0, 1) := by decide +kernel
theorem dX10_uncorrect_34 : decode cX10_uncorrect 34 = .ok (.ireturn, 1) := by decide +kernel
theorem dX10_uncorrect_35 : decode cX10_uncorrect 35 = .ok (.aload_n 0, 1) := by decide +kernel
theorem dX10_uncorrect_36 : decode cX10_uncorrect 36 = .ok (.getfield 60, 3) := by decide +kernel
theorem dX10_uncorrect_39 : decode cX10_uncorrect 39 = .ok (.iload_n 1, 1) := by decide +kernel
theorem dX10_uncorrect_40 : decode cX10_uncorrect 40 = .ok (.iconst 0, 1) := by decide +kernel
theorem dX10_uncorrect_41 : decode cX10_uncorrect 41 = .ok (.bastore, 1) := by decide +kernel
theorem dX10_uncorrect_42 : decode cX10_uncorrect 42 = .ok (.aload_n 0, 1) := by decide +kernel
theorem dX10_uncorrect_43 : decode cX10_uncorrect 43 = .ok (.iload_n 1, 1) := by decide +kernel
theorem dX10_uncorrect_44 : decode cX10_uncorrect 44 = .ok (.invokevirtual 179, 3) := by decide +kernel
theorem dX10_uncorrect_47 : decode cX10_uncorrect 47 = .ok (.ireturn, 1) := by decide +kernel
theorem dX10_plateOf_0 : decode cX10_plateOf 0 = .ok (.aload_n 0, 1) := by decide +kernel
theorem dX10_plateOf_1 : decode cX10_plateOf 1 = .ok (.aload_n 0, 1) := by decide +kernel
theorem dX10_plateOf_2 : decode cX10_plateOf 2 = .ok (.iload_n 1, 1) := by decide +kernel
theorem dX10_plateOf_3 : decode cX10_plateOf 3 = .ok (.invokevirtual 176, 3) := by decide +kernel
theorem dX10_plateOf_6 : decode cX10_plateOf 6 = .ok (.ifCond .eq 7, 3) := by decide +kernel
theorem dX10_plateOf_9 : decode cX10_plateOf 9 = .ok (.iconst 0, 1) := by decide +kernel
theorem dX10_plateOf_10 : decode cX10_plateOf 10 = .ok (.goto 4, 3) := by decide +kernel
theorem dX10_plateOf_13 : decode cX10_plateOf 13 = .ok (.iconst 1, 1) := by decide +kernel
theorem dX10_plateOf_14 : decode cX10_plateOf 14 = .ok (.invokevirtual 117, 3) := by decide +kernel
theorem dX10_plateOf_17 : decode cX10_plateOf 17 = .ok (.ifCond .eq 11, 3) := by decide +kernel
theorem dX10_plateOf_20 : decode cX10_plateOf 20 = .ok (.aload_n 0, 1) := by decide +kernel
theorem dX10_plateOf_21 : decode cX10_plateOf 21 = .ok (.iload_n 1, 1) := by decide +kernel
theorem dX10_plateOf_22 : decode cX10_plateOf 22 = .ok (.invokevirtual 179, 3) := by decide +kernel
theorem dX10_plateOf_25 : decode cX10_plateOf 25 = .ok (.goto 4, 3) := by decide +kernel
theorem dX10_plateOf_28 : decode cX10_plateOf 28 = .ok (.iconst 0, 1) := by decide +kernel
theorem dX10_plateOf_29 : decode cX10_plateOf 29 = .ok (.ireturn, 1) := by decide +kernel
theorem dX10_cost_0 : decode cX10_cost 0 = .ok (.aload_n 0, 1) := by decide +kernel
theorem dX10_cost_1 : decode cX10_cost 1 = .ok (.aload_n 0, 1) := by decide +kernel
theorem dX10_cost_2 : decode cX10_cost 2 = .ok (.iload_n 1, 1) := by decide +kernel
theorem dX10_cost_3 : decode cX10_cost 3 = .ok (.invokevirtual 176, 3) := by decide +kernel
theorem dX10_cost_6 : decode cX10_cost 6 = .ok (.ifCond .eq 15, 3) := by decide +kernel
theorem dX10_cost_9 : decode cX10_cost 9 = .ok (.aload_n 0, 1) := by decide +kernel
theorem dX10_cost_10 : decode cX10_cost 10 = .ok (.iload_n 2, 1) := by decide +kernel
theorem dX10_cost_11 : decode cX10_cost 11 = .ok (.invokevirtual 160, 3) := by decide +kernel
theorem dX10_cost_14 : decode cX10_cost 14 = .ok (.ifCond .eq 7, 3) := by decide +kernel
theorem dX10_cost_17 : decode cX10_cost 17 = .ok (.iconst 0, 1) := by decide +kernel
theorem dX10_cost_18 : decode cX10_cost 18 = .ok (.goto 4, 3) := by decide +kernel
theorem dX10_cost_21 : decode cX10_cost 21 = .ok (.iconst 1, 1) := by decide +kernel
theorem dX10_cost_22 : decode cX10_cost 22 = .ok (.invokevirtual 117, 3) := by decide +kernel
theorem dX10_cost_25 : decode cX10_cost 25 = .ok (.ifCond .eq 12, 3) := by decide +kernel
theorem dX10_cost_28 : decode cX10_cost 28 = .ok (.aload_n 0, 1) := by decide +kernel
theorem dX10_cost_29 : decode cX10_cost 29 = .ok (.iload_n 1, 1) := by decide +kernel
theorem dX10_cost_30 : decode cX10_cost 30 = .ok (.iload_n 2, 1) := by decide +kernel
theorem dX10_cost_31 : decode cX10_cost 31 = .ok (.invokevirtual 173, 3) := by decide +kernel
theorem dX10_cost_34 : decode cX10_cost 34 = .ok (.goto 4, 3) := by decide +kernel
theorem dX10_cost_37 : decode cX10_cost 37 = .ok (.iconst 0, 1) := by decide +kernel
theorem dX10_cost_38 : decode cX10_cost 38 = .ok (.ireturn, 1) := by decide +kernel
theorem dX10_isBefore_0 : decode cX10_isBefore 0 = .ok (.aload_n 0, 1) := by decide +kernel
theorem dX10_isBefore_1 : decode cX10_isBefore 1 = .ok (.getfield 51, 3) := by decide +kernel
theorem dX10_isBefore_4 : decode cX10_isBefore 4 = .ok (.iload_n 1, 1) := by decide +kernel
theorem dX10_isBefore_5 : decode cX10_isBefore 5 = .ok (.iaload, 1) := by decide +kernel
theorem dX10_isBefore_6 : decode cX10_isBefore 6 = .ok (.aload_n 0, 1) := by decide +kernel
theorem dX10_isBefore_7 : decode cX10_isBefore 7 = .ok (.getfield 51, 3) := by decide +kernel
theorem dX10_isBefore_10 : decode cX10_isBefore 10 = .ok (.iload_n 2, 1) := by decide +kernel
theorem dX10_isBefore_11 : decode cX10_isBefore 11 = .ok (.iaload, 1) := by decide +kernel
theorem dX10_isBefore_12 : decode cX10_isBefore 12 = .ok (.if_icmp .lt 23, 3) := by decide +kernel
theorem dX10_isBefore_15 : decode cX10_isBefore 15 = .ok (.aload_n 0, 1) := by decide +kernel
theorem dX10_isBefore_16 : decode cX10_isBefore 16 = .ok (.getfield 51, 3) := by decide +kernel
theorem dX10_isBefore_19 : decode cX10_isBefore 19 = .ok (.iload_n 1, 1) := by decide +kernel
theorem dX10_isBefore_20 : decode cX10_isBefore 20 = .ok (.iaload, 1) := by decide +kernel
theorem dX10_isBefore_21 : decode cX10_isBefore 21 = .ok (.aload_n 0, 1) := by decide +kernel
theorem dX10_isBefore_22 : decode cX10_isBefore 22 = .ok (.getfield 51, 3) := by decide +kernel
theorem dX10_isBefore_25 : decode cX10_isBefore 25 = .ok (.iload_n 2, 1) := by decide +kernel
theorem dX10_isBefore_26 : decode cX10_isBefore 26 = .ok (.iaload, 1) := by decide +kernel
theorem dX10_isBefore_27 : decode cX10_isBefore 27 = .ok (.if_icmp .ne 12, 3) := by decide +kernel
theorem dX10_isBefore_30 : decode cX10_isBefore 30 = .ok (.iload_n 1, 1) := by decide +kernel
theorem dX10_isBefore_31 : decode cX10_isBefore 31 = .ok (.iload_n 2, 1) := by decide +kernel
theorem dX10_isBefore_32 : decode cX10_isBefore 32 = .ok (.if_icmp .ge 7, 3) := by decide +kernel
theorem dX10_isBefore_35 : decode cX10_isBefore 35 = .ok (.iconst 1, 1) := by decide +kernel
theorem dX10_isBefore_36 : decode cX10_isBefore 36 = .ok (.goto 4, 3) := by decide +kernel
theorem dX10_isBefore_39 : decode cX10_isBefore 39 = .ok (.iconst 0, 1) := by decide +kernel
theorem dX10_isBefore_40 : decode cX10_isBefore 40 = .ok (.ireturn, 1) := by decide +kernel
theorem dX10_next_0 : decode cX10_next 0 = .ok (.iconst (-1), 1) := by decide +kernel
theorem dX10_next_1 : decode cX10_next 1 = .ok (.istore_n 3, 1) := by decide +kernel
theorem dX10_next_2 : decode cX10_next 2 = .ok (.iconst 0, 1) := by decide +kernel
theorem dX10_next_3 : decode cX10_next 3 = .ok (.istore 4, 2) := by decide +kernel
theorem dX10_next_5 : decode cX10_next 5 = .ok (.iload 4, 2) := by decide +kernel
theorem dX10_next_7 : decode cX10_next 7 = .ok (.aload_n 0, 1) := by decide +kernel
theorem dX10_next_8 : decode cX10_next 8 = .ok (.getfield 110, 3) := by decide +kernel
theorem dX10_next_11 : decode cX10_next 11 = .ok (.if_icmp .ge 69, 3) := by decide +kernel
theorem dX10_next_14 : decode cX10_next 14 = .ok (.aload_n 0, 1) := by decide +kernel
theorem dX10_next_15 : decode cX10_next 15 = .ok (.getfield 66, 3) := by decide +kernel
theorem dX10_next_18 : decode cX10_next 18 = .ok (.iload 4, 2) := by decide +kernel
theorem dX10_next_20 : decode cX10_next 20 = .ok (.iaload, 1) := by decide +kernel
theorem dX10_next_21 : decode cX10_next 21 = .ok (.iload_n 1, 1) := by decide +kernel
theorem dX10_next_22 : decode cX10_next 22 = .ok (.if_icmp .ne 22, 3) := by decide +kernel
theorem dX10_next_25 : decode cX10_next 25 = .ok (.iload_n 2, 1) := by decide +kernel
theorem dX10_next_26 : decode cX10_next 26 = .ok (.iconst (-1), 1) := by decide +kernel
theorem dX10_next_27 : decode cX10_next 27 = .ok (.if_icmp .eq 13, 3) := by decide +kernel
theorem dX10_next_30 : decode cX10_next 30 = .ok (.aload_n 0, 1) := by decide +kernel
theorem dX10_next_31 : decode cX10_next 31 = .ok (.iload_n 2, 1) := by decide +kernel
theorem dX10_next_32 : decode cX10_next 32 = .ok (.iload 4, 2) := by decide +kernel
theorem dX10_next_34 : decode cX10_next 34 = .ok (.invokevirtual 183, 3) := by decide +kernel
theorem dX10_next_37 : decode cX10_next 37 = .ok (.ifCond .eq 7, 3) := by decide +kernel
theorem dX10_next_40 : decode cX10_next 40 = .ok (.iconst 1, 1) := by decide +kernel
theorem dX10_next_41 : decode cX10_next 41 = .ok (.goto 4, 3) := by decide +kernel
theorem dX10_next_44 : decode cX10_next 44 = .ok (.iconst 0, 1) := by decide +kernel
theorem dX10_next_45 : decode cX10_next 45 = .ok (.istore 5, 2) := by decide +kernel
theorem dX10_next_47 : decode cX10_next 47 = .ok (.iload 5, 2) := by decide +kernel
theorem dX10_next_49 : decode cX10_next 49 = .ok (.ifCond .eq 23, 3) := by decide +kernel
theorem dX10_next_52 : decode cX10_next 52 = .ok (.iload_n 3, 1) := by decide +kernel
theorem dX10_next_53 : decode cX10_next 53 = .ok (.iconst (-1), 1) := by decide +kernel
theorem dX10_next_54 : decode cX10_next 54 = .ok (.if_icmp .eq 13, 3) := by decide +kernel
theorem dX10_next_57 : decode cX10_next 57 = .ok (.aload_n 0, 1) := by decide +kernel
theorem dX10_next_58 : decode cX10_next 58 = .ok (.iload 4, 2) := by decide +kernel
theorem dX10_next_60 : decode cX10_next 60 = .ok (.iload_n 3, 1) := by decide +kernel
theorem dX10_next_61 : decode cX10_next 61 = .ok (.invokevirtual 183, 3) := by decide +kernel
theorem dX10_next_64 : decode cX10_next 64 = .ok (.ifCond .eq 8, 3) := by decide +kernel
theorem dX10_next_67 : decode cX10_next 67 = .ok (.iload 4, 2) := by decide +kernel
theorem dX10_next_69 : decode cX10_next 69 = .ok (.goto 4, 3) := by decide +kernel
theorem dX10_next_72 : decode cX10_next 72 = .ok (.iload_n 3, 1) := by decide +kernel
theorem dX10_next_73 : decode cX10_next 73 = .ok (.istore_n 3, 1) := by decide +kernel
theorem dX10_next_74 : decode cX10_next 74 = .ok (.iinc 4 1, 3) := by decide +kernel
theorem dX10_next_77 : decode cX10_next 77 = .ok (.goto (-72), 3) := by decide +kernel
theorem dX10_next_80 : decode cX10_next 80 = .ok (.iload_n 3, 1) := by decide +kernel
theorem dX10_next_81 : decode cX10_next 81 = .ok (.ireturn, 1) := by decide +kernel
theorem dX10_begins_0 : decode cX10_begins 0 = .ok (.iload_n 1, 1) := by decide +kernel
theorem dX10_begins_1 : decode cX10_begins 1 = .ok (.iconst (-1), 1) := by decide +kernel
theorem dX10_begins_2 : decode cX10_begins 2 = .ok (.if_icmp .ne 5, 3) := by decide +kernel
theorem dX10_begins_5 : decode cX10_begins 5 = .ok (.iconst 1, 1) := by decide +kernel
theorem dX10_begins_6 : decode cX10_begins 6 = .ok (.ireturn, 1) := by decide +kernel
theorem dX10_begins_7 : decode cX10_begins 7 = .ok (.aload_n 0, 1) := by decide +kernel
theorem dX10_begins_8 : decode cX10_begins 8 = .ok (.getfield 17, 3) := by decide +kernel
theorem dX10_begins_11 : decode cX10_begins 11 = .ok (.bipush 8, 2) := by decide +kernel
theorem dX10_begins_13 : decode cX10_begins 13 = .ok (.aload_n 0, 1) := by decide +kernel
theorem dX10_begins_14 : decode cX10_begins 14 = .ok (.getfield 48, 3) := by decide +kernel
theorem dX10_begins_17 : decode cX10_begins 17 = .ok (.iload_n 1, 1) := by decide +kernel
theorem dX10_begins_18 : decode cX10_begins 18 = .ok (.iaload, 1) := by decide +kernel
theorem dX10_begins_19 : decode cX10_begins 19 = .ok (.imul, 1) := by decide +kernel
theorem dX10_begins_20 : decode cX10_begins 20 = .ok (.aload_n 0, 1) := by decide +kernel
theorem dX10_begins_21 : decode cX10_begins 21 = .ok (.getfield 48, 3) := by decide +kernel
theorem dX10_begins_24 : decode cX10_begins 24 = .ok (.iload_n 2, 1) := by decide +kernel
theorem dX10_begins_25 : decode cX10_begins 25 = .ok (.iaload, 1) := by decide +kernel
theorem dX10_begins_26 : decode cX10_begins 26 = .ok (.iadd, 1) := by decide +kernel
theorem dX10_begins_27 : decode cX10_begins 27 = .ok (.iaload, 1) := by decide +kernel
theorem dX10_begins_28 : decode cX10_begins 28 = .ok (.istore_n 3, 1) := by decide +kernel
theorem dX10_begins_29 : decode cX10_begins 29 = .ok (.aload_n 0, 1) := by decide +kernel
theorem dX10_begins_30 : decode cX10_begins 30 = .ok (.getfield 51, 3) := by decide +kernel
theorem dX10_begins_33 : decode cX10_begins 33 = .ok (.iload_n 2, 1) := by decide +kernel
theorem dX10_begins_34 : decode cX10_begins 34 = .ok (.iaload, 1) := by decide +kernel
theorem dX10_begins_35 : decode cX10_begins 35 = .ok (.aload_n 0, 1) := by decide +kernel
theorem dX10_begins_36 : decode cX10_begins 36 = .ok (.getfield 51, 3) := by decide +kernel
theorem dX10_begins_39 : decode cX10_begins 39 = .ok (.iload_n 1, 1) := by decide +kernel
theorem dX10_begins_40 : decode cX10_begins 40 = .ok (.iaload, 1) := by decide +kernel
theorem dX10_begins_41 : decode cX10_begins 41 = .ok (.isub, 1) := by decide +kernel
theorem dX10_begins_42 : decode cX10_begins 42 = .ok (.istore 4, 2) := by decide +kernel
theorem dX10_begins_44 : decode cX10_begins 44 = .ok (.iload_n 3, 1) := by decide +kernel
theorem dX10_begins_45 : decode cX10_begins 45 = .ok (.iconst (-1), 1) := by decide +kernel
theorem dX10_begins_46 : decode cX10_begins 46 = .ok (.if_icmp .eq 24, 3) := by decide +kernel
theorem dX10_begins_49 : decode cX10_begins 49 = .ok (.iload 4, 2) := by decide +kernel
theorem dX10_begins_51 : decode cX10_begins 51 = .ok (.iconst 2, 1) := by decide +kernel
theorem dX10_begins_52 : decode cX10_begins 52 = .ok (.iload_n 3, 1) := by decide +kernel
theorem dX10_begins_53 : decode cX10_begins 53 = .ok (.imul, 1) := by decide +kernel
theorem dX10_begins_54 : decode cX10_begins 54 = .ok (.aload_n 0, 1) := by decide +kernel
theorem dX10_begins_55 : decode cX10_begins 55 = .ok (.getfield 7, 3) := by decide +kernel
theorem dX10_begins_58 : decode cX10_begins 58 = .ok (.iadd, 1) := by decide +kernel
theorem dX10_begins_59 : decode cX10_begins 59 = .ok (.if_icmp .gt 11, 3) := by decide +kernel
theorem dX10_begins_62 : decode cX10_begins 62 = .ok (.iconst 4, 1) := by decide +kernel
theorem dX10_begins_63 : decode cX10_begins 63 = .ok (.iload 4, 2) := by decide +kernel
theorem dX10_begins_65 : decode cX10_begins 65 = .ok (.imul, 1) := by decide +kernel
theorem dX10_begins_66 : decode cX10_begins 66 = .ok (.iload_n 3, 1) := by decide +kernel
theorem dX10_begins_67 : decode cX10_begins 67 = .ok (.if_icmp .ge 7, 3) := by decide +kernel
theorem dX10_begins_70 : decode cX10_begins 70 = .ok (.iconst 1, 1) := by decide +kernel
theorem dX10_begins_71 : decode cX10_begins 71 = .ok (.goto 4, 3) := by decide +kernel
theorem dX10_begins_74 : decode cX10_begins 74 = .ok (.iconst 0, 1) := by decide +kernel
theorem dX10_begins_75 : decode cX10_begins 75 = .ok (.ireturn, 1) := by decide +kernel
theorem dX10_joins_0 : decode cX10_joins 0 = .ok (.iconst 0, 1) := by decide +kernel
theorem dX10_joins_1 : decode cX10_joins 1 = .ok (.istore_n 2, 1) := by decide +kernel
theorem dX10_joins_2 : decode cX10_joins 2 = .ok (.iload_n 2, 1) := by decide +kernel
theorem dX10_joins_3 : decode cX10_joins 3 = .ok (.aload_n 0, 1) := by decide +kernel
theorem dX10_joins_4 : decode cX10_joins 4 = .ok (.getfield 110, 3) := by decide +kernel
theorem dX10_joins_7 : decode cX10_joins 7 = .ok (.if_icmp .ge 20, 3) := by decide +kernel
theorem dX10_joins_10 : decode cX10_joins 10 = .ok (.aload_n 0, 1) := by decide +kernel
theorem dX10_joins_11 : decode cX10_joins 11 = .ok (.getfield 66, 3) := by decide +kernel
theorem dX10_joins_14 : decode cX10_joins 14 = .ok (.iload_n 2, 1) := by decide +kernel
theorem dX10_joins_15 : decode cX10_joins 15 = .ok (.aload_n 0, 1) := by decide +kernel
theorem dX10_joins_16 : decode cX10_joins 16 = .ok (.iload_n 2, 1) := by decide +kernel
theorem dX10_joins_17 : decode cX10_joins 17 = .ok (.invokevirtual 179, 3) := by decide +kernel
theorem dX10_joins_20 : decode cX10_joins 20 = .ok (.iastore, 1) := by decide +kernel
theorem dX10_joins_21 : decode cX10_joins 21 = .ok (.iinc 2 1, 3) := by decide +kernel
theorem dX10_joins_24 : decode cX10_joins 24 = .ok (.goto (-22), 3) := by decide +kernel
theorem dX10_joins_27 : decode cX10_joins 27 = .ok (.aload_n 0, 1) := by decide +kernel
theorem dX10_joins_28 : decode cX10_joins 28 = .ok (.iload_n 1, 1) := by decide +kernel
theorem dX10_joins_29 : decode cX10_joins 29 = .ok (.invokevirtual 186, 3) := by decide +kernel
theorem dX10_joins_32 : decode cX10_joins 32 = .ok (.ireturn, 1) := by decide +kernel
theorem dX10_joinsAgain_0 : decode cX10_joinsAgain 0 = .ok (.iconst 0, 1) := by decide +kernel
theorem dX10_joinsAgain_1 : decode cX10_joinsAgain 1 = .ok (.istore_n 2, 1) := by decide +kernel
theorem dX10_joinsAgain_2 : decode cX10_joinsAgain 2 = .ok (.iconst (-1), 1) := by decide +kernel
theorem dX10_joinsAgain_3 : decode cX10_joinsAgain 3 = .ok (.istore_n 3, 1) := by decide +kernel
theorem dX10_joinsAgain_4 : decode cX10_joinsAgain 4 = .ok (.aload_n 0, 1) := by decide +kernel
theorem dX10_joinsAgain_5 : decode cX10_joinsAgain 5 = .ok (.iload_n 1, 1) := by decide +kernel
theorem dX10_joinsAgain_6 : decode cX10_joinsAgain 6 = .ok (.iconst (-1), 1) := by decide +kernel
theorem dX10_joinsAgain_7 : decode cX10_joinsAgain 7 = .ok (.invokevirtual 189, 3) := by decide +kernel
theorem dX10_joinsAgain_10 : decode cX10_joinsAgain 10 = .ok (.istore 4, 2) := by decide +kernel
theorem dX10_joinsAgain_12 : decode cX10_joinsAgain 12 = .ok (.iload 4, 2) := by decide +kernel
theorem dX10_joinsAgain_14 : decode cX10_joinsAgain 14 = .ok (.iconst (-1), 1) := by decide +kernel
theorem dX10_joinsAgain_15 : decode cX10_joinsAgain 15 = .ok (.if_icmp .eq 46, 3) := by decide +kernel
theorem dX10_joinsAgain_18 : decode cX10_joinsAgain 18 = .ok (.iload_n 2, 1) := by decide +kernel
theorem dX10_joinsAgain_19 : decode cX10_joinsAgain 19 = .ok (.aload_n 0, 1) := by decide +kernel
theorem dX10_joinsAgain_20 : decode cX10_joinsAgain 20 = .ok (.iload_n 3, 1) := by decide +kernel
theorem dX10_joinsAgain_21 : decode cX10_joinsAgain 21 = .ok (.iload 4, 2) := by decide +kernel
theorem dX10_joinsAgain_23 : decode cX10_joinsAgain 23 = .ok (.invokevirtual 192, 3) := by decide +kernel
theorem dX10_joinsAgain_26 : decode cX10_joinsAgain 26 = .ok (.ifCond .eq 7, 3) := by decide +kernel
theorem dX10_joinsAgain_29 : decode cX10_joinsAgain 29 = .ok (.iconst 1, 1) := by decide +kernel
theorem dX10_joinsAgain_30 : decode cX10_joinsAgain 30 = .ok (.goto 4, 3) := by decide +kernel
theorem dX10_joinsAgain_33 : decode cX10_joinsAgain 33 = .ok (.iconst 0, 1) := by decide +kernel
theorem dX10_joinsAgain_34 : decode cX10_joinsAgain 34 = .ok (.iadd, 1) := by decide +kernel
theorem dX10_joinsAgain_35 : decode cX10_joinsAgain 35 = .ok (.istore_n 2, 1) := by decide +kernel
theorem dX10_joinsAgain_36 : decode cX10_joinsAgain 36 = .ok (.aload_n 0, 1) := by decide +kernel
theorem dX10_joinsAgain_37 : decode cX10_joinsAgain 37 = .ok (.getfield 69, 3) := by decide +kernel
theorem dX10_joinsAgain_40 : decode cX10_joinsAgain 40 = .ok (.iload 4, 2) := by decide +kernel
theorem dX10_joinsAgain_42 : decode cX10_joinsAgain 42 = .ok (.iload_n 2, 1) := by decide +kernel
theorem dX10_joinsAgain_43 : decode cX10_joinsAgain 43 = .ok (.iconst 1, 1) := by decide +kernel
theorem dX10_joinsAgain_44 : decode cX10_joinsAgain 44 = .ok (.isub, 1) := by decide +kernel
theorem dX10_joinsAgain_45 : decode cX10_joinsAgain 45 = .ok (.iastore, 1) := by decide +kernel
theorem dX10_joinsAgain_46 : decode cX10_joinsAgain 46 = .ok (.iload 4, 2) := by decide +kernel
theorem dX10_joinsAgain_48 : decode cX10_joinsAgain 48 = .ok (.istore_n 3, 1) := by decide +kernel
theorem dX10_joinsAgain_49 : decode cX10_joinsAgain 49 = .ok (.aload_n 0, 1) := by decide +kernel
theorem dX10_joinsAgain_50 : decode cX10_joinsAgain 50 = .ok (.iload_n 1, 1) := by decide +kernel
theorem dX10_joinsAgain_51 : decode cX10_joinsAgain 51 = .ok (.iload 4, 2) := by decide +kernel
theorem dX10_joinsAgain_53 : decode cX10_joinsAgain 53 = .ok (.invokevirtual 189, 3) := by decide +kernel
theorem dX10_joinsAgain_56 : decode cX10_joinsAgain 56 = .ok (.istore 4, 2) := by decide +kernel
theorem dX10_joinsAgain_58 : decode cX10_joinsAgain 58 = .ok (.goto (-46), 3) := by decide +kernel
theorem dX10_joinsAgain_61 : decode cX10_joinsAgain 61 = .ok (.iload_n 2, 1) := by decide +kernel
theorem dX10_joinsAgain_62 : decode cX10_joinsAgain 62 = .ok (.ireturn, 1) := by decide +kernel
theorem dX10_trips_0 : decode cX10_trips 0 = .ok (.aload_n 0, 1) := by decide +kernel
theorem dX10_trips_1 : decode cX10_trips 1 = .ok (.aload_n 0, 1) := by decide +kernel
theorem dX10_trips_2 : decode cX10_trips 2 = .ok (.iload_n 1, 1) := by decide +kernel
theorem dX10_trips_3 : decode cX10_trips 3 = .ok (.invokevirtual 160, 3) := by decide +kernel
theorem dX10_trips_6 : decode cX10_trips 6 = .ok (.ifCond .eq 7, 3) := by decide +kernel
theorem dX10_trips_9 : decode cX10_trips 9 = .ok (.iconst 0, 1) := by decide +kernel
theorem dX10_trips_10 : decode cX10_trips 10 = .ok (.goto 4, 3) := by decide +kernel
theorem dX10_trips_13 : decode cX10_trips 13 = .ok (.iconst 1, 1) := by decide +kernel
theorem dX10_trips_14 : decode cX10_trips 14 = .ok (.invokevirtual 117, 3) := by decide +kernel
theorem dX10_trips_17 : decode cX10_trips 17 = .ok (.ifCond .eq 11, 3) := by decide +kernel
theorem dX10_trips_20 : decode cX10_trips 20 = .ok (.aload_n 0, 1) := by decide +kernel
theorem dX10_trips_21 : decode cX10_trips 21 = .ok (.iload_n 1, 1) := by decide +kernel
theorem dX10_trips_22 : decode cX10_trips 22 = .ok (.invokevirtual 195, 3) := by decide +kernel
theorem dX10_trips_25 : decode cX10_trips 25 = .ok (.goto 4, 3) := by decide +kernel
theorem dX10_trips_28 : decode cX10_trips 28 = .ok (.iconst 0, 1) := by decide +kernel
theorem dX10_trips_29 : decode cX10_trips 29 = .ok (.ireturn, 1) := by decide +kernel
theorem dX10_tripsAnew_0 : decode cX10_tripsAnew 0 = .ok (.aload_n 0, 1) := by decide +kernel
theorem dX10_tripsAnew_1 : decode cX10_tripsAnew 1 = .ok (.aload_n 0, 1) := by decide +kernel
theorem dX10_tripsAnew_2 : decode cX10_tripsAnew 2 = .ok (.iload_n 1, 1) := by decide +kernel
theorem dX10_tripsAnew_3 : decode cX10_tripsAnew 3 = .ok (.invokevirtual 160, 3) := by decide +kernel
theorem dX10_tripsAnew_6 : decode cX10_tripsAnew 6 = .ok (.ifCond .eq 7, 3) := by decide +kernel
theorem dX10_tripsAnew_9 : decode cX10_tripsAnew 9 = .ok (.iconst 0, 1) := by decide +kernel
theorem dX10_tripsAnew_10 : decode cX10_tripsAnew 10 = .ok (.goto 4, 3) := by decide +kernel
theorem dX10_tripsAnew_13 : decode cX10_tripsAnew 13 = .ok (.iconst 1, 1) := by decide +kernel
theorem dX10_tripsAnew_14 : decode cX10_tripsAnew 14 = .ok (.invokevirtual 117, 3) := by decide +kernel
theorem dX10_tripsAnew_17 : decode cX10_tripsAnew 17 = .ok (.ifCond .eq 11, 3) := by decide +kernel
theorem dX10_tripsAnew_20 : decode cX10_tripsAnew 20 = .ok (.aload_n 0, 1) := by decide +kernel
theorem dX10_tripsAnew_21 : decode cX10_tripsAnew 21 = .ok (.iload_n 1, 1) := by decide +kernel
theorem dX10_tripsAnew_22 : decode cX10_tripsAnew 22 = .ok (.invokevirtual 195, 3) := by decide +kernel
theorem dX10_tripsAnew_25 : decode cX10_tripsAnew 25 = .ok (.goto 4, 3) := by decide +kernel
theorem dX10_tripsAnew_28 : decode cX10_tripsAnew 28 = .ok (.iconst 0, 1) := by decide +kernel
theorem dX10_tripsAnew_29 : decode cX10_tripsAnew 29 = .ok (.ireturn, 1) := by decide +kernel
theorem dX10_tripOf_0 : decode cX10_tripOf 0 = .ok (.aload_n 0, 1) := by decide +kernel
theorem dX10_tripOf_1 : decode cX10_tripOf 1 = .ok (.aload_n 0, 1) := by decide +kernel
theorem dX10_tripOf_2 : decode cX10_tripOf 2 = .ok (.iload_n 1, 1) := by decide +kernel
theorem dX10_tripOf_3 : decode cX10_tripOf 3 = .ok (.invokevirtual 176, 3) := by decide +kernel
theorem dX10_tripOf_6 : decode cX10_tripOf 6 = .ok (.ifCond .eq 7, 3) := by decide +kernel
theorem dX10_tripOf_9 : decode cX10_tripOf 9 = .ok (.iconst 0, 1) := by decide +kernel
theorem dX10_tripOf_10 : decode cX10_tripOf 10 = .ok (.goto 4, 3) := by decide +kernel
theorem dX10_tripOf_13 : decode cX10_tripOf 13 = .ok (.iconst 1, 1) := by decide +kernel
theorem dX10_tripOf_14 : decode cX10_tripOf 14 = .ok (.invokevirtual 117, 3) := by decide +kernel
theorem dX10_tripOf_17 : decode cX10_tripOf 17 = .ok (.ifCond .ne 5, 3) := by decide +kernel
theorem dX10_tripOf_20 : decode cX10_tripOf 20 = .ok (.iconst 0, 1) := by decide +kernel
theorem dX10_tripOf_21 : decode cX10_tripOf 21 = .ok (.ireturn, 1) := by decide +kernel
theorem dX10_tripOf_22 : decode cX10_tripOf 22 = .ok (.aload_n 0, 1) := by decide +kernel
theorem dX10_tripOf_23 : decode cX10_tripOf 23 = .ok (.iload_n 1, 1) := by decide +kernel
theorem dX10_tripOf_24 : decode cX10_tripOf 24 = .ok (.invokevirtual 179, 3) := by decide +kernel
theorem dX10_tripOf_27 : decode cX10_tripOf 27 = .ok (.istore_n 2, 1) := by decide +kernel
theorem dX10_tripOf_28 : decode cX10_tripOf 28 = .ok (.iload_n 2, 1) := by decide +kernel
theorem dX10_tripOf_29 : decode cX10_tripOf 29 = .ok (.iconst (-1), 1) := by decide +kernel
theorem dX10_tripOf_30 : decode cX10_tripOf 30 = .ok (.if_icmp .ne 5, 3) := by decide +kernel
theorem dX10_tripOf_33 : decode cX10_tripOf 33 = .ok (.iconst (-1), 1) := by decide +kernel
theorem dX10_tripOf_34 : decode cX10_tripOf 34 = .ok (.ireturn, 1) := by decide +kernel
theorem dX10_tripOf_35 : decode cX10_tripOf 35 = .ok (.aload_n 0, 1) := by decide +kernel
theorem dX10_tripOf_36 : decode cX10_tripOf 36 = .ok (.iload_n 2, 1) := by decide +kernel
theorem dX10_tripOf_37 : decode cX10_tripOf 37 = .ok (.invokevirtual 195, 3) := by decide +kernel
theorem dX10_tripOf_40 : decode cX10_tripOf 40 = .ok (.pop, 1) := by decide +kernel
theorem dX10_tripOf_41 : decode cX10_tripOf 41 = .ok (.aload_n 0, 1) := by decide +kernel
theorem dX10_tripOf_42 : decode cX10_tripOf 42 = .ok (.getfield 69, 3) := by decide +kernel
theorem dX10_tripOf_45 : decode cX10_tripOf 45 = .ok (.iload_n 1, 1) := by decide +kernel
theorem dX10_tripOf_46 : decode cX10_tripOf 46 = .ok (.iaload, 1) := by decide +kernel
theorem dX10_tripOf_47 : decode cX10_tripOf 47 = .ok (.ireturn, 1) := by decide +kernel
theorem dX10_firstOf_0 : decode cX10_firstOf 0 = .ok (.aload_n 0, 1) := by decide +kernel
theorem dX10_firstOf_1 : decode cX10_firstOf 1 = .ok (.iload_n 1, 1) := by decide +kernel
theorem dX10_firstOf_2 : decode cX10_firstOf 2 = .ok (.iconst (-1), 1) := by decide +kernel
theorem dX10_firstOf_3 : decode cX10_firstOf 3 = .ok (.invokevirtual 189, 3) := by decide +kernel
theorem dX10_firstOf_6 : decode cX10_firstOf 6 = .ok (.istore_n 3, 1) := by decide +kernel
theorem dX10_firstOf_7 : decode cX10_firstOf 7 = .ok (.aload_n 0, 1) := by decide +kernel
theorem dX10_firstOf_8 : decode cX10_firstOf 8 = .ok (.getfield 69, 3) := by decide +kernel
theorem dX10_firstOf_11 : decode cX10_firstOf 11 = .ok (.iload_n 3, 1) := by decide +kernel
theorem dX10_firstOf_12 : decode cX10_firstOf 12 = .ok (.iaload, 1) := by decide +kernel
theorem dX10_firstOf_13 : decode cX10_firstOf 13 = .ok (.iload_n 2, 1) := by decide +kernel
theorem dX10_firstOf_14 : decode cX10_firstOf 14 = .ok (.if_icmp .eq 13, 3) := by decide +kernel
theorem dX10_firstOf_17 : decode cX10_firstOf 17 = .ok (.aload_n 0, 1) := by decide +kernel
theorem dX10_firstOf_18 : decode cX10_firstOf 18 = .ok (.iload_n 1, 1) := by decide +kernel
theorem dX10_firstOf_19 : decode cX10_firstOf 19 = .ok (.iload_n 3, 1) := by decide +kernel
theorem dX10_firstOf_20 : decode cX10_firstOf 20 = .ok (.invokevirtual 189, 3) := by decide +kernel
theorem dX10_firstOf_23 : decode cX10_firstOf 23 = .ok (.istore_n 3, 1) := by decide +kernel
theorem dX10_firstOf_24 : decode cX10_firstOf 24 = .ok (.goto (-17), 3) := by decide +kernel
theorem dX10_firstOf_27 : decode cX10_firstOf 27 = .ok (.iload_n 3, 1) := by decide +kernel
theorem dX10_firstOf_28 : decode cX10_firstOf 28 = .ok (.ireturn, 1) := by decide +kernel
theorem dX10_tollOf_0 : decode cX10_tollOf 0 = .ok (.iconst 2, 1) := by decide +kernel
theorem dX10_tollOf_1 : decode cX10_tollOf 1 = .ok (.istore_n 3, 1) := by decide +kernel
theorem dX10_tollOf_2 : decode cX10_tollOf 2 = .ok (.aload_n 0, 1) := by decide +kernel
theorem dX10_tollOf_3 : decode cX10_tollOf 3 = .ok (.iload_n 1, 1) := by decide +kernel
theorem dX10_tollOf_4 : decode cX10_tollOf 4 = .ok (.iload_n 2, 1) := by decide +kernel
theorem dX10_tollOf_5 : decode cX10_tollOf 5 = .ok (.invokevirtual 198, 3) := by decide +kernel
theorem dX10_tollOf_8 : decode cX10_tollOf 8 = .ok (.istore 4, 2) := by decide +kernel
theorem dX10_tollOf_10 : decode cX10_tollOf 10 = .ok (.aload_n 0, 1) := by decide +kernel
theorem dX10_tollOf_11 : decode cX10_tollOf 11 = .ok (.iload_n 1, 1) := by decide +kernel
theorem dX10_tollOf_12 : decode cX10_tollOf 12 = .ok (.iload 4, 2) := by decide +kernel
theorem dX10_tollOf_14 : decode cX10_tollOf 14 = .ok (.invokevirtual 189, 3) := by decide +kernel
theorem dX10_tollOf_17 : decode cX10_tollOf 17 = .ok (.istore 5, 2) := by decide +kernel
theorem dX10_tollOf_19 : decode cX10_tollOf 19 = .ok (.iload 5, 2) := by decide +kernel
theorem dX10_tollOf_21 : decode cX10_tollOf 21 = .ok (.iconst (-1), 1) := by decide +kernel
theorem dX10_tollOf_22 : decode cX10_tollOf 22 = .ok (.if_icmp .eq 56, 3) := by decide +kernel
theorem dX10_tollOf_25 : decode cX10_tollOf 25 = .ok (.aload_n 0, 1) := by decide +kernel
theorem dX10_tollOf_26 : decode cX10_tollOf 26 = .ok (.getfield 69, 3) := by decide +kernel
theorem dX10_tollOf_29 : decode cX10_tollOf 29 = .ok (.iload 5, 2) := by decide +kernel
theorem dX10_tollOf_31 : decode cX10_tollOf 31 = .ok (.iaload, 1) := by decide +kernel
theorem dX10_tollOf_32 : decode cX10_tollOf 32 = .ok (.iload_n 2, 1) := by decide +kernel
theorem dX10_tollOf_33 : decode cX10_tollOf 33 = .ok (.if_icmp .ne 45, 3) := by decide +kernel
theorem dX10_tollOf_36 : decode cX10_tollOf 36 = .ok (.iload_n 3, 1) := by decide +kernel
theorem dX10_tollOf_37 : decode cX10_tollOf 37 = .ok (.aload_n 0, 1) := by decide +kernel
theorem dX10_tollOf_38 : decode cX10_tollOf 38 = .ok (.getfield 17, 3) := by decide +kernel
theorem dX10_tollOf_41 : decode cX10_tollOf 41 = .ok (.bipush 8, 2) := by decide +kernel
theorem dX10_tollOf_43 : decode cX10_tollOf 43 = .ok (.aload_n 0, 1) := by decide +kernel
theorem dX10_tollOf_44 : decode cX10_tollOf 44 = .ok (.getfield 48, 3) := by decide +kernel
theorem dX10_tollOf_47 : decode cX10_tollOf 47 = .ok (.iload 4, 2) := by decide +kernel
theorem dX10_tollOf_49 : decode cX10_tollOf 49 = .ok (.iaload, 1) := by decide +kernel
theorem dX10_tollOf_50 : decode cX10_tollOf 50 = .ok (.imul, 1) := by decide +kernel
theorem dX10_tollOf_51 : decode cX10_tollOf 51 = .ok (.aload_n 0, 1) := by decide +kernel
theorem dX10_tollOf_52 : decode cX10_tollOf 52 = .ok (.getfield 48, 3) := by decide +kernel
theorem dX10_tollOf_55 : decode cX10_tollOf 55 = .ok (.iload 5, 2) := by decide +kernel
theorem dX10_tollOf_57 : decode cX10_tollOf 57 = .ok (.iaload, 1) := by decide +kernel
theorem dX10_tollOf_58 : decode cX10_tollOf 58 = .ok (.iadd, 1) := by decide +kernel
theorem dX10_tollOf_59 : decode cX10_tollOf 59 = .ok (.iaload, 1) := by decide +kernel
theorem dX10_tollOf_60 : decode cX10_tollOf 60 = .ok (.iadd, 1) := by decide +kernel
theorem dX10_tollOf_61 : decode cX10_tollOf 61 = .ok (.istore_n 3, 1) := by decide +kernel
theorem dX10_tollOf_62 : decode cX10_tollOf 62 = .ok (.iload 5, 2) := by decide +kernel
theorem dX10_tollOf_64 : decode cX10_tollOf 64 = .ok (.istore 4, 2) := by decide +kernel
theorem dX10_tollOf_66 : decode cX10_tollOf 66 = .ok (.aload_n 0, 1) := by decide +kernel
theorem dX10_tollOf_67 : decode cX10_tollOf 67 = .ok (.iload_n 1, 1) := by decide +kernel
theorem dX10_tollOf_68 : decode cX10_tollOf 68 = .ok (.iload 5, 2) := by decide +kernel
theorem dX10_tollOf_70 : decode cX10_tollOf 70 = .ok (.invokevirtual 189, 3) := by decide +kernel
theorem dX10_tollOf_73 : decode cX10_tollOf 73 = .ok (.istore 5, 2) := by decide +kernel
theorem dX10_tollOf_75 : decode cX10_tollOf 75 = .ok (.goto (-56), 3) := by decide +kernel
theorem dX10_tollOf_78 : decode cX10_tollOf 78 = .ok (.aload_n 0, 1) := by decide +kernel
theorem dX10_tollOf_79 : decode cX10_tollOf 79 = .ok (.getfield 20, 3) := by decide +kernel
theorem dX10_tollOf_82 : decode cX10_tollOf 82 = .ok (.aload_n 0, 1) := by decide +kernel
theorem dX10_tollOf_83 : decode cX10_tollOf 83 = .ok (.getfield 36, 3) := by decide +kernel
theorem dX10_tollOf_86 : decode cX10_tollOf 86 = .ok (.iload_n 1, 1) := by decide +kernel
theorem dX10_tollOf_87 : decode cX10_tollOf 87 = .ok (.iaload, 1) := by decide +kernel
theorem dX10_tollOf_88 : decode cX10_tollOf 88 = .ok (.iaload, 1) := by decide +kernel
theorem dX10_tollOf_89 : decode cX10_tollOf 89 = .ok (.iload_n 3, 1) := by decide +kernel
theorem dX10_tollOf_90 : decode cX10_tollOf 90 = .ok (.imul, 1) := by decide +kernel
theorem dX10_tollOf_91 : decode cX10_tollOf 91 = .ok (.ireturn, 1) := by decide +kernel
theorem dX10_isTrip_0 : decode cX10_isTrip 0 = .ok (.aload_n 0, 1) := by decide +kernel
theorem dX10_isTrip_1 : decode cX10_isTrip 1 = .ok (.aload_n 0, 1) := by decide +kernel
theorem dX10_isTrip_2 : decode cX10_isTrip 2 = .ok (.iload_n 1, 1) := by decide +kernel
theorem dX10_isTrip_3 : decode cX10_isTrip 3 = .ok (.invokevirtual 160, 3) := by decide +kernel
theorem dX10_isTrip_6 : decode cX10_isTrip 6 = .ok (.ifCond .eq 20, 3) := by decide +kernel
theorem dX10_isTrip_9 : decode cX10_isTrip 9 = .ok (.iload_n 2, 1) := by decide +kernel
theorem dX10_isTrip_10 : decode cX10_isTrip 10 = .ok (.ifCond .lt 16, 3) := by decide +kernel
theorem dX10_isTrip_13 : decode cX10_isTrip 13 = .ok (.iload_n 2, 1) := by decide +kernel
theorem dX10_isTrip_14 : decode cX10_isTrip 14 = .ok (.aload_n 0, 1) := by decide +kernel
theorem dX10_isTrip_15 : decode cX10_isTrip 15 = .ok (.iload_n 1, 1) := by decide +kernel
theorem dX10_isTrip_16 : decode cX10_isTrip 16 = .ok (.invokevirtual 195, 3) := by decide +kernel
theorem dX10_isTrip_19 : decode cX10_isTrip 19 = .ok (.if_icmp .ge 7, 3) := by decide +kernel
theorem dX10_isTrip_22 : decode cX10_isTrip 22 = .ok (.iconst 0, 1) := by decide +kernel
theorem dX10_isTrip_23 : decode cX10_isTrip 23 = .ok (.goto 4, 3) := by decide +kernel
theorem dX10_isTrip_26 : decode cX10_isTrip 26 = .ok (.iconst 1, 1) := by decide +kernel
theorem dX10_isTrip_27 : decode cX10_isTrip 27 = .ok (.invokevirtual 117, 3) := by decide +kernel
theorem dX10_isTrip_30 : decode cX10_isTrip 30 = .ok (.ireturn, 1) := by decide +kernel
theorem dX10_toll_0 : decode cX10_toll 0 = .ok (.aload_n 0, 1) := by decide +kernel
theorem dX10_toll_1 : decode cX10_toll 1 = .ok (.iload_n 1, 1) := by decide +kernel
theorem dX10_toll_2 : decode cX10_toll 2 = .ok (.iload_n 2, 1) := by decide +kernel
theorem dX10_toll_3 : decode cX10_toll 3 = .ok (.invokevirtual 201, 3) := by decide +kernel
theorem dX10_toll_6 : decode cX10_toll 6 = .ok (.ifCond .eq 12, 3) := by decide +kernel
theorem dX10_toll_9 : decode cX10_toll 9 = .ok (.aload_n 0, 1) := by decide +kernel
theorem dX10_toll_10 : decode cX10_toll 10 = .ok (.iload_n 1, 1) := by decide +kernel
theorem dX10_toll_11 : decode cX10_toll 11 = .ok (.iload_n 2, 1) := by decide +kernel
theorem dX10_toll_12 : decode cX10_toll 12 = .ok (.invokevirtual 204, 3) := by decide +kernel
theorem dX10_toll_15 : decode cX10_toll 15 = .ok (.goto 4, 3) := by decide +kernel
theorem dX10_toll_18 : decode cX10_toll 18 = .ok (.iconst 0, 1) := by decide +kernel
theorem dX10_toll_19 : decode cX10_toll 19 = .ok (.ireturn, 1) := by decide +kernel
theorem dX10_driverOf_0 : decode cX10_driverOf 0 = .ok (.aload_n 0, 1) := by decide +kernel
theorem dX10_driverOf_1 : decode cX10_driverOf 1 = .ok (.iload_n 1, 1) := by decide +kernel
theorem dX10_driverOf_2 : decode cX10_driverOf 2 = .ok (.iload_n 2, 1) := by decide +kernel
theorem dX10_driverOf_3 : decode cX10_driverOf 3 = .ok (.invokevirtual 201, 3) := by decide +kernel
theorem dX10_driverOf_6 : decode cX10_driverOf 6 = .ok (.ifCond .eq 22, 3) := by decide +kernel
theorem dX10_driverOf_9 : decode cX10_driverOf 9 = .ok (.aload_n 0, 1) := by decide +kernel
theorem dX10_driverOf_10 : decode cX10_driverOf 10 = .ok (.iload_n 1, 1) := by decide +kernel
theorem dX10_driverOf_11 : decode cX10_driverOf 11 = .ok (.aload_n 0, 1) := by decide +kernel
theorem dX10_driverOf_12 : decode cX10_driverOf 12 = .ok (.getfield 51, 3) := by decide +kernel
theorem dX10_driverOf_15 : decode cX10_driverOf 15 = .ok (.aload_n 0, 1) := by decide +kernel
theorem dX10_driverOf_16 : decode cX10_driverOf 16 = .ok (.iload_n 1, 1) := by decide +kernel
theorem dX10_driverOf_17 : decode cX10_driverOf 17 = .ok (.iload_n 2, 1) := by decide +kernel
theorem dX10_driverOf_18 : decode cX10_driverOf 18 = .ok (.invokevirtual 198, 3) := by decide +kernel
theorem dX10_driverOf_21 : decode cX10_driverOf 21 = .ok (.iaload, 1) := by decide +kernel
theorem dX10_driverOf_22 : decode cX10_driverOf 22 = .ok (.invokevirtual 163, 3) := by decide +kernel
theorem dX10_driverOf_25 : decode cX10_driverOf 25 = .ok (.goto 4, 3) := by decide +kernel
theorem dX10_driverOf_28 : decode cX10_driverOf 28 = .ok (.iconst 0, 1) := by decide +kernel
theorem dX10_driverOf_29 : decode cX10_driverOf 29 = .ok (.ireturn, 1) := by decide +kernel
theorem dX10_dueFrom_0 : decode cX10_dueFrom 0 = .ok (.iconst 0, 1) := by decide +kernel
theorem dX10_dueFrom_1 : decode cX10_dueFrom 1 = .ok (.istore_n 2, 1) := by decide +kernel
theorem dX10_dueFrom_2 : decode cX10_dueFrom 2 = .ok (.aload_n 0, 1) := by decide +kernel
theorem dX10_dueFrom_3 : decode cX10_dueFrom 3 = .ok (.iconst (-1), 1) := by decide +kernel
theorem dX10_dueFrom_4 : decode cX10_dueFrom 4 = .ok (.invokevirtual 195, 3) := by decide +kernel
theorem dX10_dueFrom_7 : decode cX10_dueFrom 7 = .ok (.pop, 1) := by decide +kernel
theorem dX10_dueFrom_8 : decode cX10_dueFrom 8 = .ok (.iconst 0, 1) := by decide +kernel
theorem dX10_dueFrom_9 : decode cX10_dueFrom 9 = .ok (.istore_n 3, 1) := by decide +kernel
theorem dX10_dueFrom_10 : decode cX10_dueFrom 10 = .ok (.iload_n 3, 1) := by decide +kernel
theorem dX10_dueFrom_11 : decode cX10_dueFrom 11 = .ok (.aload_n 0, 1) := by decide +kernel
theorem dX10_dueFrom_12 : decode cX10_dueFrom 12 = .ok (.getfield 107, 3) := by decide +kernel
theorem dX10_dueFrom_15 : decode cX10_dueFrom 15 = .ok (.if_icmp .ge 67, 3) := by decide +kernel
theorem dX10_dueFrom_18 : decode cX10_dueFrom 18 = .ok (.aload_n 0, 1) := by decide +kernel
theorem dX10_dueFrom_19 : decode cX10_dueFrom 19 = .ok (.iload_n 3, 1) := by decide +kernel
theorem dX10_dueFrom_20 : decode cX10_dueFrom 20 = .ok (.invokevirtual 186, 3) := by decide +kernel
theorem dX10_dueFrom_23 : decode cX10_dueFrom 23 = .ok (.istore 4, 2) := by decide +kernel
theorem dX10_dueFrom_25 : decode cX10_dueFrom 25 = .ok (.iconst 0, 1) := by decide +kernel
theorem dX10_dueFrom_26 : decode cX10_dueFrom 26 = .ok (.istore 5, 2) := by decide +kernel
theorem dX10_dueFrom_28 : decode cX10_dueFrom 28 = .ok (.iload 5, 2) := by decide +kernel
theorem dX10_dueFrom_30 : decode cX10_dueFrom 30 = .ok (.iload 4, 2) := by decide +kernel
theorem dX10_dueFrom_32 : decode cX10_dueFrom 32 = .ok (.if_icmp .ge 44, 3) := by decide +kernel
theorem dX10_dueFrom_35 : decode cX10_dueFrom 35 = .ok (.iload_n 2, 1) := by decide +kernel
theorem dX10_dueFrom_36 : decode cX10_dueFrom 36 = .ok (.aload_n 0, 1) := by decide +kernel
theorem dX10_dueFrom_37 : decode cX10_dueFrom 37 = .ok (.iload_n 3, 1) := by decide +kernel
theorem dX10_dueFrom_38 : decode cX10_dueFrom 38 = .ok (.aload_n 0, 1) := by decide +kernel
theorem dX10_dueFrom_39 : decode cX10_dueFrom 39 = .ok (.getfield 51, 3) := by decide +kernel
theorem dX10_dueFrom_42 : decode cX10_dueFrom 42 = .ok (.aload_n 0, 1) := by decide +kernel
theorem dX10_dueFrom_43 : decode cX10_dueFrom 43 = .ok (.iload_n 3, 1) := by decide +kernel
theorem dX10_dueFrom_44 : decode cX10_dueFrom 44 = .ok (.iload 5, 2) := by decide +kernel
theorem dX10_dueFrom_46 : decode cX10_dueFrom 46 = .ok (.invokevirtual 198, 3) := by decide +kernel
theorem dX10_dueFrom_49 : decode cX10_dueFrom 49 = .ok (.iaload, 1) := by decide +kernel
theorem dX10_dueFrom_50 : decode cX10_dueFrom 50 = .ok (.invokevirtual 163, 3) := by decide +kernel
theorem dX10_dueFrom_53 : decode cX10_dueFrom 53 = .ok (.iload_n 1, 1) := by decide +kernel
theorem dX10_dueFrom_54 : decode cX10_dueFrom 54 = .ok (.if_icmp .ne 13, 3) := by decide +kernel
theorem dX10_dueFrom_57 : decode cX10_dueFrom 57 = .ok (.aload_n 0, 1) := by decide +kernel
theorem dX10_dueFrom_58 : decode cX10_dueFrom 58 = .ok (.iload_n 3, 1) := by decide +kernel
theorem dX10_dueFrom_59 : decode cX10_dueFrom 59 = .ok (.iload 5, 2) := by decide +kernel
theorem dX10_dueFrom_61 : decode cX10_dueFrom 61 = .ok (.invokevirtual 204, 3) := by decide +kernel
theorem dX10_dueFrom_64 : decode cX10_dueFrom 64 = .ok (.goto 4, 3) := by decide +kernel
theorem dX10_dueFrom_67 : decode cX10_dueFrom 67 = .ok (.iconst 0, 1) := by decide +kernel
theorem dX10_dueFrom_68 : decode cX10_dueFrom 68 = .ok (.iadd, 1) := by decide +kernel
theorem dX10_dueFrom_69 : decode cX10_dueFrom 69 = .ok (.istore_n 2, 1) := by decide +kernel
theorem dX10_dueFrom_70 : decode cX10_dueFrom 70 = .ok (.iinc 5 1, 3) := by decide +kernel
theorem dX10_dueFrom_73 : decode cX10_dueFrom 73 = .ok (.goto (-45), 3) := by decide +kernel
theorem dX10_dueFrom_76 : decode cX10_dueFrom 76 = .ok (.iinc 3 1, 3) := by decide +kernel
theorem dX10_dueFrom_79 : decode cX10_dueFrom 79 = .ok (.goto (-69), 3) := by decide +kernel
theorem dX10_dueFrom_82 : decode cX10_dueFrom 82 = .ok (.iload_n 2, 1) := by decide +kernel
theorem dX10_dueFrom_83 : decode cX10_dueFrom 83 = .ok (.ireturn, 1) := by decide +kernel
theorem dX10_due_0 : decode cX10_due 0 = .ok (.aload_n 0, 1) := by decide +kernel
theorem dX10_due_1 : decode cX10_due 1 = .ok (.iload_n 1, 1) := by decide +kernel
theorem dX10_due_2 : decode cX10_due 2 = .ok (.invokestatic 146, 3) := by decide +kernel
theorem dX10_due_5 : decode cX10_due 5 = .ok (.ifCond .eq 7, 3) := by decide +kernel
theorem dX10_due_8 : decode cX10_due 8 = .ok (.iconst 0, 1) := by decide +kernel
theorem dX10_due_9 : decode cX10_due 9 = .ok (.goto 4, 3) := by decide +kernel
theorem dX10_due_12 : decode cX10_due 12 = .ok (.iconst 1, 1) := by decide +kernel
theorem dX10_due_13 : decode cX10_due 13 = .ok (.invokevirtual 117, 3) := by decide +kernel
theorem dX10_due_16 : decode cX10_due 16 = .ok (.ifCond .eq 11, 3) := by decide +kernel
theorem dX10_due_19 : decode cX10_due 19 = .ok (.aload_n 0, 1) := by decide +kernel
theorem dX10_due_20 : decode cX10_due 20 = .ok (.iload_n 1, 1) := by decide +kernel
theorem dX10_due_21 : decode cX10_due 21 = .ok (.invokevirtual 207, 3) := by decide +kernel
theorem dX10_due_24 : decode cX10_due 24 = .ok (.goto 4, 3) := by decide +kernel
theorem dX10_due_27 : decode cX10_due 27 = .ok (.iconst 0, 1) := by decide +kernel
theorem dX10_due_28 : decode cX10_due 28 = .ok (.ireturn, 1) := by decide +kernel
theorem dX10_dueAnew_0 : decode cX10_dueAnew 0 = .ok (.aload_n 0, 1) := by decide +kernel
theorem dX10_dueAnew_1 : decode cX10_dueAnew 1 = .ok (.iload_n 1, 1) := by decide +kernel
theorem dX10_dueAnew_2 : decode cX10_dueAnew 2 = .ok (.invokestatic 146, 3) := by decide +kernel
theorem dX10_dueAnew_5 : decode cX10_dueAnew 5 = .ok (.ifCond .eq 7, 3) := by decide +kernel
theorem dX10_dueAnew_8 : decode cX10_dueAnew 8 = .ok (.iconst 0, 1) := by decide +kernel
theorem dX10_dueAnew_9 : decode cX10_dueAnew 9 = .ok (.goto 4, 3) := by decide +kernel
theorem dX10_dueAnew_12 : decode cX10_dueAnew 12 = .ok (.iconst 1, 1) := by decide +kernel
theorem dX10_dueAnew_13 : decode cX10_dueAnew 13 = .ok (.invokevirtual 117, 3) := by decide +kernel
theorem dX10_dueAnew_16 : decode cX10_dueAnew 16 = .ok (.ifCond .eq 11, 3) := by decide +kernel
theorem dX10_dueAnew_19 : decode cX10_dueAnew 19 = .ok (.aload_n 0, 1) := by decide +kernel
theorem dX10_dueAnew_20 : decode cX10_dueAnew 20 = .ok (.iload_n 1, 1) := by decide +kernel
theorem dX10_dueAnew_21 : decode cX10_dueAnew 21 = .ok (.invokevirtual 207, 3) := by decide +kernel
theorem dX10_dueAnew_24 : decode cX10_dueAnew 24 = .ok (.goto 4, 3) := by decide +kernel
theorem dX10_dueAnew_27 : decode cX10_dueAnew 27 = .ok (.iconst 0, 1) := by decide +kernel
theorem dX10_dueAnew_28 : decode cX10_dueAnew 28 = .ok (.ireturn, 1) := by decide +kernel
theorem dX10_settle_0 : decode cX10_settle 0 = .ok (.aload_n 0, 1) := by decide +kernel
theorem dX10_settle_1 : decode cX10_settle 1 = .ok (.iconst 0, 1) := by decide +kernel
theorem dX10_settle_2 : decode cX10_settle 2 = .ok (.putfield 100, 3) := by decide +kernel
theorem dX10_settle_5 : decode cX10_settle 5 = .ok (.iconst 0, 1) := by decide +kernel
theorem dX10_settle_6 : decode cX10_settle 6 = .ok (.istore_n 1, 1) := by decide +kernel
theorem dX10_settle_7 : decode cX10_settle 7 = .ok (.iconst 0, 1) := by decide +kernel
theorem dX10_settle_8 : decode cX10_settle 8 = .ok (.istore_n 2, 1) := by decide +kernel
theorem dX10_settle_9 : decode cX10_settle 9 = .ok (.iload_n 2, 1) := by decide +kernel
theorem dX10_settle_10 : decode cX10_settle 10 = .ok (.bipush 6, 2) := by decide +kernel
theorem dX10_settle_12 : decode cX10_settle 12 = .ok (.if_icmp .ge 87, 3) := by decide +kernel
theorem dX10_settle_15 : decode cX10_settle 15 = .ok (.aload_n 0, 1) := by decide +kernel
theorem dX10_settle_16 : decode cX10_settle 16 = .ok (.iload_n 2, 1) := by decide +kernel
theorem dX10_settle_17 : decode cX10_settle 17 = .ok (.invokevirtual 207, 3) := by decide +kernel
theorem dX10_settle_20 : decode cX10_settle 20 = .ok (.i2l, 1) := by decide +kernel
theorem dX10_settle_21 : decode cX10_settle 21 = .ok (.aload_n 0, 1) := by decide +kernel
theorem dX10_settle_22 : decode cX10_settle 22 = .ok (.getfield 72, 3) := by decide +kernel
theorem dX10_settle_25 : decode cX10_settle 25 = .ok (.iload_n 2, 1) := by decide +kernel
theorem dX10_settle_26 : decode cX10_settle 26 = .ok (.laload, 1) := by decide +kernel
theorem dX10_settle_27 : decode cX10_settle 27 = .ok (.lsub, 1) := by decide +kernel
theorem dX10_settle_28 : decode cX10_settle 28 = .ok (.aload_n 0, 1) := by decide +kernel
theorem dX10_settle_29 : decode cX10_settle 29 = .ok (.getfield 76, 3) := by decide +kernel
theorem dX10_settle_32 : decode cX10_settle 32 = .ok (.iload_n 2, 1) := by decide +kernel
theorem dX10_settle_33 : decode cX10_settle 33 = .ok (.laload, 1) := by decide +kernel
theorem dX10_settle_34 : decode cX10_settle 34 = .ok (.ladd, 1) := by decide +kernel
theorem dX10_settle_35 : decode cX10_settle 35 = .ok (.lstore_n 3, 1) := by decide +kernel
theorem dX10_settle_36 : decode cX10_settle 36 = .ok (.aload_n 0, 1) := by decide +kernel
theorem dX10_settle_37 : decode cX10_settle 37 = .ok (.getfield 72, 3) := by decide +kernel
theorem dX10_settle_40 : decode cX10_settle 40 = .ok (.iload_n 2, 1) := by decide +kernel
theorem dX10_settle_41 : decode cX10_settle 41 = .ok (.dup2, 1) := by decide +kernel
theorem dX10_settle_42 : decode cX10_settle 42 = .ok (.laload, 1) := by decide +kernel
theorem dX10_settle_43 : decode cX10_settle 43 = .ok (.lload_n 3, 1) := by decide +kernel
theorem dX10_settle_44 : decode cX10_settle 44 = .ok (.lconst 0, 1) := by decide +kernel
theorem dX10_settle_45 : decode cX10_settle 45 = .ok (.lcmp, 1) := by decide +kernel
theorem dX10_settle_46 : decode cX10_settle 46 = .ok (.ifCond .le 7, 3) := by decide +kernel
theorem dX10_settle_49 : decode cX10_settle 49 = .ok (.lload_n 3, 1) := by decide +kernel
theorem dX10_settle_50 : decode cX10_settle 50 = .ok (.goto 4, 3) := by decide +kernel
theorem dX10_settle_53 : decode cX10_settle 53 = .ok (.lconst 0, 1) := by decide +kernel
theorem dX10_settle_54 : decode cX10_settle 54 = .ok (.ladd, 1) := by decide +kernel
theorem dX10_settle_55 : decode cX10_settle 55 = .ok (.lastore, 1) := by decide +kernel
theorem dX10_settle_56 : decode cX10_settle 56 = .ok (.aload_n 0, 1) := by decide +kernel
theorem dX10_settle_57 : decode cX10_settle 57 = .ok (.getfield 76, 3) := by decide +kernel
theorem dX10_settle_60 : decode cX10_settle 60 = .ok (.iload_n 2, 1) := by decide +kernel
theorem dX10_settle_61 : decode cX10_settle 61 = .ok (.dup2, 1) := by decide +kernel
theorem dX10_settle_62 : decode cX10_settle 62 = .ok (.laload, 1) := by decide +kernel
theorem dX10_settle_63 : decode cX10_settle 63 = .ok (.lload_n 3, 1) := by decide +kernel
theorem dX10_settle_64 : decode cX10_settle 64 = .ok (.lconst 0, 1) := by decide +kernel
theorem dX10_settle_65 : decode cX10_settle 65 = .ok (.lcmp, 1) := by decide +kernel
theorem dX10_settle_66 : decode cX10_settle 66 = .ok (.ifCond .ge 8, 3) := by decide +kernel
theorem dX10_settle_69 : decode cX10_settle 69 = .ok (.lload_n 3, 1) := by decide +kernel
theorem dX10_settle_70 : decode cX10_settle 70 = .ok (.lneg, 1) := by decide +kernel
theorem dX10_settle_71 : decode cX10_settle 71 = .ok (.goto 4, 3) := by decide +kernel
theorem dX10_settle_74 : decode cX10_settle 74 = .ok (.lconst 0, 1) := by decide +kernel
theorem dX10_settle_75 : decode cX10_settle 75 = .ok (.ladd, 1) := by decide +kernel
theorem dX10_settle_76 : decode cX10_settle 76 = .ok (.lastore, 1) := by decide +kernel
theorem dX10_settle_77 : decode cX10_settle 77 = .ok (.iload_n 1, 1) := by decide +kernel
theorem dX10_settle_78 : decode cX10_settle 78 = .ok (.lload_n 3, 1) := by decide +kernel
theorem dX10_settle_79 : decode cX10_settle 79 = .ok (.lconst 0, 1) := by decide +kernel
theorem dX10_settle_80 : decode cX10_settle 80 = .ok (.lcmp, 1) := by decide +kernel
theorem dX10_settle_81 : decode cX10_settle 81 = .ok (.ifCond .ge 9, 3) := by decide +kernel
theorem dX10_settle_84 : decode cX10_settle 84 = .ok (.lload_n 3, 1) := by decide +kernel
theorem dX10_settle_85 : decode cX10_settle 85 = .ok (.lneg, 1) := by decide +kernel
theorem dX10_settle_86 : decode cX10_settle 86 = .ok (.l2i, 1) := by decide +kernel
theorem dX10_settle_87 : decode cX10_settle 87 = .ok (.goto 4, 3) := by decide +kernel
theorem dX10_settle_90 : decode cX10_settle 90 = .ok (.iconst 0, 1) := by decide +kernel
theorem dX10_settle_91 : decode cX10_settle 91 = .ok (.iadd, 1) := by decide +kernel
theorem dX10_settle_92 : decode cX10_settle 92 = .ok (.istore_n 1, 1) := by decide +kernel
theorem dX10_settle_93 : decode cX10_settle 93 = .ok (.iinc 2 1, 3) := by decide +kernel
theorem dX10_settle_96 : decode cX10_settle 96 = .ok (.goto (-87), 3) := by decide +kernel
theorem dX10_settle_99 : decode cX10_settle 99 = .ok (.iload_n 1, 1) := by decide +kernel
theorem dX10_settle_100 : decode cX10_settle 100 = .ok (.ireturn, 1) := by decide +kernel
theorem dX10_billed_0 : decode cX10_billed 0 = .ok (.aload_n 0, 1) := by decide +kernel
theorem dX10_billed_1 : decode cX10_billed 1 = .ok (.iload_n 1, 1) := by decide +kernel
theorem dX10_billed_2 : decode cX10_billed 2 = .ok (.invokestatic 146, 3) := by decide +kernel
theorem dX10_billed_5 : decode cX10_billed 5 = .ok (.ifCond .eq 7, 3) := by decide +kernel
theorem dX10_billed_8 : decode cX10_billed 8 = .ok (.iconst 0, 1) := by decide +kernel
theorem dX10_billed_9 : decode cX10_billed 9 = .ok (.goto 4, 3) := by decide +kernel
theorem dX10_billed_12 : decode cX10_billed 12 = .ok (.iconst 1, 1) := by decide +kernel
theorem dX10_billed_13 : decode cX10_billed 13 = .ok (.invokevirtual 117, 3) := by decide +kernel
theorem dX10_billed_16 : decode cX10_billed 16 = .ok (.ifCond .eq 12, 3) := by decide +kernel
theorem dX10_billed_19 : decode cX10_billed 19 = .ok (.aload_n 0, 1) := by decide +kernel
theorem dX10_billed_20 : decode cX10_billed 20 = .ok (.getfield 72, 3) := by decide +kernel
theorem dX10_billed_23 : decode cX10_billed 23 = .ok (.iload_n 1, 1) := by decide +kernel
theorem dX10_billed_24 : decode cX10_billed 24 = .ok (.laload, 1) := by decide +kernel
theorem dX10_billed_25 : decode cX10_billed 25 = .ok (.goto 4, 3) := by decide +kernel
theorem dX10_billed_28 : decode cX10_billed 28 = .ok (.lconst 0, 1) := by decide +kernel
theorem dX10_billed_29 : decode cX10_billed 29 = .ok (.lreturn, 1) := by decide +kernel
theorem dX10_paidBack_0 : decode cX10_paidBack 0 = .ok (.aload_n 0, 1) := by decide +kernel
theorem dX10_paidBack_1 : decode cX10_paidBack 1 = .ok (.iload_n 1, 1) := by decide +kernel
theorem dX10_paidBack_2 : decode cX10_paidBack 2 = .ok (.invokestatic 146, 3) := by decide +kernel
theorem dX10_paidBack_5 : decode cX10_paidBack 5 = .ok (.ifCond .eq 7, 3) := by decide +kernel
theorem dX10_paidBack_8 : decode cX10_paidBack 8 = .ok (.iconst 0, 1) := by decide +kernel
theorem dX10_paidBack_9 : decode cX10_paidBack 9 = .ok (.goto 4, 3) := by decide +kernel
theorem dX10_paidBack_12 : decode cX10_paidBack 12 = .ok (.iconst 1, 1) := by decide +kernel
theorem dX10_paidBack_13 : decode cX10_paidBack 13 = .ok (.invokevirtual 117, 3) := by decide +kernel
theorem dX10_paidBack_16 : decode cX10_paidBack 16 = .ok (.ifCond .eq 12, 3) := by decide +kernel
theorem dX10_paidBack_19 : decode cX10_paidBack 19 = .ok (.aload_n 0, 1) := by decide +kernel
theorem dX10_paidBack_20 : decode cX10_paidBack 20 = .ok (.getfield 76, 3) := by decide +kernel
theorem dX10_paidBack_23 : decode cX10_paidBack 23 = .ok (.iload_n 1, 1) := by decide +kernel
theorem dX10_paidBack_24 : decode cX10_paidBack 24 = .ok (.laload, 1) := by decide +kernel
theorem dX10_paidBack_25 : decode cX10_paidBack 25 = .ok (.goto 4, 3) := by decide +kernel
theorem dX10_paidBack_28 : decode cX10_paidBack 28 = .ok (.lconst 0, 1) := by decide +kernel
theorem dX10_paidBack_29 : decode cX10_paidBack 29 = .ok (.lreturn, 1) := by decide +kernel
theorem dX10_warrant_0 : decode cX10_warrant 0 = .ok (.aload_n 0, 1) := by decide +kernel
theorem dX10_warrant_1 : decode cX10_warrant 1 = .ok (.iload_n 1, 1) := by decide +kernel
theorem dX10_warrant_2 : decode cX10_warrant 2 = .ok (.invokevirtual 160, 3) := by decide +kernel
theorem dX10_warrant_5 : decode cX10_warrant 5 = .ok (.istore 4, 2) := by decide +kernel
theorem dX10_warrant_7 : decode cX10_warrant 7 = .ok (.iload_n 2, 1) := by decide +kernel
theorem dX10_warrant_8 : decode cX10_warrant 8 = .ok (.iconst 0, 1) := by decide +kernel
theorem dX10_warrant_9 : decode cX10_warrant 9 = .ok (.bipush 34, 2) := by decide +kernel
theorem dX10_warrant_11 : decode cX10_warrant 11 = .ok (.invokestatic 103, 3) := by decide +kernel
theorem dX10_warrant_14 : decode cX10_warrant 14 = .ok (.ifCond .eq 17, 3) := by decide +kernel
theorem dX10_warrant_17 : decode cX10_warrant 17 = .ok (.iload_n 3, 1) := by decide +kernel
theorem dX10_warrant_18 : decode cX10_warrant 18 = .ok (.iload_n 2, 1) := by decide +kernel
theorem dX10_warrant_19 : decode cX10_warrant 19 = .ok (.bipush 34, 2) := by decide +kernel
theorem dX10_warrant_21 : decode cX10_warrant 21 = .ok (.invokestatic 103, 3) := by decide +kernel
theorem dX10_warrant_24 : decode cX10_warrant 24 = .ok (.ifCond .eq 7, 3) := by decide +kernel
theorem dX10_warrant_27 : decode cX10_warrant 27 = .ok (.iconst 1, 1) := by decide +kernel
theorem dX10_warrant_28 : decode cX10_warrant 28 = .ok (.goto 4, 3) := by decide +kernel
theorem dX10_warrant_31 : decode cX10_warrant 31 = .ok (.iconst 0, 1) := by decide +kernel
theorem dX10_warrant_32 : decode cX10_warrant 32 = .ok (.istore 5, 2) := by decide +kernel
theorem dX10_warrant_34 : decode cX10_warrant 34 = .ok (.aload_n 0, 1) := by decide +kernel
theorem dX10_warrant_35 : decode cX10_warrant 35 = .ok (.iload 4, 2) := by decide +kernel
theorem dX10_warrant_37 : decode cX10_warrant 37 = .ok (.ifCond .ne 7, 3) := by decide +kernel
theorem dX10_warrant_40 : decode cX10_warrant 40 = .ok (.iconst 1, 1) := by decide +kernel
theorem dX10_warrant_41 : decode cX10_warrant 41 = .ok (.goto 26, 3) := by decide +kernel
theorem dX10_warrant_44 : decode cX10_warrant 44 = .ok (.iload 5, 2) := by decide +kernel
theorem dX10_warrant_46 : decode cX10_warrant 46 = .ok (.ifCond .ne 7, 3) := by decide +kernel
theorem dX10_warrant_49 : decode cX10_warrant 49 = .ok (.iconst 2, 1) := by decide +kernel
theorem dX10_warrant_50 : decode cX10_warrant 50 = .ok (.goto 17, 3) := by decide +kernel
theorem dX10_warrant_53 : decode cX10_warrant 53 = .ok (.aload_n 0, 1) := by decide +kernel
theorem dX10_warrant_54 : decode cX10_warrant 54 = .ok (.getfield 210, 3) := by decide +kernel
theorem dX10_warrant_57 : decode cX10_warrant 57 = .ok (.bipush 8, 2) := by decide +kernel
theorem dX10_warrant_59 : decode cX10_warrant 59 = .ok (.if_icmp .ne 7, 3) := by decide +kernel
theorem dX10_warrant_62 : decode cX10_warrant 62 = .ok (.iconst 3, 1) := by decide +kernel
theorem dX10_warrant_63 : decode cX10_warrant 63 = .ok (.goto 4, 3) := by decide +kernel
theorem dX10_warrant_66 : decode cX10_warrant 66 = .ok (.iconst 0, 1) := by decide +kernel
theorem dX10_warrant_67 : decode cX10_warrant 67 = .ok (.invokevirtual 117, 3) := by decide +kernel
theorem dX10_warrant_70 : decode cX10_warrant 70 = .ok (.ifCond .ne 5, 3) := by decide +kernel
theorem dX10_warrant_73 : decode cX10_warrant 73 = .ok (.iconst 0, 1) := by decide +kernel
theorem dX10_warrant_74 : decode cX10_warrant 74 = .ok (.ireturn, 1) := by decide +kernel
theorem dX10_warrant_75 : decode cX10_warrant 75 = .ok (.aload_n 0, 1) := by decide +kernel
theorem dX10_warrant_76 : decode cX10_warrant 76 = .ok (.getfield 79, 3) := by decide +kernel
theorem dX10_warrant_79 : decode cX10_warrant 79 = .ok (.aload_n 0, 1) := by decide +kernel
theorem dX10_warrant_80 : decode cX10_warrant 80 = .ok (.getfield 210, 3) := by decide +kernel
theorem dX10_warrant_83 : decode cX10_warrant 83 = .ok (.iload_n 1, 1) := by decide +kernel
theorem dX10_warrant_84 : decode cX10_warrant 84 = .ok (.iastore, 1) := by decide +kernel
theorem dX10_warrant_85 : decode cX10_warrant 85 = .ok (.aload_n 0, 1) := by decide +kernel
theorem dX10_warrant_86 : decode cX10_warrant 86 = .ok (.getfield 82, 3) := by decide +kernel
theorem dX10_warrant_89 : decode cX10_warrant 89 = .ok (.aload_n 0, 1) := by decide +kernel
theorem dX10_warrant_90 : decode cX10_warrant 90 = .ok (.getfield 210, 3) := by decide +kernel
theorem dX10_warrant_93 : decode cX10_warrant 93 = .ok (.iload_n 2, 1) := by decide +kernel
theorem dX10_warrant_94 : decode cX10_warrant 94 = .ok (.iastore, 1) := by decide +kernel
theorem dX10_warrant_95 : decode cX10_warrant 95 = .ok (.aload_n 0, 1) := by decide +kernel
theorem dX10_warrant_96 : decode cX10_warrant 96 = .ok (.getfield 85, 3) := by decide +kernel
theorem dX10_warrant_99 : decode cX10_warrant 99 = .ok (.aload_n 0, 1) := by decide +kernel
theorem dX10_warrant_100 : decode cX10_warrant 100 = .ok (.getfield 210, 3) := by decide +kernel
theorem dX10_warrant_103 : decode cX10_warrant 103 = .ok (.iload_n 3, 1) := by decide +kernel
theorem dX10_warrant_104 : decode cX10_warrant 104 = .ok (.iastore, 1) := by decide +kernel
theorem dX10_warrant_105 : decode cX10_warrant 105 = .ok (.aload_n 0, 1) := by decide +kernel
theorem dX10_warrant_106 : decode cX10_warrant 106 = .ok (.dup, 1) := by decide +kernel
theorem dX10_warrant_107 : decode cX10_warrant 107 = .ok (.getfield 210, 3) := by decide +kernel
theorem dX10_warrant_110 : decode cX10_warrant 110 = .ok (.iconst 1, 1) := by decide +kernel
theorem dX10_warrant_111 : decode cX10_warrant 111 = .ok (.iadd, 1) := by decide +kernel
theorem dX10_warrant_112 : decode cX10_warrant 112 = .ok (.putfield 210, 3) := by decide +kernel
theorem dX10_warrant_115 : decode cX10_warrant 115 = .ok (.aload_n 0, 1) := by decide +kernel
theorem dX10_warrant_116 : decode cX10_warrant 116 = .ok (.getfield 210, 3) := by decide +kernel
theorem dX10_warrant_119 : decode cX10_warrant 119 = .ok (.iconst 1, 1) := by decide +kernel
theorem dX10_warrant_120 : decode cX10_warrant 120 = .ok (.isub, 1) := by decide +kernel
theorem dX10_warrant_121 : decode cX10_warrant 121 = .ok (.ireturn, 1) := by decide +kernel
theorem dX10_shows_0 : decode cX10_shows 0 = .ok (.aload_n 0, 1) := by decide +kernel
theorem dX10_shows_1 : decode cX10_shows 1 = .ok (.getfield 79, 3) := by decide +kernel
theorem dX10_shows_4 : decode cX10_shows 4 = .ok (.iload_n 1, 1) := by decide +kernel
theorem dX10_shows_5 : decode cX10_shows 5 = .ok (.iaload, 1) := by decide +kernel
theorem dX10_shows_6 : decode cX10_shows 6 = .ok (.istore_n 3, 1) := by decide +kernel
theorem dX10_shows_7 : decode cX10_shows 7 = .ok (.iload_n 2, 1) := by decide +kernel
theorem dX10_shows_8 : decode cX10_shows 8 = .ok (.istore 4, 2) := by decide +kernel
theorem dX10_shows_10 : decode cX10_shows 10 = .ok (.iconst (-1), 1) := by decide +kernel
theorem dX10_shows_11 : decode cX10_shows 11 = .ok (.istore 5, 2) := by decide +kernel
theorem dX10_shows_13 : decode cX10_shows 13 = .ok (.iconst 0, 1) := by decide +kernel
theorem dX10_shows_14 : decode cX10_shows 14 = .ok (.istore 6, 2) := by decide +kernel
theorem dX10_shows_16 : decode cX10_shows 16 = .ok (.iconst (-1), 1) := by decide +kernel
theorem dX10_shows_17 : decode cX10_shows 17 = .ok (.istore 7, 2) := by decide +kernel
theorem dX10_shows_19 : decode cX10_shows 19 = .ok (.aload_n 0, 1) := by decide +kernel
theorem dX10_shows_20 : decode cX10_shows 20 = .ok (.iload_n 3, 1) := by decide +kernel
theorem dX10_shows_21 : decode cX10_shows 21 = .ok (.invokevirtual 195, 3) := by decide +kernel
theorem dX10_shows_24 : decode cX10_shows 24 = .ok (.pop, 1) := by decide +kernel
theorem dX10_shows_25 : decode cX10_shows 25 = .ok (.aload_n 0, 1) := by decide +kernel
theorem dX10_shows_26 : decode cX10_shows 26 = .ok (.iload_n 3, 1) := by decide +kernel
theorem dX10_shows_27 : decode cX10_shows 27 = .ok (.iconst (-1), 1) := by decide +kernel
theorem dX10_shows_28 : decode cX10_shows 28 = .ok (.invokevirtual 189, 3) := by decide +kernel
theorem dX10_shows_31 : decode cX10_shows 31 = .ok (.istore 8, 2) := by decide +kernel
theorem dX10_shows_33 : decode cX10_shows 33 = .ok (.iload 8, 2) := by decide +kernel
theorem dX10_shows_35 : decode cX10_shows 35 = .ok (.iconst (-1), 1) := by decide +kernel
theorem dX10_shows_36 : decode cX10_shows 36 = .ok (.if_icmp .eq 128, 3) := by decide +kernel
theorem dX10_shows_39 : decode cX10_shows 39 = .ok (.iload_n 2, 1) := by decide +kernel
theorem dX10_shows_40 : decode cX10_shows 40 = .ok (.ifCond .lt 124, 3) := by decide +kernel
theorem dX10_shows_43 : decode cX10_shows 43 = .ok (.iload 5, 2) := by decide +kernel
theorem dX10_shows_45 : decode cX10_shows 45 = .ok (.iconst (-1), 1) := by decide +kernel
theorem dX10_shows_46 : decode cX10_shows 46 = .ok (.if_icmp .ne 118, 3) := by decide +kernel
theorem dX10_shows_49 : decode cX10_shows 49 = .ok (.aload_n 0, 1) := by decide +kernel
theorem dX10_shows_50 : decode cX10_shows 50 = .ok (.getfield 69, 3) := by decide +kernel
theorem dX10_shows_53 : decode cX10_shows 53 = .ok (.iload 8, 2) := by decide +kernel
theorem dX10_shows_55 : decode cX10_shows 55 = .ok (.iaload, 1) := by decide +kernel
theorem dX10_shows_56 : decode cX10_shows 56 = .ok (.iload 7, 2) := by decide +kernel
theorem dX10_shows_58 : decode cX10_shows 58 = .ok (.if_icmp .ne 8, 3) := by decide +kernel
theorem dX10_shows_61 : decode cX10_shows 61 = .ok (.iload 6, 2) := by decide +kernel
theorem dX10_shows_63 : decode cX10_shows 63 = .ok (.goto 29, 3) := by decide +kernel
theorem dX10_shows_66 : decode cX10_shows 66 = .ok (.aload_n 0, 1) := by decide +kernel
theorem dX10_shows_67 : decode cX10_shows 67 = .ok (.getfield 51, 3) := by decide +kernel
theorem dX10_shows_70 : decode cX10_shows 70 = .ok (.iload 8, 2) := by decide +kernel
theorem dX10_shows_72 : decode cX10_shows 72 = .ok (.iaload, 1) := by decide +kernel
theorem dX10_shows_73 : decode cX10_shows 73 = .ok (.sipush 1440, 3) := by decide +kernel
theorem dX10_shows_76 : decode cX10_shows 76 = .ok (.idiv, 1) := by decide +kernel
theorem dX10_shows_77 : decode cX10_shows 77 = .ok (.aload_n 0, 1) := by decide +kernel
theorem dX10_shows_78 : decode cX10_shows 78 = .ok (.getfield 82, 3) := by decide +kernel
theorem dX10_shows_81 : decode cX10_shows 81 = .ok (.iload_n 1, 1) := by decide +kernel
theorem dX10_shows_82 : decode cX10_shows 82 = .ok (.iaload, 1) := by decide +kernel
theorem dX10_shows_83 : decode cX10_shows 83 = .ok (.aload_n 0, 1) := by decide +kernel
theorem dX10_shows_84 : decode cX10_shows 84 = .ok (.getfield 85, 3) := by decide +kernel
theorem dX10_shows_87 : decode cX10_shows 87 = .ok (.iload_n 1, 1) := by decide +kernel
theorem dX10_shows_88 : decode cX10_shows 88 = .ok (.iaload, 1) := by decide +kernel
theorem dX10_shows_89 : decode cX10_shows 89 = .ok (.invokestatic 103, 3) := by decide +kernel
theorem dX10_shows_92 : decode cX10_shows 92 = .ok (.istore 6, 2) := by decide +kernel
theorem dX10_shows_94 : decode cX10_shows 94 = .ok (.aload_n 0, 1) := by decide +kernel
theorem dX10_shows_95 : decode cX10_shows 95 = .ok (.getfield 69, 3) := by decide +kernel
theorem dX10_shows_98 : decode cX10_shows 98 = .ok (.iload 8, 2) := by decide +kernel
theorem dX10_shows_100 : decode cX10_shows 100 = .ok (.iaload, 1) := by decide +kernel
theorem dX10_shows_101 : decode cX10_shows 101 = .ok (.istore 7, 2) := by decide +kernel
theorem dX10_shows_103 : decode cX10_shows 103 = .ok (.iload 6, 2) := by decide +kernel
theorem dX10_shows_105 : decode cX10_shows 105 = .ok (.ifCond .eq 29, 3) := by decide +kernel
theorem dX10_shows_108 : decode cX10_shows 108 = .ok (.iload 4, 2) := by decide +kernel
theorem dX10_shows_110 : decode cX10_shows 110 = .ok (.ifCond .ne 24, 3) := by decide +kernel
theorem dX10_shows_113 : decode cX10_shows 113 = .ok (.ldc 213, 2) := by decide +kernel
theorem dX10_shows_115 : decode cX10_shows 115 = .ok (.aload_n 0, 1) := by decide +kernel
theorem dX10_shows_116 : decode cX10_shows 116 = .ok (.getfield 48, 3) := by decide +kernel
theorem dX10_shows_119 : decode cX10_shows 119 = .ok (.iload 8, 2) := by decide +kernel
theorem dX10_shows_121 : decode cX10_shows 121 = .ok (.iaload, 1) := by decide +kernel
theorem dX10_shows_122 : decode cX10_shows 122 = .ok (.imul, 1) := by decide +kernel
theorem dX10_shows_123 : decode cX10_shows 123 = .ok (.aload_n 0, 1) := by decide +kernel
theorem dX10_shows_124 : decode cX10_shows 124 = .ok (.getfield 51, 3) := by decide +kernel
theorem dX10_shows_127 : decode cX10_shows 127 = .ok (.iload 8, 2) := by decide +kernel
theorem dX10_shows_129 : decode cX10_shows 129 = .ok (.iaload, 1) := by decide +kernel
theorem dX10_shows_130 : decode cX10_shows 130 = .ok (.iadd, 1) := by decide +kernel
theorem dX10_shows_131 : decode cX10_shows 131 = .ok (.goto 4, 3) := by decide +kernel
theorem dX10_shows_134 : decode cX10_shows 134 = .ok (.iconst (-1), 1) := by decide +kernel
theorem dX10_shows_135 : decode cX10_shows 135 = .ok (.istore 5, 2) := by decide +kernel
theorem dX10_shows_137 : decode cX10_shows 137 = .ok (.iload 4, 2) := by decide +kernel
theorem dX10_shows_139 : decode cX10_shows 139 = .ok (.iload 6, 2) := by decide +kernel
theorem dX10_shows_141 : decode cX10_shows 141 = .ok (.ifCond .eq 7, 3) := by decide +kernel
theorem dX10_shows_144 : decode cX10_shows 144 = .ok (.iconst 1, 1) := by decide +kernel
theorem dX10_shows_145 : decode cX10_shows 145 = .ok (.goto 4, 3) := by decide +kernel
theorem dX10_shows_148 : decode cX10_shows 148 = .ok (.iconst 0, 1) := by decide +kernel
theorem dX10_shows_149 : decode cX10_shows 149 = .ok (.isub, 1) := by decide +kernel
theorem dX10_shows_150 : decode cX10_shows 150 = .ok (.istore 4, 2) := by decide +kernel
theorem dX10_shows_152 : decode cX10_shows 152 = .ok (.aload_n 0, 1) := by decide +kernel
theorem dX10_shows_153 : decode cX10_shows 153 = .ok (.iload_n 3, 1) := by decide +kernel
theorem dX10_shows_154 : decode cX10_shows 154 = .ok (.iload 8, 2) := by decide +kernel
theorem dX10_shows_156 : decode cX10_shows 156 = .ok (.invokevirtual 189, 3) := by decide +kernel
theorem dX10_shows_159 : decode cX10_shows 159 = .ok (.istore 8, 2) := by decide +kernel
theorem dX10_shows_161 : decode cX10_shows 161 = .ok (.goto (-128), 3) := by decide +kernel
theorem dX10_shows_164 : decode cX10_shows 164 = .ok (.iload 5, 2) := by decide +kernel
theorem dX10_shows_166 : decode cX10_shows 166 = .ok (.ireturn, 1) := by decide +kernel
theorem dX10_isWarrant_0 : decode cX10_isWarrant 0 = .ok (.iload_n 1, 1) := by decide +kernel
theorem dX10_isWarrant_1 : decode cX10_isWarrant 1 = .ok (.iconst 0, 1) := by decide +kernel
theorem dX10_isWarrant_2 : decode cX10_isWarrant 2 = .ok (.aload_n 0, 1) := by decide +kernel
theorem dX10_isWarrant_3 : decode cX10_isWarrant 3 = .ok (.getfield 210, 3) := by decide +kernel
theorem dX10_isWarrant_6 : decode cX10_isWarrant 6 = .ok (.iconst 1, 1) := by decide +kernel
theorem dX10_isWarrant_7 : decode cX10_isWarrant 7 = .ok (.isub, 1) := by decide +kernel
theorem dX10_isWarrant_8 : decode cX10_isWarrant 8 = .ok (.invokestatic 103, 3) := by decide +kernel
theorem dX10_isWarrant_11 : decode cX10_isWarrant 11 = .ok (.ireturn, 1) := by decide +kernel
theorem dX10_ask_0 : decode cX10_ask 0 = .ok (.aload_n 0, 1) := by decide +kernel
theorem dX10_ask_1 : decode cX10_ask 1 = .ok (.iload_n 1, 1) := by decide +kernel
theorem dX10_ask_2 : decode cX10_ask 2 = .ok (.invokevirtual 214, 3) := by decide +kernel
theorem dX10_ask_5 : decode cX10_ask 5 = .ok (.istore_n 3, 1) := by decide +kernel
theorem dX10_ask_6 : decode cX10_ask 6 = .ok (.aload_n 0, 1) := by decide +kernel
theorem dX10_ask_7 : decode cX10_ask 7 = .ok (.getfield 217, 3) := by decide +kernel
theorem dX10_ask_10 : decode cX10_ask 10 = .ok (.bipush 40, 2) := by decide +kernel
theorem dX10_ask_12 : decode cX10_ask 12 = .ok (.if_icmp .ne 7, 3) := by decide +kernel
theorem dX10_ask_15 : decode cX10_ask 15 = .ok (.iconst 1, 1) := by decide +kernel
theorem dX10_ask_16 : decode cX10_ask 16 = .ok (.goto 4, 3) := by decide +kernel
theorem dX10_ask_19 : decode cX10_ask 19 = .ok (.iconst 0, 1) := by decide +kernel
theorem dX10_ask_20 : decode cX10_ask 20 = .ok (.istore 4, 2) := by decide +kernel
theorem dX10_ask_22 : decode cX10_ask 22 = .ok (.iload_n 3, 1) := by decide +kernel
theorem dX10_ask_23 : decode cX10_ask 23 = .ok (.ifCond .eq 17, 3) := by decide +kernel
theorem dX10_ask_26 : decode cX10_ask 26 = .ok (.iload 4, 2) := by decide +kernel
theorem dX10_ask_28 : decode cX10_ask 28 = .ok (.ifCond .ne 12, 3) := by decide +kernel
theorem dX10_ask_31 : decode cX10_ask 31 = .ok (.aload_n 0, 1) := by decide +kernel
theorem dX10_ask_32 : decode cX10_ask 32 = .ok (.iload_n 1, 1) := by decide +kernel
theorem dX10_ask_33 : decode cX10_ask 33 = .ok (.iload_n 2, 1) := by decide +kernel
theorem dX10_ask_34 : decode cX10_ask 34 = .ok (.invokevirtual 220, 3) := by decide +kernel
theorem dX10_ask_37 : decode cX10_ask 37 = .ok (.goto 4, 3) := by decide +kernel
theorem dX10_ask_40 : decode cX10_ask 40 = .ok (.iconst (-1), 1) := by decide +kernel
theorem dX10_ask_41 : decode cX10_ask 41 = .ok (.istore 5, 2) := by decide +kernel
theorem dX10_ask_43 : decode cX10_ask 43 = .ok (.aload_n 0, 1) := by decide +kernel
theorem dX10_ask_44 : decode cX10_ask 44 = .ok (.iload_n 3, 1) := by decide +kernel
theorem dX10_ask_45 : decode cX10_ask 45 = .ok (.ifCond .ne 7, 3) := by decide +kernel
theorem dX10_ask_48 : decode cX10_ask 48 = .ok (.iconst 1, 1) := by decide +kernel
theorem dX10_ask_49 : decode cX10_ask 49 = .ok (.goto 23, 3) := by decide +kernel
theorem dX10_ask_52 : decode cX10_ask 52 = .ok (.iload 4, 2) := by decide +kernel
theorem dX10_ask_54 : decode cX10_ask 54 = .ok (.ifCond .eq 7, 3) := by decide +kernel
theorem dX10_ask_57 : decode cX10_ask 57 = .ok (.iconst 2, 1) := by decide +kernel
theorem dX10_ask_58 : decode cX10_ask 58 = .ok (.goto 14, 3) := by decide +kernel
theorem dX10_ask_61 : decode cX10_ask 61 = .ok (.iload 5, 2) := by decide +kernel
theorem dX10_ask_63 : decode cX10_ask 63 = .ok (.iconst (-1), 1) := by decide +kernel
theorem dX10_ask_64 : decode cX10_ask 64 = .ok (.if_icmp .ne 7, 3) := by decide +kernel
theorem dX10_ask_67 : decode cX10_ask 67 = .ok (.iconst 3, 1) := by decide +kernel
theorem dX10_ask_68 : decode cX10_ask 68 = .ok (.goto 4, 3) := by decide +kernel
theorem dX10_ask_71 : decode cX10_ask 71 = .ok (.iconst 0, 1) := by decide +kernel
theorem dX10_ask_72 : decode cX10_ask 72 = .ok (.invokevirtual 117, 3) := by decide +kernel
theorem dX10_ask_75 : decode cX10_ask 75 = .ok (.ifCond .ne 5, 3) := by decide +kernel
theorem dX10_ask_78 : decode cX10_ask 78 = .ok (.iconst 0, 1) := by decide +kernel
theorem dX10_ask_79 : decode cX10_ask 79 = .ok (.ireturn, 1) := by decide +kernel
theorem dX10_ask_80 : decode cX10_ask 80 = .ok (.aload_n 0, 1) := by decide +kernel
theorem dX10_ask_81 : decode cX10_ask 81 = .ok (.getfield 88, 3) := by decide +kernel
theorem dX10_ask_84 : decode cX10_ask 84 = .ok (.aload_n 0, 1) := by decide +kernel
theorem dX10_ask_85 : decode cX10_ask 85 = .ok (.getfield 217, 3) := by decide +kernel
theorem dX10_ask_88 : decode cX10_ask 88 = .ok (.iload_n 1, 1) := by decide +kernel
theorem dX10_ask_89 : decode cX10_ask 89 = .ok (.iastore, 1) := by decide +kernel
theorem dX10_ask_90 : decode cX10_ask 90 = .ok (.aload_n 0, 1) := by decide +kernel
theorem dX10_ask_91 : decode cX10_ask 91 = .ok (.getfield 91, 3) := by decide +kernel
theorem dX10_ask_94 : decode cX10_ask 94 = .ok (.aload_n 0, 1) := by decide +kernel
theorem dX10_ask_95 : decode cX10_ask 95 = .ok (.getfield 217, 3) := by decide +kernel
theorem dX10_ask_98 : decode cX10_ask 98 = .ok (.iload_n 2, 1) := by decide +kernel
theorem dX10_ask_99 : decode cX10_ask 99 = .ok (.iastore, 1) := by decide +kernel
theorem dX10_ask_100 : decode cX10_ask 100 = .ok (.aload_n 0, 1) := by decide +kernel
theorem dX10_ask_101 : decode cX10_ask 101 = .ok (.getfield 94, 3) := by decide +kernel
theorem dX10_ask_104 : decode cX10_ask 104 = .ok (.aload_n 0, 1) := by decide +kernel
theorem dX10_ask_105 : decode cX10_ask 105 = .ok (.getfield 217, 3) := by decide +kernel
theorem dX10_ask_108 : decode cX10_ask 108 = .ok (.iload 5, 2) := by decide +kernel
theorem dX10_ask_110 : decode cX10_ask 110 = .ok (.iastore, 1) := by decide +kernel
theorem dX10_ask_111 : decode cX10_ask 111 = .ok (.aload_n 0, 1) := by decide +kernel
theorem dX10_ask_112 : decode cX10_ask 112 = .ok (.dup, 1) := by decide +kernel
theorem dX10_ask_113 : decode cX10_ask 113 = .ok (.getfield 217, 3) := by decide +kernel
theorem dX10_ask_116 : decode cX10_ask 116 = .ok (.iconst 1, 1) := by decide +kernel
theorem dX10_ask_117 : decode cX10_ask 117 = .ok (.iadd, 1) := by decide +kernel
theorem dX10_ask_118 : decode cX10_ask 118 = .ok (.putfield 217, 3) := by decide +kernel
theorem dX10_ask_121 : decode cX10_ask 121 = .ok (.iload 5, 2) := by decide +kernel
theorem dX10_ask_123 : decode cX10_ask 123 = .ok (.ireturn, 1) := by decide +kernel
theorem dX10_stale_0 : decode cX10_stale 0 = .ok (.aload_n 0, 1) := by decide +kernel
theorem dX10_stale_1 : decode cX10_stale 1 = .ok (.aload_n 0, 1) := by decide +kernel
theorem dX10_stale_2 : decode cX10_stale 2 = .ok (.iload_n 1, 1) := by decide +kernel
theorem dX10_stale_3 : decode cX10_stale 3 = .ok (.invokevirtual 214, 3) := by decide +kernel
theorem dX10_stale_6 : decode cX10_stale 6 = .ok (.ifCond .eq 7, 3) := by decide +kernel
theorem dX10_stale_9 : decode cX10_stale 9 = .ok (.iconst 0, 1) := by decide +kernel
theorem dX10_stale_10 : decode cX10_stale 10 = .ok (.goto 4, 3) := by decide +kernel
theorem dX10_stale_13 : decode cX10_stale 13 = .ok (.iconst 1, 1) := by decide +kernel
theorem dX10_stale_14 : decode cX10_stale 14 = .ok (.invokevirtual 117, 3) := by decide +kernel
theorem dX10_stale_17 : decode cX10_stale 17 = .ok (.ifCond .ne 5, 3) := by decide +kernel
theorem dX10_stale_20 : decode cX10_stale 20 = .ok (.iconst 0, 1) := by decide +kernel
theorem dX10_stale_21 : decode cX10_stale 21 = .ok (.ireturn, 1) := by decide +kernel
theorem dX10_stale_22 : decode cX10_stale 22 = .ok (.iconst 0, 1) := by decide +kernel
theorem dX10_stale_23 : decode cX10_stale 23 = .ok (.istore_n 2, 1) := by decide +kernel
theorem dX10_stale_24 : decode cX10_stale 24 = .ok (.iconst 0, 1) := by decide +kernel
theorem dX10_stale_25 : decode cX10_stale 25 = .ok (.istore_n 3, 1) := by decide +kernel
theorem dX10_stale_26 : decode cX10_stale 26 = .ok (.iload_n 3, 1) := by decide +kernel
theorem dX10_stale_27 : decode cX10_stale 27 = .ok (.aload_n 0, 1) := by decide +kernel
theorem dX10_stale_28 : decode cX10_stale 28 = .ok (.getfield 217, 3) := by decide +kernel
theorem dX10_stale_31 : decode cX10_stale 31 = .ok (.if_icmp .ge 47, 3) := by decide +kernel
theorem dX10_stale_34 : decode cX10_stale 34 = .ok (.iload_n 2, 1) := by decide +kernel
theorem dX10_stale_35 : decode cX10_stale 35 = .ok (.aload_n 0, 1) := by decide +kernel
theorem dX10_stale_36 : decode cX10_stale 36 = .ok (.getfield 88, 3) := by decide +kernel
theorem dX10_stale_39 : decode cX10_stale 39 = .ok (.iload_n 3, 1) := by decide +kernel
theorem dX10_stale_40 : decode cX10_stale 40 = .ok (.iaload, 1) := by decide +kernel
theorem dX10_stale_41 : decode cX10_stale 41 = .ok (.iload_n 1, 1) := by decide +kernel
theorem dX10_stale_42 : decode cX10_stale 42 = .ok (.if_icmp .ne 27, 3) := by decide +kernel
theorem dX10_stale_45 : decode cX10_stale 45 = .ok (.aload_n 0, 1) := by decide +kernel
theorem dX10_stale_46 : decode cX10_stale 46 = .ok (.iload_n 1, 1) := by decide +kernel
theorem dX10_stale_47 : decode cX10_stale 47 = .ok (.aload_n 0, 1) := by decide +kernel
theorem dX10_stale_48 : decode cX10_stale 48 = .ok (.getfield 91, 3) := by decide +kernel
theorem dX10_stale_51 : decode cX10_stale 51 = .ok (.iload_n 3, 1) := by decide +kernel
theorem dX10_stale_52 : decode cX10_stale 52 = .ok (.iaload, 1) := by decide +kernel
theorem dX10_stale_53 : decode cX10_stale 53 = .ok (.invokevirtual 220, 3) := by decide +kernel
theorem dX10_stale_56 : decode cX10_stale 56 = .ok (.aload_n 0, 1) := by decide +kernel
theorem dX10_stale_57 : decode cX10_stale 57 = .ok (.getfield 94, 3) := by decide +kernel
theorem dX10_stale_60 : decode cX10_stale 60 = .ok (.iload_n 3, 1) := by decide +kernel
theorem dX10_stale_61 : decode cX10_stale 61 = .ok (.iaload, 1) := by decide +kernel
theorem dX10_stale_62 : decode cX10_stale 62 = .ok (.if_icmp .eq 7, 3) := by decide +kernel
theorem dX10_stale_65 : decode cX10_stale 65 = .ok (.iconst 1, 1) := by decide +kernel
theorem dX10_stale_66 : decode cX10_stale 66 = .ok (.goto 4, 3) := by decide +kernel
theorem dX10_stale_69 : decode cX10_stale 69 = .ok (.iconst 0, 1) := by decide +kernel
theorem dX10_stale_70 : decode cX10_stale 70 = .ok (.iadd, 1) := by decide +kernel
theorem dX10_stale_71 : decode cX10_stale 71 = .ok (.istore_n 2, 1) := by decide +kernel
theorem dX10_stale_72 : decode cX10_stale 72 = .ok (.iinc 3 1, 3) := by decide +kernel
theorem dX10_stale_75 : decode cX10_stale 75 = .ok (.goto (-49), 3) := by decide +kernel
theorem dX10_stale_78 : decode cX10_stale 78 = .ok (.iload_n 2, 1) := by decide +kernel
theorem dX10_stale_79 : decode cX10_stale 79 = .ok (.ireturn, 1) := by decide +kernel
theorem dL_pass_0 : decode cL_pass 0 = .ok (.aload_n 2, 1) := by decide +kernel
theorem dL_pass_1 : decode cL_pass 1 = .ok (.iconst 0, 1) := by decide +kernel
theorem dL_pass_2 : decode cL_pass 2 = .ok (.aload_n 0, 1) := by decide +kernel
theorem dL_pass_3 : decode cL_pass 3 = .ok (.iload_n 1, 1) := by decide +kernel
theorem dL_pass_4 : decode cL_pass 4 = .ok (.invokevirtual 7, 3) := by decide +kernel
theorem dL_pass_7 : decode cL_pass 7 = .ok (.i2l, 1) := by decide +kernel
theorem dL_pass_8 : decode cL_pass 8 = .ok (.lastore, 1) := by decide +kernel
theorem dL_pass_9 : decode cL_pass 9 = .ok (.goto 9, 3) := by decide +kernel
theorem dL_pass_12 : decode cL_pass 12 = .ok (.astore_n 3, 1) := by decide +kernel
theorem dL_pass_13 : decode cL_pass 13 = .ok (.iconst 1, 1) := by decide +kernel
theorem dL_pass_14 : decode cL_pass 14 = .ok (.ireturn, 1) := by decide +kernel
theorem dL_pass_15 : decode cL_pass 15 = .ok (.astore_n 3, 1) := by decide +kernel
theorem dL_pass_16 : decode cL_pass 16 = .ok (.iconst 2, 1) := by decide +kernel
theorem dL_pass_17 : decode cL_pass 17 = .ok (.ireturn, 1) := by decide +kernel
theorem dL_pass_18 : decode cL_pass 18 = .ok (.iconst 0, 1) := by decide +kernel
theorem dL_pass_19 : decode cL_pass 19 = .ok (.ireturn, 1) := by decide +kernel
theorem dL_road_0 : decode cL_road 0 = .ok (.aload 4, 2) := by decide +kernel
theorem dL_road_2 : decode cL_road 2 = .ok (.iconst 0, 1) := by decide +kernel
theorem dL_road_3 : decode cL_road 3 = .ok (.aload_n 0, 1) := by decide +kernel
theorem dL_road_4 : decode cL_road 4 = .ok (.iload_n 1, 1) := by decide +kernel
theorem dL_road_5 : decode cL_road 5 = .ok (.iload_n 2, 1) := by decide +kernel
theorem dL_road_6 : decode cL_road 6 = .ok (.iload_n 3, 1) := by decide +kernel
theorem dL_road_7 : decode cL_road 7 = .ok (.invokevirtual 17, 3) := by decide +kernel
theorem dL_road_10 : decode cL_road 10 = .ok (.i2l, 1) := by decide +kernel
theorem dL_road_11 : decode cL_road 11 = .ok (.lastore, 1) := by decide +kernel
theorem dL_road_12 : decode cL_road 12 = .ok (.goto 11, 3) := by decide +kernel
theorem dL_road_15 : decode cL_road 15 = .ok (.astore 5, 2) := by decide +kernel
theorem dL_road_17 : decode cL_road 17 = .ok (.iconst 1, 1) := by decide +kernel
theorem dL_road_18 : decode cL_road 18 = .ok (.ireturn, 1) := by decide +kernel
theorem dL_road_19 : decode cL_road 19 = .ok (.astore 5, 2) := by decide +kernel
theorem dL_road_21 : decode cL_road 21 = .ok (.iconst 2, 1) := by decide +kernel
theorem dL_road_22 : decode cL_road 22 = .ok (.ireturn, 1) := by decide +kernel
theorem dL_road_23 : decode cL_road 23 = .ok (.iconst 0, 1) := by decide +kernel
theorem dL_road_24 : decode cL_road 24 = .ok (.ireturn, 1) := by decide +kernel
theorem dL_distance_0 : decode cL_distance 0 = .ok (.aload_n 3, 1) := by decide +kernel
theorem dL_distance_1 : decode cL_distance 1 = .ok (.iconst 0, 1) := by decide +kernel
theorem dL_distance_2 : decode cL_distance 2 = .ok (.aload_n 0, 1) := by decide +kernel
theorem dL_distance_3 : decode cL_distance 3 = .ok (.iload_n 1, 1) := by decide +kernel
theorem dL_distance_4 : decode cL_distance 4 = .ok (.iload_n 2, 1) := by decide +kernel
theorem dL_distance_5 : decode cL_distance 5 = .ok (.invokevirtual 23, 3) := by decide +kernel
theorem dL_distance_8 : decode cL_distance 8 = .ok (.i2l, 1) := by decide +kernel
theorem dL_distance_9 : decode cL_distance 9 = .ok (.lastore, 1) := by decide +kernel
theorem dL_distance_10 : decode cL_distance 10 = .ok (.goto 7, 3) := by decide +kernel
theorem dL_distance_13 : decode cL_distance 13 = .ok (.astore 4, 2) := by decide +kernel
theorem dL_distance_15 : decode cL_distance 15 = .ok (.iconst 1, 1) := by decide +kernel
theorem dL_distance_16 : decode cL_distance 16 = .ok (.ireturn, 1) := by decide +kernel
theorem dL_distance_17 : decode cL_distance 17 = .ok (.iconst 0, 1) := by decide +kernel
theorem dL_distance_18 : decode cL_distance 18 = .ok (.ireturn, 1) := by decide +kernel
theorem dL_setPause_0 : decode cL_setPause 0 = .ok (.aload_n 2, 1) := by decide +kernel
theorem dL_setPause_1 : decode cL_setPause 1 = .ok (.iconst 0, 1) := by decide +kernel
theorem dL_setPause_2 : decode cL_setPause 2 = .ok (.aload_n 0, 1) := by decide +kernel
theorem dL_setPause_3 : decode cL_setPause 3 = .ok (.iload_n 1, 1) := by decide +kernel
theorem dL_setPause_4 : decode cL_setPause 4 = .ok (.invokevirtual 27, 3) := by decide +kernel
theorem dL_setPause_7 : decode cL_setPause 7 = .ok (.i2l, 1) := by decide +kernel
theorem dL_setPause_8 : decode cL_setPause 8 = .ok (.lastore, 1) := by decide +kernel
theorem dL_setPause_9 : decode cL_setPause 9 = .ok (.goto 6, 3) := by decide +kernel
theorem dL_setPause_12 : decode cL_setPause 12 = .ok (.astore_n 3, 1) := by decide +kernel
theorem dL_setPause_13 : decode cL_setPause 13 = .ok (.iconst 1, 1) := by decide +kernel
theorem dL_setPause_14 : decode cL_setPause 14 = .ok (.ireturn, 1) := by decide +kernel
theorem dL_setPause_15 : decode cL_setPause 15 = .ok (.iconst 0, 1) := by decide +kernel
theorem dL_setPause_16 : decode cL_setPause 16 = .ok (.ireturn, 1) := by decide +kernel
theorem dL_setRate_0 : decode cL_setRate 0 = .ok (.aload_n 3, 1) := by decide +kernel
theorem dL_setRate_1 : decode cL_setRate 1 = .ok (.iconst 0, 1) := by decide +kernel
theorem dL_setRate_2 : decode cL_setRate 2 = .ok (.aload_n 0, 1) := by decide +kernel
theorem dL_setRate_3 : decode cL_setRate 3 = .ok (.iload_n 1, 1) := by decide +kernel
theorem dL_setRate_4 : decode cL_setRate 4 = .ok (.iload_n 2, 1) := by decide +kernel
theorem dL_setRate_5 : decode cL_setRate 5 = .ok (.invokevirtual 30, 3) := by decide +kernel
theorem dL_setRate_8 : decode cL_setRate 8 = .ok (.i2l, 1) := by decide +kernel
theorem dL_setRate_9 : decode cL_setRate 9 = .ok (.lastore, 1) := by decide +kernel
theorem dL_setRate_10 : decode cL_setRate 10 = .ok (.goto 7, 3) := by decide +kernel
theorem dL_setRate_13 : decode cL_setRate 13 = .ok (.astore 4, 2) := by decide +kernel
theorem dL_setRate_15 : decode cL_setRate 15 = .ok (.iconst 1, 1) := by decide +kernel
theorem dL_setRate_16 : decode cL_setRate 16 = .ok (.ireturn, 1) := by decide +kernel
theorem dL_setRate_17 : decode cL_setRate 17 = .ok (.iconst 0, 1) := by decide +kernel
theorem dL_setRate_18 : decode cL_setRate 18 = .ok (.ireturn, 1) := by decide +kernel
theorem dL_spell_0 : decode cL_spell 0 = .ok (.aload_n 2, 1) := by decide +kernel
theorem dL_spell_1 : decode cL_spell 1 = .ok (.iconst 0, 1) := by decide +kernel
theorem dL_spell_2 : decode cL_spell 2 = .ok (.aload_n 0, 1) := by decide +kernel
theorem dL_spell_3 : decode cL_spell 3 = .ok (.iload_n 1, 1) := by decide +kernel
theorem dL_spell_4 : decode cL_spell 4 = .ok (.invokevirtual 33, 3) := by decide +kernel
theorem dL_spell_7 : decode cL_spell 7 = .ok (.i2l, 1) := by decide +kernel
theorem dL_spell_8 : decode cL_spell 8 = .ok (.lastore, 1) := by decide +kernel
theorem dL_spell_9 : decode cL_spell 9 = .ok (.goto 9, 3) := by decide +kernel
theorem dL_spell_12 : decode cL_spell 12 = .ok (.astore_n 3, 1) := by decide +kernel
theorem dL_spell_13 : decode cL_spell 13 = .ok (.iconst 1, 1) := by decide +kernel
theorem dL_spell_14 : decode cL_spell 14 = .ok (.ireturn, 1) := by decide +kernel
theorem dL_spell_15 : decode cL_spell 15 = .ok (.astore_n 3, 1) := by decide +kernel
theorem dL_spell_16 : decode cL_spell 16 = .ok (.iconst 2, 1) := by decide +kernel
theorem dL_spell_17 : decode cL_spell 17 = .ok (.ireturn, 1) := by decide +kernel
theorem dL_spell_18 : decode cL_spell 18 = .ok (.iconst 0, 1) := by decide +kernel
theorem dL_spell_19 : decode cL_spell 19 = .ok (.ireturn, 1) := by decide +kernel
theorem dL_insert_0 : decode cL_insert 0 = .ok (.aload_n 3, 1) := by decide +kernel
theorem dL_insert_1 : decode cL_insert 1 = .ok (.iconst 0, 1) := by decide +kernel
theorem dL_insert_2 : decode cL_insert 2 = .ok (.aload_n 0, 1) := by decide +kernel
theorem dL_insert_3 : decode cL_insert 3 = .ok (.iload_n 1, 1) := by decide +kernel
theorem dL_insert_4 : decode cL_insert 4 = .ok (.iload_n 2, 1) := by decide +kernel
theorem dL_insert_5 : decode cL_insert 5 = .ok (.invokevirtual 36, 3) := by decide +kernel
theorem dL_insert_8 : decode cL_insert 8 = .ok (.i2l, 1) := by decide +kernel
theorem dL_insert_9 : decode cL_insert 9 = .ok (.lastore, 1) := by decide +kernel
theorem dL_insert_10 : decode cL_insert 10 = .ok (.goto 15, 3) := by decide +kernel
theorem dL_insert_13 : decode cL_insert 13 = .ok (.astore 4, 2) := by decide +kernel
theorem dL_insert_15 : decode cL_insert 15 = .ok (.iconst 1, 1) := by decide +kernel
theorem dL_insert_16 : decode cL_insert 16 = .ok (.ireturn, 1) := by decide +kernel
theorem dL_insert_17 : decode cL_insert 17 = .ok (.astore 4, 2) := by decide +kernel
theorem dL_insert_19 : decode cL_insert 19 = .ok (.iconst 2, 1) := by decide +kernel
theorem dL_insert_20 : decode cL_insert 20 = .ok (.ireturn, 1) := by decide +kernel
theorem dL_insert_21 : decode cL_insert 21 = .ok (.astore 4, 2) := by decide +kernel
theorem dL_insert_23 : decode cL_insert 23 = .ok (.iconst 3, 1) := by decide +kernel
theorem dL_insert_24 : decode cL_insert 24 = .ok (.ireturn, 1) := by decide +kernel
theorem dL_insert_25 : decode cL_insert 25 = .ok (.iconst 0, 1) := by decide +kernel
theorem dL_insert_26 : decode cL_insert 26 = .ok (.ireturn, 1) := by decide +kernel
theorem dL_charAt_0 : decode cL_charAt 0 = .ok (.aload_n 2, 1) := by decide +kernel
theorem dL_charAt_1 : decode cL_charAt 1 = .ok (.iconst 0, 1) := by decide +kernel
theorem dL_charAt_2 : decode cL_charAt 2 = .ok (.aload_n 0, 1) := by decide +kernel
theorem dL_charAt_3 : decode cL_charAt 3 = .ok (.iload_n 1, 1) := by decide +kernel
theorem dL_charAt_4 : decode cL_charAt 4 = .ok (.invokevirtual 39, 3) := by decide +kernel
theorem dL_charAt_7 : decode cL_charAt 7 = .ok (.i2l, 1) := by decide +kernel
theorem dL_charAt_8 : decode cL_charAt 8 = .ok (.lastore, 1) := by decide +kernel
theorem dL_charAt_9 : decode cL_charAt 9 = .ok (.goto 6, 3) := by decide +kernel
theorem dL_charAt_12 : decode cL_charAt 12 = .ok (.astore_n 3, 1) := by decide +kernel
theorem dL_charAt_13 : decode cL_charAt 13 = .ok (.iconst 1, 1) := by decide +kernel
theorem dL_charAt_14 : decode cL_charAt 14 = .ok (.ireturn, 1) := by decide +kernel
theorem dL_charAt_15 : decode cL_charAt 15 = .ok (.iconst 0, 1) := by decide +kernel
theorem dL_charAt_16 : decode cL_charAt 16 = .ok (.ireturn, 1) := by decide +kernel
theorem dL_alike_0 : decode cL_alike 0 = .ok (.aload_n 3, 1) := by decide +kernel
theorem dL_alike_1 : decode cL_alike 1 = .ok (.iconst 0, 1) := by decide +kernel
theorem dL_alike_2 : decode cL_alike 2 = .ok (.aload_n 0, 1) := by decide +kernel
theorem dL_alike_3 : decode cL_alike 3 = .ok (.iload_n 1, 1) := by decide +kernel
theorem dL_alike_4 : decode cL_alike 4 = .ok (.iload_n 2, 1) := by decide +kernel
theorem dL_alike_5 : decode cL_alike 5 = .ok (.invokevirtual 45, 3) := by decide +kernel
theorem dL_alike_8 : decode cL_alike 8 = .ok (.ifCond .eq 7, 3) := by decide +kernel
theorem dL_alike_11 : decode cL_alike 11 = .ok (.lconst 1, 1) := by decide +kernel
theorem dL_alike_12 : decode cL_alike 12 = .ok (.goto 4, 3) := by decide +kernel
theorem dL_alike_15 : decode cL_alike 15 = .ok (.lconst 0, 1) := by decide +kernel
theorem dL_alike_16 : decode cL_alike 16 = .ok (.lastore, 1) := by decide +kernel
theorem dL_alike_17 : decode cL_alike 17 = .ok (.goto 11, 3) := by decide +kernel
theorem dL_alike_20 : decode cL_alike 20 = .ok (.astore 4, 2) := by decide +kernel
theorem dL_alike_22 : decode cL_alike 22 = .ok (.iconst 1, 1) := by decide +kernel
theorem dL_alike_23 : decode cL_alike 23 = .ok (.ireturn, 1) := by decide +kernel
theorem dL_alike_24 : decode cL_alike 24 = .ok (.astore 4, 2) := by decide +kernel
theorem dL_alike_26 : decode cL_alike 26 = .ok (.iconst 2, 1) := by decide +kernel
theorem dL_alike_27 : decode cL_alike 27 = .ok (.ireturn, 1) := by decide +kernel
theorem dL_alike_28 : decode cL_alike 28 = .ok (.iconst 0, 1) := by decide +kernel
theorem dL_alike_29 : decode cL_alike 29 = .ok (.ireturn, 1) := by decide +kernel
theorem dL_register_0 : decode cL_register 0 = .ok (.aload_n 3, 1) := by decide +kernel
theorem dL_register_1 : decode cL_register 1 = .ok (.iconst 0, 1) := by decide +kernel
theorem dL_register_2 : decode cL_register 2 = .ok (.aload_n 0, 1) := by decide +kernel
theorem dL_register_3 : decode cL_register 3 = .ok (.iload_n 1, 1) := by decide +kernel
theorem dL_register_4 : decode cL_register 4 = .ok (.iload_n 2, 1) := by decide +kernel
theorem dL_register_5 : decode cL_register 5 = .ok (.invokevirtual 49, 3) := by decide +kernel
theorem dL_register_8 : decode cL_register 8 = .ok (.i2l, 1) := by decide +kernel
theorem dL_register_9 : decode cL_register 9 = .ok (.lastore, 1) := by decide +kernel
theorem dL_register_10 : decode cL_register 10 = .ok (.goto 15, 3) := by decide +kernel
theorem dL_register_13 : decode cL_register 13 = .ok (.astore 4, 2) := by decide +kernel
theorem dL_register_15 : decode cL_register 15 = .ok (.iconst 1, 1) := by decide +kernel
theorem dL_register_16 : decode cL_register 16 = .ok (.ireturn, 1) := by decide +kernel
theorem dL_register_17 : decode cL_register 17 = .ok (.astore 4, 2) := by decide +kernel
theorem dL_register_19 : decode cL_register 19 = .ok (.iconst 2, 1) := by decide +kernel
theorem dL_register_20 : decode cL_register 20 = .ok (.ireturn, 1) := by decide +kernel
theorem dL_register_21 : decode cL_register 21 = .ok (.astore 4, 2) := by decide +kernel
theorem dL_register_23 : decode cL_register 23 = .ok (.iconst 3, 1) := by decide +kernel
theorem dL_register_24 : decode cL_register 24 = .ok (.ireturn, 1) := by decide +kernel
theorem dL_register_25 : decode cL_register 25 = .ok (.iconst 0, 1) := by decide +kernel
theorem dL_register_26 : decode cL_register 26 = .ok (.ireturn, 1) := by decide +kernel
theorem dL_sell_0 : decode cL_sell 0 = .ok (.aload_n 3, 1) := by decide +kernel
theorem dL_sell_1 : decode cL_sell 1 = .ok (.iconst 0, 1) := by decide +kernel
theorem dL_sell_2 : decode cL_sell 2 = .ok (.aload_n 0, 1) := by decide +kernel
theorem dL_sell_3 : decode cL_sell 3 = .ok (.iload_n 1, 1) := by decide +kernel
theorem dL_sell_4 : decode cL_sell 4 = .ok (.iload_n 2, 1) := by decide +kernel
theorem dL_sell_5 : decode cL_sell 5 = .ok (.invokevirtual 52, 3) := by decide +kernel
theorem dL_sell_8 : decode cL_sell 8 = .ok (.i2l, 1) := by decide +kernel
theorem dL_sell_9 : decode cL_sell 9 = .ok (.lastore, 1) := by decide +kernel
theorem dL_sell_10 : decode cL_sell 10 = .ok (.goto 7, 3) := by decide +kernel
theorem dL_sell_13 : decode cL_sell 13 = .ok (.astore 4, 2) := by decide +kernel
theorem dL_sell_15 : decode cL_sell 15 = .ok (.iconst 1, 1) := by decide +kernel
theorem dL_sell_16 : decode cL_sell 16 = .ok (.ireturn, 1) := by decide +kernel
theorem dL_sell_17 : decode cL_sell 17 = .ok (.iconst 0, 1) := by decide +kernel
theorem dL_sell_18 : decode cL_sell 18 = .ok (.ireturn, 1) := by decide +kernel
theorem dL_plateAt_0 : decode cL_plateAt 0 = .ok (.aload_n 2, 1) := by decide +kernel
theorem dL_plateAt_1 : decode cL_plateAt 1 = .ok (.iconst 0, 1) := by decide +kernel
theorem dL_plateAt_2 : decode cL_plateAt 2 = .ok (.aload_n 0, 1) := by decide +kernel
theorem dL_plateAt_3 : decode cL_plateAt 3 = .ok (.iload_n 1, 1) := by decide +kernel
theorem dL_plateAt_4 : decode cL_plateAt 4 = .ok (.invokevirtual 55, 3) := by decide +kernel
theorem dL_plateAt_7 : decode cL_plateAt 7 = .ok (.i2l, 1) := by decide +kernel
theorem dL_plateAt_8 : decode cL_plateAt 8 = .ok (.lastore, 1) := by decide +kernel
theorem dL_plateAt_9 : decode cL_plateAt 9 = .ok (.goto 6, 3) := by decide +kernel
theorem dL_plateAt_12 : decode cL_plateAt 12 = .ok (.astore_n 3, 1) := by decide +kernel
theorem dL_plateAt_13 : decode cL_plateAt 13 = .ok (.iconst 1, 1) := by decide +kernel
theorem dL_plateAt_14 : decode cL_plateAt 14 = .ok (.ireturn, 1) := by decide +kernel
theorem dL_plateAt_15 : decode cL_plateAt 15 = .ok (.iconst 0, 1) := by decide +kernel
theorem dL_plateAt_16 : decode cL_plateAt 16 = .ok (.ireturn, 1) := by decide +kernel
theorem dL_holder_0 : decode cL_holder 0 = .ok (.aload_n 3, 1) := by decide +kernel
theorem dL_holder_1 : decode cL_holder 1 = .ok (.iconst 0, 1) := by decide +kernel
theorem dL_holder_2 : decode cL_holder 2 = .ok (.aload_n 0, 1) := by decide +kernel
theorem dL_holder_3 : decode cL_holder 3 = .ok (.iload_n 1, 1) := by decide +kernel
theorem dL_holder_4 : decode cL_holder 4 = .ok (.iload_n 2, 1) := by decide +kernel
theorem dL_holder_5 : decode cL_holder 5 = .ok (.invokevirtual 58, 3) := by decide +kernel
theorem dL_holder_8 : decode cL_holder 8 = .ok (.i2l, 1) := by decide +kernel
theorem dL_holder_9 : decode cL_holder 9 = .ok (.lastore, 1) := by decide +kernel
theorem dL_holder_10 : decode cL_holder 10 = .ok (.goto 11, 3) := by decide +kernel
theorem dL_holder_13 : decode cL_holder 13 = .ok (.astore 4, 2) := by decide +kernel
theorem dL_holder_15 : decode cL_holder 15 = .ok (.iconst 1, 1) := by decide +kernel
theorem dL_holder_16 : decode cL_holder 16 = .ok (.ireturn, 1) := by decide +kernel
theorem dL_holder_17 : decode cL_holder 17 = .ok (.astore 4, 2) := by decide +kernel
theorem dL_holder_19 : decode cL_holder 19 = .ok (.iconst 2, 1) := by decide +kernel
theorem dL_holder_20 : decode cL_holder 20 = .ok (.ireturn, 1) := by decide +kernel
theorem dL_holder_21 : decode cL_holder 21 = .ok (.iconst 0, 1) := by decide +kernel
theorem dL_holder_22 : decode cL_holder 22 = .ok (.ireturn, 1) := by decide +kernel
theorem dL_read_0 : decode cL_read 0 = .ok (.aload_n 3, 1) := by decide +kernel
theorem dL_read_1 : decode cL_read 1 = .ok (.iconst 0, 1) := by decide +kernel
theorem dL_read_2 : decode cL_read 2 = .ok (.aload_n 0, 1) := by decide +kernel
theorem dL_read_3 : decode cL_read 3 = .ok (.iload_n 1, 1) := by decide +kernel
theorem dL_read_4 : decode cL_read 4 = .ok (.iload_n 2, 1) := by decide +kernel
theorem dL_read_5 : decode cL_read 5 = .ok (.invokevirtual 61, 3) := by decide +kernel
theorem dL_read_8 : decode cL_read 8 = .ok (.i2l, 1) := by decide +kernel
theorem dL_read_9 : decode cL_read 9 = .ok (.lastore, 1) := by decide +kernel
theorem dL_read_10 : decode cL_read 10 = .ok (.goto 15, 3) := by decide +kernel
theorem dL_read_13 : decode cL_read 13 = .ok (.astore 4, 2) := by decide +kernel
theorem dL_read_15 : decode cL_read 15 = .ok (.iconst 1, 1) := by decide +kernel
theorem dL_read_16 : decode cL_read 16 = .ok (.ireturn, 1) := by decide +kernel
theorem dL_read_17 : decode cL_read 17 = .ok (.astore 4, 2) := by decide +kernel
theorem dL_read_19 : decode cL_read 19 = .ok (.iconst 2, 1) := by decide +kernel
theorem dL_read_20 : decode cL_read 20 = .ok (.ireturn, 1) := by decide +kernel
theorem dL_read_21 : decode cL_read 21 = .ok (.astore 4, 2) := by decide +kernel
theorem dL_read_23 : decode cL_read 23 = .ok (.iconst 3, 1) := by decide +kernel
theorem dL_read_24 : decode cL_read 24 = .ok (.ireturn, 1) := by decide +kernel
theorem dL_read_25 : decode cL_read 25 = .ok (.iconst 0, 1) := by decide +kernel
theorem dL_read_26 : decode cL_read 26 = .ok (.ireturn, 1) := by decide +kernel
theorem dL_correct_0 : decode cL_correct 0 = .ok (.aload_n 3, 1) := by decide +kernel
theorem dL_correct_1 : decode cL_correct 1 = .ok (.iconst 0, 1) := by decide +kernel
theorem dL_correct_2 : decode cL_correct 2 = .ok (.aload_n 0, 1) := by decide +kernel
theorem dL_correct_3 : decode cL_correct 3 = .ok (.iload_n 1, 1) := by decide +kernel
theorem dL_correct_4 : decode cL_correct 4 = .ok (.iload_n 2, 1) := by decide +kernel
theorem dL_correct_5 : decode cL_correct 5 = .ok (.invokevirtual 64, 3) := by decide +kernel
theorem dL_correct_8 : decode cL_correct 8 = .ok (.i2l, 1) := by decide +kernel
theorem dL_correct_9 : decode cL_correct 9 = .ok (.lastore, 1) := by decide +kernel
theorem dL_correct_10 : decode cL_correct 10 = .ok (.goto 7, 3) := by decide +kernel
theorem dL_correct_13 : decode cL_correct 13 = .ok (.astore 4, 2) := by decide +kernel
theorem dL_correct_15 : decode cL_correct 15 = .ok (.iconst 1, 1) := by decide +kernel
theorem dL_correct_16 : decode cL_correct 16 = .ok (.ireturn, 1) := by decide +kernel
theorem dL_correct_17 : decode cL_correct 17 = .ok (.iconst 0, 1) := by decide +kernel
theorem dL_correct_18 : decode cL_correct 18 = .ok (.ireturn, 1) := by decide +kernel
theorem dL_uncorrect_0 : decode cL_uncorrect 0 = .ok (.aload_n 2, 1) := by decide +kernel
theorem dL_uncorrect_1 : decode cL_uncorrect 1 = .ok (.iconst 0, 1) := by decide +kernel
theorem dL_uncorrect_2 : decode cL_uncorrect 2 = .ok (.aload_n 0, 1) := by decide +kernel
theorem dL_uncorrect_3 : decode cL_uncorrect 3 = .ok (.iload_n 1, 1) := by decide +kernel
theorem dL_uncorrect_4 : decode cL_uncorrect 4 = .ok (.invokevirtual 67, 3) := by decide +kernel
theorem dL_uncorrect_7 : decode cL_uncorrect 7 = .ok (.i2l, 1) := by decide +kernel
theorem dL_uncorrect_8 : decode cL_uncorrect 8 = .ok (.lastore, 1) := by decide +kernel
theorem dL_uncorrect_9 : decode cL_uncorrect 9 = .ok (.goto 9, 3) := by decide +kernel
theorem dL_uncorrect_12 : decode cL_uncorrect 12 = .ok (.astore_n 3, 1) := by decide +kernel
theorem dL_uncorrect_13 : decode cL_uncorrect 13 = .ok (.iconst 1, 1) := by decide +kernel
theorem dL_uncorrect_14 : decode cL_uncorrect 14 = .ok (.ireturn, 1) := by decide +kernel
theorem dL_uncorrect_15 : decode cL_uncorrect 15 = .ok (.astore_n 3, 1) := by decide +kernel
theorem dL_uncorrect_16 : decode cL_uncorrect 16 = .ok (.iconst 2, 1) := by decide +kernel
theorem dL_uncorrect_17 : decode cL_uncorrect 17 = .ok (.ireturn, 1) := by decide +kernel
theorem dL_uncorrect_18 : decode cL_uncorrect 18 = .ok (.iconst 0, 1) := by decide +kernel
theorem dL_uncorrect_19 : decode cL_uncorrect 19 = .ok (.ireturn, 1) := by decide +kernel
theorem dL_plateOf_0 : decode cL_plateOf 0 = .ok (.aload_n 2, 1) := by decide +kernel
theorem dL_plateOf_1 : decode cL_plateOf 1 = .ok (.iconst 0, 1) := by decide +kernel
theorem dL_plateOf_2 : decode cL_plateOf 2 = .ok (.aload_n 0, 1) := by decide +kernel
theorem dL_plateOf_3 : decode cL_plateOf 3 = .ok (.iload_n 1, 1) := by decide +kernel
theorem dL_plateOf_4 : decode cL_plateOf 4 = .ok (.invokevirtual 70, 3) := by decide +kernel
theorem dL_plateOf_7 : decode cL_plateOf 7 = .ok (.i2l, 1) := by decide +kernel
theorem dL_plateOf_8 : decode cL_plateOf 8 = .ok (.lastore, 1) := by decide +kernel
theorem dL_plateOf_9 : decode cL_plateOf 9 = .ok (.goto 6, 3) := by decide +kernel
theorem dL_plateOf_12 : decode cL_plateOf 12 = .ok (.astore_n 3, 1) := by decide +kernel
theorem dL_plateOf_13 : decode cL_plateOf 13 = .ok (.iconst 1, 1) := by decide +kernel
theorem dL_plateOf_14 : decode cL_plateOf 14 = .ok (.ireturn, 1) := by decide +kernel
theorem dL_plateOf_15 : decode cL_plateOf 15 = .ok (.iconst 0, 1) := by decide +kernel
theorem dL_plateOf_16 : decode cL_plateOf 16 = .ok (.ireturn, 1) := by decide +kernel
theorem dL_cost_0 : decode cL_cost 0 = .ok (.aload_n 3, 1) := by decide +kernel
theorem dL_cost_1 : decode cL_cost 1 = .ok (.iconst 0, 1) := by decide +kernel
theorem dL_cost_2 : decode cL_cost 2 = .ok (.aload_n 0, 1) := by decide +kernel
theorem dL_cost_3 : decode cL_cost 3 = .ok (.iload_n 1, 1) := by decide +kernel
theorem dL_cost_4 : decode cL_cost 4 = .ok (.iload_n 2, 1) := by decide +kernel
theorem dL_cost_5 : decode cL_cost 5 = .ok (.invokevirtual 73, 3) := by decide +kernel
theorem dL_cost_8 : decode cL_cost 8 = .ok (.i2l, 1) := by decide +kernel
theorem dL_cost_9 : decode cL_cost 9 = .ok (.lastore, 1) := by decide +kernel
theorem dL_cost_10 : decode cL_cost 10 = .ok (.goto 7, 3) := by decide +kernel
theorem dL_cost_13 : decode cL_cost 13 = .ok (.astore 4, 2) := by decide +kernel
theorem dL_cost_15 : decode cL_cost 15 = .ok (.iconst 1, 1) := by decide +kernel
theorem dL_cost_16 : decode cL_cost 16 = .ok (.ireturn, 1) := by decide +kernel
theorem dL_cost_17 : decode cL_cost 17 = .ok (.iconst 0, 1) := by decide +kernel
theorem dL_cost_18 : decode cL_cost 18 = .ok (.ireturn, 1) := by decide +kernel
theorem dL_trips_0 : decode cL_trips 0 = .ok (.aload_n 2, 1) := by decide +kernel
theorem dL_trips_1 : decode cL_trips 1 = .ok (.iconst 0, 1) := by decide +kernel
theorem dL_trips_2 : decode cL_trips 2 = .ok (.aload_n 0, 1) := by decide +kernel
theorem dL_trips_3 : decode cL_trips 3 = .ok (.iload_n 1, 1) := by decide +kernel
theorem dL_trips_4 : decode cL_trips 4 = .ok (.invokevirtual 76, 3) := by decide +kernel
theorem dL_trips_7 : decode cL_trips 7 = .ok (.i2l, 1) := by decide +kernel
theorem dL_trips_8 : decode cL_trips 8 = .ok (.lastore, 1) := by decide +kernel
theorem dL_trips_9 : decode cL_trips 9 = .ok (.goto 6, 3) := by decide +kernel
theorem dL_trips_12 : decode cL_trips 12 = .ok (.astore_n 3, 1) := by decide +kernel
theorem dL_trips_13 : decode cL_trips 13 = .ok (.iconst 1, 1) := by decide +kernel
theorem dL_trips_14 : decode cL_trips 14 = .ok (.ireturn, 1) := by decide +kernel
theorem dL_trips_15 : decode cL_trips 15 = .ok (.iconst 0, 1) := by decide +kernel
theorem dL_trips_16 : decode cL_trips 16 = .ok (.ireturn, 1) := by decide +kernel
theorem dL_tripsAnew_0 : decode cL_tripsAnew 0 = .ok (.aload_n 2, 1) := by decide +kernel
theorem dL_tripsAnew_1 : decode cL_tripsAnew 1 = .ok (.iconst 0, 1) := by decide +kernel
theorem dL_tripsAnew_2 : decode cL_tripsAnew 2 = .ok (.aload_n 0, 1) := by decide +kernel
theorem dL_tripsAnew_3 : decode cL_tripsAnew 3 = .ok (.iload_n 1, 1) := by decide +kernel
theorem dL_tripsAnew_4 : decode cL_tripsAnew 4 = .ok (.invokevirtual 79, 3) := by decide +kernel
theorem dL_tripsAnew_7 : decode cL_tripsAnew 7 = .ok (.i2l, 1) := by decide +kernel
theorem dL_tripsAnew_8 : decode cL_tripsAnew 8 = .ok (.lastore, 1) := by decide +kernel
theorem dL_tripsAnew_9 : decode cL_tripsAnew 9 = .ok (.goto 6, 3) := by decide +kernel
theorem dL_tripsAnew_12 : decode cL_tripsAnew 12 = .ok (.astore_n 3, 1) := by decide +kernel
theorem dL_tripsAnew_13 : decode cL_tripsAnew 13 = .ok (.iconst 1, 1) := by decide +kernel
theorem dL_tripsAnew_14 : decode cL_tripsAnew 14 = .ok (.ireturn, 1) := by decide +kernel
theorem dL_tripsAnew_15 : decode cL_tripsAnew 15 = .ok (.iconst 0, 1) := by decide +kernel
theorem dL_tripsAnew_16 : decode cL_tripsAnew 16 = .ok (.ireturn, 1) := by decide +kernel
theorem dL_tripOf_0 : decode cL_tripOf 0 = .ok (.aload_n 2, 1) := by decide +kernel
theorem dL_tripOf_1 : decode cL_tripOf 1 = .ok (.iconst 0, 1) := by decide +kernel
theorem dL_tripOf_2 : decode cL_tripOf 2 = .ok (.aload_n 0, 1) := by decide +kernel
theorem dL_tripOf_3 : decode cL_tripOf 3 = .ok (.iload_n 1, 1) := by decide +kernel
theorem dL_tripOf_4 : decode cL_tripOf 4 = .ok (.invokevirtual 82, 3) := by decide +kernel
theorem dL_tripOf_7 : decode cL_tripOf 7 = .ok (.i2l, 1) := by decide +kernel
theorem dL_tripOf_8 : decode cL_tripOf 8 = .ok (.lastore, 1) := by decide +kernel
theorem dL_tripOf_9 : decode cL_tripOf 9 = .ok (.goto 6, 3) := by decide +kernel
theorem dL_tripOf_12 : decode cL_tripOf 12 = .ok (.astore_n 3, 1) := by decide +kernel
theorem dL_tripOf_13 : decode cL_tripOf 13 = .ok (.iconst 1, 1) := by decide +kernel
theorem dL_tripOf_14 : decode cL_tripOf 14 = .ok (.ireturn, 1) := by decide +kernel
theorem dL_tripOf_15 : decode cL_tripOf 15 = .ok (.iconst 0, 1) := by decide +kernel
theorem dL_tripOf_16 : decode cL_tripOf 16 = .ok (.ireturn, 1) := by decide +kernel
theorem dL_toll_0 : decode cL_toll 0 = .ok (.aload_n 3, 1) := by decide +kernel
theorem dL_toll_1 : decode cL_toll 1 = .ok (.iconst 0, 1) := by decide +kernel
theorem dL_toll_2 : decode cL_toll 2 = .ok (.aload_n 0, 1) := by decide +kernel
theorem dL_toll_3 : decode cL_toll 3 = .ok (.iload_n 1, 1) := by decide +kernel
theorem dL_toll_4 : decode cL_toll 4 = .ok (.iload_n 2, 1) := by decide +kernel
theorem dL_toll_5 : decode cL_toll 5 = .ok (.invokevirtual 85, 3) := by decide +kernel
theorem dL_toll_8 : decode cL_toll 8 = .ok (.i2l, 1) := by decide +kernel
theorem dL_toll_9 : decode cL_toll 9 = .ok (.lastore, 1) := by decide +kernel
theorem dL_toll_10 : decode cL_toll 10 = .ok (.goto 7, 3) := by decide +kernel
theorem dL_toll_13 : decode cL_toll 13 = .ok (.astore 4, 2) := by decide +kernel
theorem dL_toll_15 : decode cL_toll 15 = .ok (.iconst 1, 1) := by decide +kernel
theorem dL_toll_16 : decode cL_toll 16 = .ok (.ireturn, 1) := by decide +kernel
theorem dL_toll_17 : decode cL_toll 17 = .ok (.iconst 0, 1) := by decide +kernel
theorem dL_toll_18 : decode cL_toll 18 = .ok (.ireturn, 1) := by decide +kernel
theorem dL_driverOf_0 : decode cL_driverOf 0 = .ok (.aload_n 3, 1) := by decide +kernel
theorem dL_driverOf_1 : decode cL_driverOf 1 = .ok (.iconst 0, 1) := by decide +kernel
theorem dL_driverOf_2 : decode cL_driverOf 2 = .ok (.aload_n 0, 1) := by decide +kernel
theorem dL_driverOf_3 : decode cL_driverOf 3 = .ok (.iload_n 1, 1) := by decide +kernel
theorem dL_driverOf_4 : decode cL_driverOf 4 = .ok (.iload_n 2, 1) := by decide +kernel
theorem dL_driverOf_5 : decode cL_driverOf 5 = .ok (.invokevirtual 88, 3) := by decide +kernel
theorem dL_driverOf_8 : decode cL_driverOf 8 = .ok (.i2l, 1) := by decide +kernel
theorem dL_driverOf_9 : decode cL_driverOf 9 = .ok (.lastore, 1) := by decide +kernel
theorem dL_driverOf_10 : decode cL_driverOf 10 = .ok (.goto 7, 3) := by decide +kernel
theorem dL_driverOf_13 : decode cL_driverOf 13 = .ok (.astore 4, 2) := by decide +kernel
theorem dL_driverOf_15 : decode cL_driverOf 15 = .ok (.iconst 1, 1) := by decide +kernel
theorem dL_driverOf_16 : decode cL_driverOf 16 = .ok (.ireturn, 1) := by decide +kernel
theorem dL_driverOf_17 : decode cL_driverOf 17 = .ok (.iconst 0, 1) := by decide +kernel
theorem dL_driverOf_18 : decode cL_driverOf 18 = .ok (.ireturn, 1) := by decide +kernel
theorem dL_due_0 : decode cL_due 0 = .ok (.aload_n 2, 1) := by decide +kernel
theorem dL_due_1 : decode cL_due 1 = .ok (.iconst 0, 1) := by decide +kernel
theorem dL_due_2 : decode cL_due 2 = .ok (.aload_n 0, 1) := by decide +kernel
theorem dL_due_3 : decode cL_due 3 = .ok (.iload_n 1, 1) := by decide +kernel
theorem dL_due_4 : decode cL_due 4 = .ok (.invokevirtual 91, 3) := by decide +kernel
theorem dL_due_7 : decode cL_due 7 = .ok (.i2l, 1) := by decide +kernel
theorem dL_due_8 : decode cL_due 8 = .ok (.lastore, 1) := by decide +kernel
theorem dL_due_9 : decode cL_due 9 = .ok (.goto 6, 3) := by decide +kernel
theorem dL_due_12 : decode cL_due 12 = .ok (.astore_n 3, 1) := by decide +kernel
theorem dL_due_13 : decode cL_due 13 = .ok (.iconst 1, 1) := by decide +kernel
theorem dL_due_14 : decode cL_due 14 = .ok (.ireturn, 1) := by decide +kernel
theorem dL_due_15 : decode cL_due 15 = .ok (.iconst 0, 1) := by decide +kernel
theorem dL_due_16 : decode cL_due 16 = .ok (.ireturn, 1) := by decide +kernel
theorem dL_dueAnew_0 : decode cL_dueAnew 0 = .ok (.aload_n 2, 1) := by decide +kernel
theorem dL_dueAnew_1 : decode cL_dueAnew 1 = .ok (.iconst 0, 1) := by decide +kernel
theorem dL_dueAnew_2 : decode cL_dueAnew 2 = .ok (.aload_n 0, 1) := by decide +kernel
theorem dL_dueAnew_3 : decode cL_dueAnew 3 = .ok (.iload_n 1, 1) := by decide +kernel
theorem dL_dueAnew_4 : decode cL_dueAnew 4 = .ok (.invokevirtual 94, 3) := by decide +kernel
theorem dL_dueAnew_7 : decode cL_dueAnew 7 = .ok (.i2l, 1) := by decide +kernel
theorem dL_dueAnew_8 : decode cL_dueAnew 8 = .ok (.lastore, 1) := by decide +kernel
theorem dL_dueAnew_9 : decode cL_dueAnew 9 = .ok (.goto 6, 3) := by decide +kernel
theorem dL_dueAnew_12 : decode cL_dueAnew 12 = .ok (.astore_n 3, 1) := by decide +kernel
theorem dL_dueAnew_13 : decode cL_dueAnew 13 = .ok (.iconst 1, 1) := by decide +kernel
theorem dL_dueAnew_14 : decode cL_dueAnew 14 = .ok (.ireturn, 1) := by decide +kernel
theorem dL_dueAnew_15 : decode cL_dueAnew 15 = .ok (.iconst 0, 1) := by decide +kernel
theorem dL_dueAnew_16 : decode cL_dueAnew 16 = .ok (.ireturn, 1) := by decide +kernel
theorem dL_billed_0 : decode cL_billed 0 = .ok (.aload_n 2, 1) := by decide +kernel
theorem dL_billed_1 : decode cL_billed 1 = .ok (.iconst 0, 1) := by decide +kernel
theorem dL_billed_2 : decode cL_billed 2 = .ok (.aload_n 0, 1) := by decide +kernel
theorem dL_billed_3 : decode cL_billed 3 = .ok (.iload_n 1, 1) := by decide +kernel
theorem dL_billed_4 : decode cL_billed 4 = .ok (.invokevirtual 97, 3) := by decide +kernel
theorem dL_billed_7 : decode cL_billed 7 = .ok (.lastore, 1) := by decide +kernel
theorem dL_billed_8 : decode cL_billed 8 = .ok (.goto 6, 3) := by decide +kernel
theorem dL_billed_11 : decode cL_billed 11 = .ok (.astore_n 3, 1) := by decide +kernel
theorem dL_billed_12 : decode cL_billed 12 = .ok (.iconst 1, 1) := by decide +kernel
theorem dL_billed_13 : decode cL_billed 13 = .ok (.ireturn, 1) := by decide +kernel
theorem dL_billed_14 : decode cL_billed 14 = .ok (.iconst 0, 1) := by decide +kernel
theorem dL_billed_15 : decode cL_billed 15 = .ok (.ireturn, 1) := by decide +kernel
theorem dL_paidBack_0 : decode cL_paidBack 0 = .ok (.aload_n 2, 1) := by decide +kernel
theorem dL_paidBack_1 : decode cL_paidBack 1 = .ok (.iconst 0, 1) := by decide +kernel
theorem dL_paidBack_2 : decode cL_paidBack 2 = .ok (.aload_n 0, 1) := by decide +kernel
theorem dL_paidBack_3 : decode cL_paidBack 3 = .ok (.iload_n 1, 1) := by decide +kernel
theorem dL_paidBack_4 : decode cL_paidBack 4 = .ok (.invokevirtual 101, 3) := by decide +kernel
theorem dL_paidBack_7 : decode cL_paidBack 7 = .ok (.lastore, 1) := by decide +kernel
theorem dL_paidBack_8 : decode cL_paidBack 8 = .ok (.goto 6, 3) := by decide +kernel
theorem dL_paidBack_11 : decode cL_paidBack 11 = .ok (.astore_n 3, 1) := by decide +kernel
theorem dL_paidBack_12 : decode cL_paidBack 12 = .ok (.iconst 1, 1) := by decide +kernel
theorem dL_paidBack_13 : decode cL_paidBack 13 = .ok (.ireturn, 1) := by decide +kernel
theorem dL_paidBack_14 : decode cL_paidBack 14 = .ok (.iconst 0, 1) := by decide +kernel
theorem dL_paidBack_15 : decode cL_paidBack 15 = .ok (.ireturn, 1) := by decide +kernel
theorem dL_warrant_0 : decode cL_warrant 0 = .ok (.aload 4, 2) := by decide +kernel
theorem dL_warrant_2 : decode cL_warrant 2 = .ok (.iconst 0, 1) := by decide +kernel
theorem dL_warrant_3 : decode cL_warrant 3 = .ok (.aload_n 0, 1) := by decide +kernel
theorem dL_warrant_4 : decode cL_warrant 4 = .ok (.iload_n 1, 1) := by decide +kernel
theorem dL_warrant_5 : decode cL_warrant 5 = .ok (.iload_n 2, 1) := by decide +kernel
theorem dL_warrant_6 : decode cL_warrant 6 = .ok (.iload_n 3, 1) := by decide +kernel
theorem dL_warrant_7 : decode cL_warrant 7 = .ok (.invokevirtual 104, 3) := by decide +kernel
theorem dL_warrant_10 : decode cL_warrant 10 = .ok (.i2l, 1) := by decide +kernel
theorem dL_warrant_11 : decode cL_warrant 11 = .ok (.lastore, 1) := by decide +kernel
theorem dL_warrant_12 : decode cL_warrant 12 = .ok (.goto 15, 3) := by decide +kernel
theorem dL_warrant_15 : decode cL_warrant 15 = .ok (.astore 5, 2) := by decide +kernel
theorem dL_warrant_17 : decode cL_warrant 17 = .ok (.iconst 1, 1) := by decide +kernel
theorem dL_warrant_18 : decode cL_warrant 18 = .ok (.ireturn, 1) := by decide +kernel
theorem dL_warrant_19 : decode cL_warrant 19 = .ok (.astore 5, 2) := by decide +kernel
theorem dL_warrant_21 : decode cL_warrant 21 = .ok (.iconst 2, 1) := by decide +kernel
theorem dL_warrant_22 : decode cL_warrant 22 = .ok (.ireturn, 1) := by decide +kernel
theorem dL_warrant_23 : decode cL_warrant 23 = .ok (.astore 5, 2) := by decide +kernel
