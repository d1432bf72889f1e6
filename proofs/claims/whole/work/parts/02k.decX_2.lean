theorem dX6_putTape_137 : decode cX6_putTape 137 = .ok (.iconst 1, 1) := by decide +kernel
theorem dX6_putTape_138 : decode cX6_putTape 138 = .ok (.isub, 1) := by decide +kernel
theorem dX6_putTape_139 : decode cX6_putTape 139 = .ok (.invokevirtual 84, 3) := by decide +kernel
theorem dX6_putTape_142 : decode cX6_putTape 142 = .ok (.iastore, 1) := by decide +kernel
theorem dX6_putTape_143 : decode cX6_putTape 143 = .ok (.return_, 1) := by decide +kernel
theorem dX6_fillTimes_0 : decode cX6_fillTimes 0 = .ok (.iconst 0, 1) := by decide +kernel
theorem dX6_fillTimes_1 : decode cX6_fillTimes 1 = .ok (.istore_n 3, 1) := by decide +kernel
theorem dX6_fillTimes_2 : decode cX6_fillTimes 2 = .ok (.iload_n 3, 1) := by decide +kernel
theorem dX6_fillTimes_3 : decode cX6_fillTimes 3 = .ok (.iconst 1, 1) := by decide +kernel
theorem dX6_fillTimes_4 : decode cX6_fillTimes 4 = .ok (.aload_n 0, 1) := by decide +kernel
theorem dX6_fillTimes_5 : decode cX6_fillTimes 5 = .ok (.getfield 34, 3) := by decide +kernel
theorem dX6_fillTimes_8 : decode cX6_fillTimes 8 = .ok (.ishl, 1) := by decide +kernel
theorem dX6_fillTimes_9 : decode cX6_fillTimes 9 = .ok (.if_icmp .ge 125, 3) := by decide +kernel
theorem dX6_fillTimes_12 : decode cX6_fillTimes 12 = .ok (.iload_n 3, 1) := by decide +kernel
theorem dX6_fillTimes_13 : decode cX6_fillTimes 13 = .ok (.bipush 32, 2) := by decide +kernel
theorem dX6_fillTimes_15 : decode cX6_fillTimes 15 = .ok (.if_icmp .ge 119, 3) := by decide +kernel
theorem dX6_fillTimes_18 : decode cX6_fillTimes 18 = .ok (.iload_n 3, 1) := by decide +kernel
theorem dX6_fillTimes_19 : decode cX6_fillTimes 19 = .ok (.ifCond .ne 7, 3) := by decide +kernel
theorem dX6_fillTimes_22 : decode cX6_fillTimes 22 = .ok (.iconst 0, 1) := by decide +kernel
theorem dX6_fillTimes_23 : decode cX6_fillTimes 23 = .ok (.goto 5, 3) := by decide +kernel
theorem dX6_fillTimes_26 : decode cX6_fillTimes 26 = .ok (.ldc 85, 2) := by decide +kernel
theorem dX6_fillTimes_28 : decode cX6_fillTimes 28 = .ok (.istore 4, 2) := by decide +kernel
theorem dX6_fillTimes_30 : decode cX6_fillTimes 30 = .ok (.iconst 0, 1) := by decide +kernel
theorem dX6_fillTimes_31 : decode cX6_fillTimes 31 = .ok (.istore 5, 2) := by decide +kernel
theorem dX6_fillTimes_33 : decode cX6_fillTimes 33 = .ok (.iconst 0, 1) := by decide +kernel
theorem dX6_fillTimes_34 : decode cX6_fillTimes 34 = .ok (.istore 6, 2) := by decide +kernel
theorem dX6_fillTimes_36 : decode cX6_fillTimes 36 = .ok (.iload 6, 2) := by decide +kernel
theorem dX6_fillTimes_38 : decode cX6_fillTimes 38 = .ok (.aload_n 0, 1) := by decide +kernel
theorem dX6_fillTimes_39 : decode cX6_fillTimes 39 = .ok (.getfield 34, 3) := by decide +kernel
theorem dX6_fillTimes_42 : decode cX6_fillTimes 42 = .ok (.if_icmp .ge 70, 3) := by decide +kernel
theorem dX6_fillTimes_45 : decode cX6_fillTimes 45 = .ok (.iload 6, 2) := by decide +kernel
theorem dX6_fillTimes_47 : decode cX6_fillTimes 47 = .ok (.iconst 5, 1) := by decide +kernel
theorem dX6_fillTimes_48 : decode cX6_fillTimes 48 = .ok (.if_icmp .ge 64, 3) := by decide +kernel
theorem dX6_fillTimes_51 : decode cX6_fillTimes 51 = .ok (.iload_n 3, 1) := by decide +kernel
theorem dX6_fillTimes_52 : decode cX6_fillTimes 52 = .ok (.iload 6, 2) := by decide +kernel
theorem dX6_fillTimes_54 : decode cX6_fillTimes 54 = .ok (.ishr, 1) := by decide +kernel
theorem dX6_fillTimes_55 : decode cX6_fillTimes 55 = .ok (.iconst 1, 1) := by decide +kernel
theorem dX6_fillTimes_56 : decode cX6_fillTimes 56 = .ok (.iand, 1) := by decide +kernel
theorem dX6_fillTimes_57 : decode cX6_fillTimes 57 = .ok (.iconst 1, 1) := by decide +kernel
theorem dX6_fillTimes_58 : decode cX6_fillTimes 58 = .ok (.if_icmp .ne 48, 3) := by decide +kernel
theorem dX6_fillTimes_61 : decode cX6_fillTimes 61 = .ok (.aload_n 0, 1) := by decide +kernel
theorem dX6_fillTimes_62 : decode cX6_fillTimes 62 = .ok (.aload_n 1, 1) := by decide +kernel
theorem dX6_fillTimes_63 : decode cX6_fillTimes 63 = .ok (.iload_n 2, 1) := by decide +kernel
theorem dX6_fillTimes_64 : decode cX6_fillTimes 64 = .ok (.iload_n 3, 1) := by decide +kernel
theorem dX6_fillTimes_65 : decode cX6_fillTimes 65 = .ok (.iload 6, 2) := by decide +kernel
theorem dX6_fillTimes_67 : decode cX6_fillTimes 67 = .ok (.invokevirtual 86, 3) := by decide +kernel
theorem dX6_fillTimes_70 : decode cX6_fillTimes 70 = .ok (.istore 7, 2) := by decide +kernel
theorem dX6_fillTimes_72 : decode cX6_fillTimes 72 = .ok (.aload_n 0, 1) := by decide +kernel
theorem dX6_fillTimes_73 : decode cX6_fillTimes 73 = .ok (.getfield 31, 3) := by decide +kernel
theorem dX6_fillTimes_76 : decode cX6_fillTimes 76 = .ok (.iload_n 3, 1) := by decide +kernel
theorem dX6_fillTimes_77 : decode cX6_fillTimes 77 = .ok (.iconst 5, 1) := by decide +kernel
theorem dX6_fillTimes_78 : decode cX6_fillTimes 78 = .ok (.imul, 1) := by decide +kernel
theorem dX6_fillTimes_79 : decode cX6_fillTimes 79 = .ok (.iload 6, 2) := by decide +kernel
theorem dX6_fillTimes_81 : decode cX6_fillTimes 81 = .ok (.iadd, 1) := by decide +kernel
theorem dX6_fillTimes_82 : decode cX6_fillTimes 82 = .ok (.iload 7, 2) := by decide +kernel
theorem dX6_fillTimes_84 : decode cX6_fillTimes 84 = .ok (.iastore, 1) := by decide +kernel
theorem dX6_fillTimes_85 : decode cX6_fillTimes 85 = .ok (.iload 4, 2) := by decide +kernel
theorem dX6_fillTimes_87 : decode cX6_fillTimes 87 = .ok (.iload 7, 2) := by decide +kernel
theorem dX6_fillTimes_89 : decode cX6_fillTimes 89 = .ok (.invokestatic 90, 3) := by decide +kernel
theorem dX6_fillTimes_92 : decode cX6_fillTimes 92 = .ok (.istore 4, 2) := by decide +kernel
theorem dX6_fillTimes_94 : decode cX6_fillTimes 94 = .ok (.iload 5, 2) := by decide +kernel
theorem dX6_fillTimes_96 : decode cX6_fillTimes 96 = .ok (.aload_n 0, 1) := by decide +kernel
theorem dX6_fillTimes_97 : decode cX6_fillTimes 97 = .ok (.getfield 18, 3) := by decide +kernel
theorem dX6_fillTimes_100 : decode cX6_fillTimes 100 = .ok (.iload 6, 2) := by decide +kernel
theorem dX6_fillTimes_102 : decode cX6_fillTimes 102 = .ok (.iaload, 1) := by decide +kernel
theorem dX6_fillTimes_103 : decode cX6_fillTimes 103 = .ok (.iadd, 1) := by decide +kernel
theorem dX6_fillTimes_104 : decode cX6_fillTimes 104 = .ok (.istore 5, 2) := by decide +kernel
theorem dX6_fillTimes_106 : decode cX6_fillTimes 106 = .ok (.iinc 6 1, 3) := by decide +kernel
theorem dX6_fillTimes_109 : decode cX6_fillTimes 109 = .ok (.goto (-73), 3) := by decide +kernel
theorem dX6_fillTimes_112 : decode cX6_fillTimes 112 = .ok (.aload_n 0, 1) := by decide +kernel
theorem dX6_fillTimes_113 : decode cX6_fillTimes 113 = .ok (.iload_n 2, 1) := by decide +kernel
theorem dX6_fillTimes_114 : decode cX6_fillTimes 114 = .ok (.iload_n 3, 1) := by decide +kernel
theorem dX6_fillTimes_115 : decode cX6_fillTimes 115 = .ok (.iload 4, 2) := by decide +kernel
theorem dX6_fillTimes_117 : decode cX6_fillTimes 117 = .ok (.iload 5, 2) := by decide +kernel
theorem dX6_fillTimes_119 : decode cX6_fillTimes 119 = .ok (.iadd, 1) := by decide +kernel
theorem dX6_fillTimes_120 : decode cX6_fillTimes 120 = .ok (.ldc 85, 2) := by decide +kernel
theorem dX6_fillTimes_122 : decode cX6_fillTimes 122 = .ok (.invokestatic 90, 3) := by decide +kernel
theorem dX6_fillTimes_125 : decode cX6_fillTimes 125 = .ok (.invokevirtual 96, 3) := by decide +kernel
theorem dX6_fillTimes_128 : decode cX6_fillTimes 128 = .ok (.iinc 3 1, 3) := by decide +kernel
theorem dX6_fillTimes_131 : decode cX6_fillTimes 131 = .ok (.goto (-129), 3) := by decide +kernel
theorem dX6_fillTimes_134 : decode cX6_fillTimes 134 = .ok (.return_, 1) := by decide +kernel
theorem dX6_leastEnd_0 : decode cX6_leastEnd 0 = .ok (.iload_n 2, 1) := by decide +kernel
theorem dX6_leastEnd_1 : decode cX6_leastEnd 1 = .ok (.iconst 5, 1) := by decide +kernel
theorem dX6_leastEnd_2 : decode cX6_leastEnd 2 = .ok (.imul, 1) := by decide +kernel
theorem dX6_leastEnd_3 : decode cX6_leastEnd 3 = .ok (.istore 5, 2) := by decide +kernel
theorem dX6_leastEnd_5 : decode cX6_leastEnd 5 = .ok (.iload_n 3, 1) := by decide +kernel
theorem dX6_leastEnd_6 : decode cX6_leastEnd 6 = .ok (.iconst 1, 1) := by decide +kernel
theorem dX6_leastEnd_7 : decode cX6_leastEnd 7 = .ok (.iload 4, 2) := by decide +kernel
theorem dX6_leastEnd_9 : decode cX6_leastEnd 9 = .ok (.ishl, 1) := by decide +kernel
theorem dX6_leastEnd_10 : decode cX6_leastEnd 10 = .ok (.iconst (-1), 1) := by decide +kernel
theorem dX6_leastEnd_11 : decode cX6_leastEnd 11 = .ok (.ixor, 1) := by decide +kernel
theorem dX6_leastEnd_12 : decode cX6_leastEnd 12 = .ok (.iand, 1) := by decide +kernel
theorem dX6_leastEnd_13 : decode cX6_leastEnd 13 = .ok (.istore 6, 2) := by decide +kernel
theorem dX6_leastEnd_15 : decode cX6_leastEnd 15 = .ok (.iload 5, 2) := by decide +kernel
theorem dX6_leastEnd_17 : decode cX6_leastEnd 17 = .ok (.ifCond .lt 28, 3) := by decide +kernel
theorem dX6_leastEnd_20 : decode cX6_leastEnd 20 = .ok (.iload 5, 2) := by decide +kernel
theorem dX6_leastEnd_22 : decode cX6_leastEnd 22 = .ok (.iconst 5, 1) := by decide +kernel
theorem dX6_leastEnd_23 : decode cX6_leastEnd 23 = .ok (.iadd, 1) := by decide +kernel
theorem dX6_leastEnd_24 : decode cX6_leastEnd 24 = .ok (.aload_n 0, 1) := by decide +kernel
theorem dX6_leastEnd_25 : decode cX6_leastEnd 25 = .ok (.getfield 24, 3) := by decide +kernel
theorem dX6_leastEnd_28 : decode cX6_leastEnd 28 = .ok (.arraylength, 1) := by decide +kernel
theorem dX6_leastEnd_29 : decode cX6_leastEnd 29 = .ok (.if_icmp .gt 16, 3) := by decide +kernel
theorem dX6_leastEnd_32 : decode cX6_leastEnd 32 = .ok (.aload_n 0, 1) := by decide +kernel
theorem dX6_leastEnd_33 : decode cX6_leastEnd 33 = .ok (.getfield 24, 3) := by decide +kernel
theorem dX6_leastEnd_36 : decode cX6_leastEnd 36 = .ok (.iload 5, 2) := by decide +kernel
theorem dX6_leastEnd_38 : decode cX6_leastEnd 38 = .ok (.iload 4, 2) := by decide +kernel
theorem dX6_leastEnd_40 : decode cX6_leastEnd 40 = .ok (.iadd, 1) := by decide +kernel
theorem dX6_leastEnd_41 : decode cX6_leastEnd 41 = .ok (.baload, 1) := by decide +kernel
theorem dX6_leastEnd_42 : decode cX6_leastEnd 42 = .ok (.ifCond .ne 6, 3) := by decide +kernel
theorem dX6_leastEnd_45 : decode cX6_leastEnd 45 = .ok (.ldc 85, 2) := by decide +kernel
theorem dX6_leastEnd_47 : decode cX6_leastEnd 47 = .ok (.ireturn, 1) := by decide +kernel
theorem dX6_leastEnd_48 : decode cX6_leastEnd 48 = .ok (.iload 6, 2) := by decide +kernel
theorem dX6_leastEnd_50 : decode cX6_leastEnd 50 = .ok (.ifCond .ne 7, 3) := by decide +kernel
theorem dX6_leastEnd_53 : decode cX6_leastEnd 53 = .ok (.iconst 0, 1) := by decide +kernel
theorem dX6_leastEnd_54 : decode cX6_leastEnd 54 = .ok (.goto 5, 3) := by decide +kernel
theorem dX6_leastEnd_57 : decode cX6_leastEnd 57 = .ok (.ldc 85, 2) := by decide +kernel
theorem dX6_leastEnd_59 : decode cX6_leastEnd 59 = .ok (.istore 7, 2) := by decide +kernel
theorem dX6_leastEnd_61 : decode cX6_leastEnd 61 = .ok (.iconst 0, 1) := by decide +kernel
theorem dX6_leastEnd_62 : decode cX6_leastEnd 62 = .ok (.istore 8, 2) := by decide +kernel
theorem dX6_leastEnd_64 : decode cX6_leastEnd 64 = .ok (.iload 8, 2) := by decide +kernel
theorem dX6_leastEnd_66 : decode cX6_leastEnd 66 = .ok (.aload_n 0, 1) := by decide +kernel
theorem dX6_leastEnd_67 : decode cX6_leastEnd 67 = .ok (.getfield 34, 3) := by decide +kernel
theorem dX6_leastEnd_70 : decode cX6_leastEnd 70 = .ok (.if_icmp .ge 70, 3) := by decide +kernel
theorem dX6_leastEnd_73 : decode cX6_leastEnd 73 = .ok (.iload 8, 2) := by decide +kernel
theorem dX6_leastEnd_75 : decode cX6_leastEnd 75 = .ok (.iconst 5, 1) := by decide +kernel
theorem dX6_leastEnd_76 : decode cX6_leastEnd 76 = .ok (.if_icmp .ge 64, 3) := by decide +kernel
theorem dX6_leastEnd_79 : decode cX6_leastEnd 79 = .ok (.iload 6, 2) := by decide +kernel
theorem dX6_leastEnd_81 : decode cX6_leastEnd 81 = .ok (.iload 8, 2) := by decide +kernel
theorem dX6_leastEnd_83 : decode cX6_leastEnd 83 = .ok (.ishr, 1) := by decide +kernel
theorem dX6_leastEnd_84 : decode cX6_leastEnd 84 = .ok (.iconst 1, 1) := by decide +kernel
theorem dX6_leastEnd_85 : decode cX6_leastEnd 85 = .ok (.iand, 1) := by decide +kernel
theorem dX6_leastEnd_86 : decode cX6_leastEnd 86 = .ok (.iconst 1, 1) := by decide +kernel
theorem dX6_leastEnd_87 : decode cX6_leastEnd 87 = .ok (.if_icmp .ne 47, 3) := by decide +kernel
theorem dX6_leastEnd_90 : decode cX6_leastEnd 90 = .ok (.aload_n 1, 1) := by decide +kernel
theorem dX6_leastEnd_91 : decode cX6_leastEnd 91 = .ok (.aload_n 0, 1) := by decide +kernel
theorem dX6_leastEnd_92 : decode cX6_leastEnd 92 = .ok (.getfield 15, 3) := by decide +kernel
theorem dX6_leastEnd_95 : decode cX6_leastEnd 95 = .ok (.iload 5, 2) := by decide +kernel
theorem dX6_leastEnd_97 : decode cX6_leastEnd 97 = .ok (.iload 8, 2) := by decide +kernel
theorem dX6_leastEnd_99 : decode cX6_leastEnd 99 = .ok (.iadd, 1) := by decide +kernel
theorem dX6_leastEnd_100 : decode cX6_leastEnd 100 = .ok (.iaload, 1) := by decide +kernel
theorem dX6_leastEnd_101 : decode cX6_leastEnd 101 = .ok (.aload_n 0, 1) := by decide +kernel
theorem dX6_leastEnd_102 : decode cX6_leastEnd 102 = .ok (.getfield 9, 3) := by decide +kernel
theorem dX6_leastEnd_105 : decode cX6_leastEnd 105 = .ok (.iload 5, 2) := by decide +kernel
theorem dX6_leastEnd_107 : decode cX6_leastEnd 107 = .ok (.iload 4, 2) := by decide +kernel
theorem dX6_leastEnd_109 : decode cX6_leastEnd 109 = .ok (.iadd, 1) := by decide +kernel
theorem dX6_leastEnd_110 : decode cX6_leastEnd 110 = .ok (.iaload, 1) := by decide +kernel
theorem dX6_leastEnd_111 : decode cX6_leastEnd 111 = .ok (.invokevirtual 100, 3) := by decide +kernel
theorem dX6_leastEnd_114 : decode cX6_leastEnd 114 = .ok (.istore 9, 2) := by decide +kernel
theorem dX6_leastEnd_116 : decode cX6_leastEnd 116 = .ok (.iload 7, 2) := by decide +kernel
theorem dX6_leastEnd_118 : decode cX6_leastEnd 118 = .ok (.aload_n 0, 1) := by decide +kernel
theorem dX6_leastEnd_119 : decode cX6_leastEnd 119 = .ok (.iload 6, 2) := by decide +kernel
theorem dX6_leastEnd_121 : decode cX6_leastEnd 121 = .ok (.iload 8, 2) := by decide +kernel
theorem dX6_leastEnd_123 : decode cX6_leastEnd 123 = .ok (.invokevirtual 105, 3) := by decide +kernel
theorem dX6_leastEnd_126 : decode cX6_leastEnd 126 = .ok (.iload 9, 2) := by decide +kernel
theorem dX6_leastEnd_128 : decode cX6_leastEnd 128 = .ok (.iadd, 1) := by decide +kernel
theorem dX6_leastEnd_129 : decode cX6_leastEnd 129 = .ok (.invokestatic 90, 3) := by decide +kernel
theorem dX6_leastEnd_132 : decode cX6_leastEnd 132 = .ok (.istore 7, 2) := by decide +kernel
theorem dX6_leastEnd_134 : decode cX6_leastEnd 134 = .ok (.iinc 8 1, 3) := by decide +kernel
theorem dX6_leastEnd_137 : decode cX6_leastEnd 137 = .ok (.goto (-73), 3) := by decide +kernel
theorem dX6_leastEnd_140 : decode cX6_leastEnd 140 = .ok (.iload 7, 2) := by decide +kernel
theorem dX6_leastEnd_142 : decode cX6_leastEnd 142 = .ok (.ireturn, 1) := by decide +kernel
theorem dX6_endAt_0 : decode cX6_endAt 0 = .ok (.iload_n 1, 1) := by decide +kernel
theorem dX6_endAt_1 : decode cX6_endAt 1 = .ok (.iconst 5, 1) := by decide +kernel
theorem dX6_endAt_2 : decode cX6_endAt 2 = .ok (.imul, 1) := by decide +kernel
theorem dX6_endAt_3 : decode cX6_endAt 3 = .ok (.iload_n 2, 1) := by decide +kernel
theorem dX6_endAt_4 : decode cX6_endAt 4 = .ok (.iadd, 1) := by decide +kernel
theorem dX6_endAt_5 : decode cX6_endAt 5 = .ok (.istore_n 3, 1) := by decide +kernel
theorem dX6_endAt_6 : decode cX6_endAt 6 = .ok (.iload_n 3, 1) := by decide +kernel
theorem dX6_endAt_7 : decode cX6_endAt 7 = .ok (.ifCond .lt 21, 3) := by decide +kernel
theorem dX6_endAt_10 : decode cX6_endAt 10 = .ok (.iload_n 3, 1) := by decide +kernel
theorem dX6_endAt_11 : decode cX6_endAt 11 = .ok (.aload_n 0, 1) := by decide +kernel
theorem dX6_endAt_12 : decode cX6_endAt 12 = .ok (.getfield 31, 3) := by decide +kernel
theorem dX6_endAt_15 : decode cX6_endAt 15 = .ok (.arraylength, 1) := by decide +kernel
theorem dX6_endAt_16 : decode cX6_endAt 16 = .ok (.if_icmp .ge 12, 3) := by decide +kernel
theorem dX6_endAt_19 : decode cX6_endAt 19 = .ok (.aload_n 0, 1) := by decide +kernel
theorem dX6_endAt_20 : decode cX6_endAt 20 = .ok (.getfield 31, 3) := by decide +kernel
theorem dX6_endAt_23 : decode cX6_endAt 23 = .ok (.iload_n 3, 1) := by decide +kernel
theorem dX6_endAt_24 : decode cX6_endAt 24 = .ok (.iaload, 1) := by decide +kernel
theorem dX6_endAt_25 : decode cX6_endAt 25 = .ok (.goto 5, 3) := by decide +kernel
theorem dX6_endAt_28 : decode cX6_endAt 28 = .ok (.ldc 85, 2) := by decide +kernel
theorem dX6_endAt_30 : decode cX6_endAt 30 = .ok (.ireturn, 1) := by decide +kernel
theorem dX6_setTime_0 : decode cX6_setTime 0 = .ok (.iload_n 1, 1) := by decide +kernel
theorem dX6_setTime_1 : decode cX6_setTime 1 = .ok (.bipush 32, 2) := by decide +kernel
theorem dX6_setTime_3 : decode cX6_setTime 3 = .ok (.imul, 1) := by decide +kernel
theorem dX6_setTime_4 : decode cX6_setTime 4 = .ok (.iload_n 2, 1) := by decide +kernel
theorem dX6_setTime_5 : decode cX6_setTime 5 = .ok (.iadd, 1) := by decide +kernel
theorem dX6_setTime_6 : decode cX6_setTime 6 = .ok (.istore 4, 2) := by decide +kernel
theorem dX6_setTime_8 : decode cX6_setTime 8 = .ok (.iload 4, 2) := by decide +kernel
theorem dX6_setTime_10 : decode cX6_setTime 10 = .ok (.ifCond .lt 21, 3) := by decide +kernel
theorem dX6_setTime_13 : decode cX6_setTime 13 = .ok (.iload 4, 2) := by decide +kernel
theorem dX6_setTime_15 : decode cX6_setTime 15 = .ok (.aload_n 0, 1) := by decide +kernel
theorem dX6_setTime_16 : decode cX6_setTime 16 = .ok (.getfield 28, 3) := by decide +kernel
theorem dX6_setTime_19 : decode cX6_setTime 19 = .ok (.arraylength, 1) := by decide +kernel
theorem dX6_setTime_20 : decode cX6_setTime 20 = .ok (.if_icmp .ge 11, 3) := by decide +kernel
theorem dX6_setTime_23 : decode cX6_setTime 23 = .ok (.aload_n 0, 1) := by decide +kernel
theorem dX6_setTime_24 : decode cX6_setTime 24 = .ok (.getfield 28, 3) := by decide +kernel
theorem dX6_setTime_27 : decode cX6_setTime 27 = .ok (.iload 4, 2) := by decide +kernel
theorem dX6_setTime_29 : decode cX6_setTime 29 = .ok (.iload_n 3, 1) := by decide +kernel
theorem dX6_setTime_30 : decode cX6_setTime 30 = .ok (.iastore, 1) := by decide +kernel
theorem dX6_setTime_31 : decode cX6_setTime 31 = .ok (.return_, 1) := by decide +kernel
theorem dX6_timeAt_0 : decode cX6_timeAt 0 = .ok (.iload_n 1, 1) := by decide +kernel
theorem dX6_timeAt_1 : decode cX6_timeAt 1 = .ok (.bipush 32, 2) := by decide +kernel
theorem dX6_timeAt_3 : decode cX6_timeAt 3 = .ok (.imul, 1) := by decide +kernel
theorem dX6_timeAt_4 : decode cX6_timeAt 4 = .ok (.iload_n 2, 1) := by decide +kernel
theorem dX6_timeAt_5 : decode cX6_timeAt 5 = .ok (.iadd, 1) := by decide +kernel
theorem dX6_timeAt_6 : decode cX6_timeAt 6 = .ok (.istore_n 3, 1) := by decide +kernel
theorem dX6_timeAt_7 : decode cX6_timeAt 7 = .ok (.iload_n 3, 1) := by decide +kernel
theorem dX6_timeAt_8 : decode cX6_timeAt 8 = .ok (.ifCond .lt 21, 3) := by decide +kernel
theorem dX6_timeAt_11 : decode cX6_timeAt 11 = .ok (.iload_n 3, 1) := by decide +kernel
theorem dX6_timeAt_12 : decode cX6_timeAt 12 = .ok (.aload_n 0, 1) := by decide +kernel
theorem dX6_timeAt_13 : decode cX6_timeAt 13 = .ok (.getfield 28, 3) := by decide +kernel
theorem dX6_timeAt_16 : decode cX6_timeAt 16 = .ok (.arraylength, 1) := by decide +kernel
theorem dX6_timeAt_17 : decode cX6_timeAt 17 = .ok (.if_icmp .ge 12, 3) := by decide +kernel
theorem dX6_timeAt_20 : decode cX6_timeAt 20 = .ok (.aload_n 0, 1) := by decide +kernel
theorem dX6_timeAt_21 : decode cX6_timeAt 21 = .ok (.getfield 28, 3) := by decide +kernel
theorem dX6_timeAt_24 : decode cX6_timeAt 24 = .ok (.iload_n 3, 1) := by decide +kernel
theorem dX6_timeAt_25 : decode cX6_timeAt 25 = .ok (.iaload, 1) := by decide +kernel
theorem dX6_timeAt_26 : decode cX6_timeAt 26 = .ok (.goto 5, 3) := by decide +kernel
theorem dX6_timeAt_29 : decode cX6_timeAt 29 = .ok (.ldc 85, 2) := by decide +kernel
theorem dX6_timeAt_31 : decode cX6_timeAt 31 = .ok (.ireturn, 1) := by decide +kernel
theorem dX6_choose_0 : decode cX6_choose 0 = .ok (.aload_n 0, 1) := by decide +kernel
theorem dX6_choose_1 : decode cX6_choose 1 = .ok (.ldc 85, 2) := by decide +kernel
theorem dX6_choose_3 : decode cX6_choose 3 = .ok (.putfield 108, 3) := by decide +kernel
theorem dX6_choose_6 : decode cX6_choose 6 = .ok (.iconst 0, 1) := by decide +kernel
theorem dX6_choose_7 : decode cX6_choose 7 = .ok (.istore_n 1, 1) := by decide +kernel
theorem dX6_choose_8 : decode cX6_choose 8 = .ok (.iconst 1, 1) := by decide +kernel
theorem dX6_choose_9 : decode cX6_choose 9 = .ok (.aload_n 0, 1) := by decide +kernel
theorem dX6_choose_10 : decode cX6_choose 10 = .ok (.getfield 34, 3) := by decide +kernel
theorem dX6_choose_13 : decode cX6_choose 13 = .ok (.ishl, 1) := by decide +kernel
theorem dX6_choose_14 : decode cX6_choose 14 = .ok (.iconst 1, 1) := by decide +kernel
theorem dX6_choose_15 : decode cX6_choose 15 = .ok (.isub, 1) := by decide +kernel
theorem dX6_choose_16 : decode cX6_choose 16 = .ok (.istore_n 2, 1) := by decide +kernel
theorem dX6_choose_17 : decode cX6_choose 17 = .ok (.iconst 0, 1) := by decide +kernel
theorem dX6_choose_18 : decode cX6_choose 18 = .ok (.istore_n 3, 1) := by decide +kernel
theorem dX6_choose_19 : decode cX6_choose 19 = .ok (.iload_n 3, 1) := by decide +kernel
theorem dX6_choose_20 : decode cX6_choose 20 = .ok (.iload_n 2, 1) := by decide +kernel
theorem dX6_choose_21 : decode cX6_choose 21 = .ok (.if_icmp .gt 53, 3) := by decide +kernel
theorem dX6_choose_24 : decode cX6_choose 24 = .ok (.iload_n 3, 1) := by decide +kernel
theorem dX6_choose_25 : decode cX6_choose 25 = .ok (.bipush 32, 2) := by decide +kernel
theorem dX6_choose_27 : decode cX6_choose 27 = .ok (.if_icmp .ge 47, 3) := by decide +kernel
theorem dX6_choose_30 : decode cX6_choose 30 = .ok (.aload_n 0, 1) := by decide +kernel
theorem dX6_choose_31 : decode cX6_choose 31 = .ok (.iconst 0, 1) := by decide +kernel
theorem dX6_choose_32 : decode cX6_choose 32 = .ok (.iload_n 2, 1) := by decide +kernel
theorem dX6_choose_33 : decode cX6_choose 33 = .ok (.iload_n 3, 1) := by decide +kernel
theorem dX6_choose_34 : decode cX6_choose 34 = .ok (.iconst (-1), 1) := by decide +kernel
theorem dX6_choose_35 : decode cX6_choose 35 = .ok (.ixor, 1) := by decide +kernel
theorem dX6_choose_36 : decode cX6_choose 36 = .ok (.iand, 1) := by decide +kernel
theorem dX6_choose_37 : decode cX6_choose 37 = .ok (.invokevirtual 111, 3) := by decide +kernel
theorem dX6_choose_40 : decode cX6_choose 40 = .ok (.aload_n 0, 1) := by decide +kernel
theorem dX6_choose_41 : decode cX6_choose 41 = .ok (.iconst 1, 1) := by decide +kernel
theorem dX6_choose_42 : decode cX6_choose 42 = .ok (.iload_n 3, 1) := by decide +kernel
theorem dX6_choose_43 : decode cX6_choose 43 = .ok (.invokevirtual 111, 3) := by decide +kernel
theorem dX6_choose_46 : decode cX6_choose 46 = .ok (.invokestatic 114, 3) := by decide +kernel
theorem dX6_choose_49 : decode cX6_choose 49 = .ok (.istore 4, 2) := by decide +kernel
theorem dX6_choose_51 : decode cX6_choose 51 = .ok (.iload 4, 2) := by decide +kernel
theorem dX6_choose_53 : decode cX6_choose 53 = .ok (.aload_n 0, 1) := by decide +kernel
theorem dX6_choose_54 : decode cX6_choose 54 = .ok (.getfield 108, 3) := by decide +kernel
theorem dX6_choose_57 : decode cX6_choose 57 = .ok (.if_icmp .ge 11, 3) := by decide +kernel
theorem dX6_choose_60 : decode cX6_choose 60 = .ok (.aload_n 0, 1) := by decide +kernel
theorem dX6_choose_61 : decode cX6_choose 61 = .ok (.iload 4, 2) := by decide +kernel
theorem dX6_choose_63 : decode cX6_choose 63 = .ok (.putfield 108, 3) := by decide +kernel
theorem dX6_choose_66 : decode cX6_choose 66 = .ok (.iload_n 3, 1) := by decide +kernel
theorem dX6_choose_67 : decode cX6_choose 67 = .ok (.istore_n 1, 1) := by decide +kernel
theorem dX6_choose_68 : decode cX6_choose 68 = .ok (.iinc 3 1, 3) := by decide +kernel
theorem dX6_choose_71 : decode cX6_choose 71 = .ok (.goto (-52), 3) := by decide +kernel
theorem dX6_choose_74 : decode cX6_choose 74 = .ok (.aload_n 0, 1) := by decide +kernel
theorem dX6_choose_75 : decode cX6_choose 75 = .ok (.iconst 0, 1) := by decide +kernel
theorem dX6_choose_76 : decode cX6_choose 76 = .ok (.putfield 117, 3) := by decide +kernel
theorem dX6_choose_79 : decode cX6_choose 79 = .ok (.iconst 0, 1) := by decide +kernel
theorem dX6_choose_80 : decode cX6_choose 80 = .ok (.istore_n 3, 1) := by decide +kernel
theorem dX6_choose_81 : decode cX6_choose 81 = .ok (.iload_n 3, 1) := by decide +kernel
theorem dX6_choose_82 : decode cX6_choose 82 = .ok (.aload_n 0, 1) := by decide +kernel
theorem dX6_choose_83 : decode cX6_choose 83 = .ok (.getfield 34, 3) := by decide +kernel
theorem dX6_choose_86 : decode cX6_choose 86 = .ok (.if_icmp .ge 35, 3) := by decide +kernel
theorem dX6_choose_89 : decode cX6_choose 89 = .ok (.iload_n 3, 1) := by decide +kernel
theorem dX6_choose_90 : decode cX6_choose 90 = .ok (.iconst 5, 1) := by decide +kernel
theorem dX6_choose_91 : decode cX6_choose 91 = .ok (.if_icmp .ge 30, 3) := by decide +kernel
theorem dX6_choose_94 : decode cX6_choose 94 = .ok (.aload_n 0, 1) := by decide +kernel
theorem dX6_choose_95 : decode cX6_choose 95 = .ok (.dup, 1) := by decide +kernel
theorem dX6_choose_96 : decode cX6_choose 96 = .ok (.getfield 117, 3) := by decide +kernel
theorem dX6_choose_99 : decode cX6_choose 99 = .ok (.iload_n 1, 1) := by decide +kernel
theorem dX6_choose_100 : decode cX6_choose 100 = .ok (.iload_n 3, 1) := by decide +kernel
theorem dX6_choose_101 : decode cX6_choose 101 = .ok (.ishr, 1) := by decide +kernel
theorem dX6_choose_102 : decode cX6_choose 102 = .ok (.iconst 1, 1) := by decide +kernel
theorem dX6_choose_103 : decode cX6_choose 103 = .ok (.iand, 1) := by decide +kernel
theorem dX6_choose_104 : decode cX6_choose 104 = .ok (.aload_n 0, 1) := by decide +kernel
theorem dX6_choose_105 : decode cX6_choose 105 = .ok (.getfield 21, 3) := by decide +kernel
theorem dX6_choose_108 : decode cX6_choose 108 = .ok (.iload_n 3, 1) := by decide +kernel
theorem dX6_choose_109 : decode cX6_choose 109 = .ok (.iaload, 1) := by decide +kernel
theorem dX6_choose_110 : decode cX6_choose 110 = .ok (.ishl, 1) := by decide +kernel
theorem dX6_choose_111 : decode cX6_choose 111 = .ok (.ior, 1) := by decide +kernel
theorem dX6_choose_112 : decode cX6_choose 112 = .ok (.putfield 117, 3) := by decide +kernel
theorem dX6_choose_115 : decode cX6_choose 115 = .ok (.iinc 3 1, 3) := by decide +kernel
theorem dX6_choose_118 : decode cX6_choose 118 = .ok (.goto (-37), 3) := by decide +kernel
theorem dX6_choose_121 : decode cX6_choose 121 = .ok (.return_, 1) := by decide +kernel
theorem dX7_init_0 : decode cX7_init 0 = .ok (.aload_n 0, 1) := by decide +kernel
theorem dX7_init_1 : decode cX7_init 1 = .ok (.invokespecial 3, 3) := by decide +kernel
theorem dX7_init_4 : decode cX7_init 4 = .ok (.aload_n 0, 1) := by decide +kernel
theorem dX7_init_5 : decode cX7_init 5 = .ok (.iconst 2, 1) := by decide +kernel
theorem dX7_init_6 : decode cX7_init 6 = .ok (.anewarray 9, 3) := by decide +kernel
theorem dX7_init_9 : decode cX7_init 9 = .ok (.putfield 11, 3) := by decide +kernel
theorem dX7_init_12 : decode cX7_init 12 = .ok (.aload_n 0, 1) := by decide +kernel
theorem dX7_init_13 : decode cX7_init 13 = .ok (.bipush 10, 2) := by decide +kernel
theorem dX7_init_15 : decode cX7_init 15 = .ok (.anewarray 17, 3) := by decide +kernel
theorem dX7_init_18 : decode cX7_init 18 = .ok (.putfield 19, 3) := by decide +kernel
theorem dX7_init_21 : decode cX7_init 21 = .ok (.iconst 0, 1) := by decide +kernel
theorem dX7_init_22 : decode cX7_init 22 = .ok (.istore_n 1, 1) := by decide +kernel
theorem dX7_init_23 : decode cX7_init 23 = .ok (.iload_n 1, 1) := by decide +kernel
theorem dX7_init_24 : decode cX7_init 24 = .ok (.iconst 2, 1) := by decide +kernel
theorem dX7_init_25 : decode cX7_init 25 = .ok (.if_icmp .ge 22, 3) := by decide +kernel
theorem dX7_init_28 : decode cX7_init 28 = .ok (.aload_n 0, 1) := by decide +kernel
theorem dX7_init_29 : decode cX7_init 29 = .ok (.getfield 11, 3) := by decide +kernel
theorem dX7_init_32 : decode cX7_init 32 = .ok (.iload_n 1, 1) := by decide +kernel
theorem dX7_init_33 : decode cX7_init 33 = .ok (.new 9, 3) := by decide +kernel
theorem dX7_init_36 : decode cX7_init 36 = .ok (.dup, 1) := by decide +kernel
theorem dX7_init_37 : decode cX7_init 37 = .ok (.invokespecial 23, 3) := by decide +kernel
theorem dX7_init_40 : decode cX7_init 40 = .ok (.aastore, 1) := by decide +kernel
theorem dX7_init_41 : decode cX7_init 41 = .ok (.iinc 1 1, 3) := by decide +kernel
theorem dX7_init_44 : decode cX7_init 44 = .ok (.goto (-21), 3) := by decide +kernel
theorem dX7_init_47 : decode cX7_init 47 = .ok (.iconst 0, 1) := by decide +kernel
theorem dX7_init_48 : decode cX7_init 48 = .ok (.istore_n 1, 1) := by decide +kernel
theorem dX7_init_49 : decode cX7_init 49 = .ok (.iload_n 1, 1) := by decide +kernel
theorem dX7_init_50 : decode cX7_init 50 = .ok (.bipush 10, 2) := by decide +kernel
theorem dX7_init_52 : decode cX7_init 52 = .ok (.if_icmp .ge 22, 3) := by decide +kernel
theorem dX7_init_55 : decode cX7_init 55 = .ok (.aload_n 0, 1) := by decide +kernel
theorem dX7_init_56 : decode cX7_init 56 = .ok (.getfield 19, 3) := by decide +kernel
theorem dX7_init_59 : decode cX7_init 59 = .ok (.iload_n 1, 1) := by decide +kernel
theorem dX7_init_60 : decode cX7_init 60 = .ok (.new 17, 3) := by decide +kernel
theorem dX7_init_63 : decode cX7_init 63 = .ok (.dup, 1) := by decide +kernel
theorem dX7_init_64 : decode cX7_init 64 = .ok (.invokespecial 24, 3) := by decide +kernel
theorem dX7_init_67 : decode cX7_init 67 = .ok (.aastore, 1) := by decide +kernel
theorem dX7_init_68 : decode cX7_init 68 = .ok (.iinc 1 1, 3) := by decide +kernel
theorem dX7_init_71 : decode cX7_init 71 = .ok (.goto (-22), 3) := by decide +kernel
theorem dX7_init_74 : decode cX7_init 74 = .ok (.return_, 1) := by decide +kernel
theorem dX7_armAt_0 : decode cX7_armAt 0 = .ok (.iload_n 1, 1) := by decide +kernel
theorem dX7_armAt_1 : decode cX7_armAt 1 = .ok (.ifCond .lt 25, 3) := by decide +kernel
theorem dX7_armAt_4 : decode cX7_armAt 4 = .ok (.iload_n 1, 1) := by decide +kernel
theorem dX7_armAt_5 : decode cX7_armAt 5 = .ok (.aload_n 0, 1) := by decide +kernel
theorem dX7_armAt_6 : decode cX7_armAt 6 = .ok (.getfield 25, 3) := by decide +kernel
theorem dX7_armAt_9 : decode cX7_armAt 9 = .ok (.if_icmp .ge 17, 3) := by decide +kernel
theorem dX7_armAt_12 : decode cX7_armAt 12 = .ok (.iload_n 1, 1) := by decide +kernel
theorem dX7_armAt_13 : decode cX7_armAt 13 = .ok (.iconst 2, 1) := by decide +kernel
theorem dX7_armAt_14 : decode cX7_armAt 14 = .ok (.if_icmp .ge 12, 3) := by decide +kernel
theorem dX7_armAt_17 : decode cX7_armAt 17 = .ok (.aload_n 0, 1) := by decide +kernel
theorem dX7_armAt_18 : decode cX7_armAt 18 = .ok (.getfield 11, 3) := by decide +kernel
theorem dX7_armAt_21 : decode cX7_armAt 21 = .ok (.iload_n 1, 1) := by decide +kernel
theorem dX7_armAt_22 : decode cX7_armAt 22 = .ok (.aaload, 1) := by decide +kernel
theorem dX7_armAt_23 : decode cX7_armAt 23 = .ok (.goto 4, 3) := by decide +kernel
theorem dX7_armAt_26 : decode cX7_armAt 26 = .ok (.aconst_null, 1) := by decide +kernel
theorem dX7_armAt_27 : decode cX7_armAt 27 = .ok (.areturn, 1) := by decide +kernel
theorem dX7_tapeAt_0 : decode cX7_tapeAt 0 = .ok (.iload_n 1, 1) := by decide +kernel
theorem dX7_tapeAt_1 : decode cX7_tapeAt 1 = .ok (.ifCond .lt 26, 3) := by decide +kernel
theorem dX7_tapeAt_4 : decode cX7_tapeAt 4 = .ok (.iload_n 1, 1) := by decide +kernel
theorem dX7_tapeAt_5 : decode cX7_tapeAt 5 = .ok (.aload_n 0, 1) := by decide +kernel
theorem dX7_tapeAt_6 : decode cX7_tapeAt 6 = .ok (.getfield 29, 3) := by decide +kernel
theorem dX7_tapeAt_9 : decode cX7_tapeAt 9 = .ok (.if_icmp .ge 18, 3) := by decide +kernel
theorem dX7_tapeAt_12 : decode cX7_tapeAt 12 = .ok (.iload_n 1, 1) := by decide +kernel
theorem dX7_tapeAt_13 : decode cX7_tapeAt 13 = .ok (.bipush 10, 2) := by decide +kernel
theorem dX7_tapeAt_15 : decode cX7_tapeAt 15 = .ok (.if_icmp .ge 12, 3) := by decide +kernel
theorem dX7_tapeAt_18 : decode cX7_tapeAt 18 = .ok (.aload_n 0, 1) := by decide +kernel
theorem dX7_tapeAt_19 : decode cX7_tapeAt 19 = .ok (.getfield 19, 3) := by decide +kernel
theorem dX7_tapeAt_22 : decode cX7_tapeAt 22 = .ok (.iload_n 1, 1) := by decide +kernel
theorem dX7_tapeAt_23 : decode cX7_tapeAt 23 = .ok (.aaload, 1) := by decide +kernel
theorem dX7_tapeAt_24 : decode cX7_tapeAt 24 = .ok (.goto 4, 3) := by decide +kernel
theorem dX7_tapeAt_27 : decode cX7_tapeAt 27 = .ok (.aconst_null, 1) := by decide +kernel
theorem dX7_tapeAt_28 : decode cX7_tapeAt 28 = .ok (.areturn, 1) := by decide +kernel
theorem dX7_tapeOrStagedAt_0 : decode cX7_tapeOrStagedAt 0 = .ok (.iload_n 1, 1) := by decide +kernel
theorem dX7_tapeOrStagedAt_1 : decode cX7_tapeOrStagedAt 1 = .ok (.ifCond .lt 31, 3) := by decide +kernel
theorem dX7_tapeOrStagedAt_4 : decode cX7_tapeOrStagedAt 4 = .ok (.iload_n 1, 1) := by decide +kernel
theorem dX7_tapeOrStagedAt_5 : decode cX7_tapeOrStagedAt 5 = .ok (.aload_n 0, 1) := by decide +kernel
theorem dX7_tapeOrStagedAt_6 : decode cX7_tapeOrStagedAt 6 = .ok (.getfield 29, 3) := by decide +kernel
theorem dX7_tapeOrStagedAt_9 : decode cX7_tapeOrStagedAt 9 = .ok (.aload_n 0, 1) := by decide +kernel
theorem dX7_tapeOrStagedAt_10 : decode cX7_tapeOrStagedAt 10 = .ok (.getfield 32, 3) := by decide +kernel
theorem dX7_tapeOrStagedAt_13 : decode cX7_tapeOrStagedAt 13 = .ok (.iadd, 1) := by decide +kernel
theorem dX7_tapeOrStagedAt_14 : decode cX7_tapeOrStagedAt 14 = .ok (.if_icmp .ge 18, 3) := by decide +kernel
theorem dX7_tapeOrStagedAt_17 : decode cX7_tapeOrStagedAt 17 = .ok (.iload_n 1, 1) := by decide +kernel
theorem dX7_tapeOrStagedAt_18 : decode cX7_tapeOrStagedAt 18 = .ok (.bipush 10, 2) := by decide +kernel
theorem dX7_tapeOrStagedAt_20 : decode cX7_tapeOrStagedAt 20 = .ok (.if_icmp .ge 12, 3) := by decide +kernel
theorem dX7_tapeOrStagedAt_23 : decode cX7_tapeOrStagedAt 23 = .ok (.aload_n 0, 1) := by decide +kernel
theorem dX7_tapeOrStagedAt_24 : decode cX7_tapeOrStagedAt 24 = .ok (.getfield 19, 3) := by decide +kernel
theorem dX7_tapeOrStagedAt_27 : decode cX7_tapeOrStagedAt 27 = .ok (.iload_n 1, 1) := by decide +kernel
theorem dX7_tapeOrStagedAt_28 : decode cX7_tapeOrStagedAt 28 = .ok (.aaload, 1) := by decide +kernel
theorem dX7_tapeOrStagedAt_29 : decode cX7_tapeOrStagedAt 29 = .ok (.goto 4, 3) := by decide +kernel
theorem dX7_tapeOrStagedAt_32 : decode cX7_tapeOrStagedAt 32 = .ok (.aconst_null, 1) := by decide +kernel
theorem dX7_tapeOrStagedAt_33 : decode cX7_tapeOrStagedAt 33 = .ok (.areturn, 1) := by decide +kernel
theorem dX7_armOf_0 : decode cX7_armOf 0 = .ok (.aload_n 1, 1) := by decide +kernel
theorem dX7_armOf_1 : decode cX7_armOf 1 = .ok (.ifnonnull 7, 3) := by decide +kernel
theorem dX7_armOf_4 : decode cX7_armOf 4 = .ok (.aconst_null, 1) := by decide +kernel
theorem dX7_armOf_5 : decode cX7_armOf 5 = .ok (.goto 11, 3) := by decide +kernel
theorem dX7_armOf_8 : decode cX7_armOf 8 = .ok (.aload_n 0, 1) := by decide +kernel
theorem dX7_armOf_9 : decode cX7_armOf 9 = .ok (.aload_n 1, 1) := by decide +kernel
theorem dX7_armOf_10 : decode cX7_armOf 10 = .ok (.getfield 35, 3) := by decide +kernel
theorem dX7_armOf_13 : decode cX7_armOf 13 = .ok (.invokevirtual 38, 3) := by decide +kernel
theorem dX7_armOf_16 : decode cX7_armOf 16 = .ok (.areturn, 1) := by decide +kernel
theorem dX7_addArm_0 : decode cX7_addArm 0 = .ok (.aload_n 0, 1) := by decide +kernel
theorem dX7_addArm_1 : decode cX7_addArm 1 = .ok (.getfield 25, 3) := by decide +kernel
theorem dX7_addArm_4 : decode cX7_addArm 4 = .ok (.ifCond .lt 11, 3) := by decide +kernel
theorem dX7_addArm_7 : decode cX7_addArm 7 = .ok (.aload_n 0, 1) := by decide +kernel
theorem dX7_addArm_8 : decode cX7_addArm 8 = .ok (.getfield 25, 3) := by decide +kernel
theorem dX7_addArm_11 : decode cX7_addArm 11 = .ok (.iconst 2, 1) := by decide +kernel
theorem dX7_addArm_12 : decode cX7_addArm 12 = .ok (.if_icmp .lt 5, 3) := by decide +kernel
theorem dX7_addArm_15 : decode cX7_addArm 15 = .ok (.iconst (-1), 1) := by decide +kernel
theorem dX7_addArm_16 : decode cX7_addArm 16 = .ok (.ireturn, 1) := by decide +kernel
theorem dX7_addArm_17 : decode cX7_addArm 17 = .ok (.aload_n 0, 1) := by decide +kernel
theorem dX7_addArm_18 : decode cX7_addArm 18 = .ok (.getfield 11, 3) := by decide +kernel
theorem dX7_addArm_21 : decode cX7_addArm 21 = .ok (.aload_n 0, 1) := by decide +kernel
theorem dX7_addArm_22 : decode cX7_addArm 22 = .ok (.getfield 25, 3) := by decide +kernel
theorem dX7_addArm_25 : decode cX7_addArm 25 = .ok (.aaload, 1) := by decide +kernel
theorem dX7_addArm_26 : decode cX7_addArm 26 = .ok (.astore_n 3, 1) := by decide +kernel
theorem dX7_addArm_27 : decode cX7_addArm 27 = .ok (.aload_n 3, 1) := by decide +kernel
theorem dX7_addArm_28 : decode cX7_addArm 28 = .ok (.ifnonnull 5, 3) := by decide +kernel
theorem dX7_addArm_31 : decode cX7_addArm 31 = .ok (.iconst (-1), 1) := by decide +kernel
theorem dX7_addArm_32 : decode cX7_addArm 32 = .ok (.ireturn, 1) := by decide +kernel
theorem dX7_addArm_33 : decode cX7_addArm 33 = .ok (.aload_n 3, 1) := by decide +kernel
theorem dX7_addArm_34 : decode cX7_addArm 34 = .ok (.iload_n 1, 1) := by decide +kernel
theorem dX7_addArm_35 : decode cX7_addArm 35 = .ok (.iload_n 2, 1) := by decide +kernel
theorem dX7_addArm_36 : decode cX7_addArm 36 = .ok (.invokevirtual 42, 3) := by decide +kernel
theorem dX7_addArm_39 : decode cX7_addArm 39 = .ok (.aload_n 0, 1) := by decide +kernel
theorem dX7_addArm_40 : decode cX7_addArm 40 = .ok (.dup, 1) := by decide +kernel
theorem dX7_addArm_41 : decode cX7_addArm 41 = .ok (.getfield 25, 3) := by decide +kernel
theorem dX7_addArm_44 : decode cX7_addArm 44 = .ok (.iconst 1, 1) := by decide +kernel
theorem dX7_addArm_45 : decode cX7_addArm 45 = .ok (.iadd, 1) := by decide +kernel
theorem dX7_addArm_46 : decode cX7_addArm 46 = .ok (.putfield 25, 3) := by decide +kernel
theorem dX7_addArm_49 : decode cX7_addArm 49 = .ok (.aload_n 0, 1) := by decide +kernel
theorem dX7_addArm_50 : decode cX7_addArm 50 = .ok (.getfield 25, 3) := by decide +kernel
theorem dX7_addArm_53 : decode cX7_addArm 53 = .ok (.iconst 1, 1) := by decide +kernel
theorem dX7_addArm_54 : decode cX7_addArm 54 = .ok (.isub, 1) := by decide +kernel
theorem dX7_addArm_55 : decode cX7_addArm 55 = .ok (.ireturn, 1) := by decide +kernel
theorem dX7_hasRoom_0 : decode cX7_hasRoom 0 = .ok (.aload_n 0, 1) := by decide +kernel
theorem dX7_hasRoom_1 : decode cX7_hasRoom 1 = .ok (.getfield 29, 3) := by decide +kernel
theorem dX7_hasRoom_4 : decode cX7_hasRoom 4 = .ok (.aload_n 0, 1) := by decide +kernel
theorem dX7_hasRoom_5 : decode cX7_hasRoom 5 = .ok (.getfield 32, 3) := by decide +kernel
theorem dX7_hasRoom_8 : decode cX7_hasRoom 8 = .ok (.iadd, 1) := by decide +kernel
theorem dX7_hasRoom_9 : decode cX7_hasRoom 9 = .ok (.bipush 10, 2) := by decide +kernel
theorem dX7_hasRoom_11 : decode cX7_hasRoom 11 = .ok (.if_icmp .ge 7, 3) := by decide +kernel
theorem dX7_hasRoom_14 : decode cX7_hasRoom 14 = .ok (.iconst 1, 1) := by decide +kernel
theorem dX7_hasRoom_15 : decode cX7_hasRoom 15 = .ok (.goto 4, 3) := by decide +kernel
theorem dX7_hasRoom_18 : decode cX7_hasRoom 18 = .ok (.iconst 0, 1) := by decide +kernel
theorem dX7_hasRoom_19 : decode cX7_hasRoom 19 = .ok (.ireturn, 1) := by decide +kernel
theorem dX7_addTape_0 : decode cX7_addTape 0 = .ok (.aload_n 0, 1) := by decide +kernel
theorem dX7_addTape_1 : decode cX7_addTape 1 = .ok (.invokevirtual 46, 3) := by decide +kernel
theorem dX7_addTape_4 : decode cX7_addTape 4 = .ok (.astore_n 2, 1) := by decide +kernel
theorem dX7_addTape_5 : decode cX7_addTape 5 = .ok (.aload_n 2, 1) := by decide +kernel
theorem dX7_addTape_6 : decode cX7_addTape 6 = .ok (.ifnonnull 5, 3) := by decide +kernel
theorem dX7_addTape_9 : decode cX7_addTape 9 = .ok (.iconst (-1), 1) := by decide +kernel
theorem dX7_addTape_10 : decode cX7_addTape 10 = .ok (.ireturn, 1) := by decide +kernel
theorem dX7_addTape_11 : decode cX7_addTape 11 = .ok (.aload_n 2, 1) := by decide +kernel
theorem dX7_addTape_12 : decode cX7_addTape 12 = .ok (.iload_n 1, 1) := by decide +kernel
theorem dX7_addTape_13 : decode cX7_addTape 13 = .ok (.invokevirtual 50, 3) := by decide +kernel
theorem dX7_addTape_16 : decode cX7_addTape 16 = .ok (.aload_n 0, 1) := by decide +kernel
theorem dX7_addTape_17 : decode cX7_addTape 17 = .ok (.dup, 1) := by decide +kernel
theorem dX7_addTape_18 : decode cX7_addTape 18 = .ok (.getfield 29, 3) := by decide +kernel
theorem dX7_addTape_21 : decode cX7_addTape 21 = .ok (.iconst 1, 1) := by decide +kernel
theorem dX7_addTape_22 : decode cX7_addTape 22 = .ok (.iadd, 1) := by decide +kernel
theorem dX7_addTape_23 : decode cX7_addTape 23 = .ok (.putfield 29, 3) := by decide +kernel
theorem dX7_addTape_26 : decode cX7_addTape 26 = .ok (.aload_n 0, 1) := by decide +kernel
theorem dX7_addTape_27 : decode cX7_addTape 27 = .ok (.getfield 29, 3) := by decide +kernel
theorem dX7_addTape_30 : decode cX7_addTape 30 = .ok (.iconst 1, 1) := by decide +kernel
theorem dX7_addTape_31 : decode cX7_addTape 31 = .ok (.isub, 1) := by decide +kernel
theorem dX7_addTape_32 : decode cX7_addTape 32 = .ok (.ireturn, 1) := by decide +kernel
theorem dX7_stage_0 : decode cX7_stage 0 = .ok (.aload_n 0, 1) := by decide +kernel
theorem dX7_stage_1 : decode cX7_stage 1 = .ok (.invokevirtual 46, 3) := by decide +kernel
theorem dX7_stage_4 : decode cX7_stage 4 = .ok (.astore_n 2, 1) := by decide +kernel
theorem dX7_stage_5 : decode cX7_stage 5 = .ok (.aload_n 2, 1) := by decide +kernel
theorem dX7_stage_6 : decode cX7_stage 6 = .ok (.ifnonnull 5, 3) := by decide +kernel
theorem dX7_stage_9 : decode cX7_stage 9 = .ok (.iconst 0, 1) := by decide +kernel
theorem dX7_stage_10 : decode cX7_stage 10 = .ok (.ireturn, 1) := by decide +kernel
theorem dX7_stage_11 : decode cX7_stage 11 = .ok (.aload_n 2, 1) := by decide +kernel
theorem dX7_stage_12 : decode cX7_stage 12 = .ok (.aload_n 1, 1) := by decide +kernel
theorem dX7_stage_13 : decode cX7_stage 13 = .ok (.getfield 35, 3) := by decide +kernel
theorem dX7_stage_16 : decode cX7_stage 16 = .ok (.invokevirtual 50, 3) := by decide +kernel
theorem dX7_stage_19 : decode cX7_stage 19 = .ok (.aload_n 2, 1) := by decide +kernel
theorem dX7_stage_20 : decode cX7_stage 20 = .ok (.aload_n 1, 1) := by decide +kernel
theorem dX7_stage_21 : decode cX7_stage 21 = .ok (.iconst 0, 1) := by decide +kernel
theorem dX7_stage_22 : decode cX7_stage 22 = .ok (.aload_n 1, 1) := by decide +kernel
theorem dX7_stage_23 : decode cX7_stage 23 = .ok (.getfield 54, 3) := by decide +kernel
theorem dX7_stage_26 : decode cX7_stage 26 = .ok (.iconst 1, 1) := by decide +kernel
theorem dX7_stage_27 : decode cX7_stage 27 = .ok (.isub, 1) := by decide +kernel
theorem dX7_stage_28 : decode cX7_stage 28 = .ok (.invokevirtual 57, 3) := by decide +kernel
theorem dX7_stage_31 : decode cX7_stage 31 = .ok (.aload_n 0, 1) := by decide +kernel
theorem dX7_stage_32 : decode cX7_stage 32 = .ok (.dup, 1) := by decide +kernel
theorem dX7_stage_33 : decode cX7_stage 33 = .ok (.getfield 32, 3) := by decide +kernel
theorem dX7_stage_36 : decode cX7_stage 36 = .ok (.iconst 1, 1) := by decide +kernel
theorem dX7_stage_37 : decode cX7_stage 37 = .ok (.iadd, 1) := by decide +kernel
theorem dX7_stage_38 : decode cX7_stage 38 = .ok (.putfield 32, 3) := by decide +kernel
theorem dX7_stage_41 : decode cX7_stage 41 = .ok (.iconst 1, 1) := by decide +kernel
theorem dX7_stage_42 : decode cX7_stage 42 = .ok (.ireturn, 1) := by decide +kernel
theorem dX7_nextTape_0 : decode cX7_nextTape 0 = .ok (.aload_n 0, 1) := by decide +kernel
theorem dX7_nextTape_1 : decode cX7_nextTape 1 = .ok (.getfield 29, 3) := by decide +kernel
theorem dX7_nextTape_4 : decode cX7_nextTape 4 = .ok (.aload_n 0, 1) := by decide +kernel
theorem dX7_nextTape_5 : decode cX7_nextTape 5 = .ok (.getfield 32, 3) := by decide +kernel
theorem dX7_nextTape_8 : decode cX7_nextTape 8 = .ok (.iadd, 1) := by decide +kernel
theorem dX7_nextTape_9 : decode cX7_nextTape 9 = .ok (.istore_n 1, 1) := by decide +kernel
theorem dX7_nextTape_10 : decode cX7_nextTape 10 = .ok (.iload_n 1, 1) := by decide +kernel
theorem dX7_nextTape_11 : decode cX7_nextTape 11 = .ok (.ifCond .lt 18, 3) := by decide +kernel
theorem dX7_nextTape_14 : decode cX7_nextTape 14 = .ok (.iload_n 1, 1) := by decide +kernel
theorem dX7_nextTape_15 : decode cX7_nextTape 15 = .ok (.bipush 10, 2) := by decide +kernel
theorem dX7_nextTape_17 : decode cX7_nextTape 17 = .ok (.if_icmp .ge 12, 3) := by decide +kernel
theorem dX7_nextTape_20 : decode cX7_nextTape 20 = .ok (.aload_n 0, 1) := by decide +kernel
theorem dX7_nextTape_21 : decode cX7_nextTape 21 = .ok (.getfield 19, 3) := by decide +kernel
theorem dX7_nextTape_24 : decode cX7_nextTape 24 = .ok (.iload_n 1, 1) := by decide +kernel
theorem dX7_nextTape_25 : decode cX7_nextTape 25 = .ok (.aaload, 1) := by decide +kernel
theorem dX7_nextTape_26 : decode cX7_nextTape 26 = .ok (.goto 4, 3) := by decide +kernel
theorem dX7_nextTape_29 : decode cX7_nextTape 29 = .ok (.aconst_null, 1) := by decide +kernel
theorem dX7_nextTape_30 : decode cX7_nextTape 30 = .ok (.areturn, 1) := by decide +kernel
theorem dX7_keepStaged_0 : decode cX7_keepStaged 0 = .ok (.aload_n 0, 1) := by decide +kernel
theorem dX7_keepStaged_1 : decode cX7_keepStaged 1 = .ok (.getfield 32, 3) := by decide +kernel
theorem dX7_keepStaged_4 : decode cX7_keepStaged 4 = .ok (.istore_n 1, 1) := by decide +kernel
theorem dX7_keepStaged_5 : decode cX7_keepStaged 5 = .ok (.aload_n 0, 1) := by decide +kernel
theorem dX7_keepStaged_6 : decode cX7_keepStaged 6 = .ok (.dup, 1) := by decide +kernel
theorem dX7_keepStaged_7 : decode cX7_keepStaged 7 = .ok (.getfield 29, 3) := by decide +kernel
theorem dX7_keepStaged_10 : decode cX7_keepStaged 10 = .ok (.iload_n 1, 1) := by decide +kernel
theorem dX7_keepStaged_11 : decode cX7_keepStaged 11 = .ok (.iadd, 1) := by decide +kernel
theorem dX7_keepStaged_12 : decode cX7_keepStaged 12 = .ok (.putfield 29, 3) := by decide +kernel
theorem dX7_keepStaged_15 : decode cX7_keepStaged 15 = .ok (.aload_n 0, 1) := by decide +kernel
theorem dX7_keepStaged_16 : decode cX7_keepStaged 16 = .ok (.iconst 0, 1) := by decide +kernel
theorem dX7_keepStaged_17 : decode cX7_keepStaged 17 = .ok (.putfield 32, 3) := by decide +kernel
theorem dX7_keepStaged_20 : decode cX7_keepStaged 20 = .ok (.iload_n 1, 1) := by decide +kernel
theorem dX7_keepStaged_21 : decode cX7_keepStaged 21 = .ok (.ireturn, 1) := by decide +kernel
theorem dX7_dropStaged_0 : decode cX7_dropStaged 0 = .ok (.aload_n 0, 1) := by decide +kernel
theorem dX7_dropStaged_1 : decode cX7_dropStaged 1 = .ok (.iconst 0, 1) := by decide +kernel
theorem dX7_dropStaged_2 : decode cX7_dropStaged 2 = .ok (.putfield 32, 3) := by decide +kernel
theorem dX7_dropStaged_5 : decode cX7_dropStaged 5 = .ok (.return_, 1) := by decide +kernel
theorem dX7_hasTapes_0 : decode cX7_hasTapes 0 = .ok (.iconst 0, 1) := by decide +kernel
theorem dX7_hasTapes_1 : decode cX7_hasTapes 1 = .ok (.istore_n 2, 1) := by decide +kernel
theorem dX7_hasTapes_2 : decode cX7_hasTapes 2 = .ok (.iconst 0, 1) := by decide +kernel
theorem dX7_hasTapes_3 : decode cX7_hasTapes 3 = .ok (.istore_n 3, 1) := by decide +kernel
theorem dX7_hasTapes_4 : decode cX7_hasTapes 4 = .ok (.iload_n 3, 1) := by decide +kernel
theorem dX7_hasTapes_5 : decode cX7_hasTapes 5 = .ok (.aload_n 0, 1) := by decide +kernel
theorem dX7_hasTapes_6 : decode cX7_hasTapes 6 = .ok (.getfield 29, 3) := by decide +kernel
theorem dX7_hasTapes_9 : decode cX7_hasTapes 9 = .ok (.if_icmp .ge 40, 3) := by decide +kernel
theorem dX7_hasTapes_12 : decode cX7_hasTapes 12 = .ok (.aload_n 0, 1) := by decide +kernel
theorem dX7_hasTapes_13 : decode cX7_hasTapes 13 = .ok (.iload_n 3, 1) := by decide +kernel
theorem dX7_hasTapes_14 : decode cX7_hasTapes 14 = .ok (.invokevirtual 61, 3) := by decide +kernel
theorem dX7_hasTapes_17 : decode cX7_hasTapes 17 = .ok (.astore 4, 2) := by decide +kernel
theorem dX7_hasTapes_19 : decode cX7_hasTapes 19 = .ok (.iload_n 2, 1) := by decide +kernel
theorem dX7_hasTapes_20 : decode cX7_hasTapes 20 = .ok (.ifCond .ne 17, 3) := by decide +kernel
theorem dX7_hasTapes_23 : decode cX7_hasTapes 23 = .ok (.aload 4, 2) := by decide +kernel
theorem dX7_hasTapes_25 : decode cX7_hasTapes 25 = .ok (.ifnull 16, 3) := by decide +kernel
theorem dX7_hasTapes_28 : decode cX7_hasTapes 28 = .ok (.aload 4, 2) := by decide +kernel
theorem dX7_hasTapes_30 : decode cX7_hasTapes 30 = .ok (.getfield 35, 3) := by decide +kernel
theorem dX7_hasTapes_33 : decode cX7_hasTapes 33 = .ok (.iload_n 1, 1) := by decide +kernel
theorem dX7_hasTapes_34 : decode cX7_hasTapes 34 = .ok (.if_icmp .ne 7, 3) := by decide +kernel
theorem dX7_hasTapes_37 : decode cX7_hasTapes 37 = .ok (.iconst 1, 1) := by decide +kernel
theorem dX7_hasTapes_38 : decode cX7_hasTapes 38 = .ok (.goto 4, 3) := by decide +kernel
theorem dX7_hasTapes_41 : decode cX7_hasTapes 41 = .ok (.iconst 0, 1) := by decide +kernel
theorem dX7_hasTapes_42 : decode cX7_hasTapes 42 = .ok (.istore_n 2, 1) := by decide +kernel
theorem dX7_hasTapes_43 : decode cX7_hasTapes 43 = .ok (.iinc 3 1, 3) := by decide +kernel
theorem dX7_hasTapes_46 : decode cX7_hasTapes 46 = .ok (.goto (-42), 3) := by decide +kernel
theorem dX7_hasTapes_49 : decode cX7_hasTapes 49 = .ok (.iload_n 2, 1) := by decide +kernel
theorem dX7_hasTapes_50 : decode cX7_hasTapes 50 = .ok (.ireturn, 1) := by decide +kernel
theorem dX7_allTicks_0 : decode cX7_allTicks 0 = .ok (.iconst 0, 1) := by decide +kernel
theorem dX7_allTicks_1 : decode cX7_allTicks 1 = .ok (.istore_n 1, 1) := by decide +kernel
theorem dX7_allTicks_2 : decode cX7_allTicks 2 = .ok (.iconst 0, 1) := by decide +kernel
theorem dX7_allTicks_3 : decode cX7_allTicks 3 = .ok (.istore_n 2, 1) := by decide +kernel
theorem dX7_allTicks_4 : decode cX7_allTicks 4 = .ok (.iload_n 2, 1) := by decide +kernel
theorem dX7_allTicks_5 : decode cX7_allTicks 5 = .ok (.aload_n 0, 1) := by decide +kernel
theorem dX7_allTicks_6 : decode cX7_allTicks 6 = .ok (.getfield 29, 3) := by decide +kernel
theorem dX7_allTicks_9 : decode cX7_allTicks 9 = .ok (.if_icmp .ge 30, 3) := by decide +kernel
theorem dX7_allTicks_12 : decode cX7_allTicks 12 = .ok (.aload_n 0, 1) := by decide +kernel
theorem dX7_allTicks_13 : decode cX7_allTicks 13 = .ok (.iload_n 2, 1) := by decide +kernel
theorem dX7_allTicks_14 : decode cX7_allTicks 14 = .ok (.invokevirtual 61, 3) := by decide +kernel
theorem dX7_allTicks_17 : decode cX7_allTicks 17 = .ok (.astore_n 3, 1) := by decide +kernel
theorem dX7_allTicks_18 : decode cX7_allTicks 18 = .ok (.iload_n 1, 1) := by decide +kernel
theorem dX7_allTicks_19 : decode cX7_allTicks 19 = .ok (.aload_n 3, 1) := by decide +kernel
theorem dX7_allTicks_20 : decode cX7_allTicks 20 = .ok (.ifnonnull 7, 3) := by decide +kernel
theorem dX7_allTicks_23 : decode cX7_allTicks 23 = .ok (.iconst 0, 1) := by decide +kernel
theorem dX7_allTicks_24 : decode cX7_allTicks 24 = .ok (.goto 7, 3) := by decide +kernel
theorem dX7_allTicks_27 : decode cX7_allTicks 27 = .ok (.aload_n 3, 1) := by decide +kernel
theorem dX7_allTicks_28 : decode cX7_allTicks 28 = .ok (.getfield 54, 3) := by decide +kernel
theorem dX7_allTicks_31 : decode cX7_allTicks 31 = .ok (.iadd, 1) := by decide +kernel
theorem dX7_allTicks_32 : decode cX7_allTicks 32 = .ok (.istore_n 1, 1) := by decide +kernel
theorem dX7_allTicks_33 : decode cX7_allTicks 33 = .ok (.iinc 2 1, 3) := by decide +kernel
theorem dX7_allTicks_36 : decode cX7_allTicks 36 = .ok (.goto (-32), 3) := by decide +kernel
theorem dX7_allTicks_39 : decode cX7_allTicks 39 = .ok (.iload_n 1, 1) := by decide +kernel
theorem dX7_allTicks_40 : decode cX7_allTicks 40 = .ok (.ireturn, 1) := by decide +kernel
theorem dX7_canShare_0 : decode cX7_canShare 0 = .ok (.iconst 0, 1) := by decide +kernel
theorem dX7_canShare_1 : decode cX7_canShare 1 = .ok (.istore_n 2, 1) := by decide +kernel
theorem dX7_canShare_2 : decode cX7_canShare 2 = .ok (.iload_n 2, 1) := by decide +kernel
theorem dX7_canShare_3 : decode cX7_canShare 3 = .ok (.iconst 2, 1) := by decide +kernel
theorem dX7_canShare_4 : decode cX7_canShare 4 = .ok (.if_icmp .ge 28, 3) := by decide +kernel
theorem dX7_canShare_7 : decode cX7_canShare 7 = .ok (.aload_n 0, 1) := by decide +kernel
theorem dX7_canShare_8 : decode cX7_canShare 8 = .ok (.iload_n 2, 1) := by decide +kernel
theorem dX7_canShare_9 : decode cX7_canShare 9 = .ok (.invokevirtual 38, 3) := by decide +kernel
theorem dX7_canShare_12 : decode cX7_canShare 12 = .ok (.astore_n 3, 1) := by decide +kernel
theorem dX7_canShare_13 : decode cX7_canShare 13 = .ok (.aload_n 3, 1) := by decide +kernel
theorem dX7_canShare_14 : decode cX7_canShare 14 = .ok (.ifnull 10, 3) := by decide +kernel
theorem dX7_canShare_17 : decode cX7_canShare 17 = .ok (.aload_n 3, 1) := by decide +kernel
theorem dX7_canShare_18 : decode cX7_canShare 18 = .ok (.getfield 65, 3) := by decide +kernel
theorem dX7_canShare_21 : decode cX7_canShare 21 = .ok (.ifCond .ne 5, 3) := by decide +kernel
theorem dX7_canShare_24 : decode cX7_canShare 24 = .ok (.iconst 0, 1) := by decide +kernel
theorem dX7_canShare_25 : decode cX7_canShare 25 = .ok (.ireturn, 1) := by decide +kernel
theorem dX7_canShare_26 : decode cX7_canShare 26 = .ok (.iinc 2 1, 3) := by decide +kernel
theorem dX7_canShare_29 : decode cX7_canShare 29 = .ok (.goto (-27), 3) := by decide +kernel
theorem dX7_canShare_32 : decode cX7_canShare 32 = .ok (.iload_n 1, 1) := by decide +kernel
theorem dX7_canShare_33 : decode cX7_canShare 33 = .ok (.ifCond .le 21, 3) := by decide +kernel
theorem dX7_canShare_36 : decode cX7_canShare 36 = .ok (.iload_n 1, 1) := by decide +kernel
theorem dX7_canShare_37 : decode cX7_canShare 37 = .ok (.iconst 1, 1) := by decide +kernel
theorem dX7_canShare_38 : decode cX7_canShare 38 = .ok (.aload_n 0, 1) := by decide +kernel
theorem dX7_canShare_39 : decode cX7_canShare 39 = .ok (.getfield 29, 3) := by decide +kernel
theorem dX7_canShare_42 : decode cX7_canShare 42 = .ok (.ishl, 1) := by decide +kernel
theorem dX7_canShare_43 : decode cX7_canShare 43 = .ok (.if_icmp .ge 11, 3) := by decide +kernel
theorem dX7_canShare_46 : decode cX7_canShare 46 = .ok (.iload_n 1, 1) := by decide +kernel
theorem dX7_canShare_47 : decode cX7_canShare 47 = .ok (.invokestatic 68, 3) := by decide +kernel
theorem dX7_canShare_50 : decode cX7_canShare 50 = .ok (.iconst 5, 1) := by decide +kernel
theorem dX7_canShare_51 : decode cX7_canShare 51 = .ok (.if_icmp .le 5, 3) := by decide +kernel
theorem dX7_canShare_54 : decode cX7_canShare 54 = .ok (.iconst 0, 1) := by decide +kernel
theorem dX7_canShare_55 : decode cX7_canShare 55 = .ok (.ireturn, 1) := by decide +kernel
theorem dX7_canShare_56 : decode cX7_canShare 56 = .ok (.iconst 1, 1) := by decide +kernel
theorem dX7_canShare_57 : decode cX7_canShare 57 = .ok (.istore_n 2, 1) := by decide +kernel
theorem dX7_canShare_58 : decode cX7_canShare 58 = .ok (.iconst 0, 1) := by decide +kernel
theorem dX7_canShare_59 : decode cX7_canShare 59 = .ok (.istore_n 3, 1) := by decide +kernel
theorem dX7_canShare_60 : decode cX7_canShare 60 = .ok (.iload_n 3, 1) := by decide +kernel
theorem dX7_canShare_61 : decode cX7_canShare 61 = .ok (.aload_n 0, 1) := by decide +kernel
theorem dX7_canShare_62 : decode cX7_canShare 62 = .ok (.getfield 29, 3) := by decide +kernel
theorem dX7_canShare_65 : decode cX7_canShare 65 = .ok (.if_icmp .ge 47, 3) := by decide +kernel
theorem dX7_canShare_68 : decode cX7_canShare 68 = .ok (.aload_n 0, 1) := by decide +kernel
theorem dX7_canShare_69 : decode cX7_canShare 69 = .ok (.iload_n 3, 1) := by decide +kernel
theorem dX7_canShare_70 : decode cX7_canShare 70 = .ok (.invokevirtual 61, 3) := by decide +kernel
theorem dX7_canShare_73 : decode cX7_canShare 73 = .ok (.astore 4, 2) := by decide +kernel
theorem dX7_canShare_75 : decode cX7_canShare 75 = .ok (.iload_n 2, 1) := by decide +kernel
theorem dX7_canShare_76 : decode cX7_canShare 76 = .ok (.ifCond .eq 28, 3) := by decide +kernel
theorem dX7_canShare_79 : decode cX7_canShare 79 = .ok (.iload_n 1, 1) := by decide +kernel
theorem dX7_canShare_80 : decode cX7_canShare 80 = .ok (.iload_n 3, 1) := by decide +kernel
theorem dX7_canShare_81 : decode cX7_canShare 81 = .ok (.ishr, 1) := by decide +kernel
theorem dX7_canShare_82 : decode cX7_canShare 82 = .ok (.iconst 1, 1) := by decide +kernel
theorem dX7_canShare_83 : decode cX7_canShare 83 = .ok (.iand, 1) := by decide +kernel
theorem dX7_canShare_84 : decode cX7_canShare 84 = .ok (.ifCond .eq 16, 3) := by decide +kernel
theorem dX7_canShare_87 : decode cX7_canShare 87 = .ok (.aload 4, 2) := by decide +kernel
theorem dX7_canShare_89 : decode cX7_canShare 89 = .ok (.ifnull 15, 3) := by decide +kernel
theorem dX7_canShare_92 : decode cX7_canShare 92 = .ok (.aload 4, 2) := by decide +kernel
theorem dX7_canShare_94 : decode cX7_canShare 94 = .ok (.getfield 54, 3) := by decide +kernel
theorem dX7_canShare_97 : decode cX7_canShare 97 = .ok (.ifCond .le 7, 3) := by decide +kernel
theorem dX7_canShare_100 : decode cX7_canShare 100 = .ok (.iconst 1, 1) := by decide +kernel
theorem dX7_canShare_101 : decode cX7_canShare 101 = .ok (.goto 4, 3) := by decide +kernel
theorem dX7_canShare_104 : decode cX7_canShare 104 = .ok (.iconst 0, 1) := by decide +kernel
theorem dX7_canShare_105 : decode cX7_canShare 105 = .ok (.istore_n 2, 1) := by decide +kernel
theorem dX7_canShare_106 : decode cX7_canShare 106 = .ok (.iinc 3 1, 3) := by decide +kernel
theorem dX7_canShare_109 : decode cX7_canShare 109 = .ok (.goto (-49), 3) := by decide +kernel
theorem dX7_canShare_112 : decode cX7_canShare 112 = .ok (.iload_n 2, 1) := by decide +kernel
theorem dX7_canShare_113 : decode cX7_canShare 113 = .ok (.ireturn, 1) := by decide +kernel
theorem dX8_init_0 : decode cX8_init 0 = .ok (.aload_n 0, 1) := by decide +kernel
theorem dX8_init_1 : decode cX8_init 1 = .ok (.invokespecial 3, 3) := by decide +kernel
theorem dX8_init_4 : decode cX8_init 4 = .ok (.aload_n 0, 1) := by decide +kernel
theorem dX8_init_5 : decode cX8_init 5 = .ok (.bipush 40, 2) := by decide +kernel
theorem dX8_init_7 : decode cX8_init 7 = .ok (.newarray .int, 2) := by decide +kernel
theorem dX8_init_9 : decode cX8_init 9 = .ok (.putfield 9, 3) := by decide +kernel
theorem dX8_init_12 : decode cX8_init 12 = .ok (.return_, 1) := by decide +kernel
theorem dX8_aim_0 : decode cX8_aim 0 = .ok (.aload_n 0, 1) := by decide +kernel
theorem dX8_aim_1 : decode cX8_aim 1 = .ok (.aload_n 1, 1) := by decide +kernel
theorem dX8_aim_2 : decode cX8_aim 2 = .ok (.putfield 15, 3) := by decide +kernel
theorem dX8_aim_5 : decode cX8_aim 5 = .ok (.aload_n 0, 1) := by decide +kernel
theorem dX8_aim_6 : decode cX8_aim 6 = .ok (.aload_n 2, 1) := by decide +kernel
theorem dX8_aim_7 : decode cX8_aim 7 = .ok (.putfield 19, 3) := by decide +kernel
theorem dX8_aim_10 : decode cX8_aim 10 = .ok (.aload_n 0, 1) := by decide +kernel
theorem dX8_aim_11 : decode cX8_aim 11 = .ok (.iload_n 3, 1) := by decide +kernel
theorem dX8_aim_12 : decode cX8_aim 12 = .ok (.putfield 23, 3) := by decide +kernel
theorem dX8_aim_15 : decode cX8_aim 15 = .ok (.aload_n 0, 1) := by decide +kernel
theorem dX8_aim_16 : decode cX8_aim 16 = .ok (.iload 4, 2) := by decide +kernel
theorem dX8_aim_18 : decode cX8_aim 18 = .ok (.putfield 27, 3) := by decide +kernel
theorem dX8_aim_21 : decode cX8_aim 21 = .ok (.aload_n 0, 1) := by decide +kernel
theorem dX8_aim_22 : decode cX8_aim 22 = .ok (.iload 5, 2) := by decide +kernel
theorem dX8_aim_24 : decode cX8_aim 24 = .ok (.putfield 30, 3) := by decide +kernel
theorem dX8_aim_27 : decode cX8_aim 27 = .ok (.return_, 1) := by decide +kernel
theorem dX8_ticks_0 : decode cX8_ticks 0 = .ok (.aload_n 0, 1) := by decide +kernel
theorem dX8_ticks_1 : decode cX8_ticks 1 = .ok (.getfield 19, 3) := by decide +kernel
theorem dX8_ticks_4 : decode cX8_ticks 4 = .ok (.ifnonnull 7, 3) := by decide +kernel
theorem dX8_ticks_7 : decode cX8_ticks 7 = .ok (.iconst 0, 1) := by decide +kernel
theorem dX8_ticks_8 : decode cX8_ticks 8 = .ok (.goto 15, 3) := by decide +kernel
theorem dX8_ticks_11 : decode cX8_ticks 11 = .ok (.aload_n 0, 1) := by decide +kernel
theorem dX8_ticks_12 : decode cX8_ticks 12 = .ok (.getfield 19, 3) := by decide +kernel
theorem dX8_ticks_15 : decode cX8_ticks 15 = .ok (.getfield 33, 3) := by decide +kernel
theorem dX8_ticks_18 : decode cX8_ticks 18 = .ok (.bipush 40, 2) := by decide +kernel
theorem dX8_ticks_20 : decode cX8_ticks 20 = .ok (.invokestatic 38, 3) := by decide +kernel
theorem dX8_ticks_23 : decode cX8_ticks 23 = .ok (.ireturn, 1) := by decide +kernel
theorem dX8_drawAsTold_0 : decode cX8_drawAsTold 0 = .ok (.aload_n 0, 1) := by decide +kernel
theorem dX8_drawAsTold_1 : decode cX8_drawAsTold 1 = .ok (.iconst 0, 1) := by decide +kernel
theorem dX8_drawAsTold_2 : decode cX8_drawAsTold 2 = .ok (.iconst 0, 1) := by decide +kernel
theorem dX8_drawAsTold_3 : decode cX8_drawAsTold 3 = .ok (.iconst 0, 1) := by decide +kernel
theorem dX8_drawAsTold_4 : decode cX8_drawAsTold 4 = .ok (.iconst 0, 1) := by decide +kernel
theorem dX8_drawAsTold_5 : decode cX8_drawAsTold 5 = .ok (.invokevirtual 44, 3) := by decide +kernel
theorem dX8_drawAsTold_8 : decode cX8_drawAsTold 8 = .ok (.return_, 1) := by decide +kernel
theorem dX8_draw_0 : decode cX8_draw 0 = .ok (.iconst 0, 1) := by decide +kernel
theorem dX8_draw_1 : decode cX8_draw 1 = .ok (.istore 5, 2) := by decide +kernel
theorem dX8_draw_3 : decode cX8_draw 3 = .ok (.iconst 0, 1) := by decide +kernel
theorem dX8_draw_4 : decode cX8_draw 4 = .ok (.istore 6, 2) := by decide +kernel
theorem dX8_draw_6 : decode cX8_draw 6 = .ok (.iload 6, 2) := by decide +kernel
theorem dX8_draw_8 : decode cX8_draw 8 = .ok (.aload_n 0, 1) := by decide +kernel
theorem dX8_draw_9 : decode cX8_draw 9 = .ok (.invokevirtual 48, 3) := by decide +kernel
theorem dX8_draw_12 : decode cX8_draw 12 = .ok (.if_icmp .ge 47, 3) := by decide +kernel
theorem dX8_draw_15 : decode cX8_draw 15 = .ok (.iload 6, 2) := by decide +kernel
theorem dX8_draw_17 : decode cX8_draw 17 = .ok (.bipush 40, 2) := by decide +kernel
theorem dX8_draw_19 : decode cX8_draw 19 = .ok (.if_icmp .ge 40, 3) := by decide +kernel
theorem dX8_draw_22 : decode cX8_draw 22 = .ok (.aload_n 0, 1) := by decide +kernel
theorem dX8_draw_23 : decode cX8_draw 23 = .ok (.iload_n 1, 1) := by decide +kernel
theorem dX8_draw_24 : decode cX8_draw 24 = .ok (.iload_n 2, 1) := by decide +kernel
theorem dX8_draw_25 : decode cX8_draw 25 = .ok (.iload_n 3, 1) := by decide +kernel
theorem dX8_draw_26 : decode cX8_draw 26 = .ok (.iload 4, 2) := by decide +kernel
theorem dX8_draw_28 : decode cX8_draw 28 = .ok (.iload 6, 2) := by decide +kernel
theorem dX8_draw_30 : decode cX8_draw 30 = .ok (.iload 5, 2) := by decide +kernel
theorem dX8_draw_32 : decode cX8_draw 32 = .ok (.invokevirtual 51, 3) := by decide +kernel
theorem dX8_draw_35 : decode cX8_draw 35 = .ok (.istore 5, 2) := by decide +kernel
theorem dX8_draw_37 : decode cX8_draw 37 = .ok (.aload_n 0, 1) := by decide +kernel
theorem dX8_draw_38 : decode cX8_draw 38 = .ok (.getfield 9, 3) := by decide +kernel
theorem dX8_draw_41 : decode cX8_draw 41 = .ok (.iload 6, 2) := by decide +kernel
theorem dX8_draw_43 : decode cX8_draw 43 = .ok (.aload_n 0, 1) := by decide +kernel
theorem dX8_draw_44 : decode cX8_draw 44 = .ok (.iload_n 1, 1) := by decide +kernel
theorem dX8_draw_45 : decode cX8_draw 45 = .ok (.iload 5, 2) := by decide +kernel
theorem dX8_draw_47 : decode cX8_draw 47 = .ok (.iload 6, 2) := by decide +kernel
theorem dX8_draw_49 : decode cX8_draw 49 = .ok (.invokevirtual 55, 3) := by decide +kernel
theorem dX8_draw_52 : decode cX8_draw 52 = .ok (.iastore, 1) := by decide +kernel
theorem dX8_draw_53 : decode cX8_draw 53 = .ok (.iinc 6 1, 3) := by decide +kernel
theorem dX8_draw_56 : decode cX8_draw 56 = .ok (.goto (-50), 3) := by decide +kernel
theorem dX8_draw_59 : decode cX8_draw 59 = .ok (.return_, 1) := by decide +kernel
theorem dX8_wornPlace_0 : decode cX8_wornPlace 0 = .ok (.aload_n 0, 1) := by decide +kernel
theorem dX8_wornPlace_1 : decode cX8_wornPlace 1 = .ok (.getfield 19, 3) := by decide +kernel
theorem dX8_wornPlace_4 : decode cX8_wornPlace 4 = .ok (.ifnonnull 7, 3) := by decide +kernel
theorem dX8_wornPlace_7 : decode cX8_wornPlace 7 = .ok (.iconst 0, 1) := by decide +kernel
theorem dX8_wornPlace_8 : decode cX8_wornPlace 8 = .ok (.goto 19, 3) := by decide +kernel
theorem dX8_wornPlace_11 : decode cX8_wornPlace 11 = .ok (.aload_n 0, 1) := by decide +kernel
theorem dX8_wornPlace_12 : decode cX8_wornPlace 12 = .ok (.getfield 19, 3) := by decide +kernel
theorem dX8_wornPlace_15 : decode cX8_wornPlace 15 = .ok (.iload_n 1, 1) := by decide +kernel
theorem dX8_wornPlace_16 : decode cX8_wornPlace 16 = .ok (.iload_n 2, 1) := by decide +kernel
theorem dX8_wornPlace_17 : decode cX8_wornPlace 17 = .ok (.iload_n 3, 1) := by decide +kernel
theorem dX8_wornPlace_18 : decode cX8_wornPlace 18 = .ok (.iload 4, 2) := by decide +kernel
theorem dX8_wornPlace_20 : decode cX8_wornPlace 20 = .ok (.iload 5, 2) := by decide +kernel
theorem dX8_wornPlace_22 : decode cX8_wornPlace 22 = .ok (.iload 6, 2) := by decide +kernel
theorem dX8_wornPlace_24 : decode cX8_wornPlace 24 = .ok (.invokevirtual 59, 3) := by decide +kernel
theorem dX8_wornPlace_27 : decode cX8_wornPlace 27 = .ok (.ireturn, 1) := by decide +kernel
theorem dX8_spotWith_0 : decode cX8_spotWith 0 = .ok (.aload_n 0, 1) := by decide +kernel
theorem dX8_spotWith_1 : decode cX8_spotWith 1 = .ok (.getfield 15, 3) := by decide +kernel
theorem dX8_spotWith_4 : decode cX8_spotWith 4 = .ok (.ifnull 10, 3) := by decide +kernel
theorem dX8_spotWith_7 : decode cX8_spotWith 7 = .ok (.aload_n 0, 1) := by decide +kernel
theorem dX8_spotWith_8 : decode cX8_spotWith 8 = .ok (.getfield 19, 3) := by decide +kernel
theorem dX8_spotWith_11 : decode cX8_spotWith 11 = .ok (.ifnonnull 5, 3) := by decide +kernel
theorem dX8_spotWith_14 : decode cX8_spotWith 14 = .ok (.iconst (-1), 1) := by decide +kernel
theorem dX8_spotWith_15 : decode cX8_spotWith 15 = .ok (.ireturn, 1) := by decide +kernel
theorem dX8_spotWith_16 : decode cX8_spotWith 16 = .ok (.aload_n 0, 1) := by decide +kernel
theorem dX8_spotWith_17 : decode cX8_spotWith 17 = .ok (.getfield 19, 3) := by decide +kernel
theorem dX8_spotWith_20 : decode cX8_spotWith 20 = .ok (.iload_n 3, 1) := by decide +kernel
theorem dX8_spotWith_21 : decode cX8_spotWith 21 = .ok (.invokevirtual 60, 3) := by decide +kernel
theorem dX8_spotWith_24 : decode cX8_spotWith 24 = .ok (.iload_n 1, 1) := by decide +kernel
theorem dX8_spotWith_25 : decode cX8_spotWith 25 = .ok (.iload_n 2, 1) := by decide +kernel
theorem dX8_spotWith_26 : decode cX8_spotWith 26 = .ok (.invokestatic 64, 3) := by decide +kernel
theorem dX8_spotWith_29 : decode cX8_spotWith 29 = .ok (.istore 4, 2) := by decide +kernel
theorem dX8_spotWith_31 : decode cX8_spotWith 31 = .ok (.aload_n 0, 1) := by decide +kernel
theorem dX8_spotWith_32 : decode cX8_spotWith 32 = .ok (.getfield 15, 3) := by decide +kernel
theorem dX8_spotWith_35 : decode cX8_spotWith 35 = .ok (.iload 4, 2) := by decide +kernel
theorem dX8_spotWith_37 : decode cX8_spotWith 37 = .ok (.invokevirtual 67, 3) := by decide +kernel
theorem dX8_spotWith_40 : decode cX8_spotWith 40 = .ok (.aload_n 0, 1) := by decide +kernel
theorem dX8_spotWith_41 : decode cX8_spotWith 41 = .ok (.getfield 27, 3) := by decide +kernel
theorem dX8_spotWith_44 : decode cX8_spotWith 44 = .ok (.isub, 1) := by decide +kernel
theorem dX8_spotWith_45 : decode cX8_spotWith 45 = .ok (.aload_n 0, 1) := by decide +kernel
theorem dX8_spotWith_46 : decode cX8_spotWith 46 = .ok (.getfield 23, 3) := by decide +kernel
theorem dX8_spotWith_49 : decode cX8_spotWith 49 = .ok (.iload_n 3, 1) := by decide +kernel
theorem dX8_spotWith_50 : decode cX8_spotWith 50 = .ok (.imul, 1) := by decide +kernel
theorem dX8_spotWith_51 : decode cX8_spotWith 51 = .ok (.isub, 1) := by decide +kernel
theorem dX8_spotWith_52 : decode cX8_spotWith 52 = .ok (.sipush 1000, 3) := by decide +kernel
theorem dX8_spotWith_55 : decode cX8_spotWith 55 = .ok (.invokestatic 72, 3) := by decide +kernel
theorem dX8_spotWith_58 : decode cX8_spotWith 58 = .ok (.istore 5, 2) := by decide +kernel
theorem dX8_spotWith_60 : decode cX8_spotWith 60 = .ok (.iload 5, 2) := by decide +kernel
theorem dX8_spotWith_62 : decode cX8_spotWith 62 = .ok (.aload_n 0, 1) := by decide +kernel
theorem dX8_spotWith_63 : decode cX8_spotWith 63 = .ok (.getfield 15, 3) := by decide +kernel
theorem dX8_spotWith_66 : decode cX8_spotWith 66 = .ok (.iload 4, 2) := by decide +kernel
theorem dX8_spotWith_68 : decode cX8_spotWith 68 = .ok (.invokevirtual 75, 3) := by decide +kernel
theorem dX8_spotWith_71 : decode cX8_spotWith 71 = .ok (.sipush 1000, 3) := by decide +kernel
theorem dX8_spotWith_74 : decode cX8_spotWith 74 = .ok (.invokestatic 72, 3) := by decide +kernel
theorem dX8_spotWith_77 : decode cX8_spotWith 77 = .ok (.invokestatic 78, 3) := by decide +kernel
theorem dX8_spotWith_80 : decode cX8_spotWith 80 = .ok (.ireturn, 1) := by decide +kernel
theorem dX8_spotAt_0 : decode cX8_spotAt 0 = .ok (.iload_n 1, 1) := by decide +kernel
theorem dX8_spotAt_1 : decode cX8_spotAt 1 = .ok (.ifCond .lt 18, 3) := by decide +kernel
theorem dX8_spotAt_4 : decode cX8_spotAt 4 = .ok (.iload_n 1, 1) := by decide +kernel
theorem dX8_spotAt_5 : decode cX8_spotAt 5 = .ok (.bipush 40, 2) := by decide +kernel
theorem dX8_spotAt_7 : decode cX8_spotAt 7 = .ok (.if_icmp .ge 12, 3) := by decide +kernel
theorem dX8_spotAt_10 : decode cX8_spotAt 10 = .ok (.aload_n 0, 1) := by decide +kernel
theorem dX8_spotAt_11 : decode cX8_spotAt 11 = .ok (.getfield 9, 3) := by decide +kernel
theorem dX8_spotAt_14 : decode cX8_spotAt 14 = .ok (.iload_n 1, 1) := by decide +kernel
theorem dX8_spotAt_15 : decode cX8_spotAt 15 = .ok (.iaload, 1) := by decide +kernel
theorem dX8_spotAt_16 : decode cX8_spotAt 16 = .ok (.goto 4, 3) := by decide +kernel
theorem dX8_spotAt_19 : decode cX8_spotAt 19 = .ok (.iconst (-1), 1) := by decide +kernel
theorem dX8_spotAt_20 : decode cX8_spotAt 20 = .ok (.ireturn, 1) := by decide +kernel
theorem dX8_amountAt_0 : decode cX8_amountAt 0 = .ok (.aload_n 0, 1) := by decide +kernel
theorem dX8_amountAt_1 : decode cX8_amountAt 1 = .ok (.getfield 19, 3) := by decide +kernel
theorem dX8_amountAt_4 : decode cX8_amountAt 4 = .ok (.ifnonnull 7, 3) := by decide +kernel
theorem dX8_amountAt_7 : decode cX8_amountAt 7 = .ok (.iconst 0, 1) := by decide +kernel
theorem dX8_amountAt_8 : decode cX8_amountAt 8 = .ok (.goto 19, 3) := by decide +kernel
theorem dX8_amountAt_11 : decode cX8_amountAt 11 = .ok (.aload_n 0, 1) := by decide +kernel
theorem dX8_amountAt_12 : decode cX8_amountAt 12 = .ok (.getfield 19, 3) := by decide +kernel
theorem dX8_amountAt_15 : decode cX8_amountAt 15 = .ok (.iload_n 1, 1) := by decide +kernel
theorem dX8_amountAt_16 : decode cX8_amountAt 16 = .ok (.invokevirtual 83, 3) := by decide +kernel
theorem dX8_amountAt_19 : decode cX8_amountAt 19 = .ok (.aload_n 0, 1) := by decide +kernel
theorem dX8_amountAt_20 : decode cX8_amountAt 20 = .ok (.getfield 30, 3) := by decide +kernel
theorem dX8_amountAt_23 : decode cX8_amountAt 23 = .ok (.imul, 1) := by decide +kernel
theorem dX8_amountAt_24 : decode cX8_amountAt 24 = .ok (.bipush 10, 2) := by decide +kernel
theorem dX8_amountAt_26 : decode cX8_amountAt 26 = .ok (.idiv, 1) := by decide +kernel
theorem dX8_amountAt_27 : decode cX8_amountAt 27 = .ok (.ireturn, 1) := by decide +kernel
theorem dX9_init_0 : decode cX9_init 0 = .ok (.aload_n 0, 1) := by decide +kernel
theorem dX9_init_1 : decode cX9_init 1 = .ok (.invokespecial 3, 3) := by decide +kernel
theorem dX9_init_4 : decode cX9_init 4 = .ok (.aload_n 0, 1) := by decide +kernel
theorem dX9_init_5 : decode cX9_init 5 = .ok (.bipush 40, 2) := by decide +kernel
theorem dX9_init_7 : decode cX9_init 7 = .ok (.newarray .int, 2) := by decide +kernel
theorem dX9_init_9 : decode cX9_init 9 = .ok (.putfield 9, 3) := by decide +kernel
theorem dX9_init_12 : decode cX9_init 12 = .ok (.aload_n 0, 1) := by decide +kernel
theorem dX9_init_13 : decode cX9_init 13 = .ok (.bipush 40, 2) := by decide +kernel
theorem dX9_init_15 : decode cX9_init 15 = .ok (.newarray .int, 2) := by decide +kernel
theorem dX9_init_17 : decode cX9_init 17 = .ok (.putfield 15, 3) := by decide +kernel
theorem dX9_init_20 : decode cX9_init 20 = .ok (.return_, 1) := by decide +kernel
theorem dX9_begin_0 : decode cX9_begin 0 = .ok (.aload_n 0, 1) := by decide +kernel
theorem dX9_begin_1 : decode cX9_begin 1 = .ok (.iload_n 1, 1) := by decide +kernel
theorem dX9_begin_2 : decode cX9_begin 2 = .ok (.putfield 18, 3) := by decide +kernel
theorem dX9_begin_5 : decode cX9_begin 5 = .ok (.aload_n 0, 1) := by decide +kernel
theorem dX9_begin_6 : decode cX9_begin 6 = .ok (.iconst 0, 1) := by decide +kernel
theorem dX9_begin_7 : decode cX9_begin 7 = .ok (.putfield 22, 3) := by decide +kernel
theorem dX9_begin_10 : decode cX9_begin 10 = .ok (.return_, 1) := by decide +kernel
theorem dX9_has_0 : decode cX9_has 0 = .ok (.iload_n 1, 1) := by decide +kernel
theorem dX9_has_1 : decode cX9_has 1 = .ok (.ifCond .lt 21, 3) := by decide +kernel
theorem dX9_has_4 : decode cX9_has 4 = .ok (.iload_n 1, 1) := by decide +kernel
theorem dX9_has_5 : decode cX9_has 5 = .ok (.aload_n 0, 1) := by decide +kernel
theorem dX9_has_6 : decode cX9_has 6 = .ok (.getfield 22, 3) := by decide +kernel
theorem dX9_has_9 : decode cX9_has 9 = .ok (.if_icmp .ge 13, 3) := by decide +kernel
theorem dX9_has_12 : decode cX9_has 12 = .ok (.iload_n 1, 1) := by decide +kernel
theorem dX9_has_13 : decode cX9_has 13 = .ok (.bipush 40, 2) := by decide +kernel
theorem dX9_has_15 : decode cX9_has 15 = .ok (.if_icmp .ge 7, 3) := by decide +kernel
theorem dX9_has_18 : decode cX9_has 18 = .ok (.iconst 1, 1) := by decide +kernel
theorem dX9_has_19 : decode cX9_has 19 = .ok (.goto 4, 3) := by decide +kernel
theorem dX9_has_22 : decode cX9_has 22 = .ok (.iconst 0, 1) := by decide +kernel
theorem dX9_has_23 : decode cX9_has 23 = .ok (.ireturn, 1) := by decide +kernel
theorem dX9_poseAt_0 : decode cX9_poseAt 0 = .ok (.aload_n 0, 1) := by decide +kernel
theorem dX9_poseAt_1 : decode cX9_poseAt 1 = .ok (.iload_n 1, 1) := by decide +kernel
theorem dX9_poseAt_2 : decode cX9_poseAt 2 = .ok (.invokevirtual 25, 3) := by decide +kernel
theorem dX9_poseAt_5 : decode cX9_poseAt 5 = .ok (.ifCond .eq 12, 3) := by decide +kernel
theorem dX9_poseAt_8 : decode cX9_poseAt 8 = .ok (.aload_n 0, 1) := by decide +kernel
theorem dX9_poseAt_9 : decode cX9_poseAt 9 = .ok (.getfield 9, 3) := by decide +kernel
theorem dX9_poseAt_12 : decode cX9_poseAt 12 = .ok (.iload_n 1, 1) := by decide +kernel
theorem dX9_poseAt_13 : decode cX9_poseAt 13 = .ok (.iaload, 1) := by decide +kernel
theorem dX9_poseAt_14 : decode cX9_poseAt 14 = .ok (.goto 4, 3) := by decide +kernel
theorem dX9_poseAt_17 : decode cX9_poseAt 17 = .ok (.iconst 0, 1) := by decide +kernel
theorem dX9_poseAt_18 : decode cX9_poseAt 18 = .ok (.ireturn, 1) := by decide +kernel
theorem dX9_sprayAt_0 : decode cX9_sprayAt 0 = .ok (.aload_n 0, 1) := by decide +kernel
theorem dX9_sprayAt_1 : decode cX9_sprayAt 1 = .ok (.iload_n 1, 1) := by decide +kernel
theorem dX9_sprayAt_2 : decode cX9_sprayAt 2 = .ok (.invokevirtual 25, 3) := by decide +kernel
theorem dX9_sprayAt_5 : decode cX9_sprayAt 5 = .ok (.ifCond .eq 12, 3) := by decide +kernel
theorem dX9_sprayAt_8 : decode cX9_sprayAt 8 = .ok (.aload_n 0, 1) := by decide +kernel
theorem dX9_sprayAt_9 : decode cX9_sprayAt 9 = .ok (.getfield 15, 3) := by decide +kernel
theorem dX9_sprayAt_12 : decode cX9_sprayAt 12 = .ok (.iload_n 1, 1) := by decide +kernel
theorem dX9_sprayAt_13 : decode cX9_sprayAt 13 = .ok (.iaload, 1) := by decide +kernel
theorem dX9_sprayAt_14 : decode cX9_sprayAt 14 = .ok (.goto 4, 3) := by decide +kernel
theorem dX9_sprayAt_17 : decode cX9_sprayAt 17 = .ok (.iconst 0, 1) := by decide +kernel
theorem dX9_sprayAt_18 : decode cX9_sprayAt 18 = .ok (.ireturn, 1) := by decide +kernel
theorem dX9_lastPose_0 : decode cX9_lastPose 0 = .ok (.aload_n 0, 1) := by decide +kernel
theorem dX9_lastPose_1 : decode cX9_lastPose 1 = .ok (.aload_n 0, 1) := by decide +kernel
theorem dX9_lastPose_2 : decode cX9_lastPose 2 = .ok (.getfield 22, 3) := by decide +kernel
theorem dX9_lastPose_5 : decode cX9_lastPose 5 = .ok (.iconst 1, 1) := by decide +kernel
theorem dX9_lastPose_6 : decode cX9_lastPose 6 = .ok (.isub, 1) := by decide +kernel
theorem dX9_lastPose_7 : decode cX9_lastPose 7 = .ok (.invokevirtual 29, 3) := by decide +kernel
theorem dX9_lastPose_10 : decode cX9_lastPose 10 = .ok (.ireturn, 1) := by decide +kernel
theorem dX9_addTick_0 : decode cX9_addTick 0 = .ok (.aload_n 0, 1) := by decide +kernel
theorem dX9_addTick_1 : decode cX9_addTick 1 = .ok (.getfield 22, 3) := by decide +kernel
theorem dX9_addTick_4 : decode cX9_addTick 4 = .ok (.ifCond .lt 12, 3) := by decide +kernel
theorem dX9_addTick_7 : decode cX9_addTick 7 = .ok (.aload_n 0, 1) := by decide +kernel
theorem dX9_addTick_8 : decode cX9_addTick 8 = .ok (.getfield 22, 3) := by decide +kernel
theorem dX9_addTick_11 : decode cX9_addTick 11 = .ok (.bipush 40, 2) := by decide +kernel
theorem dX9_addTick_13 : decode cX9_addTick 13 = .ok (.if_icmp .lt 5, 3) := by decide +kernel
theorem dX9_addTick_16 : decode cX9_addTick 16 = .ok (.iconst 0, 1) := by decide +kernel
theorem dX9_addTick_17 : decode cX9_addTick 17 = .ok (.ireturn, 1) := by decide +kernel
theorem dX9_addTick_18 : decode cX9_addTick 18 = .ok (.aload_n 0, 1) := by decide +kernel
theorem dX9_addTick_19 : decode cX9_addTick 19 = .ok (.getfield 9, 3) := by decide +kernel
theorem dX9_addTick_22 : decode cX9_addTick 22 = .ok (.aload_n 0, 1) := by decide +kernel
theorem dX9_addTick_23 : decode cX9_addTick 23 = .ok (.getfield 22, 3) := by decide +kernel
theorem dX9_addTick_26 : decode cX9_addTick 26 = .ok (.iload_n 1, 1) := by decide +kernel
theorem dX9_addTick_27 : decode cX9_addTick 27 = .ok (.iastore, 1) := by decide +kernel
theorem dX9_addTick_28 : decode cX9_addTick 28 = .ok (.aload_n 0, 1) := by decide +kernel
theorem dX9_addTick_29 : decode cX9_addTick 29 = .ok (.getfield 15, 3) := by decide +kernel
theorem dX9_addTick_32 : decode cX9_addTick 32 = .ok (.aload_n 0, 1) := by decide +kernel
theorem dX9_addTick_33 : decode cX9_addTick 33 = .ok (.getfield 22, 3) := by decide +kernel
theorem dX9_addTick_36 : decode cX9_addTick 36 = .ok (.iload_n 2, 1) := by decide +kernel
theorem dX9_addTick_37 : decode cX9_addTick 37 = .ok (.iastore, 1) := by decide +kernel
theorem dX9_addTick_38 : decode cX9_addTick 38 = .ok (.aload_n 0, 1) := by decide +kernel
theorem dX9_addTick_39 : decode cX9_addTick 39 = .ok (.dup, 1) := by decide +kernel
theorem dX9_addTick_40 : decode cX9_addTick 40 = .ok (.getfield 22, 3) := by decide +kernel
theorem dX9_addTick_43 : decode cX9_addTick 43 = .ok (.iconst 1, 1) := by decide +kernel
theorem dX9_addTick_44 : decode cX9_addTick 44 = .ok (.iadd, 1) := by decide +kernel
theorem dX9_addTick_45 : decode cX9_addTick 45 = .ok (.putfield 22, 3) := by decide +kernel
theorem dX9_addTick_48 : decode cX9_addTick 48 = .ok (.iconst 1, 1) := by decide +kernel
theorem dX9_addTick_49 : decode cX9_addTick 49 = .ok (.ireturn, 1) := by decide +kernel
theorem dX9_addCut_0 : decode cX9_addCut 0 = .ok (.iload_n 2, 1) := by decide +kernel
theorem dX9_addCut_1 : decode cX9_addCut 1 = .ok (.istore 4, 2) := by decide +kernel
theorem dX9_addCut_3 : decode cX9_addCut 3 = .ok (.iload 4, 2) := by decide +kernel
theorem dX9_addCut_5 : decode cX9_addCut 5 = .ok (.iload_n 3, 1) := by decide +kernel
theorem dX9_addCut_6 : decode cX9_addCut 6 = .ok (.if_icmp .gt 35, 3) := by decide +kernel
theorem dX9_addCut_9 : decode cX9_addCut 9 = .ok (.aload_n 1, 1) := by decide +kernel
theorem dX9_addCut_10 : decode cX9_addCut 10 = .ok (.iload 4, 2) := by decide +kernel
theorem dX9_addCut_12 : decode cX9_addCut 12 = .ok (.invokevirtual 25, 3) := by decide +kernel
theorem dX9_addCut_15 : decode cX9_addCut 15 = .ok (.ifCond .eq 26, 3) := by decide +kernel
theorem dX9_addCut_18 : decode cX9_addCut 18 = .ok (.aload_n 0, 1) := by decide +kernel
theorem dX9_addCut_19 : decode cX9_addCut 19 = .ok (.aload_n 1, 1) := by decide +kernel
theorem dX9_addCut_20 : decode cX9_addCut 20 = .ok (.iload 4, 2) := by decide +kernel
theorem dX9_addCut_22 : decode cX9_addCut 22 = .ok (.invokevirtual 29, 3) := by decide +kernel
theorem dX9_addCut_25 : decode cX9_addCut 25 = .ok (.aload_n 1, 1) := by decide +kernel
theorem dX9_addCut_26 : decode cX9_addCut 26 = .ok (.iload 4, 2) := by decide +kernel
theorem dX9_addCut_28 : decode cX9_addCut 28 = .ok (.invokevirtual 33, 3) := by decide +kernel
theorem dX9_addCut_31 : decode cX9_addCut 31 = .ok (.invokevirtual 36, 3) := by decide +kernel
theorem dX9_addCut_34 : decode cX9_addCut 34 = .ok (.pop, 1) := by decide +kernel
theorem dX9_addCut_35 : decode cX9_addCut 35 = .ok (.iinc 4 1, 3) := by decide +kernel
theorem dX9_addCut_38 : decode cX9_addCut 38 = .ok (.goto (-35), 3) := by decide +kernel
theorem dX9_addCut_41 : decode cX9_addCut 41 = .ok (.return_, 1) := by decide +kernel
theorem dX9_turnRound_0 : decode cX9_turnRound 0 = .ok (.aload_n 0, 1) := by decide +kernel
theorem dX9_turnRound_1 : decode cX9_turnRound 1 = .ok (.getfield 22, 3) := by decide +kernel
theorem dX9_turnRound_4 : decode cX9_turnRound 4 = .ok (.iconst 1, 1) := by decide +kernel
theorem dX9_turnRound_5 : decode cX9_turnRound 5 = .ok (.isub, 1) := by decide +kernel
theorem dX9_turnRound_6 : decode cX9_turnRound 6 = .ok (.istore_n 1, 1) := by decide +kernel
theorem dX9_turnRound_7 : decode cX9_turnRound 7 = .ok (.iconst 0, 1) := by decide +kernel
theorem dX9_turnRound_8 : decode cX9_turnRound 8 = .ok (.istore_n 2, 1) := by decide +kernel
theorem dX9_turnRound_9 : decode cX9_turnRound 9 = .ok (.iload_n 2, 1) := by decide +kernel
theorem dX9_turnRound_10 : decode cX9_turnRound 10 = .ok (.iload_n 1, 1) := by decide +kernel
theorem dX9_turnRound_11 : decode cX9_turnRound 11 = .ok (.if_icmp .ge 82, 3) := by decide +kernel
theorem dX9_turnRound_14 : decode cX9_turnRound 14 = .ok (.aload_n 0, 1) := by decide +kernel
theorem dX9_turnRound_15 : decode cX9_turnRound 15 = .ok (.iload_n 2, 1) := by decide +kernel
theorem dX9_turnRound_16 : decode cX9_turnRound 16 = .ok (.invokevirtual 25, 3) := by decide +kernel
theorem dX9_turnRound_19 : decode cX9_turnRound 19 = .ok (.ifCond .eq 74, 3) := by decide +kernel
theorem dX9_turnRound_22 : decode cX9_turnRound 22 = .ok (.aload_n 0, 1) := by decide +kernel
theorem dX9_turnRound_23 : decode cX9_turnRound 23 = .ok (.iload_n 1, 1) := by decide +kernel
theorem dX9_turnRound_24 : decode cX9_turnRound 24 = .ok (.invokevirtual 25, 3) := by decide +kernel
theorem dX9_turnRound_27 : decode cX9_turnRound 27 = .ok (.ifCond .eq 66, 3) := by decide +kernel
theorem dX9_turnRound_30 : decode cX9_turnRound 30 = .ok (.aload_n 0, 1) := by decide +kernel
theorem dX9_turnRound_31 : decode cX9_turnRound 31 = .ok (.getfield 9, 3) := by decide +kernel
theorem dX9_turnRound_34 : decode cX9_turnRound 34 = .ok (.iload_n 2, 1) := by decide +kernel
theorem dX9_turnRound_35 : decode cX9_turnRound 35 = .ok (.iaload, 1) := by decide +kernel
theorem dX9_turnRound_36 : decode cX9_turnRound 36 = .ok (.istore_n 3, 1) := by decide +kernel
theorem dX9_turnRound_37 : decode cX9_turnRound 37 = .ok (.aload_n 0, 1) := by decide +kernel
theorem dX9_turnRound_38 : decode cX9_turnRound 38 = .ok (.getfield 15, 3) := by decide +kernel
theorem dX9_turnRound_41 : decode cX9_turnRound 41 = .ok (.iload_n 2, 1) := by decide +kernel
theorem dX9_turnRound_42 : decode cX9_turnRound 42 = .ok (.iaload, 1) := by decide +kernel
theorem dX9_turnRound_43 : decode cX9_turnRound 43 = .ok (.istore 4, 2) := by decide +kernel
theorem dX9_turnRound_45 : decode cX9_turnRound 45 = .ok (.aload_n 0, 1) := by decide +kernel
theorem dX9_turnRound_46 : decode cX9_turnRound 46 = .ok (.getfield 9, 3) := by decide +kernel
theorem dX9_turnRound_49 : decode cX9_turnRound 49 = .ok (.iload_n 2, 1) := by decide +kernel
theorem dX9_turnRound_50 : decode cX9_turnRound 50 = .ok (.aload_n 0, 1) := by decide +kernel
theorem dX9_turnRound_51 : decode cX9_turnRound 51 = .ok (.getfield 9, 3) := by decide +kernel
theorem dX9_turnRound_54 : decode cX9_turnRound 54 = .ok (.iload_n 1, 1) := by decide +kernel
theorem dX9_turnRound_55 : decode cX9_turnRound 55 = .ok (.iaload, 1) := by decide +kernel
theorem dX9_turnRound_56 : decode cX9_turnRound 56 = .ok (.iastore, 1) := by decide +kernel
theorem dX9_turnRound_57 : decode cX9_turnRound 57 = .ok (.aload_n 0, 1) := by decide +kernel
theorem dX9_turnRound_58 : decode cX9_turnRound 58 = .ok (.getfield 15, 3) := by decide +kernel
theorem dX9_turnRound_61 : decode cX9_turnRound 61 = .ok (.iload_n 2, 1) := by decide +kernel
theorem dX9_turnRound_62 : decode cX9_turnRound 62 = .ok (.aload_n 0, 1) := by decide +kernel
theorem dX9_turnRound_63 : decode cX9_turnRound 63 = .ok (.getfield 15, 3) := by decide +kernel
theorem dX9_turnRound_66 : decode cX9_turnRound 66 = .ok (.iload_n 1, 1) := by decide +kernel
theorem dX9_turnRound_67 : decode cX9_turnRound 67 = .ok (.iaload, 1) := by decide +kernel
theorem dX9_turnRound_68 : decode cX9_turnRound 68 = .ok (.iastore, 1) := by decide +kernel
theorem dX9_turnRound_69 : decode cX9_turnRound 69 = .ok (.aload_n 0, 1) := by decide +kernel
theorem dX9_turnRound_70 : decode cX9_turnRound 70 = .ok (.getfield 9, 3) := by decide +kernel
theorem dX9_turnRound_73 : decode cX9_turnRound 73 = .ok (.iload_n 1, 1) := by decide +kernel
theorem dX9_turnRound_74 : decode cX9_turnRound 74 = .ok (.iload_n 3, 1) := by decide +kernel
theorem dX9_turnRound_75 : decode cX9_turnRound 75 = .ok (.iastore, 1) := by decide +kernel
theorem dX9_turnRound_76 : decode cX9_turnRound 76 = .ok (.aload_n 0, 1) := by decide +kernel
theorem dX9_turnRound_77 : decode cX9_turnRound 77 = .ok (.getfield 15, 3) := by decide +kernel
theorem dX9_turnRound_80 : decode cX9_turnRound 80 = .ok (.iload_n 1, 1) := by decide +kernel
theorem dX9_turnRound_81 : decode cX9_turnRound 81 = .ok (.iload 4, 2) := by decide +kernel
theorem dX9_turnRound_83 : decode cX9_turnRound 83 = .ok (.iastore, 1) := by decide +kernel
theorem dX9_turnRound_84 : decode cX9_turnRound 84 = .ok (.iinc 1 (-1), 3) := by decide +kernel
theorem dX9_turnRound_87 : decode cX9_turnRound 87 = .ok (.iinc 2 1, 3) := by decide +kernel
theorem dX9_turnRound_90 : decode cX9_turnRound 90 = .ok (.goto (-81), 3) := by decide +kernel
theorem dX9_turnRound_93 : decode cX9_turnRound 93 = .ok (.return_, 1) := by decide +kernel
theorem dX9_slowDown_0 : decode cX9_slowDown 0 = .ok (.iload_n 1, 1) := by decide +kernel
theorem dX9_slowDown_1 : decode cX9_slowDown 1 = .ok (.iconst 1, 1) := by decide +kernel
theorem dX9_slowDown_2 : decode cX9_slowDown 2 = .ok (.if_icmp .lt 14, 3) := by decide +kernel
theorem dX9_slowDown_5 : decode cX9_slowDown 5 = .ok (.aload_n 0, 1) := by decide +kernel
theorem dX9_slowDown_6 : decode cX9_slowDown 6 = .ok (.getfield 22, 3) := by decide +kernel
theorem dX9_slowDown_9 : decode cX9_slowDown 9 = .ok (.iload_n 1, 1) := by decide +kernel
theorem dX9_slowDown_10 : decode cX9_slowDown 10 = .ok (.imul, 1) := by decide +kernel
theorem dX9_slowDown_11 : decode cX9_slowDown 11 = .ok (.bipush 40, 2) := by decide +kernel
theorem dX9_slowDown_13 : decode cX9_slowDown 13 = .ok (.if_icmp .le 5, 3) := by decide +kernel
theorem dX9_slowDown_16 : decode cX9_slowDown 16 = .ok (.iconst 0, 1) := by decide +kernel
theorem dX9_slowDown_17 : decode cX9_slowDown 17 = .ok (.ireturn, 1) := by decide +kernel
theorem dX9_slowDown_18 : decode cX9_slowDown 18 = .ok (.aload_n 0, 1) := by decide +kernel
theorem dX9_slowDown_19 : decode cX9_slowDown 19 = .ok (.getfield 22, 3) := by decide +kernel
theorem dX9_slowDown_22 : decode cX9_slowDown 22 = .ok (.iload_n 1, 1) := by decide +kernel
theorem dX9_slowDown_23 : decode cX9_slowDown 23 = .ok (.imul, 1) := by decide +kernel
theorem dX9_slowDown_24 : decode cX9_slowDown 24 = .ok (.iconst 1, 1) := by decide +kernel
theorem dX9_slowDown_25 : decode cX9_slowDown 25 = .ok (.isub, 1) := by decide +kernel
theorem dX9_slowDown_26 : decode cX9_slowDown 26 = .ok (.istore_n 2, 1) := by decide +kernel
theorem dX9_slowDown_27 : decode cX9_slowDown 27 = .ok (.iload_n 2, 1) := by decide +kernel
theorem dX9_slowDown_28 : decode cX9_slowDown 28 = .ok (.ifCond .lt 37, 3) := by decide +kernel
theorem dX9_slowDown_31 : decode cX9_slowDown 31 = .ok (.aload_n 0, 1) := by decide +kernel
theorem dX9_slowDown_32 : decode cX9_slowDown 32 = .ok (.getfield 9, 3) := by decide +kernel
theorem dX9_slowDown_35 : decode cX9_slowDown 35 = .ok (.iload_n 2, 1) := by decide +kernel
theorem dX9_slowDown_36 : decode cX9_slowDown 36 = .ok (.aload_n 0, 1) := by decide +kernel
theorem dX9_slowDown_37 : decode cX9_slowDown 37 = .ok (.getfield 9, 3) := by decide +kernel
theorem dX9_slowDown_40 : decode cX9_slowDown 40 = .ok (.iload_n 2, 1) := by decide +kernel
theorem dX9_slowDown_41 : decode cX9_slowDown 41 = .ok (.iload_n 1, 1) := by decide +kernel
theorem dX9_slowDown_42 : decode cX9_slowDown 42 = .ok (.idiv, 1) := by decide +kernel
theorem dX9_slowDown_43 : decode cX9_slowDown 43 = .ok (.iaload, 1) := by decide +kernel
theorem dX9_slowDown_44 : decode cX9_slowDown 44 = .ok (.iastore, 1) := by decide +kernel
theorem dX9_slowDown_45 : decode cX9_slowDown 45 = .ok (.aload_n 0, 1) := by decide +kernel
theorem dX9_slowDown_46 : decode cX9_slowDown 46 = .ok (.getfield 15, 3) := by decide +kernel
theorem dX9_slowDown_49 : decode cX9_slowDown 49 = .ok (.iload_n 2, 1) := by decide +kernel
theorem dX9_slowDown_50 : decode cX9_slowDown 50 = .ok (.aload_n 0, 1) := by decide +kernel
theorem dX9_slowDown_51 : decode cX9_slowDown 51 = .ok (.getfield 15, 3) := by decide +kernel
theorem dX9_slowDown_54 : decode cX9_slowDown 54 = .ok (.iload_n 2, 1) := by decide +kernel
theorem dX9_slowDown_55 : decode cX9_slowDown 55 = .ok (.iload_n 1, 1) := by decide +kernel
theorem dX9_slowDown_56 : decode cX9_slowDown 56 = .ok (.idiv, 1) := by decide +kernel
theorem dX9_slowDown_57 : decode cX9_slowDown 57 = .ok (.iaload, 1) := by decide +kernel
theorem dX9_slowDown_58 : decode cX9_slowDown 58 = .ok (.iastore, 1) := by decide +kernel
theorem dX9_slowDown_59 : decode cX9_slowDown 59 = .ok (.iinc 2 (-1), 3) := by decide +kernel
theorem dX9_slowDown_62 : decode cX9_slowDown 62 = .ok (.goto (-35), 3) := by decide +kernel
theorem dX9_slowDown_65 : decode cX9_slowDown 65 = .ok (.aload_n 0, 1) := by decide +kernel
theorem dX9_slowDown_66 : decode cX9_slowDown 66 = .ok (.dup, 1) := by decide +kernel
theorem dX9_slowDown_67 : decode cX9_slowDown 67 = .ok (.getfield 22, 3) := by decide +kernel
theorem dX9_slowDown_70 : decode cX9_slowDown 70 = .ok (.iload_n 1, 1) := by decide +kernel
theorem dX9_slowDown_71 : decode cX9_slowDown 71 = .ok (.imul, 1) := by decide +kernel
theorem dX9_slowDown_72 : decode cX9_slowDown 72 = .ok (.putfield 22, 3) := by decide +kernel
theorem dX9_slowDown_75 : decode cX9_slowDown 75 = .ok (.iconst 1, 1) := by decide +kernel
theorem dX9_slowDown_76 : decode cX9_slowDown 76 = .ok (.ireturn, 1) := by decide +kernel
theorem dX9_dryUp_0 : decode cX9_dryUp 0 = .ok (.iconst 0, 1) := by decide +kernel
theorem dX9_dryUp_1 : decode cX9_dryUp 1 = .ok (.istore_n 1, 1) := by decide +kernel
theorem dX9_dryUp_2 : decode cX9_dryUp 2 = .ok (.iload_n 1, 1) := by decide +kernel
theorem dX9_dryUp_3 : decode cX9_dryUp 3 = .ok (.aload_n 0, 1) := by decide +kernel
theorem dX9_dryUp_4 : decode cX9_dryUp 4 = .ok (.getfield 22, 3) := by decide +kernel
theorem dX9_dryUp_7 : decode cX9_dryUp 7 = .ok (.if_icmp .ge 22, 3) := by decide +kernel
theorem dX9_dryUp_10 : decode cX9_dryUp 10 = .ok (.iload_n 1, 1) := by decide +kernel
theorem dX9_dryUp_11 : decode cX9_dryUp 11 = .ok (.bipush 40, 2) := by decide +kernel
theorem dX9_dryUp_13 : decode cX9_dryUp 13 = .ok (.if_icmp .ge 16, 3) := by decide +kernel
theorem dX9_dryUp_16 : decode cX9_dryUp 16 = .ok (.aload_n 0, 1) := by decide +kernel
theorem dX9_dryUp_17 : decode cX9_dryUp 17 = .ok (.getfield 15, 3) := by decide +kernel
theorem dX9_dryUp_20 : decode cX9_dryUp 20 = .ok (.iload_n 1, 1) := by decide +kernel
theorem dX9_dryUp_21 : decode cX9_dryUp 21 = .ok (.iconst 0, 1) := by decide +kernel
theorem dX9_dryUp_22 : decode cX9_dryUp 22 = .ok (.iastore, 1) := by decide +kernel
theorem dX9_dryUp_23 : decode cX9_dryUp 23 = .ok (.iinc 1 1, 3) := by decide +kernel
theorem dX9_dryUp_26 : decode cX9_dryUp 26 = .ok (.goto (-24), 3) := by decide +kernel
theorem dX9_dryUp_29 : decode cX9_dryUp 29 = .ok (.return_, 1) := by decide +kernel
theorem dX9_wornPlace_0 : decode cX9_wornPlace 0 = .ok (.aload_n 0, 1) := by decide +kernel
theorem dX9_wornPlace_1 : decode cX9_wornPlace 1 = .ok (.iload 5, 2) := by decide +kernel
theorem dX9_wornPlace_3 : decode cX9_wornPlace 3 = .ok (.invokevirtual 29, 3) := by decide +kernel
theorem dX9_wornPlace_6 : decode cX9_wornPlace 6 = .ok (.iload_n 1, 1) := by decide +kernel
theorem dX9_wornPlace_7 : decode cX9_wornPlace 7 = .ok (.invokestatic 40, 3) := by decide +kernel
theorem dX9_wornPlace_10 : decode cX9_wornPlace 10 = .ok (.istore 7, 2) := by decide +kernel
theorem dX9_wornPlace_12 : decode cX9_wornPlace 12 = .ok (.iload_n 3, 1) := by decide +kernel
theorem dX9_wornPlace_13 : decode cX9_wornPlace 13 = .ok (.ifCond .eq 10, 3) := by decide +kernel
theorem dX9_wornPlace_16 : decode cX9_wornPlace 16 = .ok (.iload 5, 2) := by decide +kernel
theorem dX9_wornPlace_18 : decode cX9_wornPlace 18 = .ok (.iload 4, 2) := by decide +kernel
theorem dX9_wornPlace_20 : decode cX9_wornPlace 20 = .ok (.if_icmp .ge 6, 3) := by decide +kernel
theorem dX9_wornPlace_23 : decode cX9_wornPlace 23 = .ok (.iload 7, 2) := by decide +kernel
theorem dX9_wornPlace_25 : decode cX9_wornPlace 25 = .ok (.ireturn, 1) := by decide +kernel
theorem dX9_wornPlace_26 : decode cX9_wornPlace 26 = .ok (.iload_n 2, 1) := by decide +kernel
theorem dX9_wornPlace_27 : decode cX9_wornPlace 27 = .ok (.ifCond .ne 20, 3) := by decide +kernel
theorem dX9_wornPlace_30 : decode cX9_wornPlace 30 = .ok (.aload_n 0, 1) := by decide +kernel
theorem dX9_wornPlace_31 : decode cX9_wornPlace 31 = .ok (.iload 5, 2) := by decide +kernel
theorem dX9_wornPlace_33 : decode cX9_wornPlace 33 = .ok (.iload_n 3, 1) := by decide +kernel
theorem dX9_wornPlace_34 : decode cX9_wornPlace 34 = .ok (.isub, 1) := by decide +kernel
theorem dX9_wornPlace_35 : decode cX9_wornPlace 35 = .ok (.iconst 0, 1) := by decide +kernel
theorem dX9_wornPlace_36 : decode cX9_wornPlace 36 = .ok (.invokestatic 44, 3) := by decide +kernel
theorem dX9_wornPlace_39 : decode cX9_wornPlace 39 = .ok (.invokevirtual 29, 3) := by decide +kernel
theorem dX9_wornPlace_42 : decode cX9_wornPlace 42 = .ok (.iload_n 1, 1) := by decide +kernel
theorem dX9_wornPlace_43 : decode cX9_wornPlace 43 = .ok (.invokestatic 40, 3) := by decide +kernel
theorem dX9_wornPlace_46 : decode cX9_wornPlace 46 = .ok (.ireturn, 1) := by decide +kernel
theorem dX9_wornPlace_47 : decode cX9_wornPlace 47 = .ok (.iload 5, 2) := by decide +kernel
theorem dX9_wornPlace_49 : decode cX9_wornPlace 49 = .ok (.iload 4, 2) := by decide +kernel
theorem dX9_wornPlace_51 : decode cX9_wornPlace 51 = .ok (.if_icmp .ne 8, 3) := by decide +kernel
theorem dX9_wornPlace_54 : decode cX9_wornPlace 54 = .ok (.iload 7, 2) := by decide +kernel
theorem dX9_wornPlace_56 : decode cX9_wornPlace 56 = .ok (.goto 17, 3) := by decide +kernel
theorem dX9_wornPlace_59 : decode cX9_wornPlace 59 = .ok (.iload 6, 2) := by decide +kernel
theorem dX9_wornPlace_61 : decode cX9_wornPlace 61 = .ok (.iload 7, 2) := by decide +kernel
theorem dX9_wornPlace_63 : decode cX9_wornPlace 63 = .ok (.iload_n 3, 1) := by decide +kernel
theorem dX9_wornPlace_64 : decode cX9_wornPlace 64 = .ok (.isub, 1) := by decide +kernel
theorem dX9_wornPlace_65 : decode cX9_wornPlace 65 = .ok (.invokestatic 44, 3) := by decide +kernel
theorem dX9_wornPlace_68 : decode cX9_wornPlace 68 = .ok (.iload 7, 2) := by decide +kernel
theorem dX9_wornPlace_70 : decode cX9_wornPlace 70 = .ok (.invokestatic 49, 3) := by decide +kernel
theorem dX9_wornPlace_73 : decode cX9_wornPlace 73 = .ok (.ireturn, 1) := by decide +kernel
theorem dX10_init_0 : decode cX10_init 0 = .ok (.aload_n 0, 1) := by decide +kernel
theorem dX10_init_1 : decode cX10_init 1 = .ok (.invokespecial 3, 3) := by decide +kernel
theorem dX10_init_4 : decode cX10_init 4 = .ok (.aload_n 0, 1) := by decide +kernel
theorem dX10_init_5 : decode cX10_init 5 = .ok (.sipush 400, 3) := by decide +kernel
theorem dX10_init_8 : decode cX10_init 8 = .ok (.newarray .int, 2) := by decide +kernel
theorem dX10_init_10 : decode cX10_init 10 = .ok (.putfield 11, 3) := by decide +kernel
theorem dX10_init_13 : decode cX10_init 13 = .ok (.aload_n 0, 1) := by decide +kernel
theorem dX10_init_14 : decode cX10_init 14 = .ok (.sipush 401, 3) := by decide +kernel
theorem dX10_init_17 : decode cX10_init 17 = .ok (.newarray .int, 2) := by decide +kernel
theorem dX10_init_19 : decode cX10_init 19 = .ok (.putfield 15, 3) := by decide +kernel
theorem dX10_init_22 : decode cX10_init 22 = .ok (.aload_n 0, 1) := by decide +kernel
theorem dX10_init_23 : decode cX10_init 23 = .ok (.sipush 401, 3) := by decide +kernel
theorem dX10_init_26 : decode cX10_init 26 = .ok (.newarray .int, 2) := by decide +kernel
theorem dX10_init_28 : decode cX10_init 28 = .ok (.putfield 18, 3) := by decide +kernel
theorem dX10_init_31 : decode cX10_init 31 = .ok (.aload_n 0, 1) := by decide +kernel
theorem dX10_init_32 : decode cX10_init 32 = .ok (.sipush 401, 3) := by decide +kernel
theorem dX10_init_35 : decode cX10_init 35 = .ok (.newarray .int, 2) := by decide +kernel
theorem dX10_init_37 : decode cX10_init 37 = .ok (.putfield 21, 3) := by decide +kernel
theorem dX10_init_40 : decode cX10_init 40 = .ok (.return_, 1) := by decide +kernel
theorem dX10_hasRoom_0 : decode cX10_hasRoom 0 = .ok (.aload_n 0, 1) := by decide +kernel
theorem dX10_hasRoom_1 : decode cX10_hasRoom 1 = .ok (.getfield 24, 3) := by decide +kernel
theorem dX10_hasRoom_4 : decode cX10_hasRoom 4 = .ok (.bipush 20, 2) := by decide +kernel
theorem dX10_hasRoom_6 : decode cX10_hasRoom 6 = .ok (.iadd, 1) := by decide +kernel
theorem dX10_hasRoom_7 : decode cX10_hasRoom 7 = .ok (.sipush 400, 3) := by decide +kernel
theorem dX10_hasRoom_10 : decode cX10_hasRoom 10 = .ok (.if_icmp .gt 7, 3) := by decide +kernel
theorem dX10_hasRoom_13 : decode cX10_hasRoom 13 = .ok (.iconst 1, 1) := by decide +kernel
theorem dX10_hasRoom_14 : decode cX10_hasRoom 14 = .ok (.goto 4, 3) := by decide +kernel
theorem dX10_hasRoom_17 : decode cX10_hasRoom 17 = .ok (.iconst 0, 1) := by decide +kernel
theorem dX10_hasRoom_18 : decode cX10_hasRoom 18 = .ok (.ireturn, 1) := by decide +kernel
theorem dX10_addFour_0 : decode cX10_addFour 0 = .ok (.bipush 24, 2) := by decide +kernel
theorem dX10_addFour_2 : decode cX10_addFour 2 = .ok (.istore_n 2, 1) := by decide +kernel
theorem dX10_addFour_3 : decode cX10_addFour 3 = .ok (.iload_n 2, 1) := by decide +kernel
theorem dX10_addFour_4 : decode cX10_addFour 4 = .ok (.ifCond .lt 45, 3) := by decide +kernel
theorem dX10_addFour_7 : decode cX10_addFour 7 = .ok (.aload_n 0, 1) := by decide +kernel
theorem dX10_addFour_8 : decode cX10_addFour 8 = .ok (.getfield 24, 3) := by decide +kernel
theorem dX10_addFour_11 : decode cX10_addFour 11 = .ok (.sipush 400, 3) := by decide +kernel
theorem dX10_addFour_14 : decode cX10_addFour 14 = .ok (.if_icmp .ge 35, 3) := by decide +kernel
theorem dX10_addFour_17 : decode cX10_addFour 17 = .ok (.aload_n 0, 1) := by decide +kernel
theorem dX10_addFour_18 : decode cX10_addFour 18 = .ok (.getfield 11, 3) := by decide +kernel
theorem dX10_addFour_21 : decode cX10_addFour 21 = .ok (.aload_n 0, 1) := by decide +kernel
theorem dX10_addFour_22 : decode cX10_addFour 22 = .ok (.getfield 24, 3) := by decide +kernel
theorem dX10_addFour_25 : decode cX10_addFour 25 = .ok (.iload_n 1, 1) := by decide +kernel
theorem dX10_addFour_26 : decode cX10_addFour 26 = .ok (.iload_n 2, 1) := by decide +kernel
theorem dX10_addFour_27 : decode cX10_addFour 27 = .ok (.ishr, 1) := by decide +kernel
theorem dX10_addFour_28 : decode cX10_addFour 28 = .ok (.sipush 255, 3) := by decide +kernel
theorem dX10_addFour_31 : decode cX10_addFour 31 = .ok (.iand, 1) := by decide +kernel
theorem dX10_addFour_32 : decode cX10_addFour 32 = .ok (.iastore, 1) := by decide +kernel
theorem dX10_addFour_33 : decode cX10_addFour 33 = .ok (.aload_n 0, 1) := by decide +kernel
theorem dX10_addFour_34 : decode cX10_addFour 34 = .ok (.dup, 1) := by decide +kernel
theorem dX10_addFour_35 : decode cX10_addFour 35 = .ok (.getfield 24, 3) := by decide +kernel
theorem dX10_addFour_38 : decode cX10_addFour 38 = .ok (.iconst 1, 1) := by decide +kernel
theorem dX10_addFour_39 : decode cX10_addFour 39 = .ok (.iadd, 1) := by decide +kernel
theorem dX10_addFour_40 : decode cX10_addFour 40 = .ok (.putfield 24, 3) := by decide +kernel
theorem dX10_addFour_43 : decode cX10_addFour 43 = .ok (.iinc 2 (-8), 3) := by decide +kernel
theorem dX10_addFour_46 : decode cX10_addFour 46 = .ok (.goto (-43), 3) := by decide +kernel
theorem dX10_addFour_49 : decode cX10_addFour 49 = .ok (.return_, 1) := by decide +kernel
theorem dX10_split_0 : decode cX10_split 0 = .ok (.aload_n 0, 1) := by decide +kernel
theorem dX10_split_1 : decode cX10_split 1 = .ok (.iconst 0, 1) := by decide +kernel
theorem dX10_split_2 : decode cX10_split 2 = .ok (.putfield 28, 3) := by decide +kernel
theorem dX10_split_5 : decode cX10_split 5 = .ok (.iconst 0, 1) := by decide +kernel
theorem dX10_split_6 : decode cX10_split 6 = .ok (.istore_n 2, 1) := by decide +kernel
theorem dX10_split_7 : decode cX10_split 7 = .ok (.iconst 0, 1) := by decide +kernel
theorem dX10_split_8 : decode cX10_split 8 = .ok (.istore_n 3, 1) := by decide +kernel
theorem dX10_split_9 : decode cX10_split 9 = .ok (.iload_n 3, 1) := by decide +kernel
theorem dX10_split_10 : decode cX10_split 10 = .ok (.iload_n 1, 1) := by decide +kernel
theorem dX10_split_11 : decode cX10_split 11 = .ok (.if_icmp .ge 21, 3) := by decide +kernel
theorem dX10_split_14 : decode cX10_split 14 = .ok (.iload_n 2, 1) := by decide +kernel
theorem dX10_split_15 : decode cX10_split 15 = .ok (.iload_n 1, 1) := by decide +kernel
theorem dX10_split_16 : decode cX10_split 16 = .ok (.if_icmp .ge 16, 3) := by decide +kernel
theorem dX10_split_19 : decode cX10_split 19 = .ok (.aload_n 0, 1) := by decide +kernel
theorem dX10_split_20 : decode cX10_split 20 = .ok (.iload_n 2, 1) := by decide +kernel
theorem dX10_split_21 : decode cX10_split 21 = .ok (.iload_n 1, 1) := by decide +kernel
theorem dX10_split_22 : decode cX10_split 22 = .ok (.invokevirtual 31, 3) := by decide +kernel
theorem dX10_split_25 : decode cX10_split 25 = .ok (.istore_n 2, 1) := by decide +kernel
theorem dX10_split_26 : decode cX10_split 26 = .ok (.iinc 3 1, 3) := by decide +kernel
theorem dX10_split_29 : decode cX10_split 29 = .ok (.goto (-20), 3) := by decide +kernel
theorem dX10_split_32 : decode cX10_split 32 = .ok (.aload_n 0, 1) := by decide +kernel
theorem dX10_split_33 : decode cX10_split 33 = .ok (.iconst 0, 1) := by decide +kernel
theorem dX10_split_34 : decode cX10_split 34 = .ok (.iload_n 1, 1) := by decide +kernel
theorem dX10_split_35 : decode cX10_split 35 = .ok (.iconst 0, 1) := by decide +kernel
theorem dX10_split_36 : decode cX10_split 36 = .ok (.invokevirtual 35, 3) := by decide +kernel
theorem dX10_split_39 : decode cX10_split 39 = .ok (.aload_n 0, 1) := by decide +kernel
theorem dX10_split_40 : decode cX10_split 40 = .ok (.iconst 0, 1) := by decide +kernel
theorem dX10_split_41 : decode cX10_split 41 = .ok (.putfield 24, 3) := by decide +kernel
theorem dX10_split_44 : decode cX10_split 44 = .ok (.return_, 1) := by decide +kernel
theorem dX10_takeToken_0 : decode cX10_takeToken 0 = .ok (.aload_n 0, 1) := by decide +kernel
theorem dX10_takeToken_1 : decode cX10_takeToken 1 = .ok (.iload_n 1, 1) := by decide +kernel
theorem dX10_takeToken_2 : decode cX10_takeToken 2 = .ok (.invokevirtual 39, 3) := by decide +kernel
theorem dX10_takeToken_5 : decode cX10_takeToken 5 = .ok (.istore_n 3, 1) := by decide +kernel
theorem dX10_takeToken_6 : decode cX10_takeToken 6 = .ok (.iload_n 3, 1) := by decide +kernel
theorem dX10_takeToken_7 : decode cX10_takeToken 7 = .ok (.bipush 32, 2) := by decide +kernel
theorem dX10_takeToken_9 : decode cX10_takeToken 9 = .ok (.if_icmp .eq 9, 3) := by decide +kernel
theorem dX10_takeToken_12 : decode cX10_takeToken 12 = .ok (.iload_n 3, 1) := by decide +kernel
theorem dX10_takeToken_13 : decode cX10_takeToken 13 = .ok (.bipush 10, 2) := by decide +kernel
theorem dX10_takeToken_15 : decode cX10_takeToken 15 = .ok (.if_icmp .ne 7, 3) := by decide +kernel
theorem dX10_takeToken_18 : decode cX10_takeToken 18 = .ok (.iload_n 1, 1) := by decide +kernel
theorem dX10_takeToken_19 : decode cX10_takeToken 19 = .ok (.iconst 1, 1) := by decide +kernel
theorem dX10_takeToken_20 : decode cX10_takeToken 20 = .ok (.iadd, 1) := by decide +kernel
theorem dX10_takeToken_21 : decode cX10_takeToken 21 = .ok (.ireturn, 1) := by decide +kernel
theorem dX10_takeToken_22 : decode cX10_takeToken 22 = .ok (.iload_n 3, 1) := by decide +kernel
theorem dX10_takeToken_23 : decode cX10_takeToken 23 = .ok (.bipush 97, 2) := by decide +kernel
theorem dX10_takeToken_25 : decode cX10_takeToken 25 = .ok (.bipush 122, 2) := by decide +kernel
theorem dX10_takeToken_27 : decode cX10_takeToken 27 = .ok (.invokestatic 43, 3) := by decide +kernel
theorem dX10_takeToken_30 : decode cX10_takeToken 30 = .ok (.ifCond .eq 33, 3) := by decide +kernel
theorem dX10_takeToken_33 : decode cX10_takeToken 33 = .ok (.aload_n 0, 1) := by decide +kernel
theorem dX10_takeToken_34 : decode cX10_takeToken 34 = .ok (.iload_n 1, 1) := by decide +kernel
theorem dX10_takeToken_35 : decode cX10_takeToken 35 = .ok (.iload_n 2, 1) := by decide +kernel
theorem dX10_takeToken_36 : decode cX10_takeToken 36 = .ok (.bipush 97, 2) := by decide +kernel
theorem dX10_takeToken_38 : decode cX10_takeToken 38 = .ok (.bipush 122, 2) := by decide +kernel
theorem dX10_takeToken_40 : decode cX10_takeToken 40 = .ok (.invokevirtual 47, 3) := by decide +kernel
theorem dX10_takeToken_43 : decode cX10_takeToken 43 = .ok (.istore 4, 2) := by decide +kernel
theorem dX10_takeToken_45 : decode cX10_takeToken 45 = .ok (.aload_n 0, 1) := by decide +kernel
theorem dX10_takeToken_46 : decode cX10_takeToken 46 = .ok (.aload_n 0, 1) := by decide +kernel
theorem dX10_takeToken_47 : decode cX10_takeToken 47 = .ok (.iload_n 1, 1) := by decide +kernel
theorem dX10_takeToken_48 : decode cX10_takeToken 48 = .ok (.iload 4, 2) := by decide +kernel
theorem dX10_takeToken_50 : decode cX10_takeToken 50 = .ok (.iload_n 1, 1) := by decide +kernel
theorem dX10_takeToken_51 : decode cX10_takeToken 51 = .ok (.isub, 1) := by decide +kernel
theorem dX10_takeToken_52 : decode cX10_takeToken 52 = .ok (.invokevirtual 51, 3) := by decide +kernel
theorem dX10_takeToken_55 : decode cX10_takeToken 55 = .ok (.iload_n 1, 1) := by decide +kernel
theorem dX10_takeToken_56 : decode cX10_takeToken 56 = .ok (.iconst 0, 1) := by decide +kernel
theorem dX10_takeToken_57 : decode cX10_takeToken 57 = .ok (.invokevirtual 35, 3) := by decide +kernel
theorem dX10_takeToken_60 : decode cX10_takeToken 60 = .ok (.iload 4, 2) := by decide +kernel
theorem dX10_takeToken_62 : decode cX10_takeToken 62 = .ok (.ireturn, 1) := by decide +kernel
theorem dX10_takeToken_63 : decode cX10_takeToken 63 = .ok (.iload_n 3, 1) := by decide +kernel
theorem dX10_takeToken_64 : decode cX10_takeToken 64 = .ok (.bipush 48, 2) := by decide +kernel
theorem dX10_takeToken_66 : decode cX10_takeToken 66 = .ok (.bipush 57, 2) := by decide +kernel
theorem dX10_takeToken_68 : decode cX10_takeToken 68 = .ok (.invokestatic 43, 3) := by decide +kernel
theorem dX10_takeToken_71 : decode cX10_takeToken 71 = .ok (.ifCond .eq 31, 3) := by decide +kernel
theorem dX10_takeToken_74 : decode cX10_takeToken 74 = .ok (.aload_n 0, 1) := by decide +kernel
theorem dX10_takeToken_75 : decode cX10_takeToken 75 = .ok (.iload_n 1, 1) := by decide +kernel
theorem dX10_takeToken_76 : decode cX10_takeToken 76 = .ok (.iload_n 2, 1) := by decide +kernel
theorem dX10_takeToken_77 : decode cX10_takeToken 77 = .ok (.bipush 48, 2) := by decide +kernel
theorem dX10_takeToken_79 : decode cX10_takeToken 79 = .ok (.bipush 57, 2) := by decide +kernel
theorem dX10_takeToken_81 : decode cX10_takeToken 81 = .ok (.invokevirtual 47, 3) := by decide +kernel
theorem dX10_takeToken_84 : decode cX10_takeToken 84 = .ok (.istore 4, 2) := by decide +kernel
theorem dX10_takeToken_86 : decode cX10_takeToken 86 = .ok (.aload_n 0, 1) := by decide +kernel
theorem dX10_takeToken_87 : decode cX10_takeToken 87 = .ok (.iconst 2, 1) := by decide +kernel
theorem dX10_takeToken_88 : decode cX10_takeToken 88 = .ok (.iload_n 1, 1) := by decide +kernel
theorem dX10_takeToken_89 : decode cX10_takeToken 89 = .ok (.aload_n 0, 1) := by decide +kernel
theorem dX10_takeToken_90 : decode cX10_takeToken 90 = .ok (.iload_n 1, 1) := by decide +kernel
theorem dX10_takeToken_91 : decode cX10_takeToken 91 = .ok (.iload 4, 2) := by decide +kernel
theorem dX10_takeToken_93 : decode cX10_takeToken 93 = .ok (.invokevirtual 54, 3) := by decide +kernel
theorem dX10_takeToken_96 : decode cX10_takeToken 96 = .ok (.invokevirtual 35, 3) := by decide +kernel
theorem dX10_takeToken_99 : decode cX10_takeToken 99 = .ok (.iload 4, 2) := by decide +kernel
theorem dX10_takeToken_101 : decode cX10_takeToken 101 = .ok (.ireturn, 1) := by decide +kernel
theorem dX10_takeToken_102 : decode cX10_takeToken 102 = .ok (.aload_n 0, 1) := by decide +kernel
theorem dX10_takeToken_103 : decode cX10_takeToken 103 = .ok (.iload_n 3, 1) := by decide +kernel
theorem dX10_takeToken_104 : decode cX10_takeToken 104 = .ok (.bipush 59, 2) := by decide +kernel
theorem dX10_takeToken_106 : decode cX10_takeToken 106 = .ok (.if_icmp .ne 7, 3) := by decide +kernel
theorem dX10_takeToken_109 : decode cX10_takeToken 109 = .ok (.iconst 3, 1) := by decide +kernel
theorem dX10_takeToken_110 : decode cX10_takeToken 110 = .ok (.goto 4, 3) := by decide +kernel
theorem dX10_takeToken_113 : decode cX10_takeToken 113 = .ok (.iconst 1, 1) := by decide +kernel
theorem dX10_takeToken_114 : decode cX10_takeToken 114 = .ok (.iload_n 1, 1) := by decide +kernel
theorem dX10_takeToken_115 : decode cX10_takeToken 115 = .ok (.iconst 0, 1) := by decide +kernel
theorem dX10_takeToken_116 : decode cX10_takeToken 116 = .ok (.invokevirtual 35, 3) := by decide +kernel
theorem dX10_takeToken_119 : decode cX10_takeToken 119 = .ok (.iload_n 1, 1) := by decide +kernel
theorem dX10_takeToken_120 : decode cX10_takeToken 120 = .ok (.iconst 1, 1) := by decide +kernel
theorem dX10_takeToken_121 : decode cX10_takeToken 121 = .ok (.iadd, 1) := by decide +kernel
theorem dX10_takeToken_122 : decode cX10_takeToken 122 = .ok (.ireturn, 1) := by decide +kernel
theorem dX10_byteAt_0 : decode cX10_byteAt 0 = .ok (.iload_n 1, 1) := by decide +kernel
theorem dX10_byteAt_1 : decode cX10_byteAt 1 = .ok (.ifCond .lt 19, 3) := by decide +kernel
theorem dX10_byteAt_4 : decode cX10_byteAt 4 = .ok (.iload_n 1, 1) := by decide +kernel
theorem dX10_byteAt_5 : decode cX10_byteAt 5 = .ok (.sipush 400, 3) := by decide +kernel
theorem dX10_byteAt_8 : decode cX10_byteAt 8 = .ok (.if_icmp .ge 12, 3) := by decide +kernel
theorem dX10_byteAt_11 : decode cX10_byteAt 11 = .ok (.aload_n 0, 1) := by decide +kernel
theorem dX10_byteAt_12 : decode cX10_byteAt 12 = .ok (.getfield 11, 3) := by decide +kernel
theorem dX10_byteAt_15 : decode cX10_byteAt 15 = .ok (.iload_n 1, 1) := by decide +kernel
theorem dX10_byteAt_16 : decode cX10_byteAt 16 = .ok (.iaload, 1) := by decide +kernel
theorem dX10_byteAt_17 : decode cX10_byteAt 17 = .ok (.goto 4, 3) := by decide +kernel
theorem dX10_byteAt_20 : decode cX10_byteAt 20 = .ok (.iconst 0, 1) := by decide +kernel
theorem dX10_byteAt_21 : decode cX10_byteAt 21 = .ok (.ireturn, 1) := by decide +kernel
theorem dX10_endOfRow_0 : decode cX10_endOfRow 0 = .ok (.iload_n 1, 1) := by decide +kernel
theorem dX10_endOfRow_1 : decode cX10_endOfRow 1 = .ok (.iconst 1, 1) := by decide +kernel
theorem dX10_endOfRow_2 : decode cX10_endOfRow 2 = .ok (.iadd, 1) := by decide +kernel
theorem dX10_endOfRow_3 : decode cX10_endOfRow 3 = .ok (.istore 5, 2) := by decide +kernel
theorem dX10_endOfRow_5 : decode cX10_endOfRow 5 = .ok (.iload 5, 2) := by decide +kernel
theorem dX10_endOfRow_7 : decode cX10_endOfRow 7 = .ok (.iload_n 2, 1) := by decide +kernel
theorem dX10_endOfRow_8 : decode cX10_endOfRow 8 = .ok (.if_icmp .ge 24, 3) := by decide +kernel
theorem dX10_endOfRow_11 : decode cX10_endOfRow 11 = .ok (.aload_n 0, 1) := by decide +kernel
theorem dX10_endOfRow_12 : decode cX10_endOfRow 12 = .ok (.iload 5, 2) := by decide +kernel
theorem dX10_endOfRow_14 : decode cX10_endOfRow 14 = .ok (.invokevirtual 39, 3) := by decide +kernel
theorem dX10_endOfRow_17 : decode cX10_endOfRow 17 = .ok (.iload_n 3, 1) := by decide +kernel
theorem dX10_endOfRow_18 : decode cX10_endOfRow 18 = .ok (.iload 4, 2) := by decide +kernel
theorem dX10_endOfRow_20 : decode cX10_endOfRow 20 = .ok (.invokestatic 43, 3) := by decide +kernel
theorem dX10_endOfRow_23 : decode cX10_endOfRow 23 = .ok (.ifCond .eq 9, 3) := by decide +kernel
theorem dX10_endOfRow_26 : decode cX10_endOfRow 26 = .ok (.iinc 5 1, 3) := by decide +kernel
theorem dX10_endOfRow_29 : decode cX10_endOfRow 29 = .ok (.goto (-24), 3) := by decide +kernel
theorem dX10_endOfRow_32 : decode cX10_endOfRow 32 = .ok (.iload 5, 2) := by decide +kernel
theorem dX10_endOfRow_34 : decode cX10_endOfRow 34 = .ok (.ireturn, 1) := by decide +kernel
theorem dX10_valueOf_0 : decode cX10_valueOf 0 = .ok (.iconst 0, 1) := by decide +kernel
theorem dX10_valueOf_1 : decode cX10_valueOf 1 = .ok (.istore_n 3, 1) := by decide +kernel
theorem dX10_valueOf_2 : decode cX10_valueOf 2 = .ok (.iload_n 1, 1) := by decide +kernel
theorem dX10_valueOf_3 : decode cX10_valueOf 3 = .ok (.istore 4, 2) := by decide +kernel
theorem dX10_valueOf_5 : decode cX10_valueOf 5 = .ok (.iload 4, 2) := by decide +kernel
theorem dX10_valueOf_7 : decode cX10_valueOf 7 = .ok (.iload_n 2, 1) := by decide +kernel
theorem dX10_valueOf_8 : decode cX10_valueOf 8 = .ok (.if_icmp .ge 29, 3) := by decide +kernel
theorem dX10_valueOf_11 : decode cX10_valueOf 11 = .ok (.iload_n 3, 1) := by decide +kernel
theorem dX10_valueOf_12 : decode cX10_valueOf 12 = .ok (.bipush 10, 2) := by decide +kernel
theorem dX10_valueOf_14 : decode cX10_valueOf 14 = .ok (.imul, 1) := by decide +kernel
theorem dX10_valueOf_15 : decode cX10_valueOf 15 = .ok (.aload_n 0, 1) := by decide +kernel
theorem dX10_valueOf_16 : decode cX10_valueOf 16 = .ok (.iload 4, 2) := by decide +kernel
theorem dX10_valueOf_18 : decode cX10_valueOf 18 = .ok (.invokevirtual 39, 3) := by decide +kernel
theorem dX10_valueOf_21 : decode cX10_valueOf 21 = .ok (.iadd, 1) := by decide +kernel
theorem dX10_valueOf_22 : decode cX10_valueOf 22 = .ok (.bipush 48, 2) := by decide +kernel
theorem dX10_valueOf_24 : decode cX10_valueOf 24 = .ok (.isub, 1) := by decide +kernel
theorem dX10_valueOf_25 : decode cX10_valueOf 25 = .ok (.bipush 100, 2) := by decide +kernel
theorem dX10_valueOf_27 : decode cX10_valueOf 27 = .ok (.invokestatic 57, 3) := by decide +kernel
theorem dX10_valueOf_30 : decode cX10_valueOf 30 = .ok (.istore_n 3, 1) := by decide +kernel
theorem dX10_valueOf_31 : decode cX10_valueOf 31 = .ok (.iinc 4 1, 3) := by decide +kernel
theorem dX10_valueOf_34 : decode cX10_valueOf 34 = .ok (.goto (-29), 3) := by decide +kernel
theorem dX10_valueOf_37 : decode cX10_valueOf 37 = .ok (.iload_n 3, 1) := by decide +kernel
theorem dX10_valueOf_38 : decode cX10_valueOf 38 = .ok (.ireturn, 1) := by decide +kernel
theorem dX10_wordKind_0 : decode cX10_wordKind 0 = .ok (.aload_n 0, 1) := by decide +kernel
theorem dX10_wordKind_1 : decode cX10_wordKind 1 = .ok (.iload_n 1, 1) := by decide +kernel
theorem dX10_wordKind_2 : decode cX10_wordKind 2 = .ok (.iload_n 2, 1) := by decide +kernel
theorem dX10_wordKind_3 : decode cX10_wordKind 3 = .ok (.ldc 62, 2) := by decide +kernel
theorem dX10_wordKind_5 : decode cX10_wordKind 5 = .ok (.invokevirtual 64, 3) := by decide +kernel
theorem dX10_wordKind_8 : decode cX10_wordKind 8 = .ok (.ifCond .eq 5, 3) := by decide +kernel
theorem dX10_wordKind_11 : decode cX10_wordKind 11 = .ok (.iconst 4, 1) := by decide +kernel
theorem dX10_wordKind_12 : decode cX10_wordKind 12 = .ok (.ireturn, 1) := by decide +kernel
theorem dX10_wordKind_13 : decode cX10_wordKind 13 = .ok (.aload_n 0, 1) := by decide +kernel
theorem dX10_wordKind_14 : decode cX10_wordKind 14 = .ok (.iload_n 1, 1) := by decide +kernel
theorem dX10_wordKind_15 : decode cX10_wordKind 15 = .ok (.iload_n 2, 1) := by decide +kernel
theorem dX10_wordKind_16 : decode cX10_wordKind 16 = .ok (.ldc 68, 2) := by decide +kernel
theorem dX10_wordKind_18 : decode cX10_wordKind 18 = .ok (.invokevirtual 64, 3) := by decide +kernel
theorem dX10_wordKind_21 : decode cX10_wordKind 21 = .ok (.ifCond .eq 5, 3) := by decide +kernel
theorem dX10_wordKind_24 : decode cX10_wordKind 24 = .ok (.iconst 5, 1) := by decide +kernel
theorem dX10_wordKind_25 : decode cX10_wordKind 25 = .ok (.ireturn, 1) := by decide +kernel
theorem dX10_wordKind_26 : decode cX10_wordKind 26 = .ok (.aload_n 0, 1) := by decide +kernel
theorem dX10_wordKind_27 : decode cX10_wordKind 27 = .ok (.iload_n 1, 1) := by decide +kernel
theorem dX10_wordKind_28 : decode cX10_wordKind 28 = .ok (.iload_n 2, 1) := by decide +kernel
theorem dX10_wordKind_29 : decode cX10_wordKind 29 = .ok (.ldc 70, 2) := by decide +kernel
theorem dX10_wordKind_31 : decode cX10_wordKind 31 = .ok (.invokevirtual 64, 3) := by decide +kernel
theorem dX10_wordKind_34 : decode cX10_wordKind 34 = .ok (.ifCond .eq 6, 3) := by decide +kernel
theorem dX10_wordKind_37 : decode cX10_wordKind 37 = .ok (.bipush 6, 2) := by decide +kernel
theorem dX10_wordKind_39 : decode cX10_wordKind 39 = .ok (.ireturn, 1) := by decide +kernel
theorem dX10_wordKind_40 : decode cX10_wordKind 40 = .ok (.aload_n 0, 1) := by decide +kernel
theorem dX10_wordKind_41 : decode cX10_wordKind 41 = .ok (.iload_n 1, 1) := by decide +kernel
theorem dX10_wordKind_42 : decode cX10_wordKind 42 = .ok (.iload_n 2, 1) := by decide +kernel
theorem dX10_wordKind_43 : decode cX10_wordKind 43 = .ok (.ldc 72, 2) := by decide +kernel
theorem dX10_wordKind_45 : decode cX10_wordKind 45 = .ok (.invokevirtual 64, 3) := by decide +kernel
theorem dX10_wordKind_48 : decode cX10_wordKind 48 = .ok (.ifCond .eq 6, 3) := by decide +kernel
theorem dX10_wordKind_51 : decode cX10_wordKind 51 = .ok (.bipush 7, 2) := by decide +kernel
theorem dX10_wordKind_53 : decode cX10_wordKind 53 = .ok (.ireturn, 1) := by decide +kernel
theorem dX10_wordKind_54 : decode cX10_wordKind 54 = .ok (.aload_n 0, 1) := by decide +kernel
theorem dX10_wordKind_55 : decode cX10_wordKind 55 = .ok (.iload_n 1, 1) := by decide +kernel
theorem dX10_wordKind_56 : decode cX10_wordKind 56 = .ok (.iload_n 2, 1) := by decide +kernel
theorem dX10_wordKind_57 : decode cX10_wordKind 57 = .ok (.ldc 74, 2) := by decide +kernel
theorem dX10_wordKind_59 : decode cX10_wordKind 59 = .ok (.invokevirtual 64, 3) := by decide +kernel
theorem dX10_wordKind_62 : decode cX10_wordKind 62 = .ok (.ifCond .eq 6, 3) := by decide +kernel
theorem dX10_wordKind_65 : decode cX10_wordKind 65 = .ok (.bipush 8, 2) := by decide +kernel
theorem dX10_wordKind_67 : decode cX10_wordKind 67 = .ok (.ireturn, 1) := by decide +kernel
theorem dX10_wordKind_68 : decode cX10_wordKind 68 = .ok (.aload_n 0, 1) := by decide +kernel
theorem dX10_wordKind_69 : decode cX10_wordKind 69 = .ok (.iload_n 1, 1) := by decide +kernel
theorem dX10_wordKind_70 : decode cX10_wordKind 70 = .ok (.iload_n 2, 1) := by decide +kernel
theorem dX10_wordKind_71 : decode cX10_wordKind 71 = .ok (.ldc 76, 2) := by decide +kernel
theorem dX10_wordKind_73 : decode cX10_wordKind 73 = .ok (.invokevirtual 64, 3) := by decide +kernel
theorem dX10_wordKind_76 : decode cX10_wordKind 76 = .ok (.ifCond .eq 6, 3) := by decide +kernel
theorem dX10_wordKind_79 : decode cX10_wordKind 79 = .ok (.bipush 9, 2) := by decide +kernel
theorem dX10_wordKind_81 : decode cX10_wordKind 81 = .ok (.ireturn, 1) := by decide +kernel
theorem dX10_wordKind_82 : decode cX10_wordKind 82 = .ok (.aload_n 0, 1) := by decide +kernel
theorem dX10_wordKind_83 : decode cX10_wordKind 83 = .ok (.iload_n 1, 1) := by decide +kernel
theorem dX10_wordKind_84 : decode cX10_wordKind 84 = .ok (.iload_n 2, 1) := by decide +kernel
theorem dX10_wordKind_85 : decode cX10_wordKind 85 = .ok (.ldc 78, 2) := by decide +kernel
theorem dX10_wordKind_87 : decode cX10_wordKind 87 = .ok (.invokevirtual 64, 3) := by decide +kernel
theorem dX10_wordKind_90 : decode cX10_wordKind 90 = .ok (.ifCond .eq 8, 3) := by decide +kernel
theorem dX10_wordKind_93 : decode cX10_wordKind 93 = .ok (.bipush 10, 2) := by decide +kernel
theorem dX10_wordKind_95 : decode cX10_wordKind 95 = .ok (.goto 4, 3) := by decide +kernel
theorem dX10_wordKind_98 : decode cX10_wordKind 98 = .ok (.iconst 1, 1) := by decide +kernel
theorem dX10_wordKind_99 : decode cX10_wordKind 99 = .ok (.ireturn, 1) := by decide +kernel
theorem dX10_isWord_0 : decode cX10_isWord 0 = .ok (.iload_n 2, 1) := by decide +kernel
theorem dX10_isWord_1 : decode cX10_isWord 1 = .ok (.aload_n 3, 1) := by decide +kernel
theorem dX10_isWord_2 : decode cX10_isWord 2 = .ok (.invokevirtual 80, 3) := by decide +kernel
theorem dX10_isWord_5 : decode cX10_isWord 5 = .ok (.if_icmp .ne 7, 3) := by decide +kernel
theorem dX10_isWord_8 : decode cX10_isWord 8 = .ok (.iconst 1, 1) := by decide +kernel
theorem dX10_isWord_9 : decode cX10_isWord 9 = .ok (.goto 4, 3) := by decide +kernel
theorem dX10_isWord_12 : decode cX10_isWord 12 = .ok (.iconst 0, 1) := by decide +kernel
theorem dX10_isWord_13 : decode cX10_isWord 13 = .ok (.istore 4, 2) := by decide +kernel
theorem dX10_isWord_15 : decode cX10_isWord 15 = .ok (.iconst 0, 1) := by decide +kernel
theorem dX10_isWord_16 : decode cX10_isWord 16 = .ok (.istore 5, 2) := by decide +kernel
theorem dX10_isWord_18 : decode cX10_isWord 18 = .ok (.iload 5, 2) := by decide +kernel
theorem dX10_isWord_20 : decode cX10_isWord 20 = .ok (.aload_n 3, 1) := by decide +kernel
theorem dX10_isWord_21 : decode cX10_isWord 21 = .ok (.invokevirtual 80, 3) := by decide +kernel
theorem dX10_isWord_24 : decode cX10_isWord 24 = .ok (.if_icmp .ge 38, 3) := by decide +kernel
theorem dX10_isWord_27 : decode cX10_isWord 27 = .ok (.iload 4, 2) := by decide +kernel
theorem dX10_isWord_29 : decode cX10_isWord 29 = .ok (.ifCond .eq 33, 3) := by decide +kernel
theorem dX10_isWord_32 : decode cX10_isWord 32 = .ok (.aload_n 0, 1) := by decide +kernel
theorem dX10_isWord_33 : decode cX10_isWord 33 = .ok (.iload_n 1, 1) := by decide +kernel
theorem dX10_isWord_34 : decode cX10_isWord 34 = .ok (.iload 5, 2) := by decide +kernel
theorem dX10_isWord_36 : decode cX10_isWord 36 = .ok (.iadd, 1) := by decide +kernel
theorem dX10_isWord_37 : decode cX10_isWord 37 = .ok (.invokevirtual 39, 3) := by decide +kernel
theorem dX10_isWord_40 : decode cX10_isWord 40 = .ok (.aload_n 3, 1) := by decide +kernel
theorem dX10_isWord_41 : decode cX10_isWord 41 = .ok (.iload 5, 2) := by decide +kernel
theorem dX10_isWord_43 : decode cX10_isWord 43 = .ok (.invokevirtual 86, 3) := by decide +kernel
theorem dX10_isWord_46 : decode cX10_isWord 46 = .ok (.if_icmp .ne 7, 3) := by decide +kernel
theorem dX10_isWord_49 : decode cX10_isWord 49 = .ok (.iconst 1, 1) := by decide +kernel
theorem dX10_isWord_50 : decode cX10_isWord 50 = .ok (.goto 4, 3) := by decide +kernel
theorem dX10_isWord_53 : decode cX10_isWord 53 = .ok (.iconst 0, 1) := by decide +kernel
theorem dX10_isWord_54 : decode cX10_isWord 54 = .ok (.istore 4, 2) := by decide +kernel
theorem dX10_isWord_56 : decode cX10_isWord 56 = .ok (.iinc 5 1, 3) := by decide +kernel
theorem dX10_isWord_59 : decode cX10_isWord 59 = .ok (.goto (-41), 3) := by decide +kernel
theorem dX10_isWord_62 : decode cX10_isWord 62 = .ok (.iload 4, 2) := by decide +kernel
theorem dX10_isWord_64 : decode cX10_isWord 64 = .ok (.ireturn, 1) := by decide +kernel
theorem dX10_put_0 : decode cX10_put 0 = .ok (.aload_n 0, 1) := by decide +kernel
theorem dX10_put_1 : decode cX10_put 1 = .ok (.getfield 28, 3) := by decide +kernel
theorem dX10_put_4 : decode cX10_put 4 = .ok (.ifCond .lt 53, 3) := by decide +kernel
theorem dX10_put_7 : decode cX10_put 7 = .ok (.aload_n 0, 1) := by decide +kernel
theorem dX10_put_8 : decode cX10_put 8 = .ok (.getfield 28, 3) := by decide +kernel
theorem dX10_put_11 : decode cX10_put 11 = .ok (.sipush 400, 3) := by decide +kernel
theorem dX10_put_14 : decode cX10_put 14 = .ok (.if_icmp .gt 43, 3) := by decide +kernel
theorem dX10_put_17 : decode cX10_put 17 = .ok (.aload_n 0, 1) := by decide +kernel
theorem dX10_put_18 : decode cX10_put 18 = .ok (.getfield 15, 3) := by decide +kernel
theorem dX10_put_21 : decode cX10_put 21 = .ok (.aload_n 0, 1) := by decide +kernel
theorem dX10_put_22 : decode cX10_put 22 = .ok (.getfield 28, 3) := by decide +kernel
theorem dX10_put_25 : decode cX10_put 25 = .ok (.iload_n 1, 1) := by decide +kernel
theorem dX10_put_26 : decode cX10_put 26 = .ok (.iastore, 1) := by decide +kernel
theorem dX10_put_27 : decode cX10_put 27 = .ok (.aload_n 0, 1) := by decide +kernel
theorem dX10_put_28 : decode cX10_put 28 = .ok (.getfield 18, 3) := by decide +kernel
theorem dX10_put_31 : decode cX10_put 31 = .ok (.aload_n 0, 1) := by decide +kernel
theorem dX10_put_32 : decode cX10_put 32 = .ok (.getfield 28, 3) := by decide +kernel
theorem dX10_put_35 : decode cX10_put 35 = .ok (.iload_n 2, 1) := by decide +kernel
theorem dX10_put_36 : decode cX10_put 36 = .ok (.iastore, 1) := by decide +kernel
theorem dX10_put_37 : decode cX10_put 37 = .ok (.aload_n 0, 1) := by decide +kernel
theorem dX10_put_38 : decode cX10_put 38 = .ok (.getfield 21, 3) := by decide +kernel
theorem dX10_put_41 : decode cX10_put 41 = .ok (.aload_n 0, 1) := by decide +kernel
theorem dX10_put_42 : decode cX10_put 42 = .ok (.getfield 28, 3) := by decide +kernel
theorem dX10_put_45 : decode cX10_put 45 = .ok (.iload_n 3, 1) := by decide +kernel
theorem dX10_put_46 : decode cX10_put 46 = .ok (.iastore, 1) := by decide +kernel
theorem dX10_put_47 : decode cX10_put 47 = .ok (.aload_n 0, 1) := by decide +kernel
theorem dX10_put_48 : decode cX10_put 48 = .ok (.dup, 1) := by decide +kernel
theorem dX10_put_49 : decode cX10_put 49 = .ok (.getfield 28, 3) := by decide +kernel
theorem dX10_put_52 : decode cX10_put 52 = .ok (.iconst 1, 1) := by decide +kernel
theorem dX10_put_53 : decode cX10_put 53 = .ok (.iadd, 1) := by decide +kernel
theorem dX10_put_54 : decode cX10_put 54 = .ok (.putfield 28, 3) := by decide +kernel
theorem dX10_put_57 : decode cX10_put 57 = .ok (.return_, 1) := by decide +kernel
theorem dX10_kindAt_0 : decode cX10_kindAt 0 = .ok (.iload_n 1, 1) := by decide +kernel
theorem dX10_kindAt_1 : decode cX10_kindAt 1 = .ok (.ifCond .lt 19, 3) := by decide +kernel
theorem dX10_kindAt_4 : decode cX10_kindAt 4 = .ok (.iload_n 1, 1) := by decide +kernel
theorem dX10_kindAt_5 : decode cX10_kindAt 5 = .ok (.sipush 400, 3) := by decide +kernel
theorem dX10_kindAt_8 : decode cX10_kindAt 8 = .ok (.if_icmp .gt 12, 3) := by decide +kernel
theorem dX10_kindAt_11 : decode cX10_kindAt 11 = .ok (.aload_n 0, 1) := by decide +kernel
theorem dX10_kindAt_12 : decode cX10_kindAt 12 = .ok (.getfield 15, 3) := by decide +kernel
theorem dX10_kindAt_15 : decode cX10_kindAt 15 = .ok (.iload_n 1, 1) := by decide +kernel
theorem dX10_kindAt_16 : decode cX10_kindAt 16 = .ok (.iaload, 1) := by decide +kernel
theorem dX10_kindAt_17 : decode cX10_kindAt 17 = .ok (.goto 4, 3) := by decide +kernel
theorem dX10_kindAt_20 : decode cX10_kindAt 20 = .ok (.iconst 0, 1) := by decide +kernel
theorem dX10_kindAt_21 : decode cX10_kindAt 21 = .ok (.ireturn, 1) := by decide +kernel
theorem dX10_placeAt_0 : decode cX10_placeAt 0 = .ok (.iload_n 1, 1) := by decide +kernel
theorem dX10_placeAt_1 : decode cX10_placeAt 1 = .ok (.ifCond .lt 19, 3) := by decide +kernel
theorem dX10_placeAt_4 : decode cX10_placeAt 4 = .ok (.iload_n 1, 1) := by decide +kernel
theorem dX10_placeAt_5 : decode cX10_placeAt 5 = .ok (.sipush 400, 3) := by decide +kernel
theorem dX10_placeAt_8 : decode cX10_placeAt 8 = .ok (.if_icmp .gt 12, 3) := by decide +kernel
theorem dX10_placeAt_11 : decode cX10_placeAt 11 = .ok (.aload_n 0, 1) := by decide +kernel
theorem dX10_placeAt_12 : decode cX10_placeAt 12 = .ok (.getfield 18, 3) := by decide +kernel
theorem dX10_placeAt_15 : decode cX10_placeAt 15 = .ok (.iload_n 1, 1) := by decide +kernel
theorem dX10_placeAt_16 : decode cX10_placeAt 16 = .ok (.iaload, 1) := by decide +kernel
theorem dX10_placeAt_17 : decode cX10_placeAt 17 = .ok (.goto 4, 3) := by decide +kernel
theorem dX10_placeAt_20 : decode cX10_placeAt 20 = .ok (.iconst (-1), 1) := by decide +kernel
theorem dX10_placeAt_21 : decode cX10_placeAt 21 = .ok (.ireturn, 1) := by decide +kernel
theorem dX10_valueAt_0 : decode cX10_valueAt 0 = .ok (.iload_n 1, 1) := by decide +kernel
theorem dX10_valueAt_1 : decode cX10_valueAt 1 = .ok (.ifCond .lt 19, 3) := by decide +kernel
theorem dX10_valueAt_4 : decode cX10_valueAt 4 = .ok (.iload_n 1, 1) := by decide +kernel
theorem dX10_valueAt_5 : decode cX10_valueAt 5 = .ok (.sipush 400, 3) := by decide +kernel
theorem dX10_valueAt_8 : decode cX10_valueAt 8 = .ok (.if_icmp .gt 12, 3) := by decide +kernel
theorem dX10_valueAt_11 : decode cX10_valueAt 11 = .ok (.aload_n 0, 1) := by decide +kernel
theorem dX10_valueAt_12 : decode cX10_valueAt 12 = .ok (.getfield 21, 3) := by decide +kernel
theorem dX10_valueAt_15 : decode cX10_valueAt 15 = .ok (.iload_n 1, 1) := by decide +kernel
theorem dX10_valueAt_16 : decode cX10_valueAt 16 = .ok (.iaload, 1) := by decide +kernel
theorem dX10_valueAt_17 : decode cX10_valueAt 17 = .ok (.goto 4, 3) := by decide +kernel
theorem dX10_valueAt_20 : decode cX10_valueAt 20 = .ok (.iconst 0, 1) := by decide +kernel
theorem dX10_valueAt_21 : decode cX10_valueAt 21 = .ok (.ireturn, 1) := by decide +kernel
