theorem dX3_wayAt_19 : decode cX3_wayAt 19 = .ok (.iload_n 2, 1) := by decide +kernel
theorem dX3_wayAt_20 : decode cX3_wayAt 20 = .ok (.sipush 4095, 3) := by decide +kernel
theorem dX3_wayAt_23 : decode cX3_wayAt 23 = .ok (.iand, 1) := by decide +kernel
theorem dX3_wayAt_24 : decode cX3_wayAt 24 = .ok (.iadd, 1) := by decide +kernel
theorem dX3_wayAt_25 : decode cX3_wayAt 25 = .ok (.iaload, 1) := by decide +kernel
theorem dX3_wayAt_26 : decode cX3_wayAt 26 = .ok (.goto 5, 3) := by decide +kernel
theorem dX3_wayAt_29 : decode cX3_wayAt 29 = .ok (.ldc 134, 2) := by decide +kernel
theorem dX3_wayAt_31 : decode cX3_wayAt 31 = .ok (.ireturn, 1) := by decide +kernel
theorem dX3_setWay_0 : decode cX3_setWay 0 = .ok (.iload_n 1, 1) := by decide +kernel
theorem dX3_setWay_1 : decode cX3_setWay 1 = .ok (.ifCond .lt 31, 3) := by decide +kernel
theorem dX3_setWay_4 : decode cX3_setWay 4 = .ok (.iload_n 1, 1) := by decide +kernel
theorem dX3_setWay_5 : decode cX3_setWay 5 = .ok (.bipush 40, 2) := by decide +kernel
theorem dX3_setWay_7 : decode cX3_setWay 7 = .ok (.if_icmp .ge 25, 3) := by decide +kernel
theorem dX3_setWay_10 : decode cX3_setWay 10 = .ok (.aload_n 0, 1) := by decide +kernel
theorem dX3_setWay_11 : decode cX3_setWay 11 = .ok (.getfield 10, 3) := by decide +kernel
theorem dX3_setWay_14 : decode cX3_setWay 14 = .ok (.iload_n 1, 1) := by decide +kernel
theorem dX3_setWay_15 : decode cX3_setWay 15 = .ok (.sipush 4096, 3) := by decide +kernel
theorem dX3_setWay_18 : decode cX3_setWay 18 = .ok (.imul, 1) := by decide +kernel
theorem dX3_setWay_19 : decode cX3_setWay 19 = .ok (.iload_n 2, 1) := by decide +kernel
theorem dX3_setWay_20 : decode cX3_setWay 20 = .ok (.sipush 4095, 3) := by decide +kernel
theorem dX3_setWay_23 : decode cX3_setWay 23 = .ok (.iand, 1) := by decide +kernel
theorem dX3_setWay_24 : decode cX3_setWay 24 = .ok (.iadd, 1) := by decide +kernel
theorem dX3_setWay_25 : decode cX3_setWay 25 = .ok (.iload_n 3, 1) := by decide +kernel
theorem dX3_setWay_26 : decode cX3_setWay 26 = .ok (.ldc 134, 2) := by decide +kernel
theorem dX3_setWay_28 : decode cX3_setWay 28 = .ok (.invokestatic 77, 3) := by decide +kernel
theorem dX3_setWay_31 : decode cX3_setWay 31 = .ok (.iastore, 1) := by decide +kernel
theorem dX3_setWay_32 : decode cX3_setWay 32 = .ok (.return_, 1) := by decide +kernel
theorem dX3_gatherNear_0 : decode cX3_gatherNear 0 = .ok (.aload_n 0, 1) := by decide +kernel
theorem dX3_gatherNear_1 : decode cX3_gatherNear 1 = .ok (.iconst 0, 1) := by decide +kernel
theorem dX3_gatherNear_2 : decode cX3_gatherNear 2 = .ok (.putfield 127, 3) := by decide +kernel
theorem dX3_gatherNear_5 : decode cX3_gatherNear 5 = .ok (.iload_n 1, 1) := by decide +kernel
theorem dX3_gatherNear_6 : decode cX3_gatherNear 6 = .ok (.ifCond .lt 9, 3) := by decide +kernel
theorem dX3_gatherNear_9 : decode cX3_gatherNear 9 = .ok (.iload_n 1, 1) := by decide +kernel
theorem dX3_gatherNear_10 : decode cX3_gatherNear 10 = .ok (.bipush 40, 2) := by decide +kernel
theorem dX3_gatherNear_12 : decode cX3_gatherNear 12 = .ok (.if_icmp .lt 4, 3) := by decide +kernel
theorem dX3_gatherNear_15 : decode cX3_gatherNear 15 = .ok (.return_, 1) := by decide +kernel
theorem dX3_gatherNear_16 : decode cX3_gatherNear 16 = .ok (.aload_n 0, 1) := by decide +kernel
theorem dX3_gatherNear_17 : decode cX3_gatherNear 17 = .ok (.getfield 34, 3) := by decide +kernel
theorem dX3_gatherNear_20 : decode cX3_gatherNear 20 = .ok (.iload_n 1, 1) := by decide +kernel
theorem dX3_gatherNear_21 : decode cX3_gatherNear 21 = .ok (.iaload, 1) := by decide +kernel
theorem dX3_gatherNear_22 : decode cX3_gatherNear 22 = .ok (.istore_n 2, 1) := by decide +kernel
theorem dX3_gatherNear_23 : decode cX3_gatherNear 23 = .ok (.aload_n 0, 1) := by decide +kernel
theorem dX3_gatherNear_24 : decode cX3_gatherNear 24 = .ok (.getfield 37, 3) := by decide +kernel
theorem dX3_gatherNear_27 : decode cX3_gatherNear 27 = .ok (.iload_n 1, 1) := by decide +kernel
theorem dX3_gatherNear_28 : decode cX3_gatherNear 28 = .ok (.iaload, 1) := by decide +kernel
theorem dX3_gatherNear_29 : decode cX3_gatherNear 29 = .ok (.istore_n 3, 1) := by decide +kernel
theorem dX3_gatherNear_30 : decode cX3_gatherNear 30 = .ok (.iconst 0, 1) := by decide +kernel
theorem dX3_gatherNear_31 : decode cX3_gatherNear 31 = .ok (.istore 4, 2) := by decide +kernel
theorem dX3_gatherNear_33 : decode cX3_gatherNear 33 = .ok (.iload 4, 2) := by decide +kernel
theorem dX3_gatherNear_35 : decode cX3_gatherNear 35 = .ok (.aload_n 0, 1) := by decide +kernel
theorem dX3_gatherNear_36 : decode cX3_gatherNear 36 = .ok (.getfield 109, 3) := by decide +kernel
theorem dX3_gatherNear_39 : decode cX3_gatherNear 39 = .ok (.if_icmp .ge 136, 3) := by decide +kernel
theorem dX3_gatherNear_42 : decode cX3_gatherNear 42 = .ok (.iload 4, 2) := by decide +kernel
theorem dX3_gatherNear_44 : decode cX3_gatherNear 44 = .ok (.sipush 4096, 3) := by decide +kernel
theorem dX3_gatherNear_47 : decode cX3_gatherNear 47 = .ok (.if_icmp .ge 128, 3) := by decide +kernel
theorem dX3_gatherNear_50 : decode cX3_gatherNear 50 = .ok (.aload_n 0, 1) := by decide +kernel
theorem dX3_gatherNear_51 : decode cX3_gatherNear 51 = .ok (.getfield 16, 3) := by decide +kernel
theorem dX3_gatherNear_54 : decode cX3_gatherNear 54 = .ok (.iload 4, 2) := by decide +kernel
theorem dX3_gatherNear_56 : decode cX3_gatherNear 56 = .ok (.iaload, 1) := by decide +kernel
theorem dX3_gatherNear_57 : decode cX3_gatherNear 57 = .ok (.sipush 4095, 3) := by decide +kernel
theorem dX3_gatherNear_60 : decode cX3_gatherNear 60 = .ok (.iand, 1) := by decide +kernel
theorem dX3_gatherNear_61 : decode cX3_gatherNear 61 = .ok (.istore 5, 2) := by decide +kernel
theorem dX3_gatherNear_63 : decode cX3_gatherNear 63 = .ok (.aload_n 0, 1) := by decide +kernel
theorem dX3_gatherNear_64 : decode cX3_gatherNear 64 = .ok (.getfield 10, 3) := by decide +kernel
theorem dX3_gatherNear_67 : decode cX3_gatherNear 67 = .ok (.iload_n 1, 1) := by decide +kernel
theorem dX3_gatherNear_68 : decode cX3_gatherNear 68 = .ok (.sipush 4096, 3) := by decide +kernel
theorem dX3_gatherNear_71 : decode cX3_gatherNear 71 = .ok (.imul, 1) := by decide +kernel
theorem dX3_gatherNear_72 : decode cX3_gatherNear 72 = .ok (.iload 5, 2) := by decide +kernel
theorem dX3_gatherNear_74 : decode cX3_gatherNear 74 = .ok (.iadd, 1) := by decide +kernel
theorem dX3_gatherNear_75 : decode cX3_gatherNear 75 = .ok (.ldc 134, 2) := by decide +kernel
theorem dX3_gatherNear_77 : decode cX3_gatherNear 77 = .ok (.iastore, 1) := by decide +kernel
theorem dX3_gatherNear_78 : decode cX3_gatherNear 78 = .ok (.aload_n 0, 1) := by decide +kernel
theorem dX3_gatherNear_79 : decode cX3_gatherNear 79 = .ok (.getfield 19, 3) := by decide +kernel
theorem dX3_gatherNear_82 : decode cX3_gatherNear 82 = .ok (.iload 4, 2) := by decide +kernel
theorem dX3_gatherNear_84 : decode cX3_gatherNear 84 = .ok (.iaload, 1) := by decide +kernel
theorem dX3_gatherNear_85 : decode cX3_gatherNear 85 = .ok (.iload_n 2, 1) := by decide +kernel
theorem dX3_gatherNear_86 : decode cX3_gatherNear 86 = .ok (.isub, 1) := by decide +kernel
theorem dX3_gatherNear_87 : decode cX3_gatherNear 87 = .ok (.istore 6, 2) := by decide +kernel
theorem dX3_gatherNear_89 : decode cX3_gatherNear 89 = .ok (.aload_n 0, 1) := by decide +kernel
theorem dX3_gatherNear_90 : decode cX3_gatherNear 90 = .ok (.getfield 22, 3) := by decide +kernel
theorem dX3_gatherNear_93 : decode cX3_gatherNear 93 = .ok (.iload 4, 2) := by decide +kernel
theorem dX3_gatherNear_95 : decode cX3_gatherNear 95 = .ok (.iaload, 1) := by decide +kernel
theorem dX3_gatherNear_96 : decode cX3_gatherNear 96 = .ok (.iload_n 3, 1) := by decide +kernel
theorem dX3_gatherNear_97 : decode cX3_gatherNear 97 = .ok (.isub, 1) := by decide +kernel
theorem dX3_gatherNear_98 : decode cX3_gatherNear 98 = .ok (.istore 7, 2) := by decide +kernel
theorem dX3_gatherNear_100 : decode cX3_gatherNear 100 = .ok (.iload 6, 2) := by decide +kernel
theorem dX3_gatherNear_102 : decode cX3_gatherNear 102 = .ok (.aload_n 0, 1) := by decide +kernel
theorem dX3_gatherNear_103 : decode cX3_gatherNear 103 = .ok (.getfield 50, 3) := by decide +kernel
theorem dX3_gatherNear_106 : decode cX3_gatherNear 106 = .ok (.if_icmp .gt 63, 3) := by decide +kernel
theorem dX3_gatherNear_109 : decode cX3_gatherNear 109 = .ok (.iload 6, 2) := by decide +kernel
theorem dX3_gatherNear_111 : decode cX3_gatherNear 111 = .ok (.ineg, 1) := by decide +kernel
theorem dX3_gatherNear_112 : decode cX3_gatherNear 112 = .ok (.aload_n 0, 1) := by decide +kernel
theorem dX3_gatherNear_113 : decode cX3_gatherNear 113 = .ok (.getfield 50, 3) := by decide +kernel
theorem dX3_gatherNear_116 : decode cX3_gatherNear 116 = .ok (.if_icmp .gt 53, 3) := by decide +kernel
theorem dX3_gatherNear_119 : decode cX3_gatherNear 119 = .ok (.iload 7, 2) := by decide +kernel
theorem dX3_gatherNear_121 : decode cX3_gatherNear 121 = .ok (.aload_n 0, 1) := by decide +kernel
theorem dX3_gatherNear_122 : decode cX3_gatherNear 122 = .ok (.getfield 50, 3) := by decide +kernel
theorem dX3_gatherNear_125 : decode cX3_gatherNear 125 = .ok (.if_icmp .gt 44, 3) := by decide +kernel
theorem dX3_gatherNear_128 : decode cX3_gatherNear 128 = .ok (.iload 7, 2) := by decide +kernel
theorem dX3_gatherNear_130 : decode cX3_gatherNear 130 = .ok (.ineg, 1) := by decide +kernel
theorem dX3_gatherNear_131 : decode cX3_gatherNear 131 = .ok (.aload_n 0, 1) := by decide +kernel
theorem dX3_gatherNear_132 : decode cX3_gatherNear 132 = .ok (.getfield 50, 3) := by decide +kernel
theorem dX3_gatherNear_135 : decode cX3_gatherNear 135 = .ok (.if_icmp .gt 34, 3) := by decide +kernel
theorem dX3_gatherNear_138 : decode cX3_gatherNear 138 = .ok (.aload_n 0, 1) := by decide +kernel
theorem dX3_gatherNear_139 : decode cX3_gatherNear 139 = .ok (.getfield 127, 3) := by decide +kernel
theorem dX3_gatherNear_142 : decode cX3_gatherNear 142 = .ok (.sipush 4096, 3) := by decide +kernel
theorem dX3_gatherNear_145 : decode cX3_gatherNear 145 = .ok (.if_icmp .ge 24, 3) := by decide +kernel
theorem dX3_gatherNear_148 : decode cX3_gatherNear 148 = .ok (.aload_n 0, 1) := by decide +kernel
theorem dX3_gatherNear_149 : decode cX3_gatherNear 149 = .ok (.getfield 25, 3) := by decide +kernel
theorem dX3_gatherNear_152 : decode cX3_gatherNear 152 = .ok (.aload_n 0, 1) := by decide +kernel
theorem dX3_gatherNear_153 : decode cX3_gatherNear 153 = .ok (.getfield 127, 3) := by decide +kernel
theorem dX3_gatherNear_156 : decode cX3_gatherNear 156 = .ok (.iload 5, 2) := by decide +kernel
theorem dX3_gatherNear_158 : decode cX3_gatherNear 158 = .ok (.iastore, 1) := by decide +kernel
theorem dX3_gatherNear_159 : decode cX3_gatherNear 159 = .ok (.aload_n 0, 1) := by decide +kernel
theorem dX3_gatherNear_160 : decode cX3_gatherNear 160 = .ok (.dup, 1) := by decide +kernel
theorem dX3_gatherNear_161 : decode cX3_gatherNear 161 = .ok (.getfield 127, 3) := by decide +kernel
theorem dX3_gatherNear_164 : decode cX3_gatherNear 164 = .ok (.iconst 1, 1) := by decide +kernel
theorem dX3_gatherNear_165 : decode cX3_gatherNear 165 = .ok (.iadd, 1) := by decide +kernel
theorem dX3_gatherNear_166 : decode cX3_gatherNear 166 = .ok (.putfield 127, 3) := by decide +kernel
theorem dX3_gatherNear_169 : decode cX3_gatherNear 169 = .ok (.iinc 4 1, 3) := by decide +kernel
theorem dX3_gatherNear_172 : decode cX3_gatherNear 172 = .ok (.goto (-139), 3) := by decide +kernel
theorem dX3_gatherNear_175 : decode cX3_gatherNear 175 = .ok (.return_, 1) := by decide +kernel
theorem dX3_isSpreadCheaper_0 : decode cX3_isSpreadCheaper 0 = .ok (.iconst 1, 1) := by decide +kernel
theorem dX3_isSpreadCheaper_1 : decode cX3_isSpreadCheaper 1 = .ok (.istore_n 1, 1) := by decide +kernel
theorem dX3_isSpreadCheaper_2 : decode cX3_isSpreadCheaper 2 = .ok (.iconst 0, 1) := by decide +kernel
theorem dX3_isSpreadCheaper_3 : decode cX3_isSpreadCheaper 3 = .ok (.istore_n 2, 1) := by decide +kernel
theorem dX3_isSpreadCheaper_4 : decode cX3_isSpreadCheaper 4 = .ok (.iconst 0, 1) := by decide +kernel
theorem dX3_isSpreadCheaper_5 : decode cX3_isSpreadCheaper 5 = .ok (.istore_n 3, 1) := by decide +kernel
theorem dX3_isSpreadCheaper_6 : decode cX3_isSpreadCheaper 6 = .ok (.iload_n 3, 1) := by decide +kernel
theorem dX3_isSpreadCheaper_7 : decode cX3_isSpreadCheaper 7 = .ok (.iconst 3, 1) := by decide +kernel
theorem dX3_isSpreadCheaper_8 : decode cX3_isSpreadCheaper 8 = .ok (.if_icmp .ge 39, 3) := by decide +kernel
theorem dX3_isSpreadCheaper_11 : decode cX3_isSpreadCheaper 11 = .ok (.iload_n 1, 1) := by decide +kernel
theorem dX3_isSpreadCheaper_12 : decode cX3_isSpreadCheaper 12 = .ok (.iconst 2, 1) := by decide +kernel
theorem dX3_isSpreadCheaper_13 : decode cX3_isSpreadCheaper 13 = .ok (.aload_n 0, 1) := by decide +kernel
theorem dX3_isSpreadCheaper_14 : decode cX3_isSpreadCheaper 14 = .ok (.getfield 46, 3) := by decide +kernel
theorem dX3_isSpreadCheaper_17 : decode cX3_isSpreadCheaper 17 = .ok (.iload_n 3, 1) := by decide +kernel
theorem dX3_isSpreadCheaper_18 : decode cX3_isSpreadCheaper 18 = .ok (.invokevirtual 135, 3) := by decide +kernel
theorem dX3_isSpreadCheaper_21 : decode cX3_isSpreadCheaper 21 = .ok (.imul, 1) := by decide +kernel
theorem dX3_isSpreadCheaper_22 : decode cX3_isSpreadCheaper 22 = .ok (.iconst 1, 1) := by decide +kernel
theorem dX3_isSpreadCheaper_23 : decode cX3_isSpreadCheaper 23 = .ok (.iadd, 1) := by decide +kernel
theorem dX3_isSpreadCheaper_24 : decode cX3_isSpreadCheaper 24 = .ok (.imul, 1) := by decide +kernel
theorem dX3_isSpreadCheaper_25 : decode cX3_isSpreadCheaper 25 = .ok (.istore_n 1, 1) := by decide +kernel
theorem dX3_isSpreadCheaper_26 : decode cX3_isSpreadCheaper 26 = .ok (.iload_n 2, 1) := by decide +kernel
theorem dX3_isSpreadCheaper_27 : decode cX3_isSpreadCheaper 27 = .ok (.iconst 2, 1) := by decide +kernel
theorem dX3_isSpreadCheaper_28 : decode cX3_isSpreadCheaper 28 = .ok (.aload_n 0, 1) := by decide +kernel
theorem dX3_isSpreadCheaper_29 : decode cX3_isSpreadCheaper 29 = .ok (.getfield 46, 3) := by decide +kernel
theorem dX3_isSpreadCheaper_32 : decode cX3_isSpreadCheaper 32 = .ok (.iload_n 3, 1) := by decide +kernel
theorem dX3_isSpreadCheaper_33 : decode cX3_isSpreadCheaper 33 = .ok (.invokevirtual 135, 3) := by decide +kernel
theorem dX3_isSpreadCheaper_36 : decode cX3_isSpreadCheaper 36 = .ok (.imul, 1) := by decide +kernel
theorem dX3_isSpreadCheaper_37 : decode cX3_isSpreadCheaper 37 = .ok (.iconst 1, 1) := by decide +kernel
theorem dX3_isSpreadCheaper_38 : decode cX3_isSpreadCheaper 38 = .ok (.iadd, 1) := by decide +kernel
theorem dX3_isSpreadCheaper_39 : decode cX3_isSpreadCheaper 39 = .ok (.iadd, 1) := by decide +kernel
theorem dX3_isSpreadCheaper_40 : decode cX3_isSpreadCheaper 40 = .ok (.istore_n 2, 1) := by decide +kernel
theorem dX3_isSpreadCheaper_41 : decode cX3_isSpreadCheaper 41 = .ok (.iinc 3 1, 3) := by decide +kernel
theorem dX3_isSpreadCheaper_44 : decode cX3_isSpreadCheaper 44 = .ok (.goto (-38), 3) := by decide +kernel
theorem dX3_isSpreadCheaper_47 : decode cX3_isSpreadCheaper 47 = .ok (.aload_n 0, 1) := by decide +kernel
theorem dX3_isSpreadCheaper_48 : decode cX3_isSpreadCheaper 48 = .ok (.getfield 127, 3) := by decide +kernel
theorem dX3_isSpreadCheaper_51 : decode cX3_isSpreadCheaper 51 = .ok (.iload_n 1, 1) := by decide +kernel
theorem dX3_isSpreadCheaper_52 : decode cX3_isSpreadCheaper 52 = .ok (.imul, 1) := by decide +kernel
theorem dX3_isSpreadCheaper_53 : decode cX3_isSpreadCheaper 53 = .ok (.aload_n 0, 1) := by decide +kernel
theorem dX3_isSpreadCheaper_54 : decode cX3_isSpreadCheaper 54 = .ok (.getfield 109, 3) := by decide +kernel
theorem dX3_isSpreadCheaper_57 : decode cX3_isSpreadCheaper 57 = .ok (.iload_n 2, 1) := by decide +kernel
theorem dX3_isSpreadCheaper_58 : decode cX3_isSpreadCheaper 58 = .ok (.imul, 1) := by decide +kernel
theorem dX3_isSpreadCheaper_59 : decode cX3_isSpreadCheaper 59 = .ok (.if_icmp .le 7, 3) := by decide +kernel
theorem dX3_isSpreadCheaper_62 : decode cX3_isSpreadCheaper 62 = .ok (.iconst 1, 1) := by decide +kernel
theorem dX3_isSpreadCheaper_63 : decode cX3_isSpreadCheaper 63 = .ok (.goto 4, 3) := by decide +kernel
theorem dX3_isSpreadCheaper_66 : decode cX3_isSpreadCheaper 66 = .ok (.iconst 0, 1) := by decide +kernel
theorem dX3_isSpreadCheaper_67 : decode cX3_isSpreadCheaper 67 = .ok (.ireturn, 1) := by decide +kernel
theorem dX3_spreadTick_0 : decode cX3_spreadTick 0 = .ok (.iconst 0, 1) := by decide +kernel
theorem dX3_spreadTick_1 : decode cX3_spreadTick 1 = .ok (.istore_n 2, 1) := by decide +kernel
theorem dX3_spreadTick_2 : decode cX3_spreadTick 2 = .ok (.iload_n 2, 1) := by decide +kernel
theorem dX3_spreadTick_3 : decode cX3_spreadTick 3 = .ok (.aload_n 0, 1) := by decide +kernel
theorem dX3_spreadTick_4 : decode cX3_spreadTick 4 = .ok (.getfield 109, 3) := by decide +kernel
theorem dX3_spreadTick_7 : decode cX3_spreadTick 7 = .ok (.if_icmp .ge 39, 3) := by decide +kernel
theorem dX3_spreadTick_10 : decode cX3_spreadTick 10 = .ok (.iload_n 2, 1) := by decide +kernel
theorem dX3_spreadTick_11 : decode cX3_spreadTick 11 = .ok (.sipush 4096, 3) := by decide +kernel
theorem dX3_spreadTick_14 : decode cX3_spreadTick 14 = .ok (.if_icmp .ge 32, 3) := by decide +kernel
theorem dX3_spreadTick_17 : decode cX3_spreadTick 17 = .ok (.aload_n 0, 1) := by decide +kernel
theorem dX3_spreadTick_18 : decode cX3_spreadTick 18 = .ok (.getfield 16, 3) := by decide +kernel
theorem dX3_spreadTick_21 : decode cX3_spreadTick 21 = .ok (.iload_n 2, 1) := by decide +kernel
theorem dX3_spreadTick_22 : decode cX3_spreadTick 22 = .ok (.iaload, 1) := by decide +kernel
theorem dX3_spreadTick_23 : decode cX3_spreadTick 23 = .ok (.sipush 4095, 3) := by decide +kernel
theorem dX3_spreadTick_26 : decode cX3_spreadTick 26 = .ok (.iand, 1) := by decide +kernel
theorem dX3_spreadTick_27 : decode cX3_spreadTick 27 = .ok (.istore_n 3, 1) := by decide +kernel
theorem dX3_spreadTick_28 : decode cX3_spreadTick 28 = .ok (.aload_n 0, 1) := by decide +kernel
theorem dX3_spreadTick_29 : decode cX3_spreadTick 29 = .ok (.getfield 31, 3) := by decide +kernel
theorem dX3_spreadTick_32 : decode cX3_spreadTick 32 = .ok (.iload_n 3, 1) := by decide +kernel
theorem dX3_spreadTick_33 : decode cX3_spreadTick 33 = .ok (.aload_n 0, 1) := by decide +kernel
theorem dX3_spreadTick_34 : decode cX3_spreadTick 34 = .ok (.iload_n 1, 1) := by decide +kernel
theorem dX3_spreadTick_35 : decode cX3_spreadTick 35 = .ok (.iload_n 3, 1) := by decide +kernel
theorem dX3_spreadTick_36 : decode cX3_spreadTick 36 = .ok (.invokevirtual 138, 3) := by decide +kernel
theorem dX3_spreadTick_39 : decode cX3_spreadTick 39 = .ok (.iastore, 1) := by decide +kernel
theorem dX3_spreadTick_40 : decode cX3_spreadTick 40 = .ok (.iinc 2 1, 3) := by decide +kernel
theorem dX3_spreadTick_43 : decode cX3_spreadTick 43 = .ok (.goto (-41), 3) := by decide +kernel
theorem dX3_spreadTick_46 : decode cX3_spreadTick 46 = .ok (.aload_n 0, 1) := by decide +kernel
theorem dX3_spreadTick_47 : decode cX3_spreadTick 47 = .ok (.aload_n 0, 1) := by decide +kernel
theorem dX3_spreadTick_48 : decode cX3_spreadTick 48 = .ok (.getfield 31, 3) := by decide +kernel
theorem dX3_spreadTick_51 : decode cX3_spreadTick 51 = .ok (.aload_n 0, 1) := by decide +kernel
theorem dX3_spreadTick_52 : decode cX3_spreadTick 52 = .ok (.getfield 28, 3) := by decide +kernel
theorem dX3_spreadTick_55 : decode cX3_spreadTick 55 = .ok (.iconst 0, 1) := by decide +kernel
theorem dX3_spreadTick_56 : decode cX3_spreadTick 56 = .ok (.invokevirtual 141, 3) := by decide +kernel
theorem dX3_spreadTick_59 : decode cX3_spreadTick 59 = .ok (.aload_n 0, 1) := by decide +kernel
theorem dX3_spreadTick_60 : decode cX3_spreadTick 60 = .ok (.aload_n 0, 1) := by decide +kernel
theorem dX3_spreadTick_61 : decode cX3_spreadTick 61 = .ok (.getfield 28, 3) := by decide +kernel
theorem dX3_spreadTick_64 : decode cX3_spreadTick 64 = .ok (.aload_n 0, 1) := by decide +kernel
theorem dX3_spreadTick_65 : decode cX3_spreadTick 65 = .ok (.getfield 31, 3) := by decide +kernel
theorem dX3_spreadTick_68 : decode cX3_spreadTick 68 = .ok (.iconst 1, 1) := by decide +kernel
theorem dX3_spreadTick_69 : decode cX3_spreadTick 69 = .ok (.invokevirtual 141, 3) := by decide +kernel
theorem dX3_spreadTick_72 : decode cX3_spreadTick 72 = .ok (.aload_n 0, 1) := by decide +kernel
theorem dX3_spreadTick_73 : decode cX3_spreadTick 73 = .ok (.aload_n 0, 1) := by decide +kernel
theorem dX3_spreadTick_74 : decode cX3_spreadTick 74 = .ok (.getfield 31, 3) := by decide +kernel
theorem dX3_spreadTick_77 : decode cX3_spreadTick 77 = .ok (.aload_n 0, 1) := by decide +kernel
theorem dX3_spreadTick_78 : decode cX3_spreadTick 78 = .ok (.getfield 28, 3) := by decide +kernel
theorem dX3_spreadTick_81 : decode cX3_spreadTick 81 = .ok (.iconst 2, 1) := by decide +kernel
theorem dX3_spreadTick_82 : decode cX3_spreadTick 82 = .ok (.invokevirtual 141, 3) := by decide +kernel
theorem dX3_spreadTick_85 : decode cX3_spreadTick 85 = .ok (.return_, 1) := by decide +kernel
theorem dX3_sweep_0 : decode cX3_sweep 0 = .ok (.aload_n 0, 1) := by decide +kernel
theorem dX3_sweep_1 : decode cX3_sweep 1 = .ok (.getfield 46, 3) := by decide +kernel
theorem dX3_sweep_4 : decode cX3_sweep 4 = .ok (.iload_n 3, 1) := by decide +kernel
theorem dX3_sweep_5 : decode cX3_sweep 5 = .ok (.invokevirtual 135, 3) := by decide +kernel
theorem dX3_sweep_8 : decode cX3_sweep 8 = .ok (.istore 4, 2) := by decide +kernel
theorem dX3_sweep_10 : decode cX3_sweep 10 = .ok (.aload_n 0, 1) := by decide +kernel
theorem dX3_sweep_11 : decode cX3_sweep 11 = .ok (.getfield 46, 3) := by decide +kernel
theorem dX3_sweep_14 : decode cX3_sweep 14 = .ok (.iload_n 3, 1) := by decide +kernel
theorem dX3_sweep_15 : decode cX3_sweep 15 = .ok (.invokevirtual 145, 3) := by decide +kernel
theorem dX3_sweep_18 : decode cX3_sweep 18 = .ok (.istore 5, 2) := by decide +kernel
theorem dX3_sweep_20 : decode cX3_sweep 20 = .ok (.aload_n 0, 1) := by decide +kernel
theorem dX3_sweep_21 : decode cX3_sweep 21 = .ok (.getfield 46, 3) := by decide +kernel
theorem dX3_sweep_24 : decode cX3_sweep 24 = .ok (.iload_n 3, 1) := by decide +kernel
theorem dX3_sweep_25 : decode cX3_sweep 25 = .ok (.invokevirtual 148, 3) := by decide +kernel
theorem dX3_sweep_28 : decode cX3_sweep 28 = .ok (.istore 6, 2) := by decide +kernel
theorem dX3_sweep_30 : decode cX3_sweep 30 = .ok (.iconst 0, 1) := by decide +kernel
theorem dX3_sweep_31 : decode cX3_sweep 31 = .ok (.istore 7, 2) := by decide +kernel
theorem dX3_sweep_33 : decode cX3_sweep 33 = .ok (.iload 7, 2) := by decide +kernel
theorem dX3_sweep_35 : decode cX3_sweep 35 = .ok (.aload_n 0, 1) := by decide +kernel
theorem dX3_sweep_36 : decode cX3_sweep 36 = .ok (.getfield 109, 3) := by decide +kernel
theorem dX3_sweep_39 : decode cX3_sweep 39 = .ok (.if_icmp .ge 162, 3) := by decide +kernel
theorem dX3_sweep_42 : decode cX3_sweep 42 = .ok (.iload 7, 2) := by decide +kernel
theorem dX3_sweep_44 : decode cX3_sweep 44 = .ok (.sipush 4096, 3) := by decide +kernel
theorem dX3_sweep_47 : decode cX3_sweep 47 = .ok (.if_icmp .ge 154, 3) := by decide +kernel
theorem dX3_sweep_50 : decode cX3_sweep 50 = .ok (.aload_n 0, 1) := by decide +kernel
theorem dX3_sweep_51 : decode cX3_sweep 51 = .ok (.getfield 16, 3) := by decide +kernel
theorem dX3_sweep_54 : decode cX3_sweep 54 = .ok (.iload 7, 2) := by decide +kernel
theorem dX3_sweep_56 : decode cX3_sweep 56 = .ok (.iaload, 1) := by decide +kernel
theorem dX3_sweep_57 : decode cX3_sweep 57 = .ok (.istore 8, 2) := by decide +kernel
theorem dX3_sweep_59 : decode cX3_sweep 59 = .ok (.iload 8, 2) := by decide +kernel
theorem dX3_sweep_61 : decode cX3_sweep 61 = .ok (.iload_n 3, 1) := by decide +kernel
theorem dX3_sweep_62 : decode cX3_sweep 62 = .ok (.invokestatic 151, 3) := by decide +kernel
theorem dX3_sweep_65 : decode cX3_sweep 65 = .ok (.istore 9, 2) := by decide +kernel
theorem dX3_sweep_67 : decode cX3_sweep 67 = .ok (.iload 6, 2) := by decide +kernel
theorem dX3_sweep_69 : decode cX3_sweep 69 = .ok (.iload 9, 2) := by decide +kernel
theorem dX3_sweep_71 : decode cX3_sweep 71 = .ok (.iload 4, 2) := by decide +kernel
theorem dX3_sweep_73 : decode cX3_sweep 73 = .ok (.iadd, 1) := by decide +kernel
theorem dX3_sweep_74 : decode cX3_sweep 74 = .ok (.invokestatic 77, 3) := by decide +kernel
theorem dX3_sweep_77 : decode cX3_sweep 77 = .ok (.istore 10, 2) := by decide +kernel
theorem dX3_sweep_79 : decode cX3_sweep 79 = .ok (.ldc 134, 2) := by decide +kernel
theorem dX3_sweep_81 : decode cX3_sweep 81 = .ok (.istore 11, 2) := by decide +kernel
theorem dX3_sweep_83 : decode cX3_sweep 83 = .ok (.iload 5, 2) := by decide +kernel
theorem dX3_sweep_85 : decode cX3_sweep 85 = .ok (.iload 9, 2) := by decide +kernel
theorem dX3_sweep_87 : decode cX3_sweep 87 = .ok (.iload 4, 2) := by decide +kernel
theorem dX3_sweep_89 : decode cX3_sweep 89 = .ok (.isub, 1) := by decide +kernel
theorem dX3_sweep_90 : decode cX3_sweep 90 = .ok (.invokestatic 154, 3) := by decide +kernel
theorem dX3_sweep_93 : decode cX3_sweep 93 = .ok (.istore 12, 2) := by decide +kernel
theorem dX3_sweep_95 : decode cX3_sweep 95 = .ok (.iload 12, 2) := by decide +kernel
theorem dX3_sweep_97 : decode cX3_sweep 97 = .ok (.iload 10, 2) := by decide +kernel
theorem dX3_sweep_99 : decode cX3_sweep 99 = .ok (.if_icmp .gt 78, 3) := by decide +kernel
theorem dX3_sweep_102 : decode cX3_sweep 102 = .ok (.iload 8, 2) := by decide +kernel
theorem dX3_sweep_104 : decode cX3_sweep 104 = .ok (.iload 12, 2) := by decide +kernel
theorem dX3_sweep_106 : decode cX3_sweep 106 = .ok (.iload 9, 2) := by decide +kernel
theorem dX3_sweep_108 : decode cX3_sweep 108 = .ok (.isub, 1) := by decide +kernel
theorem dX3_sweep_109 : decode cX3_sweep 109 = .ok (.iconst 4, 1) := by decide +kernel
theorem dX3_sweep_110 : decode cX3_sweep 110 = .ok (.iload_n 3, 1) := by decide +kernel
theorem dX3_sweep_111 : decode cX3_sweep 111 = .ok (.imul, 1) := by decide +kernel
theorem dX3_sweep_112 : decode cX3_sweep 112 = .ok (.ishl, 1) := by decide +kernel
theorem dX3_sweep_113 : decode cX3_sweep 113 = .ok (.iadd, 1) := by decide +kernel
theorem dX3_sweep_114 : decode cX3_sweep 114 = .ok (.istore 13, 2) := by decide +kernel
theorem dX3_sweep_116 : decode cX3_sweep 116 = .ok (.iload 12, 2) := by decide +kernel
theorem dX3_sweep_118 : decode cX3_sweep 118 = .ok (.iload 9, 2) := by decide +kernel
theorem dX3_sweep_120 : decode cX3_sweep 120 = .ok (.if_icmp .ge 11, 3) := by decide +kernel
theorem dX3_sweep_123 : decode cX3_sweep 123 = .ok (.iload 9, 2) := by decide +kernel
theorem dX3_sweep_125 : decode cX3_sweep 125 = .ok (.iload 12, 2) := by decide +kernel
theorem dX3_sweep_127 : decode cX3_sweep 127 = .ok (.isub, 1) := by decide +kernel
theorem dX3_sweep_128 : decode cX3_sweep 128 = .ok (.goto 8, 3) := by decide +kernel
theorem dX3_sweep_131 : decode cX3_sweep 131 = .ok (.iload 12, 2) := by decide +kernel
theorem dX3_sweep_133 : decode cX3_sweep 133 = .ok (.iload 9, 2) := by decide +kernel
theorem dX3_sweep_135 : decode cX3_sweep 135 = .ok (.isub, 1) := by decide +kernel
theorem dX3_sweep_136 : decode cX3_sweep 136 = .ok (.istore 14, 2) := by decide +kernel
theorem dX3_sweep_138 : decode cX3_sweep 138 = .ok (.iload 13, 2) := by decide +kernel
theorem dX3_sweep_140 : decode cX3_sweep 140 = .ok (.ifCond .lt 31, 3) := by decide +kernel
theorem dX3_sweep_143 : decode cX3_sweep 143 = .ok (.iload 13, 2) := by decide +kernel
theorem dX3_sweep_145 : decode cX3_sweep 145 = .ok (.aload_n 1, 1) := by decide +kernel
theorem dX3_sweep_146 : decode cX3_sweep 146 = .ok (.arraylength, 1) := by decide +kernel
theorem dX3_sweep_147 : decode cX3_sweep 147 = .ok (.if_icmp .ge 24, 3) := by decide +kernel
theorem dX3_sweep_150 : decode cX3_sweep 150 = .ok (.aload_n 1, 1) := by decide +kernel
theorem dX3_sweep_151 : decode cX3_sweep 151 = .ok (.iload 13, 2) := by decide +kernel
theorem dX3_sweep_153 : decode cX3_sweep 153 = .ok (.iaload, 1) := by decide +kernel
theorem dX3_sweep_154 : decode cX3_sweep 154 = .ok (.iload 14, 2) := by decide +kernel
theorem dX3_sweep_156 : decode cX3_sweep 156 = .ok (.iadd, 1) := by decide +kernel
theorem dX3_sweep_157 : decode cX3_sweep 157 = .ok (.iload 11, 2) := by decide +kernel
theorem dX3_sweep_159 : decode cX3_sweep 159 = .ok (.if_icmp .ge 12, 3) := by decide +kernel
theorem dX3_sweep_162 : decode cX3_sweep 162 = .ok (.aload_n 1, 1) := by decide +kernel
theorem dX3_sweep_163 : decode cX3_sweep 163 = .ok (.iload 13, 2) := by decide +kernel
theorem dX3_sweep_165 : decode cX3_sweep 165 = .ok (.iaload, 1) := by decide +kernel
theorem dX3_sweep_166 : decode cX3_sweep 166 = .ok (.iload 14, 2) := by decide +kernel
theorem dX3_sweep_168 : decode cX3_sweep 168 = .ok (.iadd, 1) := by decide +kernel
theorem dX3_sweep_169 : decode cX3_sweep 169 = .ok (.istore 11, 2) := by decide +kernel
theorem dX3_sweep_171 : decode cX3_sweep 171 = .ok (.iinc 12 1, 3) := by decide +kernel
theorem dX3_sweep_174 : decode cX3_sweep 174 = .ok (.goto (-79), 3) := by decide +kernel
theorem dX3_sweep_177 : decode cX3_sweep 177 = .ok (.iload 8, 2) := by decide +kernel
theorem dX3_sweep_179 : decode cX3_sweep 179 = .ok (.ifCond .lt 16, 3) := by decide +kernel
theorem dX3_sweep_182 : decode cX3_sweep 182 = .ok (.iload 8, 2) := by decide +kernel
theorem dX3_sweep_184 : decode cX3_sweep 184 = .ok (.aload_n 2, 1) := by decide +kernel
theorem dX3_sweep_185 : decode cX3_sweep 185 = .ok (.arraylength, 1) := by decide +kernel
theorem dX3_sweep_186 : decode cX3_sweep 186 = .ok (.if_icmp .ge 9, 3) := by decide +kernel
theorem dX3_sweep_189 : decode cX3_sweep 189 = .ok (.aload_n 2, 1) := by decide +kernel
theorem dX3_sweep_190 : decode cX3_sweep 190 = .ok (.iload 8, 2) := by decide +kernel
theorem dX3_sweep_192 : decode cX3_sweep 192 = .ok (.iload 11, 2) := by decide +kernel
theorem dX3_sweep_194 : decode cX3_sweep 194 = .ok (.iastore, 1) := by decide +kernel
theorem dX3_sweep_195 : decode cX3_sweep 195 = .ok (.iinc 7 1, 3) := by decide +kernel
theorem dX3_sweep_198 : decode cX3_sweep 198 = .ok (.goto (-165), 3) := by decide +kernel
theorem dX3_sweep_201 : decode cX3_sweep 201 = .ok (.return_, 1) := by decide +kernel
theorem dX3_seekNear_0 : decode cX3_seekNear 0 = .ok (.aload_n 0, 1) := by decide +kernel
theorem dX3_seekNear_1 : decode cX3_seekNear 1 = .ok (.ldc 134, 2) := by decide +kernel
theorem dX3_seekNear_3 : decode cX3_seekNear 3 = .ok (.putfield 96, 3) := by decide +kernel
theorem dX3_seekNear_6 : decode cX3_seekNear 6 = .ok (.aload_n 0, 1) := by decide +kernel
theorem dX3_seekNear_7 : decode cX3_seekNear 7 = .ok (.iconst 0, 1) := by decide +kernel
theorem dX3_seekNear_8 : decode cX3_seekNear 8 = .ok (.putfield 106, 3) := by decide +kernel
theorem dX3_seekNear_11 : decode cX3_seekNear 11 = .ok (.aload_n 0, 1) := by decide +kernel
theorem dX3_seekNear_12 : decode cX3_seekNear 12 = .ok (.iload_n 2, 1) := by decide +kernel
theorem dX3_seekNear_13 : decode cX3_seekNear 13 = .ok (.iconst 0, 1) := by decide +kernel
theorem dX3_seekNear_14 : decode cX3_seekNear 14 = .ok (.invokevirtual 157, 3) := by decide +kernel
theorem dX3_seekNear_17 : decode cX3_seekNear 17 = .ok (.istore_n 3, 1) := by decide +kernel
theorem dX3_seekNear_18 : decode cX3_seekNear 18 = .ok (.aload_n 0, 1) := by decide +kernel
theorem dX3_seekNear_19 : decode cX3_seekNear 19 = .ok (.iload_n 2, 1) := by decide +kernel
theorem dX3_seekNear_20 : decode cX3_seekNear 20 = .ok (.iconst 0, 1) := by decide +kernel
theorem dX3_seekNear_21 : decode cX3_seekNear 21 = .ok (.invokevirtual 160, 3) := by decide +kernel
theorem dX3_seekNear_24 : decode cX3_seekNear 24 = .ok (.istore 4, 2) := by decide +kernel
theorem dX3_seekNear_26 : decode cX3_seekNear 26 = .ok (.aload_n 0, 1) := by decide +kernel
theorem dX3_seekNear_27 : decode cX3_seekNear 27 = .ok (.iload_n 2, 1) := by decide +kernel
theorem dX3_seekNear_28 : decode cX3_seekNear 28 = .ok (.iconst 1, 1) := by decide +kernel
theorem dX3_seekNear_29 : decode cX3_seekNear 29 = .ok (.invokevirtual 157, 3) := by decide +kernel
theorem dX3_seekNear_32 : decode cX3_seekNear 32 = .ok (.istore 5, 2) := by decide +kernel
theorem dX3_seekNear_34 : decode cX3_seekNear 34 = .ok (.aload_n 0, 1) := by decide +kernel
theorem dX3_seekNear_35 : decode cX3_seekNear 35 = .ok (.iload_n 2, 1) := by decide +kernel
theorem dX3_seekNear_36 : decode cX3_seekNear 36 = .ok (.iconst 1, 1) := by decide +kernel
theorem dX3_seekNear_37 : decode cX3_seekNear 37 = .ok (.invokevirtual 160, 3) := by decide +kernel
theorem dX3_seekNear_40 : decode cX3_seekNear 40 = .ok (.istore 6, 2) := by decide +kernel
theorem dX3_seekNear_42 : decode cX3_seekNear 42 = .ok (.aload_n 0, 1) := by decide +kernel
theorem dX3_seekNear_43 : decode cX3_seekNear 43 = .ok (.iload_n 2, 1) := by decide +kernel
theorem dX3_seekNear_44 : decode cX3_seekNear 44 = .ok (.iconst 2, 1) := by decide +kernel
theorem dX3_seekNear_45 : decode cX3_seekNear 45 = .ok (.invokevirtual 160, 3) := by decide +kernel
theorem dX3_seekNear_48 : decode cX3_seekNear 48 = .ok (.istore 7, 2) := by decide +kernel
theorem dX3_seekNear_50 : decode cX3_seekNear 50 = .ok (.aload_n 0, 1) := by decide +kernel
theorem dX3_seekNear_51 : decode cX3_seekNear 51 = .ok (.iload_n 2, 1) := by decide +kernel
theorem dX3_seekNear_52 : decode cX3_seekNear 52 = .ok (.iconst 2, 1) := by decide +kernel
theorem dX3_seekNear_53 : decode cX3_seekNear 53 = .ok (.invokevirtual 157, 3) := by decide +kernel
theorem dX3_seekNear_56 : decode cX3_seekNear 56 = .ok (.istore 8, 2) := by decide +kernel
theorem dX3_seekNear_58 : decode cX3_seekNear 58 = .ok (.iload 8, 2) := by decide +kernel
theorem dX3_seekNear_60 : decode cX3_seekNear 60 = .ok (.iload 7, 2) := by decide +kernel
theorem dX3_seekNear_62 : decode cX3_seekNear 62 = .ok (.if_icmp .gt 87, 3) := by decide +kernel
theorem dX3_seekNear_65 : decode cX3_seekNear 65 = .ok (.iload 8, 2) := by decide +kernel
theorem dX3_seekNear_67 : decode cX3_seekNear 67 = .ok (.iload_n 2, 1) := by decide +kernel
theorem dX3_seekNear_68 : decode cX3_seekNear 68 = .ok (.iconst 2, 1) := by decide +kernel
theorem dX3_seekNear_69 : decode cX3_seekNear 69 = .ok (.invokestatic 151, 3) := by decide +kernel
theorem dX3_seekNear_72 : decode cX3_seekNear 72 = .ok (.isub, 1) := by decide +kernel
theorem dX3_seekNear_73 : decode cX3_seekNear 73 = .ok (.invokestatic 163, 3) := by decide +kernel
theorem dX3_seekNear_76 : decode cX3_seekNear 76 = .ok (.istore 9, 2) := by decide +kernel
theorem dX3_seekNear_78 : decode cX3_seekNear 78 = .ok (.iload 5, 2) := by decide +kernel
theorem dX3_seekNear_80 : decode cX3_seekNear 80 = .ok (.istore 10, 2) := by decide +kernel
theorem dX3_seekNear_82 : decode cX3_seekNear 82 = .ok (.iload 10, 2) := by decide +kernel
theorem dX3_seekNear_84 : decode cX3_seekNear 84 = .ok (.iload 6, 2) := by decide +kernel
theorem dX3_seekNear_86 : decode cX3_seekNear 86 = .ok (.if_icmp .gt 57, 3) := by decide +kernel
theorem dX3_seekNear_89 : decode cX3_seekNear 89 = .ok (.iload 9, 2) := by decide +kernel
theorem dX3_seekNear_91 : decode cX3_seekNear 91 = .ok (.iload 10, 2) := by decide +kernel
theorem dX3_seekNear_93 : decode cX3_seekNear 93 = .ok (.iload_n 2, 1) := by decide +kernel
theorem dX3_seekNear_94 : decode cX3_seekNear 94 = .ok (.iconst 1, 1) := by decide +kernel
theorem dX3_seekNear_95 : decode cX3_seekNear 95 = .ok (.invokestatic 151, 3) := by decide +kernel
theorem dX3_seekNear_98 : decode cX3_seekNear 98 = .ok (.isub, 1) := by decide +kernel
theorem dX3_seekNear_99 : decode cX3_seekNear 99 = .ok (.invokestatic 163, 3) := by decide +kernel
theorem dX3_seekNear_102 : decode cX3_seekNear 102 = .ok (.iadd, 1) := by decide +kernel
theorem dX3_seekNear_103 : decode cX3_seekNear 103 = .ok (.istore 11, 2) := by decide +kernel
theorem dX3_seekNear_105 : decode cX3_seekNear 105 = .ok (.iload 11, 2) := by decide +kernel
theorem dX3_seekNear_107 : decode cX3_seekNear 107 = .ok (.aload_n 0, 1) := by decide +kernel
theorem dX3_seekNear_108 : decode cX3_seekNear 108 = .ok (.getfield 96, 3) := by decide +kernel
theorem dX3_seekNear_111 : decode cX3_seekNear 111 = .ok (.if_icmp .ge 26, 3) := by decide +kernel
theorem dX3_seekNear_114 : decode cX3_seekNear 114 = .ok (.aload_n 0, 1) := by decide +kernel
theorem dX3_seekNear_115 : decode cX3_seekNear 115 = .ok (.iload_n 1, 1) := by decide +kernel
theorem dX3_seekNear_116 : decode cX3_seekNear 116 = .ok (.iload_n 2, 1) := by decide +kernel
theorem dX3_seekNear_117 : decode cX3_seekNear 117 = .ok (.bipush 16, 2) := by decide +kernel
theorem dX3_seekNear_119 : decode cX3_seekNear 119 = .ok (.iload 10, 2) := by decide +kernel
theorem dX3_seekNear_121 : decode cX3_seekNear 121 = .ok (.imul, 1) := by decide +kernel
theorem dX3_seekNear_122 : decode cX3_seekNear 122 = .ok (.sipush 256, 3) := by decide +kernel
theorem dX3_seekNear_125 : decode cX3_seekNear 125 = .ok (.iload 8, 2) := by decide +kernel
theorem dX3_seekNear_127 : decode cX3_seekNear 127 = .ok (.imul, 1) := by decide +kernel
theorem dX3_seekNear_128 : decode cX3_seekNear 128 = .ok (.iadd, 1) := by decide +kernel
theorem dX3_seekNear_129 : decode cX3_seekNear 129 = .ok (.iload 11, 2) := by decide +kernel
theorem dX3_seekNear_131 : decode cX3_seekNear 131 = .ok (.iload_n 3, 1) := by decide +kernel
theorem dX3_seekNear_132 : decode cX3_seekNear 132 = .ok (.iload 4, 2) := by decide +kernel
theorem dX3_seekNear_134 : decode cX3_seekNear 134 = .ok (.invokevirtual 166, 3) := by decide +kernel
theorem dX3_seekNear_137 : decode cX3_seekNear 137 = .ok (.iinc 10 1, 3) := by decide +kernel
theorem dX3_seekNear_140 : decode cX3_seekNear 140 = .ok (.goto (-58), 3) := by decide +kernel
theorem dX3_seekNear_143 : decode cX3_seekNear 143 = .ok (.iinc 8 1, 3) := by decide +kernel
theorem dX3_seekNear_146 : decode cX3_seekNear 146 = .ok (.goto (-88), 3) := by decide +kernel
theorem dX3_seekNear_149 : decode cX3_seekNear 149 = .ok (.return_, 1) := by decide +kernel
theorem dX3_seekInRow_0 : decode cX3_seekInRow 0 = .ok (.iload_n 1, 1) := by decide +kernel
theorem dX3_seekInRow_1 : decode cX3_seekInRow 1 = .ok (.ifCond .lt 9, 3) := by decide +kernel
theorem dX3_seekInRow_4 : decode cX3_seekInRow 4 = .ok (.iload_n 1, 1) := by decide +kernel
theorem dX3_seekInRow_5 : decode cX3_seekInRow 5 = .ok (.bipush 40, 2) := by decide +kernel
theorem dX3_seekInRow_7 : decode cX3_seekInRow 7 = .ok (.if_icmp .lt 4, 3) := by decide +kernel
theorem dX3_seekInRow_10 : decode cX3_seekInRow 10 = .ok (.return_, 1) := by decide +kernel
theorem dX3_seekInRow_11 : decode cX3_seekInRow 11 = .ok (.iload_n 2, 1) := by decide +kernel
theorem dX3_seekInRow_12 : decode cX3_seekInRow 12 = .ok (.iconst 0, 1) := by decide +kernel
theorem dX3_seekInRow_13 : decode cX3_seekInRow 13 = .ok (.invokestatic 151, 3) := by decide +kernel
theorem dX3_seekInRow_16 : decode cX3_seekInRow 16 = .ok (.istore 7, 2) := by decide +kernel
theorem dX3_seekInRow_18 : decode cX3_seekInRow 18 = .ok (.iload 5, 2) := by decide +kernel
theorem dX3_seekInRow_20 : decode cX3_seekInRow 20 = .ok (.istore 8, 2) := by decide +kernel
theorem dX3_seekInRow_22 : decode cX3_seekInRow 22 = .ok (.iload 8, 2) := by decide +kernel
theorem dX3_seekInRow_24 : decode cX3_seekInRow 24 = .ok (.iload 6, 2) := by decide +kernel
theorem dX3_seekInRow_26 : decode cX3_seekInRow 26 = .ok (.if_icmp .gt 79, 3) := by decide +kernel
theorem dX3_seekInRow_29 : decode cX3_seekInRow 29 = .ok (.iload_n 3, 1) := by decide +kernel
theorem dX3_seekInRow_30 : decode cX3_seekInRow 30 = .ok (.iload 8, 2) := by decide +kernel
theorem dX3_seekInRow_32 : decode cX3_seekInRow 32 = .ok (.iadd, 1) := by decide +kernel
theorem dX3_seekInRow_33 : decode cX3_seekInRow 33 = .ok (.sipush 4095, 3) := by decide +kernel
theorem dX3_seekInRow_36 : decode cX3_seekInRow 36 = .ok (.iand, 1) := by decide +kernel
theorem dX3_seekInRow_37 : decode cX3_seekInRow 37 = .ok (.istore 9, 2) := by decide +kernel
theorem dX3_seekInRow_39 : decode cX3_seekInRow 39 = .ok (.aload_n 0, 1) := by decide +kernel
theorem dX3_seekInRow_40 : decode cX3_seekInRow 40 = .ok (.getfield 10, 3) := by decide +kernel
theorem dX3_seekInRow_43 : decode cX3_seekInRow 43 = .ok (.iload_n 1, 1) := by decide +kernel
theorem dX3_seekInRow_44 : decode cX3_seekInRow 44 = .ok (.sipush 4096, 3) := by decide +kernel
theorem dX3_seekInRow_47 : decode cX3_seekInRow 47 = .ok (.imul, 1) := by decide +kernel
theorem dX3_seekInRow_48 : decode cX3_seekInRow 48 = .ok (.iload 9, 2) := by decide +kernel
theorem dX3_seekInRow_50 : decode cX3_seekInRow 50 = .ok (.iadd, 1) := by decide +kernel
theorem dX3_seekInRow_51 : decode cX3_seekInRow 51 = .ok (.iaload, 1) := by decide +kernel
theorem dX3_seekInRow_52 : decode cX3_seekInRow 52 = .ok (.iload 4, 2) := by decide +kernel
theorem dX3_seekInRow_54 : decode cX3_seekInRow 54 = .ok (.iadd, 1) := by decide +kernel
theorem dX3_seekInRow_55 : decode cX3_seekInRow 55 = .ok (.iload 8, 2) := by decide +kernel
theorem dX3_seekInRow_57 : decode cX3_seekInRow 57 = .ok (.iload 7, 2) := by decide +kernel
theorem dX3_seekInRow_59 : decode cX3_seekInRow 59 = .ok (.if_icmp .ge 11, 3) := by decide +kernel
theorem dX3_seekInRow_62 : decode cX3_seekInRow 62 = .ok (.iload 7, 2) := by decide +kernel
theorem dX3_seekInRow_64 : decode cX3_seekInRow 64 = .ok (.iload 8, 2) := by decide +kernel
theorem dX3_seekInRow_66 : decode cX3_seekInRow 66 = .ok (.isub, 1) := by decide +kernel
theorem dX3_seekInRow_67 : decode cX3_seekInRow 67 = .ok (.goto 8, 3) := by decide +kernel
theorem dX3_seekInRow_70 : decode cX3_seekInRow 70 = .ok (.iload 8, 2) := by decide +kernel
theorem dX3_seekInRow_72 : decode cX3_seekInRow 72 = .ok (.iload 7, 2) := by decide +kernel
theorem dX3_seekInRow_74 : decode cX3_seekInRow 74 = .ok (.isub, 1) := by decide +kernel
theorem dX3_seekInRow_75 : decode cX3_seekInRow 75 = .ok (.iadd, 1) := by decide +kernel
theorem dX3_seekInRow_76 : decode cX3_seekInRow 76 = .ok (.istore 10, 2) := by decide +kernel
theorem dX3_seekInRow_78 : decode cX3_seekInRow 78 = .ok (.iload 10, 2) := by decide +kernel
theorem dX3_seekInRow_80 : decode cX3_seekInRow 80 = .ok (.aload_n 0, 1) := by decide +kernel
theorem dX3_seekInRow_81 : decode cX3_seekInRow 81 = .ok (.getfield 96, 3) := by decide +kernel
theorem dX3_seekInRow_84 : decode cX3_seekInRow 84 = .ok (.if_icmp .ge 15, 3) := by decide +kernel
theorem dX3_seekInRow_87 : decode cX3_seekInRow 87 = .ok (.aload_n 0, 1) := by decide +kernel
theorem dX3_seekInRow_88 : decode cX3_seekInRow 88 = .ok (.iload 10, 2) := by decide +kernel
theorem dX3_seekInRow_90 : decode cX3_seekInRow 90 = .ok (.putfield 96, 3) := by decide +kernel
theorem dX3_seekInRow_93 : decode cX3_seekInRow 93 = .ok (.aload_n 0, 1) := by decide +kernel
theorem dX3_seekInRow_94 : decode cX3_seekInRow 94 = .ok (.iload 9, 2) := by decide +kernel
theorem dX3_seekInRow_96 : decode cX3_seekInRow 96 = .ok (.putfield 106, 3) := by decide +kernel
theorem dX3_seekInRow_99 : decode cX3_seekInRow 99 = .ok (.iinc 8 1, 3) := by decide +kernel
theorem dX3_seekInRow_102 : decode cX3_seekInRow 102 = .ok (.goto (-80), 3) := by decide +kernel
theorem dX3_seekInRow_105 : decode cX3_seekInRow 105 = .ok (.return_, 1) := by decide +kernel
theorem dX3_from_0 : decode cX3_from 0 = .ok (.aload_n 0, 1) := by decide +kernel
theorem dX3_from_1 : decode cX3_from 1 = .ok (.getfield 46, 3) := by decide +kernel
theorem dX3_from_4 : decode cX3_from 4 = .ok (.iload_n 2, 1) := by decide +kernel
theorem dX3_from_5 : decode cX3_from 5 = .ok (.invokevirtual 145, 3) := by decide +kernel
theorem dX3_from_8 : decode cX3_from 8 = .ok (.iload_n 1, 1) := by decide +kernel
theorem dX3_from_9 : decode cX3_from 9 = .ok (.iload_n 2, 1) := by decide +kernel
theorem dX3_from_10 : decode cX3_from 10 = .ok (.invokestatic 151, 3) := by decide +kernel
theorem dX3_from_13 : decode cX3_from 13 = .ok (.aload_n 0, 1) := by decide +kernel
theorem dX3_from_14 : decode cX3_from 14 = .ok (.getfield 46, 3) := by decide +kernel
theorem dX3_from_17 : decode cX3_from 17 = .ok (.iload_n 2, 1) := by decide +kernel
theorem dX3_from_18 : decode cX3_from 18 = .ok (.invokevirtual 135, 3) := by decide +kernel
theorem dX3_from_21 : decode cX3_from 21 = .ok (.isub, 1) := by decide +kernel
theorem dX3_from_22 : decode cX3_from 22 = .ok (.invokestatic 154, 3) := by decide +kernel
theorem dX3_from_25 : decode cX3_from 25 = .ok (.ireturn, 1) := by decide +kernel
theorem dX3_upTo_0 : decode cX3_upTo 0 = .ok (.aload_n 0, 1) := by decide +kernel
theorem dX3_upTo_1 : decode cX3_upTo 1 = .ok (.getfield 46, 3) := by decide +kernel
theorem dX3_upTo_4 : decode cX3_upTo 4 = .ok (.iload_n 2, 1) := by decide +kernel
theorem dX3_upTo_5 : decode cX3_upTo 5 = .ok (.invokevirtual 148, 3) := by decide +kernel
theorem dX3_upTo_8 : decode cX3_upTo 8 = .ok (.iload_n 1, 1) := by decide +kernel
theorem dX3_upTo_9 : decode cX3_upTo 9 = .ok (.iload_n 2, 1) := by decide +kernel
theorem dX3_upTo_10 : decode cX3_upTo 10 = .ok (.invokestatic 151, 3) := by decide +kernel
theorem dX3_upTo_13 : decode cX3_upTo 13 = .ok (.aload_n 0, 1) := by decide +kernel
theorem dX3_upTo_14 : decode cX3_upTo 14 = .ok (.getfield 46, 3) := by decide +kernel
theorem dX3_upTo_17 : decode cX3_upTo 17 = .ok (.iload_n 2, 1) := by decide +kernel
theorem dX3_upTo_18 : decode cX3_upTo 18 = .ok (.invokevirtual 135, 3) := by decide +kernel
theorem dX3_upTo_21 : decode cX3_upTo 21 = .ok (.iadd, 1) := by decide +kernel
theorem dX3_upTo_22 : decode cX3_upTo 22 = .ok (.invokestatic 77, 3) := by decide +kernel
theorem dX3_upTo_25 : decode cX3_upTo 25 = .ok (.ireturn, 1) := by decide +kernel
theorem dX3_seekStart_0 : decode cX3_seekStart 0 = .ok (.aload_n 0, 1) := by decide +kernel
theorem dX3_seekStart_1 : decode cX3_seekStart 1 = .ok (.ldc 134, 2) := by decide +kernel
theorem dX3_seekStart_3 : decode cX3_seekStart 3 = .ok (.putfield 96, 3) := by decide +kernel
theorem dX3_seekStart_6 : decode cX3_seekStart 6 = .ok (.aload_n 0, 1) := by decide +kernel
theorem dX3_seekStart_7 : decode cX3_seekStart 7 = .ok (.iconst 0, 1) := by decide +kernel
theorem dX3_seekStart_8 : decode cX3_seekStart 8 = .ok (.putfield 106, 3) := by decide +kernel
theorem dX3_seekStart_11 : decode cX3_seekStart 11 = .ok (.iconst 0, 1) := by decide +kernel
theorem dX3_seekStart_12 : decode cX3_seekStart 12 = .ok (.istore_n 1, 1) := by decide +kernel
theorem dX3_seekStart_13 : decode cX3_seekStart 13 = .ok (.iload_n 1, 1) := by decide +kernel
theorem dX3_seekStart_14 : decode cX3_seekStart 14 = .ok (.aload_n 0, 1) := by decide +kernel
theorem dX3_seekStart_15 : decode cX3_seekStart 15 = .ok (.getfield 127, 3) := by decide +kernel
theorem dX3_seekStart_18 : decode cX3_seekStart 18 = .ok (.if_icmp .ge 51, 3) := by decide +kernel
theorem dX3_seekStart_21 : decode cX3_seekStart 21 = .ok (.iload_n 1, 1) := by decide +kernel
theorem dX3_seekStart_22 : decode cX3_seekStart 22 = .ok (.sipush 4096, 3) := by decide +kernel
theorem dX3_seekStart_25 : decode cX3_seekStart 25 = .ok (.if_icmp .ge 44, 3) := by decide +kernel
theorem dX3_seekStart_28 : decode cX3_seekStart 28 = .ok (.aload_n 0, 1) := by decide +kernel
theorem dX3_seekStart_29 : decode cX3_seekStart 29 = .ok (.iconst 0, 1) := by decide +kernel
theorem dX3_seekStart_30 : decode cX3_seekStart 30 = .ok (.aload_n 0, 1) := by decide +kernel
theorem dX3_seekStart_31 : decode cX3_seekStart 31 = .ok (.getfield 25, 3) := by decide +kernel
theorem dX3_seekStart_34 : decode cX3_seekStart 34 = .ok (.iload_n 1, 1) := by decide +kernel
theorem dX3_seekStart_35 : decode cX3_seekStart 35 = .ok (.iaload, 1) := by decide +kernel
theorem dX3_seekStart_36 : decode cX3_seekStart 36 = .ok (.invokevirtual 138, 3) := by decide +kernel
theorem dX3_seekStart_39 : decode cX3_seekStart 39 = .ok (.istore_n 2, 1) := by decide +kernel
theorem dX3_seekStart_40 : decode cX3_seekStart 40 = .ok (.iload_n 2, 1) := by decide +kernel
theorem dX3_seekStart_41 : decode cX3_seekStart 41 = .ok (.aload_n 0, 1) := by decide +kernel
theorem dX3_seekStart_42 : decode cX3_seekStart 42 = .ok (.getfield 96, 3) := by decide +kernel
theorem dX3_seekStart_45 : decode cX3_seekStart 45 = .ok (.if_icmp .ge 18, 3) := by decide +kernel
theorem dX3_seekStart_48 : decode cX3_seekStart 48 = .ok (.aload_n 0, 1) := by decide +kernel
theorem dX3_seekStart_49 : decode cX3_seekStart 49 = .ok (.iload_n 2, 1) := by decide +kernel
theorem dX3_seekStart_50 : decode cX3_seekStart 50 = .ok (.putfield 96, 3) := by decide +kernel
theorem dX3_seekStart_53 : decode cX3_seekStart 53 = .ok (.aload_n 0, 1) := by decide +kernel
theorem dX3_seekStart_54 : decode cX3_seekStart 54 = .ok (.aload_n 0, 1) := by decide +kernel
theorem dX3_seekStart_55 : decode cX3_seekStart 55 = .ok (.getfield 25, 3) := by decide +kernel
theorem dX3_seekStart_58 : decode cX3_seekStart 58 = .ok (.iload_n 1, 1) := by decide +kernel
theorem dX3_seekStart_59 : decode cX3_seekStart 59 = .ok (.iaload, 1) := by decide +kernel
theorem dX3_seekStart_60 : decode cX3_seekStart 60 = .ok (.putfield 106, 3) := by decide +kernel
theorem dX3_seekStart_63 : decode cX3_seekStart 63 = .ok (.iinc 1 1, 3) := by decide +kernel
theorem dX3_seekStart_66 : decode cX3_seekStart 66 = .ok (.goto (-53), 3) := by decide +kernel
theorem dX3_seekStart_69 : decode cX3_seekStart 69 = .ok (.return_, 1) := by decide +kernel
theorem dX4_init_0 : decode cX4_init 0 = .ok (.aload_n 0, 1) := by decide +kernel
theorem dX4_init_1 : decode cX4_init 1 = .ok (.invokespecial 3, 3) := by decide +kernel
theorem dX4_init_4 : decode cX4_init 4 = .ok (.aload_n 0, 1) := by decide +kernel
theorem dX4_init_5 : decode cX4_init 5 = .ok (.new 9, 3) := by decide +kernel
theorem dX4_init_8 : decode cX4_init 8 = .ok (.dup, 1) := by decide +kernel
theorem dX4_init_9 : decode cX4_init 9 = .ok (.invokespecial 11, 3) := by decide +kernel
theorem dX4_init_12 : decode cX4_init 12 = .ok (.putfield 12, 3) := by decide +kernel
theorem dX4_init_15 : decode cX4_init 15 = .ok (.aload_n 0, 1) := by decide +kernel
theorem dX4_init_16 : decode cX4_init 16 = .ok (.new 18, 3) := by decide +kernel
theorem dX4_init_19 : decode cX4_init 19 = .ok (.dup, 1) := by decide +kernel
theorem dX4_init_20 : decode cX4_init 20 = .ok (.invokespecial 20, 3) := by decide +kernel
theorem dX4_init_23 : decode cX4_init 23 = .ok (.putfield 21, 3) := by decide +kernel
theorem dX4_init_26 : decode cX4_init 26 = .ok (.aload_n 0, 1) := by decide +kernel
theorem dX4_init_27 : decode cX4_init 27 = .ok (.new 25, 3) := by decide +kernel
theorem dX4_init_30 : decode cX4_init 30 = .ok (.dup, 1) := by decide +kernel
theorem dX4_init_31 : decode cX4_init 31 = .ok (.invokespecial 27, 3) := by decide +kernel
theorem dX4_init_34 : decode cX4_init 34 = .ok (.putfield 28, 3) := by decide +kernel
theorem dX4_init_37 : decode cX4_init 37 = .ok (.aload_n 0, 1) := by decide +kernel
theorem dX4_init_38 : decode cX4_init 38 = .ok (.new 25, 3) := by decide +kernel
theorem dX4_init_41 : decode cX4_init 41 = .ok (.dup, 1) := by decide +kernel
theorem dX4_init_42 : decode cX4_init 42 = .ok (.invokespecial 27, 3) := by decide +kernel
theorem dX4_init_45 : decode cX4_init 45 = .ok (.putfield 32, 3) := by decide +kernel
theorem dX4_init_48 : decode cX4_init 48 = .ok (.aload_n 0, 1) := by decide +kernel
theorem dX4_init_49 : decode cX4_init 49 = .ok (.iconst (-1), 1) := by decide +kernel
theorem dX4_init_50 : decode cX4_init 50 = .ok (.putfield 35, 3) := by decide +kernel
theorem dX4_init_53 : decode cX4_init 53 = .ok (.return_, 1) := by decide +kernel
theorem dX4_readText_0 : decode cX4_readText 0 = .ok (.aload_n 0, 1) := by decide +kernel
theorem dX4_readText_1 : decode cX4_readText 1 = .ok (.getfield 21, 3) := by decide +kernel
theorem dX4_readText_4 : decode cX4_readText 4 = .ok (.iload_n 1, 1) := by decide +kernel
theorem dX4_readText_5 : decode cX4_readText 5 = .ok (.invokevirtual 39, 3) := by decide +kernel
theorem dX4_readText_8 : decode cX4_readText 8 = .ok (.aload_n 0, 1) := by decide +kernel
theorem dX4_readText_9 : decode cX4_readText 9 = .ok (.iconst 0, 1) := by decide +kernel
theorem dX4_readText_10 : decode cX4_readText 10 = .ok (.putfield 43, 3) := by decide +kernel
theorem dX4_readText_13 : decode cX4_readText 13 = .ok (.aload_n 0, 1) := by decide +kernel
theorem dX4_readText_14 : decode cX4_readText 14 = .ok (.iconst 0, 1) := by decide +kernel
theorem dX4_readText_15 : decode cX4_readText 15 = .ok (.putfield 46, 3) := by decide +kernel
theorem dX4_readText_18 : decode cX4_readText 18 = .ok (.aload_n 0, 1) := by decide +kernel
theorem dX4_readText_19 : decode cX4_readText 19 = .ok (.iconst (-1), 1) := by decide +kernel
theorem dX4_readText_20 : decode cX4_readText 20 = .ok (.putfield 35, 3) := by decide +kernel
theorem dX4_readText_23 : decode cX4_readText 23 = .ok (.iconst 0, 1) := by decide +kernel
theorem dX4_readText_24 : decode cX4_readText 24 = .ok (.istore_n 2, 1) := by decide +kernel
theorem dX4_readText_25 : decode cX4_readText 25 = .ok (.iload_n 2, 1) := by decide +kernel
theorem dX4_readText_26 : decode cX4_readText 26 = .ok (.iload_n 1, 1) := by decide +kernel
theorem dX4_readText_27 : decode cX4_readText 27 = .ok (.if_icmp .gt 34, 3) := by decide +kernel
theorem dX4_readText_30 : decode cX4_readText 30 = .ok (.aload_n 0, 1) := by decide +kernel
theorem dX4_readText_31 : decode cX4_readText 31 = .ok (.getfield 46, 3) := by decide +kernel
theorem dX4_readText_34 : decode cX4_readText 34 = .ok (.ifCond .ne 27, 3) := by decide +kernel
theorem dX4_readText_37 : decode cX4_readText 37 = .ok (.aload_n 0, 1) := by decide +kernel
theorem dX4_readText_38 : decode cX4_readText 38 = .ok (.getfield 21, 3) := by decide +kernel
theorem dX4_readText_41 : decode cX4_readText 41 = .ok (.aload_n 0, 1) := by decide +kernel
theorem dX4_readText_42 : decode cX4_readText 42 = .ok (.getfield 43, 3) := by decide +kernel
theorem dX4_readText_45 : decode cX4_readText 45 = .ok (.invokevirtual 49, 3) := by decide +kernel
theorem dX4_readText_48 : decode cX4_readText 48 = .ok (.ifCond .eq 13, 3) := by decide +kernel
theorem dX4_readText_51 : decode cX4_readText 51 = .ok (.aload_n 0, 1) := by decide +kernel
theorem dX4_readText_52 : decode cX4_readText 52 = .ok (.invokevirtual 53, 3) := by decide +kernel
theorem dX4_readText_55 : decode cX4_readText 55 = .ok (.iinc 2 1, 3) := by decide +kernel
theorem dX4_readText_58 : decode cX4_readText 58 = .ok (.goto (-33), 3) := by decide +kernel
theorem dX4_readText_61 : decode cX4_readText 61 = .ok (.aload_n 0, 1) := by decide +kernel
theorem dX4_readText_62 : decode cX4_readText 62 = .ok (.getfield 46, 3) := by decide +kernel
theorem dX4_readText_65 : decode cX4_readText 65 = .ok (.ifCond .eq 27, 3) := by decide +kernel
theorem dX4_readText_68 : decode cX4_readText 68 = .ok (.aload_n 0, 1) := by decide +kernel
theorem dX4_readText_69 : decode cX4_readText 69 = .ok (.aload_n 0, 1) := by decide +kernel
theorem dX4_readText_70 : decode cX4_readText 70 = .ok (.getfield 21, 3) := by decide +kernel
theorem dX4_readText_73 : decode cX4_readText 73 = .ok (.aload_n 0, 1) := by decide +kernel
theorem dX4_readText_74 : decode cX4_readText 74 = .ok (.getfield 43, 3) := by decide +kernel
theorem dX4_readText_77 : decode cX4_readText 77 = .ok (.invokevirtual 56, 3) := by decide +kernel
theorem dX4_readText_80 : decode cX4_readText 80 = .ok (.putfield 35, 3) := by decide +kernel
theorem dX4_readText_83 : decode cX4_readText 83 = .ok (.aload_n 0, 1) := by decide +kernel
theorem dX4_readText_84 : decode cX4_readText 84 = .ok (.getfield 12, 3) := by decide +kernel
theorem dX4_readText_87 : decode cX4_readText 87 = .ok (.invokevirtual 59, 3) := by decide +kernel
theorem dX4_readText_90 : decode cX4_readText 90 = .ok (.iconst (-1), 1) := by decide +kernel
theorem dX4_readText_91 : decode cX4_readText 91 = .ok (.ireturn, 1) := by decide +kernel
theorem dX4_readText_92 : decode cX4_readText 92 = .ok (.aload_n 0, 1) := by decide +kernel
theorem dX4_readText_93 : decode cX4_readText 93 = .ok (.getfield 12, 3) := by decide +kernel
theorem dX4_readText_96 : decode cX4_readText 96 = .ok (.invokevirtual 62, 3) := by decide +kernel
theorem dX4_readText_99 : decode cX4_readText 99 = .ok (.ireturn, 1) := by decide +kernel
theorem dX4_fail_0 : decode cX4_fail 0 = .ok (.aload_n 0, 1) := by decide +kernel
theorem dX4_fail_1 : decode cX4_fail 1 = .ok (.iload_n 1, 1) := by decide +kernel
theorem dX4_fail_2 : decode cX4_fail 2 = .ok (.putfield 46, 3) := by decide +kernel
theorem dX4_fail_5 : decode cX4_fail 5 = .ok (.return_, 1) := by decide +kernel
theorem dX4_take_0 : decode cX4_take 0 = .ok (.aload_n 0, 1) := by decide +kernel
theorem dX4_take_1 : decode cX4_take 1 = .ok (.getfield 21, 3) := by decide +kernel
theorem dX4_take_4 : decode cX4_take 4 = .ok (.aload_n 0, 1) := by decide +kernel
theorem dX4_take_5 : decode cX4_take 5 = .ok (.getfield 43, 3) := by decide +kernel
theorem dX4_take_8 : decode cX4_take 8 = .ok (.invokevirtual 49, 3) := by decide +kernel
theorem dX4_take_11 : decode cX4_take 11 = .ok (.iload_n 1, 1) := by decide +kernel
theorem dX4_take_12 : decode cX4_take 12 = .ok (.if_icmp .eq 10, 3) := by decide +kernel
theorem dX4_take_15 : decode cX4_take 15 = .ok (.aload_n 0, 1) := by decide +kernel
theorem dX4_take_16 : decode cX4_take 16 = .ok (.iconst 1, 1) := by decide +kernel
theorem dX4_take_17 : decode cX4_take 17 = .ok (.invokevirtual 66, 3) := by decide +kernel
theorem dX4_take_20 : decode cX4_take 20 = .ok (.iconst 0, 1) := by decide +kernel
theorem dX4_take_21 : decode cX4_take 21 = .ok (.ireturn, 1) := by decide +kernel
theorem dX4_take_22 : decode cX4_take 22 = .ok (.aload_n 0, 1) := by decide +kernel
theorem dX4_take_23 : decode cX4_take 23 = .ok (.dup, 1) := by decide +kernel
theorem dX4_take_24 : decode cX4_take 24 = .ok (.getfield 43, 3) := by decide +kernel
theorem dX4_take_27 : decode cX4_take 27 = .ok (.iconst 1, 1) := by decide +kernel
theorem dX4_take_28 : decode cX4_take 28 = .ok (.iadd, 1) := by decide +kernel
theorem dX4_take_29 : decode cX4_take 29 = .ok (.putfield 43, 3) := by decide +kernel
theorem dX4_take_32 : decode cX4_take 32 = .ok (.iconst 1, 1) := by decide +kernel
theorem dX4_take_33 : decode cX4_take 33 = .ok (.ireturn, 1) := by decide +kernel
theorem dX4_readLine_0 : decode cX4_readLine 0 = .ok (.aload_n 0, 1) := by decide +kernel
theorem dX4_readLine_1 : decode cX4_readLine 1 = .ok (.iconst 4, 1) := by decide +kernel
theorem dX4_readLine_2 : decode cX4_readLine 2 = .ok (.invokevirtual 69, 3) := by decide +kernel
theorem dX4_readLine_5 : decode cX4_readLine 5 = .ok (.ifCond .ne 4, 3) := by decide +kernel
theorem dX4_readLine_8 : decode cX4_readLine 8 = .ok (.return_, 1) := by decide +kernel
theorem dX4_readLine_9 : decode cX4_readLine 9 = .ok (.aload_n 0, 1) := by decide +kernel
theorem dX4_readLine_10 : decode cX4_readLine 10 = .ok (.iconst 0, 1) := by decide +kernel
theorem dX4_readLine_11 : decode cX4_readLine 11 = .ok (.putfield 73, 3) := by decide +kernel
theorem dX4_readLine_14 : decode cX4_readLine 14 = .ok (.iconst 1, 1) := by decide +kernel
theorem dX4_readLine_15 : decode cX4_readLine 15 = .ok (.istore_n 1, 1) := by decide +kernel
theorem dX4_readLine_16 : decode cX4_readLine 16 = .ok (.iconst 0, 1) := by decide +kernel
theorem dX4_readLine_17 : decode cX4_readLine 17 = .ok (.istore_n 2, 1) := by decide +kernel
theorem dX4_readLine_18 : decode cX4_readLine 18 = .ok (.iload_n 2, 1) := by decide +kernel
theorem dX4_readLine_19 : decode cX4_readLine 19 = .ok (.bipush 8, 2) := by decide +kernel
theorem dX4_readLine_21 : decode cX4_readLine 21 = .ok (.if_icmp .ge 77, 3) := by decide +kernel
theorem dX4_readLine_24 : decode cX4_readLine 24 = .ok (.iload_n 1, 1) := by decide +kernel
theorem dX4_readLine_25 : decode cX4_readLine 25 = .ok (.ifCond .eq 73, 3) := by decide +kernel
theorem dX4_readLine_28 : decode cX4_readLine 28 = .ok (.aload_n 0, 1) := by decide +kernel
theorem dX4_readLine_29 : decode cX4_readLine 29 = .ok (.dup, 1) := by decide +kernel
theorem dX4_readLine_30 : decode cX4_readLine 30 = .ok (.getfield 43, 3) := by decide +kernel
theorem dX4_readLine_33 : decode cX4_readLine 33 = .ok (.iload_n 2, 1) := by decide +kernel
theorem dX4_readLine_34 : decode cX4_readLine 34 = .ok (.ifCond .ne 7, 3) := by decide +kernel
theorem dX4_readLine_37 : decode cX4_readLine 37 = .ok (.iconst 0, 1) := by decide +kernel
theorem dX4_readLine_38 : decode cX4_readLine 38 = .ok (.goto 4, 3) := by decide +kernel
theorem dX4_readLine_41 : decode cX4_readLine 41 = .ok (.iconst 1, 1) := by decide +kernel
theorem dX4_readLine_42 : decode cX4_readLine 42 = .ok (.iadd, 1) := by decide +kernel
theorem dX4_readLine_43 : decode cX4_readLine 43 = .ok (.putfield 43, 3) := by decide +kernel
theorem dX4_readLine_46 : decode cX4_readLine 46 = .ok (.aload_n 0, 1) := by decide +kernel
theorem dX4_readLine_47 : decode cX4_readLine 47 = .ok (.iload_n 2, 1) := by decide +kernel
theorem dX4_readLine_48 : decode cX4_readLine 48 = .ok (.ifCond .ne 7, 3) := by decide +kernel
theorem dX4_readLine_51 : decode cX4_readLine 51 = .ok (.iconst 1, 1) := by decide +kernel
theorem dX4_readLine_52 : decode cX4_readLine 52 = .ok (.goto 4, 3) := by decide +kernel
theorem dX4_readLine_55 : decode cX4_readLine 55 = .ok (.iconst 0, 1) := by decide +kernel
theorem dX4_readLine_56 : decode cX4_readLine 56 = .ok (.invokevirtual 77, 3) := by decide +kernel
theorem dX4_readLine_59 : decode cX4_readLine 59 = .ok (.aload_n 0, 1) := by decide +kernel
theorem dX4_readLine_60 : decode cX4_readLine 60 = .ok (.getfield 46, 3) := by decide +kernel
theorem dX4_readLine_63 : decode cX4_readLine 63 = .ok (.ifCond .eq 4, 3) := by decide +kernel
theorem dX4_readLine_66 : decode cX4_readLine 66 = .ok (.return_, 1) := by decide +kernel
theorem dX4_readLine_67 : decode cX4_readLine 67 = .ok (.aload_n 0, 1) := by decide +kernel
theorem dX4_readLine_68 : decode cX4_readLine 68 = .ok (.invokevirtual 81, 3) := by decide +kernel
theorem dX4_readLine_71 : decode cX4_readLine 71 = .ok (.aload_n 0, 1) := by decide +kernel
theorem dX4_readLine_72 : decode cX4_readLine 72 = .ok (.getfield 21, 3) := by decide +kernel
theorem dX4_readLine_75 : decode cX4_readLine 75 = .ok (.aload_n 0, 1) := by decide +kernel
theorem dX4_readLine_76 : decode cX4_readLine 76 = .ok (.getfield 43, 3) := by decide +kernel
theorem dX4_readLine_79 : decode cX4_readLine 79 = .ok (.invokevirtual 49, 3) := by decide +kernel
theorem dX4_readLine_82 : decode cX4_readLine 82 = .ok (.iconst 5, 1) := by decide +kernel
theorem dX4_readLine_83 : decode cX4_readLine 83 = .ok (.if_icmp .ne 7, 3) := by decide +kernel
theorem dX4_readLine_86 : decode cX4_readLine 86 = .ok (.iconst 1, 1) := by decide +kernel
theorem dX4_readLine_87 : decode cX4_readLine 87 = .ok (.goto 4, 3) := by decide +kernel
theorem dX4_readLine_90 : decode cX4_readLine 90 = .ok (.iconst 0, 1) := by decide +kernel
theorem dX4_readLine_91 : decode cX4_readLine 91 = .ok (.istore_n 1, 1) := by decide +kernel
theorem dX4_readLine_92 : decode cX4_readLine 92 = .ok (.iinc 2 1, 3) := by decide +kernel
theorem dX4_readLine_95 : decode cX4_readLine 95 = .ok (.goto (-77), 3) := by decide +kernel
theorem dX4_readLine_98 : decode cX4_readLine 98 = .ok (.iload_n 1, 1) := by decide +kernel
theorem dX4_readLine_99 : decode cX4_readLine 99 = .ok (.ifCond .eq 11, 3) := by decide +kernel
theorem dX4_readLine_102 : decode cX4_readLine 102 = .ok (.aload_n 0, 1) := by decide +kernel
theorem dX4_readLine_103 : decode cX4_readLine 103 = .ok (.iconst 2, 1) := by decide +kernel
theorem dX4_readLine_104 : decode cX4_readLine 104 = .ok (.invokevirtual 66, 3) := by decide +kernel
theorem dX4_readLine_107 : decode cX4_readLine 107 = .ok (.goto 7, 3) := by decide +kernel
theorem dX4_readLine_110 : decode cX4_readLine 110 = .ok (.aload_n 0, 1) := by decide +kernel
theorem dX4_readLine_111 : decode cX4_readLine 111 = .ok (.invokevirtual 84, 3) := by decide +kernel
theorem dX4_readLine_114 : decode cX4_readLine 114 = .ok (.return_, 1) := by decide +kernel
theorem dX4_closeLine_0 : decode cX4_closeLine 0 = .ok (.aload_n 0, 1) := by decide +kernel
theorem dX4_closeLine_1 : decode cX4_closeLine 1 = .ok (.getfield 21, 3) := by decide +kernel
theorem dX4_closeLine_4 : decode cX4_closeLine 4 = .ok (.aload_n 0, 1) := by decide +kernel
theorem dX4_closeLine_5 : decode cX4_closeLine 5 = .ok (.getfield 43, 3) := by decide +kernel
theorem dX4_closeLine_8 : decode cX4_closeLine 8 = .ok (.invokevirtual 49, 3) := by decide +kernel
theorem dX4_closeLine_11 : decode cX4_closeLine 11 = .ok (.iconst 3, 1) := by decide +kernel
theorem dX4_closeLine_12 : decode cX4_closeLine 12 = .ok (.if_icmp .eq 11, 3) := by decide +kernel
theorem dX4_closeLine_15 : decode cX4_closeLine 15 = .ok (.aload_n 0, 1) := by decide +kernel
theorem dX4_closeLine_16 : decode cX4_closeLine 16 = .ok (.iconst 1, 1) := by decide +kernel
theorem dX4_closeLine_17 : decode cX4_closeLine 17 = .ok (.invokevirtual 66, 3) := by decide +kernel
theorem dX4_closeLine_20 : decode cX4_closeLine 20 = .ok (.goto 42, 3) := by decide +kernel
theorem dX4_closeLine_23 : decode cX4_closeLine 23 = .ok (.aload_n 0, 1) := by decide +kernel
theorem dX4_closeLine_24 : decode cX4_closeLine 24 = .ok (.getfield 73, 3) := by decide +kernel
theorem dX4_closeLine_27 : decode cX4_closeLine 27 = .ok (.ifCond .ne 17, 3) := by decide +kernel
theorem dX4_closeLine_30 : decode cX4_closeLine 30 = .ok (.aload_n 0, 1) := by decide +kernel
theorem dX4_closeLine_31 : decode cX4_closeLine 31 = .ok (.getfield 12, 3) := by decide +kernel
theorem dX4_closeLine_34 : decode cX4_closeLine 34 = .ok (.aload_n 0, 1) := by decide +kernel
theorem dX4_closeLine_35 : decode cX4_closeLine 35 = .ok (.getfield 28, 3) := by decide +kernel
theorem dX4_closeLine_38 : decode cX4_closeLine 38 = .ok (.invokevirtual 87, 3) := by decide +kernel
theorem dX4_closeLine_41 : decode cX4_closeLine 41 = .ok (.ifCond .ne 11, 3) := by decide +kernel
theorem dX4_closeLine_44 : decode cX4_closeLine 44 = .ok (.aload_n 0, 1) := by decide +kernel
theorem dX4_closeLine_45 : decode cX4_closeLine 45 = .ok (.iconst 5, 1) := by decide +kernel
theorem dX4_closeLine_46 : decode cX4_closeLine 46 = .ok (.invokevirtual 66, 3) := by decide +kernel
theorem dX4_closeLine_49 : decode cX4_closeLine 49 = .ok (.goto 13, 3) := by decide +kernel
theorem dX4_closeLine_52 : decode cX4_closeLine 52 = .ok (.aload_n 0, 1) := by decide +kernel
theorem dX4_closeLine_53 : decode cX4_closeLine 53 = .ok (.dup, 1) := by decide +kernel
theorem dX4_closeLine_54 : decode cX4_closeLine 54 = .ok (.getfield 43, 3) := by decide +kernel
theorem dX4_closeLine_57 : decode cX4_closeLine 57 = .ok (.iconst 1, 1) := by decide +kernel
theorem dX4_closeLine_58 : decode cX4_closeLine 58 = .ok (.iadd, 1) := by decide +kernel
theorem dX4_closeLine_59 : decode cX4_closeLine 59 = .ok (.putfield 43, 3) := by decide +kernel
theorem dX4_closeLine_62 : decode cX4_closeLine 62 = .ok (.return_, 1) := by decide +kernel
theorem dX4_readPart_0 : decode cX4_readPart 0 = .ok (.aload_n 0, 1) := by decide +kernel
theorem dX4_readPart_1 : decode cX4_readPart 1 = .ok (.iload_n 1, 1) := by decide +kernel
theorem dX4_readPart_2 : decode cX4_readPart 2 = .ok (.invokevirtual 91, 3) := by decide +kernel
theorem dX4_readPart_5 : decode cX4_readPart 5 = .ok (.astore_n 2, 1) := by decide +kernel
theorem dX4_readPart_6 : decode cX4_readPart 6 = .ok (.aload_n 2, 1) := by decide +kernel
theorem dX4_readPart_7 : decode cX4_readPart 7 = .ok (.ifnonnull 4, 3) := by decide +kernel
theorem dX4_readPart_10 : decode cX4_readPart 10 = .ok (.return_, 1) := by decide +kernel
theorem dX4_readPart_11 : decode cX4_readPart 11 = .ok (.aload_n 0, 1) := by decide +kernel
theorem dX4_readPart_12 : decode cX4_readPart 12 = .ok (.getfield 32, 3) := by decide +kernel
theorem dX4_readPart_15 : decode cX4_readPart 15 = .ok (.aload_n 2, 1) := by decide +kernel
theorem dX4_readPart_16 : decode cX4_readPart 16 = .ok (.getfield 95, 3) := by decide +kernel
theorem dX4_readPart_19 : decode cX4_readPart 19 = .ok (.invokevirtual 98, 3) := by decide +kernel
theorem dX4_readPart_22 : decode cX4_readPart 22 = .ok (.aload_n 0, 1) := by decide +kernel
theorem dX4_readPart_23 : decode cX4_readPart 23 = .ok (.aload_n 2, 1) := by decide +kernel
theorem dX4_readPart_24 : decode cX4_readPart 24 = .ok (.invokevirtual 101, 3) := by decide +kernel
theorem dX4_readPart_27 : decode cX4_readPart 27 = .ok (.aload_n 0, 1) := by decide +kernel
theorem dX4_readPart_28 : decode cX4_readPart 28 = .ok (.getfield 46, 3) := by decide +kernel
theorem dX4_readPart_31 : decode cX4_readPart 31 = .ok (.ifCond .ne 7, 3) := by decide +kernel
theorem dX4_readPart_34 : decode cX4_readPart 34 = .ok (.aload_n 0, 1) := by decide +kernel
theorem dX4_readPart_35 : decode cX4_readPart 35 = .ok (.invokevirtual 105, 3) := by decide +kernel
theorem dX4_readPart_38 : decode cX4_readPart 38 = .ok (.return_, 1) := by decide +kernel
theorem dX4_readTape_0 : decode cX4_readTape 0 = .ok (.aload_n 0, 1) := by decide +kernel
theorem dX4_readTape_1 : decode cX4_readTape 1 = .ok (.iconst 0, 1) := by decide +kernel
theorem dX4_readTape_2 : decode cX4_readTape 2 = .ok (.bipush 99, 2) := by decide +kernel
theorem dX4_readTape_4 : decode cX4_readTape 4 = .ok (.invokevirtual 108, 3) := by decide +kernel
theorem dX4_readTape_7 : decode cX4_readTape 7 = .ok (.istore_n 2, 1) := by decide +kernel
theorem dX4_readTape_8 : decode cX4_readTape 8 = .ok (.aload_n 0, 1) := by decide +kernel
theorem dX4_readTape_9 : decode cX4_readTape 9 = .ok (.getfield 12, 3) := by decide +kernel
theorem dX4_readTape_12 : decode cX4_readTape 12 = .ok (.iload_n 2, 1) := by decide +kernel
theorem dX4_readTape_13 : decode cX4_readTape 13 = .ok (.invokevirtual 112, 3) := by decide +kernel
theorem dX4_readTape_16 : decode cX4_readTape 16 = .ok (.astore_n 3, 1) := by decide +kernel
theorem dX4_readTape_17 : decode cX4_readTape 17 = .ok (.iload_n 2, 1) := by decide +kernel
theorem dX4_readTape_18 : decode cX4_readTape 18 = .ok (.iconst (-1), 1) := by decide +kernel
theorem dX4_readTape_19 : decode cX4_readTape 19 = .ok (.if_icmp .ne 5, 3) := by decide +kernel
theorem dX4_readTape_22 : decode cX4_readTape 22 = .ok (.aconst_null, 1) := by decide +kernel
theorem dX4_readTape_23 : decode cX4_readTape 23 = .ok (.areturn, 1) := by decide +kernel
theorem dX4_readTape_24 : decode cX4_readTape 24 = .ok (.aload_n 3, 1) := by decide +kernel
theorem dX4_readTape_25 : decode cX4_readTape 25 = .ok (.ifnonnull 10, 3) := by decide +kernel
theorem dX4_readTape_28 : decode cX4_readTape 28 = .ok (.aload_n 0, 1) := by decide +kernel
theorem dX4_readTape_29 : decode cX4_readTape 29 = .ok (.iconst 3, 1) := by decide +kernel
theorem dX4_readTape_30 : decode cX4_readTape 30 = .ok (.invokevirtual 66, 3) := by decide +kernel
theorem dX4_readTape_33 : decode cX4_readTape 33 = .ok (.aconst_null, 1) := by decide +kernel
theorem dX4_readTape_34 : decode cX4_readTape 34 = .ok (.areturn, 1) := by decide +kernel
theorem dX4_readTape_35 : decode cX4_readTape 35 = .ok (.iload_n 1, 1) := by decide +kernel
theorem dX4_readTape_36 : decode cX4_readTape 36 = .ok (.ifCond .eq 17, 3) := by decide +kernel
theorem dX4_readTape_39 : decode cX4_readTape 39 = .ok (.aload_n 0, 1) := by decide +kernel
theorem dX4_readTape_40 : decode cX4_readTape 40 = .ok (.getfield 28, 3) := by decide +kernel
theorem dX4_readTape_43 : decode cX4_readTape 43 = .ok (.aload_n 3, 1) := by decide +kernel
theorem dX4_readTape_44 : decode cX4_readTape 44 = .ok (.getfield 95, 3) := by decide +kernel
theorem dX4_readTape_47 : decode cX4_readTape 47 = .ok (.invokevirtual 98, 3) := by decide +kernel
theorem dX4_readTape_50 : decode cX4_readTape 50 = .ok (.goto 24, 3) := by decide +kernel
theorem dX4_readTape_53 : decode cX4_readTape 53 = .ok (.aload_n 0, 1) := by decide +kernel
theorem dX4_readTape_54 : decode cX4_readTape 54 = .ok (.getfield 28, 3) := by decide +kernel
theorem dX4_readTape_57 : decode cX4_readTape 57 = .ok (.getfield 95, 3) := by decide +kernel
theorem dX4_readTape_60 : decode cX4_readTape 60 = .ok (.aload_n 3, 1) := by decide +kernel
theorem dX4_readTape_61 : decode cX4_readTape 61 = .ok (.getfield 95, 3) := by decide +kernel
theorem dX4_readTape_64 : decode cX4_readTape 64 = .ok (.if_icmp .eq 10, 3) := by decide +kernel
theorem dX4_readTape_67 : decode cX4_readTape 67 = .ok (.aload_n 0, 1) := by decide +kernel
theorem dX4_readTape_68 : decode cX4_readTape 68 = .ok (.iconst 4, 1) := by decide +kernel
theorem dX4_readTape_69 : decode cX4_readTape 69 = .ok (.invokevirtual 66, 3) := by decide +kernel
theorem dX4_readTape_72 : decode cX4_readTape 72 = .ok (.aconst_null, 1) := by decide +kernel
theorem dX4_readTape_73 : decode cX4_readTape 73 = .ok (.areturn, 1) := by decide +kernel
theorem dX4_readTape_74 : decode cX4_readTape 74 = .ok (.aload_n 0, 1) := by decide +kernel
theorem dX4_readTape_75 : decode cX4_readTape 75 = .ok (.dup, 1) := by decide +kernel
theorem dX4_readTape_76 : decode cX4_readTape 76 = .ok (.getfield 43, 3) := by decide +kernel
theorem dX4_readTape_79 : decode cX4_readTape 79 = .ok (.iconst 1, 1) := by decide +kernel
theorem dX4_readTape_80 : decode cX4_readTape 80 = .ok (.iadd, 1) := by decide +kernel
theorem dX4_readTape_81 : decode cX4_readTape 81 = .ok (.putfield 43, 3) := by decide +kernel
theorem dX4_readTape_84 : decode cX4_readTape 84 = .ok (.aload_n 3, 1) := by decide +kernel
theorem dX4_readTape_85 : decode cX4_readTape 85 = .ok (.areturn, 1) := by decide +kernel
theorem dX4_readCut_0 : decode cX4_readCut 0 = .ok (.aload_n 0, 1) := by decide +kernel
theorem dX4_readCut_1 : decode cX4_readCut 1 = .ok (.getfield 21, 3) := by decide +kernel
theorem dX4_readCut_4 : decode cX4_readCut 4 = .ok (.aload_n 0, 1) := by decide +kernel
theorem dX4_readCut_5 : decode cX4_readCut 5 = .ok (.getfield 43, 3) := by decide +kernel
theorem dX4_readCut_8 : decode cX4_readCut 8 = .ok (.invokevirtual 49, 3) := by decide +kernel
theorem dX4_readCut_11 : decode cX4_readCut 11 = .ok (.bipush 6, 2) := by decide +kernel
theorem dX4_readCut_13 : decode cX4_readCut 13 = .ok (.if_icmp .eq 19, 3) := by decide +kernel
theorem dX4_readCut_16 : decode cX4_readCut 16 = .ok (.aload_n 0, 1) := by decide +kernel
theorem dX4_readCut_17 : decode cX4_readCut 17 = .ok (.getfield 32, 3) := by decide +kernel
theorem dX4_readCut_20 : decode cX4_readCut 20 = .ok (.aload_n 1, 1) := by decide +kernel
theorem dX4_readCut_21 : decode cX4_readCut 21 = .ok (.iconst 0, 1) := by decide +kernel
theorem dX4_readCut_22 : decode cX4_readCut 22 = .ok (.aload_n 1, 1) := by decide +kernel
theorem dX4_readCut_23 : decode cX4_readCut 23 = .ok (.getfield 116, 3) := by decide +kernel
theorem dX4_readCut_26 : decode cX4_readCut 26 = .ok (.iconst 1, 1) := by decide +kernel
theorem dX4_readCut_27 : decode cX4_readCut 27 = .ok (.isub, 1) := by decide +kernel
theorem dX4_readCut_28 : decode cX4_readCut 28 = .ok (.invokevirtual 119, 3) := by decide +kernel
theorem dX4_readCut_31 : decode cX4_readCut 31 = .ok (.return_, 1) := by decide +kernel
theorem dX4_readCut_32 : decode cX4_readCut 32 = .ok (.aload_n 0, 1) := by decide +kernel
theorem dX4_readCut_33 : decode cX4_readCut 33 = .ok (.dup, 1) := by decide +kernel
theorem dX4_readCut_34 : decode cX4_readCut 34 = .ok (.getfield 43, 3) := by decide +kernel
theorem dX4_readCut_37 : decode cX4_readCut 37 = .ok (.iconst 1, 1) := by decide +kernel
theorem dX4_readCut_38 : decode cX4_readCut 38 = .ok (.iadd, 1) := by decide +kernel
theorem dX4_readCut_39 : decode cX4_readCut 39 = .ok (.putfield 43, 3) := by decide +kernel
theorem dX4_readCut_42 : decode cX4_readCut 42 = .ok (.aload_n 0, 1) := by decide +kernel
theorem dX4_readCut_43 : decode cX4_readCut 43 = .ok (.aload_n 1, 1) := by decide +kernel
theorem dX4_readCut_44 : decode cX4_readCut 44 = .ok (.iconst 0, 1) := by decide +kernel
theorem dX4_readCut_45 : decode cX4_readCut 45 = .ok (.invokevirtual 123, 3) := by decide +kernel
theorem dX4_readCut_48 : decode cX4_readCut 48 = .ok (.istore_n 2, 1) := by decide +kernel
theorem dX4_readCut_49 : decode cX4_readCut 49 = .ok (.iload_n 2, 1) := by decide +kernel
theorem dX4_readCut_50 : decode cX4_readCut 50 = .ok (.iconst (-1), 1) := by decide +kernel
theorem dX4_readCut_51 : decode cX4_readCut 51 = .ok (.if_icmp .eq 12, 3) := by decide +kernel
theorem dX4_readCut_54 : decode cX4_readCut 54 = .ok (.aload_n 0, 1) := by decide +kernel
theorem dX4_readCut_55 : decode cX4_readCut 55 = .ok (.bipush 7, 2) := by decide +kernel
theorem dX4_readCut_57 : decode cX4_readCut 57 = .ok (.invokevirtual 69, 3) := by decide +kernel
theorem dX4_readCut_60 : decode cX4_readCut 60 = .ok (.ifCond .ne 4, 3) := by decide +kernel
theorem dX4_readCut_63 : decode cX4_readCut 63 = .ok (.return_, 1) := by decide +kernel
theorem dX4_readCut_64 : decode cX4_readCut 64 = .ok (.aload_n 0, 1) := by decide +kernel
theorem dX4_readCut_65 : decode cX4_readCut 65 = .ok (.aload_n 1, 1) := by decide +kernel
theorem dX4_readCut_66 : decode cX4_readCut 66 = .ok (.iload_n 2, 1) := by decide +kernel
theorem dX4_readCut_67 : decode cX4_readCut 67 = .ok (.invokevirtual 123, 3) := by decide +kernel
theorem dX4_readCut_70 : decode cX4_readCut 70 = .ok (.istore_n 3, 1) := by decide +kernel
theorem dX4_readCut_71 : decode cX4_readCut 71 = .ok (.iload_n 3, 1) := by decide +kernel
theorem dX4_readCut_72 : decode cX4_readCut 72 = .ok (.iconst (-1), 1) := by decide +kernel
theorem dX4_readCut_73 : decode cX4_readCut 73 = .ok (.if_icmp .eq 13, 3) := by decide +kernel
theorem dX4_readCut_76 : decode cX4_readCut 76 = .ok (.aload_n 0, 1) := by decide +kernel
theorem dX4_readCut_77 : decode cX4_readCut 77 = .ok (.getfield 32, 3) := by decide +kernel
theorem dX4_readCut_80 : decode cX4_readCut 80 = .ok (.aload_n 1, 1) := by decide +kernel
theorem dX4_readCut_81 : decode cX4_readCut 81 = .ok (.iload_n 2, 1) := by decide +kernel
theorem dX4_readCut_82 : decode cX4_readCut 82 = .ok (.iload_n 3, 1) := by decide +kernel
theorem dX4_readCut_83 : decode cX4_readCut 83 = .ok (.invokevirtual 119, 3) := by decide +kernel
theorem dX4_readCut_86 : decode cX4_readCut 86 = .ok (.return_, 1) := by decide +kernel
theorem dX4_tickNumber_0 : decode cX4_tickNumber 0 = .ok (.aload_n 0, 1) := by decide +kernel
theorem dX4_tickNumber_1 : decode cX4_tickNumber 1 = .ok (.iconst 0, 1) := by decide +kernel
theorem dX4_tickNumber_2 : decode cX4_tickNumber 2 = .ok (.bipush 99, 2) := by decide +kernel
theorem dX4_tickNumber_4 : decode cX4_tickNumber 4 = .ok (.invokevirtual 108, 3) := by decide +kernel
theorem dX4_tickNumber_7 : decode cX4_tickNumber 7 = .ok (.istore_n 3, 1) := by decide +kernel
theorem dX4_tickNumber_8 : decode cX4_tickNumber 8 = .ok (.iload_n 3, 1) := by decide +kernel
theorem dX4_tickNumber_9 : decode cX4_tickNumber 9 = .ok (.iconst (-1), 1) := by decide +kernel
theorem dX4_tickNumber_10 : decode cX4_tickNumber 10 = .ok (.if_icmp .ne 5, 3) := by decide +kernel
theorem dX4_tickNumber_13 : decode cX4_tickNumber 13 = .ok (.iconst (-1), 1) := by decide +kernel
theorem dX4_tickNumber_14 : decode cX4_tickNumber 14 = .ok (.ireturn, 1) := by decide +kernel
theorem dX4_tickNumber_15 : decode cX4_tickNumber 15 = .ok (.iload_n 3, 1) := by decide +kernel
theorem dX4_tickNumber_16 : decode cX4_tickNumber 16 = .ok (.iload_n 2, 1) := by decide +kernel
theorem dX4_tickNumber_17 : decode cX4_tickNumber 17 = .ok (.if_icmp .lt 11, 3) := by decide +kernel
theorem dX4_tickNumber_20 : decode cX4_tickNumber 20 = .ok (.aload_n 1, 1) := by decide +kernel
theorem dX4_tickNumber_21 : decode cX4_tickNumber 21 = .ok (.iload_n 3, 1) := by decide +kernel
theorem dX4_tickNumber_22 : decode cX4_tickNumber 22 = .ok (.invokevirtual 127, 3) := by decide +kernel
theorem dX4_tickNumber_25 : decode cX4_tickNumber 25 = .ok (.ifCond .ne 10, 3) := by decide +kernel
theorem dX4_tickNumber_28 : decode cX4_tickNumber 28 = .ok (.aload_n 0, 1) := by decide +kernel
theorem dX4_tickNumber_29 : decode cX4_tickNumber 29 = .ok (.iconst 3, 1) := by decide +kernel
theorem dX4_tickNumber_30 : decode cX4_tickNumber 30 = .ok (.invokevirtual 66, 3) := by decide +kernel
theorem dX4_tickNumber_33 : decode cX4_tickNumber 33 = .ok (.iconst (-1), 1) := by decide +kernel
theorem dX4_tickNumber_34 : decode cX4_tickNumber 34 = .ok (.ireturn, 1) := by decide +kernel
theorem dX4_tickNumber_35 : decode cX4_tickNumber 35 = .ok (.aload_n 0, 1) := by decide +kernel
theorem dX4_tickNumber_36 : decode cX4_tickNumber 36 = .ok (.dup, 1) := by decide +kernel
theorem dX4_tickNumber_37 : decode cX4_tickNumber 37 = .ok (.getfield 43, 3) := by decide +kernel
theorem dX4_tickNumber_40 : decode cX4_tickNumber 40 = .ok (.iconst 1, 1) := by decide +kernel
theorem dX4_tickNumber_41 : decode cX4_tickNumber 41 = .ok (.iadd, 1) := by decide +kernel
theorem dX4_tickNumber_42 : decode cX4_tickNumber 42 = .ok (.putfield 43, 3) := by decide +kernel
theorem dX4_tickNumber_45 : decode cX4_tickNumber 45 = .ok (.iload_n 3, 1) := by decide +kernel
theorem dX4_tickNumber_46 : decode cX4_tickNumber 46 = .ok (.ireturn, 1) := by decide +kernel
theorem dX4_number_0 : decode cX4_number 0 = .ok (.aload_n 0, 1) := by decide +kernel
theorem dX4_number_1 : decode cX4_number 1 = .ok (.getfield 21, 3) := by decide +kernel
theorem dX4_number_4 : decode cX4_number 4 = .ok (.aload_n 0, 1) := by decide +kernel
theorem dX4_number_5 : decode cX4_number 5 = .ok (.getfield 43, 3) := by decide +kernel
theorem dX4_number_8 : decode cX4_number 8 = .ok (.invokevirtual 49, 3) := by decide +kernel
theorem dX4_number_11 : decode cX4_number 11 = .ok (.iconst 2, 1) := by decide +kernel
theorem dX4_number_12 : decode cX4_number 12 = .ok (.if_icmp .eq 10, 3) := by decide +kernel
theorem dX4_number_15 : decode cX4_number 15 = .ok (.aload_n 0, 1) := by decide +kernel
theorem dX4_number_16 : decode cX4_number 16 = .ok (.iconst 1, 1) := by decide +kernel
theorem dX4_number_17 : decode cX4_number 17 = .ok (.invokevirtual 66, 3) := by decide +kernel
theorem dX4_number_20 : decode cX4_number 20 = .ok (.iconst (-1), 1) := by decide +kernel
theorem dX4_number_21 : decode cX4_number 21 = .ok (.ireturn, 1) := by decide +kernel
theorem dX4_number_22 : decode cX4_number 22 = .ok (.aload_n 0, 1) := by decide +kernel
theorem dX4_number_23 : decode cX4_number 23 = .ok (.getfield 21, 3) := by decide +kernel
theorem dX4_number_26 : decode cX4_number 26 = .ok (.aload_n 0, 1) := by decide +kernel
theorem dX4_number_27 : decode cX4_number 27 = .ok (.getfield 43, 3) := by decide +kernel
theorem dX4_number_30 : decode cX4_number 30 = .ok (.invokevirtual 130, 3) := by decide +kernel
theorem dX4_number_33 : decode cX4_number 33 = .ok (.istore_n 3, 1) := by decide +kernel
theorem dX4_number_34 : decode cX4_number 34 = .ok (.iload_n 3, 1) := by decide +kernel
theorem dX4_number_35 : decode cX4_number 35 = .ok (.iload_n 1, 1) := by decide +kernel
theorem dX4_number_36 : decode cX4_number 36 = .ok (.iload_n 2, 1) := by decide +kernel
theorem dX4_number_37 : decode cX4_number 37 = .ok (.invokestatic 133, 3) := by decide +kernel
theorem dX4_number_40 : decode cX4_number 40 = .ok (.ifCond .ne 10, 3) := by decide +kernel
theorem dX4_number_43 : decode cX4_number 43 = .ok (.aload_n 0, 1) := by decide +kernel
theorem dX4_number_44 : decode cX4_number 44 = .ok (.iconst 2, 1) := by decide +kernel
theorem dX4_number_45 : decode cX4_number 45 = .ok (.invokevirtual 66, 3) := by decide +kernel
theorem dX4_number_48 : decode cX4_number 48 = .ok (.iconst (-1), 1) := by decide +kernel
theorem dX4_number_49 : decode cX4_number 49 = .ok (.ireturn, 1) := by decide +kernel
theorem dX4_number_50 : decode cX4_number 50 = .ok (.iload_n 3, 1) := by decide +kernel
theorem dX4_number_51 : decode cX4_number 51 = .ok (.ireturn, 1) := by decide +kernel
theorem dX4_readChanges_0 : decode cX4_readChanges 0 = .ok (.iconst 1, 1) := by decide +kernel
theorem dX4_readChanges_1 : decode cX4_readChanges 1 = .ok (.istore_n 1, 1) := by decide +kernel
theorem dX4_readChanges_2 : decode cX4_readChanges 2 = .ok (.iconst 0, 1) := by decide +kernel
theorem dX4_readChanges_3 : decode cX4_readChanges 3 = .ok (.istore_n 2, 1) := by decide +kernel
theorem dX4_readChanges_4 : decode cX4_readChanges 4 = .ok (.iload_n 2, 1) := by decide +kernel
theorem dX4_readChanges_5 : decode cX4_readChanges 5 = .ok (.sipush 400, 3) := by decide +kernel
theorem dX4_readChanges_8 : decode cX4_readChanges 8 = .ok (.if_icmp .ge 25, 3) := by decide +kernel
theorem dX4_readChanges_11 : decode cX4_readChanges 11 = .ok (.iload_n 1, 1) := by decide +kernel
theorem dX4_readChanges_12 : decode cX4_readChanges 12 = .ok (.ifCond .eq 21, 3) := by decide +kernel
theorem dX4_readChanges_15 : decode cX4_readChanges 15 = .ok (.aload_n 0, 1) := by decide +kernel
theorem dX4_readChanges_16 : decode cX4_readChanges 16 = .ok (.getfield 46, 3) := by decide +kernel
theorem dX4_readChanges_19 : decode cX4_readChanges 19 = .ok (.ifCond .ne 14, 3) := by decide +kernel
theorem dX4_readChanges_22 : decode cX4_readChanges 22 = .ok (.aload_n 0, 1) := by decide +kernel
theorem dX4_readChanges_23 : decode cX4_readChanges 23 = .ok (.invokevirtual 137, 3) := by decide +kernel
theorem dX4_readChanges_26 : decode cX4_readChanges 26 = .ok (.istore_n 1, 1) := by decide +kernel
theorem dX4_readChanges_27 : decode cX4_readChanges 27 = .ok (.iinc 2 1, 3) := by decide +kernel
theorem dX4_readChanges_30 : decode cX4_readChanges 30 = .ok (.goto (-26), 3) := by decide +kernel
theorem dX4_readChanges_33 : decode cX4_readChanges 33 = .ok (.return_, 1) := by decide +kernel
theorem dX4_readChange_0 : decode cX4_readChange 0 = .ok (.aload_n 0, 1) := by decide +kernel
theorem dX4_readChange_1 : decode cX4_readChange 1 = .ok (.getfield 21, 3) := by decide +kernel
theorem dX4_readChange_4 : decode cX4_readChange 4 = .ok (.aload_n 0, 1) := by decide +kernel
theorem dX4_readChange_5 : decode cX4_readChange 5 = .ok (.getfield 43, 3) := by decide +kernel
theorem dX4_readChange_8 : decode cX4_readChange 8 = .ok (.invokevirtual 49, 3) := by decide +kernel
theorem dX4_readChange_11 : decode cX4_readChange 11 = .ok (.tableswitch 98 8 10 #[25, 45, 35], 25) := by decide +kernel
theorem dX4_readChange_36 : decode cX4_readChange 36 = .ok (.aload_n 0, 1) := by decide +kernel
theorem dX4_readChange_37 : decode cX4_readChange 37 = .ok (.getfield 32, 3) := by decide +kernel
theorem dX4_readChange_40 : decode cX4_readChange 40 = .ok (.invokevirtual 141, 3) := by decide +kernel
theorem dX4_readChange_43 : decode cX4_readChange 43 = .ok (.goto 68, 3) := by decide +kernel
theorem dX4_readChange_46 : decode cX4_readChange 46 = .ok (.aload_n 0, 1) := by decide +kernel
theorem dX4_readChange_47 : decode cX4_readChange 47 = .ok (.getfield 32, 3) := by decide +kernel
theorem dX4_readChange_50 : decode cX4_readChange 50 = .ok (.invokevirtual 144, 3) := by decide +kernel
theorem dX4_readChange_53 : decode cX4_readChange 53 = .ok (.goto 58, 3) := by decide +kernel
theorem dX4_readChange_56 : decode cX4_readChange 56 = .ok (.aload_n 0, 1) := by decide +kernel
theorem dX4_readChange_57 : decode cX4_readChange 57 = .ok (.dup, 1) := by decide +kernel
theorem dX4_readChange_58 : decode cX4_readChange 58 = .ok (.getfield 43, 3) := by decide +kernel
theorem dX4_readChange_61 : decode cX4_readChange 61 = .ok (.iconst 1, 1) := by decide +kernel
theorem dX4_readChange_62 : decode cX4_readChange 62 = .ok (.iadd, 1) := by decide +kernel
theorem dX4_readChange_63 : decode cX4_readChange 63 = .ok (.putfield 43, 3) := by decide +kernel
theorem dX4_readChange_66 : decode cX4_readChange 66 = .ok (.aload_n 0, 1) := by decide +kernel
theorem dX4_readChange_67 : decode cX4_readChange 67 = .ok (.iconst 1, 1) := by decide +kernel
theorem dX4_readChange_68 : decode cX4_readChange 68 = .ok (.bipush 9, 2) := by decide +kernel
theorem dX4_readChange_70 : decode cX4_readChange 70 = .ok (.invokevirtual 108, 3) := by decide +kernel
theorem dX4_readChange_73 : decode cX4_readChange 73 = .ok (.istore_n 1, 1) := by decide +kernel
theorem dX4_readChange_74 : decode cX4_readChange 74 = .ok (.aload_n 0, 1) := by decide +kernel
theorem dX4_readChange_75 : decode cX4_readChange 75 = .ok (.aload_n 0, 1) := by decide +kernel
theorem dX4_readChange_76 : decode cX4_readChange 76 = .ok (.getfield 73, 3) := by decide +kernel
theorem dX4_readChange_79 : decode cX4_readChange 79 = .ok (.ifCond .ne 19, 3) := by decide +kernel
theorem dX4_readChange_82 : decode cX4_readChange 82 = .ok (.iload_n 1, 1) := by decide +kernel
theorem dX4_readChange_83 : decode cX4_readChange 83 = .ok (.iconst (-1), 1) := by decide +kernel
theorem dX4_readChange_84 : decode cX4_readChange 84 = .ok (.if_icmp .eq 18, 3) := by decide +kernel
theorem dX4_readChange_87 : decode cX4_readChange 87 = .ok (.aload_n 0, 1) := by decide +kernel
theorem dX4_readChange_88 : decode cX4_readChange 88 = .ok (.getfield 32, 3) := by decide +kernel
theorem dX4_readChange_91 : decode cX4_readChange 91 = .ok (.iload_n 1, 1) := by decide +kernel
theorem dX4_readChange_92 : decode cX4_readChange 92 = .ok (.invokevirtual 147, 3) := by decide +kernel
theorem dX4_readChange_95 : decode cX4_readChange 95 = .ok (.ifCond .ne 7, 3) := by decide +kernel
theorem dX4_readChange_98 : decode cX4_readChange 98 = .ok (.iconst 1, 1) := by decide +kernel
theorem dX4_readChange_99 : decode cX4_readChange 99 = .ok (.goto 4, 3) := by decide +kernel
theorem dX4_readChange_102 : decode cX4_readChange 102 = .ok (.iconst 0, 1) := by decide +kernel
theorem dX4_readChange_103 : decode cX4_readChange 103 = .ok (.putfield 73, 3) := by decide +kernel
theorem dX4_readChange_106 : decode cX4_readChange 106 = .ok (.goto 5, 3) := by decide +kernel
theorem dX4_readChange_109 : decode cX4_readChange 109 = .ok (.iconst 0, 1) := by decide +kernel
theorem dX4_readChange_110 : decode cX4_readChange 110 = .ok (.ireturn, 1) := by decide +kernel
theorem dX4_readChange_111 : decode cX4_readChange 111 = .ok (.aload_n 0, 1) := by decide +kernel
theorem dX4_readChange_112 : decode cX4_readChange 112 = .ok (.dup, 1) := by decide +kernel
theorem dX4_readChange_113 : decode cX4_readChange 113 = .ok (.getfield 43, 3) := by decide +kernel
theorem dX4_readChange_116 : decode cX4_readChange 116 = .ok (.aload_n 0, 1) := by decide +kernel
theorem dX4_readChange_117 : decode cX4_readChange 117 = .ok (.getfield 46, 3) := by decide +kernel
theorem dX4_readChange_120 : decode cX4_readChange 120 = .ok (.ifCond .ne 7, 3) := by decide +kernel
theorem dX4_readChange_123 : decode cX4_readChange 123 = .ok (.iconst 1, 1) := by decide +kernel
theorem dX4_readChange_124 : decode cX4_readChange 124 = .ok (.goto 4, 3) := by decide +kernel
theorem dX4_readChange_127 : decode cX4_readChange 127 = .ok (.iconst 0, 1) := by decide +kernel
theorem dX4_readChange_128 : decode cX4_readChange 128 = .ok (.iadd, 1) := by decide +kernel
theorem dX4_readChange_129 : decode cX4_readChange 129 = .ok (.putfield 43, 3) := by decide +kernel
theorem dX4_readChange_132 : decode cX4_readChange 132 = .ok (.iconst 1, 1) := by decide +kernel
theorem dX4_readChange_133 : decode cX4_readChange 133 = .ok (.ireturn, 1) := by decide +kernel
theorem dX4_joinPart_0 : decode cX4_joinPart 0 = .ok (.aload_n 0, 1) := by decide +kernel
theorem dX4_joinPart_1 : decode cX4_joinPart 1 = .ok (.getfield 12, 3) := by decide +kernel
theorem dX4_joinPart_4 : decode cX4_joinPart 4 = .ok (.aload_n 0, 1) := by decide +kernel
theorem dX4_joinPart_5 : decode cX4_joinPart 5 = .ok (.getfield 28, 3) := by decide +kernel
theorem dX4_joinPart_8 : decode cX4_joinPart 8 = .ok (.invokevirtual 150, 3) := by decide +kernel
theorem dX4_joinPart_11 : decode cX4_joinPart 11 = .ok (.astore_n 1, 1) := by decide +kernel
theorem dX4_joinPart_12 : decode cX4_joinPart 12 = .ok (.aload_n 1, 1) := by decide +kernel
theorem dX4_joinPart_13 : decode cX4_joinPart 13 = .ok (.ifnull 20, 3) := by decide +kernel
theorem dX4_joinPart_16 : decode cX4_joinPart 16 = .ok (.aload_n 0, 1) := by decide +kernel
theorem dX4_joinPart_17 : decode cX4_joinPart 17 = .ok (.getfield 73, 3) := by decide +kernel
theorem dX4_joinPart_20 : decode cX4_joinPart 20 = .ok (.ifCond .ne 13, 3) := by decide +kernel
theorem dX4_joinPart_23 : decode cX4_joinPart 23 = .ok (.aload_n 0, 1) := by decide +kernel
theorem dX4_joinPart_24 : decode cX4_joinPart 24 = .ok (.getfield 32, 3) := by decide +kernel
theorem dX4_joinPart_27 : decode cX4_joinPart 27 = .ok (.getfield 116, 3) := by decide +kernel
theorem dX4_joinPart_30 : decode cX4_joinPart 30 = .ok (.ifCond .ne 4, 3) := by decide +kernel
theorem dX4_joinPart_33 : decode cX4_joinPart 33 = .ok (.return_, 1) := by decide +kernel
theorem dX4_joinPart_34 : decode cX4_joinPart 34 = .ok (.aload_n 0, 1) := by decide +kernel
theorem dX4_joinPart_35 : decode cX4_joinPart 35 = .ok (.getfield 28, 3) := by decide +kernel
theorem dX4_joinPart_38 : decode cX4_joinPart 38 = .ok (.invokevirtual 154, 3) := by decide +kernel
theorem dX4_joinPart_41 : decode cX4_joinPart 41 = .ok (.istore_n 2, 1) := by decide +kernel
theorem dX4_joinPart_42 : decode cX4_joinPart 42 = .ok (.aload_n 0, 1) := by decide +kernel
theorem dX4_joinPart_43 : decode cX4_joinPart 43 = .ok (.getfield 32, 3) := by decide +kernel
theorem dX4_joinPart_46 : decode cX4_joinPart 46 = .ok (.iconst 0, 1) := by decide +kernel
theorem dX4_joinPart_47 : decode cX4_joinPart 47 = .ok (.invokevirtual 157, 3) := by decide +kernel
theorem dX4_joinPart_50 : decode cX4_joinPart 50 = .ok (.istore_n 3, 1) := by decide +kernel
theorem dX4_joinPart_51 : decode cX4_joinPart 51 = .ok (.aload_n 0, 1) := by decide +kernel
theorem dX4_joinPart_52 : decode cX4_joinPart 52 = .ok (.getfield 28, 3) := by decide +kernel
theorem dX4_joinPart_55 : decode cX4_joinPart 55 = .ok (.getfield 116, 3) := by decide +kernel
theorem dX4_joinPart_58 : decode cX4_joinPart 58 = .ok (.ifCond .ne 7, 3) := by decide +kernel
theorem dX4_joinPart_61 : decode cX4_joinPart 61 = .ok (.iconst 0, 1) := by decide +kernel
theorem dX4_joinPart_62 : decode cX4_joinPart 62 = .ok (.goto 9, 3) := by decide +kernel
theorem dX4_joinPart_65 : decode cX4_joinPart 65 = .ok (.aload_n 1, 1) := by decide +kernel
theorem dX4_joinPart_66 : decode cX4_joinPart 66 = .ok (.iload_n 2, 1) := by decide +kernel
theorem dX4_joinPart_67 : decode cX4_joinPart 67 = .ok (.iload_n 3, 1) := by decide +kernel
theorem dX4_joinPart_68 : decode cX4_joinPart 68 = .ok (.invokevirtual 160, 3) := by decide +kernel
theorem dX4_joinPart_71 : decode cX4_joinPart 71 = .ok (.istore 4, 2) := by decide +kernel
theorem dX4_joinPart_73 : decode cX4_joinPart 73 = .ok (.aload_n 0, 1) := by decide +kernel
theorem dX4_joinPart_74 : decode cX4_joinPart 74 = .ok (.getfield 28, 3) := by decide +kernel
theorem dX4_joinPart_77 : decode cX4_joinPart 77 = .ok (.getfield 116, 3) := by decide +kernel
theorem dX4_joinPart_80 : decode cX4_joinPart 80 = .ok (.iload 4, 2) := by decide +kernel
theorem dX4_joinPart_82 : decode cX4_joinPart 82 = .ok (.iadd, 1) := by decide +kernel
theorem dX4_joinPart_83 : decode cX4_joinPart 83 = .ok (.aload_n 0, 1) := by decide +kernel
theorem dX4_joinPart_84 : decode cX4_joinPart 84 = .ok (.getfield 32, 3) := by decide +kernel
theorem dX4_joinPart_87 : decode cX4_joinPart 87 = .ok (.getfield 116, 3) := by decide +kernel
theorem dX4_joinPart_90 : decode cX4_joinPart 90 = .ok (.iadd, 1) := by decide +kernel
theorem dX4_joinPart_91 : decode cX4_joinPart 91 = .ok (.bipush 40, 2) := by decide +kernel
theorem dX4_joinPart_93 : decode cX4_joinPart 93 = .ok (.if_icmp .le 9, 3) := by decide +kernel
theorem dX4_joinPart_96 : decode cX4_joinPart 96 = .ok (.aload_n 0, 1) := by decide +kernel
theorem dX4_joinPart_97 : decode cX4_joinPart 97 = .ok (.iconst 1, 1) := by decide +kernel
theorem dX4_joinPart_98 : decode cX4_joinPart 98 = .ok (.putfield 73, 3) := by decide +kernel
theorem dX4_joinPart_101 : decode cX4_joinPart 101 = .ok (.return_, 1) := by decide +kernel
theorem dX4_joinPart_102 : decode cX4_joinPart 102 = .ok (.iconst 1, 1) := by decide +kernel
theorem dX4_joinPart_103 : decode cX4_joinPart 103 = .ok (.istore 5, 2) := by decide +kernel
theorem dX4_joinPart_105 : decode cX4_joinPart 105 = .ok (.iload 5, 2) := by decide +kernel
theorem dX4_joinPart_107 : decode cX4_joinPart 107 = .ok (.iload 4, 2) := by decide +kernel
theorem dX4_joinPart_109 : decode cX4_joinPart 109 = .ok (.if_icmp .gt 30, 3) := by decide +kernel
theorem dX4_joinPart_112 : decode cX4_joinPart 112 = .ok (.aload_n 0, 1) := by decide +kernel
theorem dX4_joinPart_113 : decode cX4_joinPart 113 = .ok (.getfield 28, 3) := by decide +kernel
theorem dX4_joinPart_116 : decode cX4_joinPart 116 = .ok (.aload_n 1, 1) := by decide +kernel
theorem dX4_joinPart_117 : decode cX4_joinPart 117 = .ok (.iload_n 2, 1) := by decide +kernel
theorem dX4_joinPart_118 : decode cX4_joinPart 118 = .ok (.iload_n 3, 1) := by decide +kernel
theorem dX4_joinPart_119 : decode cX4_joinPart 119 = .ok (.iload 5, 2) := by decide +kernel
theorem dX4_joinPart_121 : decode cX4_joinPart 121 = .ok (.iload 4, 2) := by decide +kernel
theorem dX4_joinPart_123 : decode cX4_joinPart 123 = .ok (.iconst 1, 1) := by decide +kernel
theorem dX4_joinPart_124 : decode cX4_joinPart 124 = .ok (.iadd, 1) := by decide +kernel
theorem dX4_joinPart_125 : decode cX4_joinPart 125 = .ok (.invokevirtual 165, 3) := by decide +kernel
theorem dX4_joinPart_128 : decode cX4_joinPart 128 = .ok (.iconst 0, 1) := by decide +kernel
theorem dX4_joinPart_129 : decode cX4_joinPart 129 = .ok (.invokevirtual 169, 3) := by decide +kernel
theorem dX4_joinPart_132 : decode cX4_joinPart 132 = .ok (.pop, 1) := by decide +kernel
theorem dX4_joinPart_133 : decode cX4_joinPart 133 = .ok (.iinc 5 1, 3) := by decide +kernel
theorem dX4_joinPart_136 : decode cX4_joinPart 136 = .ok (.goto (-31), 3) := by decide +kernel
theorem dX4_joinPart_139 : decode cX4_joinPart 139 = .ok (.aload_n 0, 1) := by decide +kernel
theorem dX4_joinPart_140 : decode cX4_joinPart 140 = .ok (.getfield 28, 3) := by decide +kernel
theorem dX4_joinPart_143 : decode cX4_joinPart 143 = .ok (.aload_n 0, 1) := by decide +kernel
theorem dX4_joinPart_144 : decode cX4_joinPart 144 = .ok (.getfield 32, 3) := by decide +kernel
theorem dX4_joinPart_147 : decode cX4_joinPart 147 = .ok (.iconst 0, 1) := by decide +kernel
theorem dX4_joinPart_148 : decode cX4_joinPart 148 = .ok (.aload_n 0, 1) := by decide +kernel
theorem dX4_joinPart_149 : decode cX4_joinPart 149 = .ok (.getfield 32, 3) := by decide +kernel
theorem dX4_joinPart_152 : decode cX4_joinPart 152 = .ok (.getfield 116, 3) := by decide +kernel
theorem dX4_joinPart_155 : decode cX4_joinPart 155 = .ok (.iconst 1, 1) := by decide +kernel
theorem dX4_joinPart_156 : decode cX4_joinPart 156 = .ok (.isub, 1) := by decide +kernel
theorem dX4_joinPart_157 : decode cX4_joinPart 157 = .ok (.invokevirtual 119, 3) := by decide +kernel
theorem dX4_joinPart_160 : decode cX4_joinPart 160 = .ok (.return_, 1) := by decide +kernel
theorem dX5_init_0 : decode cX5_init 0 = .ok (.aload_n 0, 1) := by decide +kernel
theorem dX5_init_1 : decode cX5_init 1 = .ok (.invokespecial 3, 3) := by decide +kernel
theorem dX5_init_4 : decode cX5_init 4 = .ok (.aload_n 0, 1) := by decide +kernel
theorem dX5_init_5 : decode cX5_init 5 = .ok (.sipush 240, 3) := by decide +kernel
theorem dX5_init_8 : decode cX5_init 8 = .ok (.newarray .int, 2) := by decide +kernel
theorem dX5_init_10 : decode cX5_init 10 = .ok (.putfield 11, 3) := by decide +kernel
theorem dX5_init_13 : decode cX5_init 13 = .ok (.aload_n 0, 1) := by decide +kernel
theorem dX5_init_14 : decode cX5_init 14 = .ok (.sipush 240, 3) := by decide +kernel
theorem dX5_init_17 : decode cX5_init 17 = .ok (.newarray .int, 2) := by decide +kernel
theorem dX5_init_19 : decode cX5_init 19 = .ok (.putfield 15, 3) := by decide +kernel
theorem dX5_init_22 : decode cX5_init 22 = .ok (.aload_n 0, 1) := by decide +kernel
theorem dX5_init_23 : decode cX5_init 23 = .ok (.sipush 1600, 3) := by decide +kernel
theorem dX5_init_26 : decode cX5_init 26 = .ok (.newarray .int, 2) := by decide +kernel
theorem dX5_init_28 : decode cX5_init 28 = .ok (.putfield 18, 3) := by decide +kernel
theorem dX5_init_31 : decode cX5_init 31 = .ok (.aload_n 0, 1) := by decide +kernel
theorem dX5_init_32 : decode cX5_init 32 = .ok (.bipush 80, 2) := by decide +kernel
theorem dX5_init_34 : decode cX5_init 34 = .ok (.newarray .int, 2) := by decide +kernel
theorem dX5_init_36 : decode cX5_init 36 = .ok (.putfield 21, 3) := by decide +kernel
theorem dX5_init_39 : decode cX5_init 39 = .ok (.return_, 1) := by decide +kernel
theorem dX5_timeAt_0 : decode cX5_timeAt 0 = .ok (.iload_n 1, 1) := by decide +kernel
theorem dX5_timeAt_1 : decode cX5_timeAt 1 = .ok (.ifCond .lt 26, 3) := by decide +kernel
theorem dX5_timeAt_4 : decode cX5_timeAt 4 = .ok (.iload_n 1, 1) := by decide +kernel
theorem dX5_timeAt_5 : decode cX5_timeAt 5 = .ok (.aload_n 0, 1) := by decide +kernel
theorem dX5_timeAt_6 : decode cX5_timeAt 6 = .ok (.getfield 24, 3) := by decide +kernel
theorem dX5_timeAt_9 : decode cX5_timeAt 9 = .ok (.if_icmp .ge 18, 3) := by decide +kernel
theorem dX5_timeAt_12 : decode cX5_timeAt 12 = .ok (.iload_n 1, 1) := by decide +kernel
theorem dX5_timeAt_13 : decode cX5_timeAt 13 = .ok (.bipush 80, 2) := by decide +kernel
theorem dX5_timeAt_15 : decode cX5_timeAt 15 = .ok (.if_icmp .ge 12, 3) := by decide +kernel
theorem dX5_timeAt_18 : decode cX5_timeAt 18 = .ok (.aload_n 0, 1) := by decide +kernel
theorem dX5_timeAt_19 : decode cX5_timeAt 19 = .ok (.getfield 21, 3) := by decide +kernel
theorem dX5_timeAt_22 : decode cX5_timeAt 22 = .ok (.iload_n 1, 1) := by decide +kernel
theorem dX5_timeAt_23 : decode cX5_timeAt 23 = .ok (.iaload, 1) := by decide +kernel
theorem dX5_timeAt_24 : decode cX5_timeAt 24 = .ok (.goto 4, 3) := by decide +kernel
theorem dX5_timeAt_27 : decode cX5_timeAt 27 = .ok (.iconst (-1), 1) := by decide +kernel
theorem dX5_timeAt_28 : decode cX5_timeAt 28 = .ok (.ireturn, 1) := by decide +kernel
theorem dX5_search_0 : decode cX5_search 0 = .ok (.aload_n 0, 1) := by decide +kernel
theorem dX5_search_1 : decode cX5_search 1 = .ok (.iconst 2, 1) := by decide +kernel
theorem dX5_search_2 : decode cX5_search 2 = .ok (.aload_n 2, 1) := by decide +kernel
theorem dX5_search_3 : decode cX5_search 3 = .ok (.getfield 28, 3) := by decide +kernel
theorem dX5_search_6 : decode cX5_search 6 = .ok (.imul, 1) := by decide +kernel
theorem dX5_search_7 : decode cX5_search 7 = .ok (.putfield 33, 3) := by decide +kernel
theorem dX5_search_10 : decode cX5_search 10 = .ok (.aload_n 0, 1) := by decide +kernel
theorem dX5_search_11 : decode cX5_search 11 = .ok (.iconst 2, 1) := by decide +kernel
theorem dX5_search_12 : decode cX5_search 12 = .ok (.aload 4, 2) := by decide +kernel
theorem dX5_search_14 : decode cX5_search 14 = .ok (.getfield 28, 3) := by decide +kernel
theorem dX5_search_17 : decode cX5_search 17 = .ok (.imul, 1) := by decide +kernel
theorem dX5_search_18 : decode cX5_search 18 = .ok (.putfield 36, 3) := by decide +kernel
theorem dX5_search_21 : decode cX5_search 21 = .ok (.aload_n 0, 1) := by decide +kernel
theorem dX5_search_22 : decode cX5_search 22 = .ok (.aload_n 1, 1) := by decide +kernel
theorem dX5_search_23 : decode cX5_search 23 = .ok (.getfield 39, 3) := by decide +kernel
theorem dX5_search_26 : decode cX5_search 26 = .ok (.bipush 40, 2) := by decide +kernel
theorem dX5_search_28 : decode cX5_search 28 = .ok (.invokestatic 44, 3) := by decide +kernel
theorem dX5_search_31 : decode cX5_search 31 = .ok (.iconst 1, 1) := by decide +kernel
theorem dX5_search_32 : decode cX5_search 32 = .ok (.isub, 1) := by decide +kernel
theorem dX5_search_33 : decode cX5_search 33 = .ok (.putfield 50, 3) := by decide +kernel
theorem dX5_search_36 : decode cX5_search 36 = .ok (.aload_n 0, 1) := by decide +kernel
theorem dX5_search_37 : decode cX5_search 37 = .ok (.aload_n 3, 1) := by decide +kernel
theorem dX5_search_38 : decode cX5_search 38 = .ok (.getfield 39, 3) := by decide +kernel
theorem dX5_search_41 : decode cX5_search 41 = .ok (.bipush 40, 2) := by decide +kernel
theorem dX5_search_43 : decode cX5_search 43 = .ok (.invokestatic 44, 3) := by decide +kernel
theorem dX5_search_46 : decode cX5_search 46 = .ok (.iconst 1, 1) := by decide +kernel
theorem dX5_search_47 : decode cX5_search 47 = .ok (.isub, 1) := by decide +kernel
theorem dX5_search_48 : decode cX5_search 48 = .ok (.putfield 53, 3) := by decide +kernel
theorem dX5_search_51 : decode cX5_search 51 = .ok (.iconst 0, 1) := by decide +kernel
theorem dX5_search_52 : decode cX5_search 52 = .ok (.istore 5, 2) := by decide +kernel
theorem dX5_search_54 : decode cX5_search 54 = .ok (.iload 5, 2) := by decide +kernel
theorem dX5_search_56 : decode cX5_search 56 = .ok (.aload_n 0, 1) := by decide +kernel
theorem dX5_search_57 : decode cX5_search 57 = .ok (.getfield 50, 3) := by decide +kernel
theorem dX5_search_60 : decode cX5_search 60 = .ok (.if_icmp .gt 28, 3) := by decide +kernel
theorem dX5_search_63 : decode cX5_search 63 = .ok (.aload_n 2, 1) := by decide +kernel
theorem dX5_search_64 : decode cX5_search 64 = .ok (.aload_n 1, 1) := by decide +kernel
theorem dX5_search_65 : decode cX5_search 65 = .ok (.iload 5, 2) := by decide +kernel
theorem dX5_search_67 : decode cX5_search 67 = .ok (.invokevirtual 56, 3) := by decide +kernel
theorem dX5_search_70 : decode cX5_search 70 = .ok (.aload_n 0, 1) := by decide +kernel
theorem dX5_search_71 : decode cX5_search 71 = .ok (.getfield 11, 3) := by decide +kernel
theorem dX5_search_74 : decode cX5_search 74 = .ok (.iload 5, 2) := by decide +kernel
theorem dX5_search_76 : decode cX5_search 76 = .ok (.bipush 6, 2) := by decide +kernel
theorem dX5_search_78 : decode cX5_search 78 = .ok (.imul, 1) := by decide +kernel
theorem dX5_search_79 : decode cX5_search 79 = .ok (.invokevirtual 60, 3) := by decide +kernel
theorem dX5_search_82 : decode cX5_search 82 = .ok (.iinc 5 1, 3) := by decide +kernel
theorem dX5_search_85 : decode cX5_search 85 = .ok (.goto (-31), 3) := by decide +kernel
theorem dX5_search_88 : decode cX5_search 88 = .ok (.iconst 0, 1) := by decide +kernel
theorem dX5_search_89 : decode cX5_search 89 = .ok (.istore 5, 2) := by decide +kernel
theorem dX5_search_91 : decode cX5_search 91 = .ok (.iload 5, 2) := by decide +kernel
theorem dX5_search_93 : decode cX5_search 93 = .ok (.aload_n 0, 1) := by decide +kernel
theorem dX5_search_94 : decode cX5_search 94 = .ok (.getfield 53, 3) := by decide +kernel
theorem dX5_search_97 : decode cX5_search 97 = .ok (.if_icmp .gt 29, 3) := by decide +kernel
theorem dX5_search_100 : decode cX5_search 100 = .ok (.aload 4, 2) := by decide +kernel
theorem dX5_search_102 : decode cX5_search 102 = .ok (.aload_n 3, 1) := by decide +kernel
theorem dX5_search_103 : decode cX5_search 103 = .ok (.iload 5, 2) := by decide +kernel
theorem dX5_search_105 : decode cX5_search 105 = .ok (.invokevirtual 56, 3) := by decide +kernel
theorem dX5_search_108 : decode cX5_search 108 = .ok (.aload_n 0, 1) := by decide +kernel
theorem dX5_search_109 : decode cX5_search 109 = .ok (.getfield 15, 3) := by decide +kernel
theorem dX5_search_112 : decode cX5_search 112 = .ok (.iload 5, 2) := by decide +kernel
theorem dX5_search_114 : decode cX5_search 114 = .ok (.bipush 6, 2) := by decide +kernel
theorem dX5_search_116 : decode cX5_search 116 = .ok (.imul, 1) := by decide +kernel
theorem dX5_search_117 : decode cX5_search 117 = .ok (.invokevirtual 60, 3) := by decide +kernel
theorem dX5_search_120 : decode cX5_search 120 = .ok (.iinc 5 1, 3) := by decide +kernel
theorem dX5_search_123 : decode cX5_search 123 = .ok (.goto (-32), 3) := by decide +kernel
theorem dX5_search_126 : decode cX5_search 126 = .ok (.aload_n 0, 1) := by decide +kernel
theorem dX5_search_127 : decode cX5_search 127 = .ok (.invokevirtual 64, 3) := by decide +kernel
theorem dX5_search_130 : decode cX5_search 130 = .ok (.aload_n 0, 1) := by decide +kernel
theorem dX5_search_131 : decode cX5_search 131 = .ok (.iconst 0, 1) := by decide +kernel
theorem dX5_search_132 : decode cX5_search 132 = .ok (.iconst 0, 1) := by decide +kernel
theorem dX5_search_133 : decode cX5_search 133 = .ok (.invokevirtual 67, 3) := by decide +kernel
theorem dX5_search_136 : decode cX5_search 136 = .ok (.istore 5, 2) := by decide +kernel
theorem dX5_search_138 : decode cX5_search 138 = .ok (.iload 5, 2) := by decide +kernel
theorem dX5_search_140 : decode cX5_search 140 = .ok (.ldc 70, 2) := by decide +kernel
theorem dX5_search_142 : decode cX5_search 142 = .ok (.if_icmp .lt 6, 3) := by decide +kernel
theorem dX5_search_145 : decode cX5_search 145 = .ok (.bipush (-2), 2) := by decide +kernel
theorem dX5_search_147 : decode cX5_search 147 = .ok (.ireturn, 1) := by decide +kernel
theorem dX5_search_148 : decode cX5_search 148 = .ok (.aload_n 0, 1) := by decide +kernel
theorem dX5_search_149 : decode cX5_search 149 = .ok (.iload 5, 2) := by decide +kernel
theorem dX5_search_151 : decode cX5_search 151 = .ok (.invokevirtual 71, 3) := by decide +kernel
theorem dX5_search_154 : decode cX5_search 154 = .ok (.iload 5, 2) := by decide +kernel
theorem dX5_search_156 : decode cX5_search 156 = .ok (.ireturn, 1) := by decide +kernel
theorem dX5_fillTimes_0 : decode cX5_fillTimes 0 = .ok (.aload_n 0, 1) := by decide +kernel
theorem dX5_fillTimes_1 : decode cX5_fillTimes 1 = .ok (.getfield 50, 3) := by decide +kernel
theorem dX5_fillTimes_4 : decode cX5_fillTimes 4 = .ok (.istore_n 1, 1) := by decide +kernel
theorem dX5_fillTimes_5 : decode cX5_fillTimes 5 = .ok (.iload_n 1, 1) := by decide +kernel
theorem dX5_fillTimes_6 : decode cX5_fillTimes 6 = .ok (.ifCond .lt 84, 3) := by decide +kernel
theorem dX5_fillTimes_9 : decode cX5_fillTimes 9 = .ok (.aload_n 0, 1) := by decide +kernel
theorem dX5_fillTimes_10 : decode cX5_fillTimes 10 = .ok (.getfield 53, 3) := by decide +kernel
theorem dX5_fillTimes_13 : decode cX5_fillTimes 13 = .ok (.istore_n 2, 1) := by decide +kernel
theorem dX5_fillTimes_14 : decode cX5_fillTimes 14 = .ok (.iload_n 2, 1) := by decide +kernel
theorem dX5_fillTimes_15 : decode cX5_fillTimes 15 = .ok (.ifCond .lt 69, 3) := by decide +kernel
theorem dX5_fillTimes_18 : decode cX5_fillTimes 18 = .ok (.iload_n 1, 1) := by decide +kernel
theorem dX5_fillTimes_19 : decode cX5_fillTimes 19 = .ok (.aload_n 0, 1) := by decide +kernel
theorem dX5_fillTimes_20 : decode cX5_fillTimes 20 = .ok (.getfield 50, 3) := by decide +kernel
theorem dX5_fillTimes_23 : decode cX5_fillTimes 23 = .ok (.if_icmp .ne 15, 3) := by decide +kernel
theorem dX5_fillTimes_26 : decode cX5_fillTimes 26 = .ok (.iload_n 2, 1) := by decide +kernel
theorem dX5_fillTimes_27 : decode cX5_fillTimes 27 = .ok (.aload_n 0, 1) := by decide +kernel
theorem dX5_fillTimes_28 : decode cX5_fillTimes 28 = .ok (.getfield 53, 3) := by decide +kernel
theorem dX5_fillTimes_31 : decode cX5_fillTimes 31 = .ok (.if_icmp .ne 7, 3) := by decide +kernel
theorem dX5_fillTimes_34 : decode cX5_fillTimes 34 = .ok (.iconst 0, 1) := by decide +kernel
theorem dX5_fillTimes_35 : decode cX5_fillTimes 35 = .ok (.goto 11, 3) := by decide +kernel
theorem dX5_fillTimes_38 : decode cX5_fillTimes 38 = .ok (.iconst 1, 1) := by decide +kernel
theorem dX5_fillTimes_39 : decode cX5_fillTimes 39 = .ok (.aload_n 0, 1) := by decide +kernel
theorem dX5_fillTimes_40 : decode cX5_fillTimes 40 = .ok (.iload_n 1, 1) := by decide +kernel
theorem dX5_fillTimes_41 : decode cX5_fillTimes 41 = .ok (.iload_n 2, 1) := by decide +kernel
theorem dX5_fillTimes_42 : decode cX5_fillTimes 42 = .ok (.invokevirtual 75, 3) := by decide +kernel
theorem dX5_fillTimes_45 : decode cX5_fillTimes 45 = .ok (.iadd, 1) := by decide +kernel
theorem dX5_fillTimes_46 : decode cX5_fillTimes 46 = .ok (.istore_n 3, 1) := by decide +kernel
theorem dX5_fillTimes_47 : decode cX5_fillTimes 47 = .ok (.aload_n 0, 1) := by decide +kernel
theorem dX5_fillTimes_48 : decode cX5_fillTimes 48 = .ok (.getfield 18, 3) := by decide +kernel
theorem dX5_fillTimes_51 : decode cX5_fillTimes 51 = .ok (.iload_n 1, 1) := by decide +kernel
theorem dX5_fillTimes_52 : decode cX5_fillTimes 52 = .ok (.bipush 40, 2) := by decide +kernel
theorem dX5_fillTimes_54 : decode cX5_fillTimes 54 = .ok (.imul, 1) := by decide +kernel
theorem dX5_fillTimes_55 : decode cX5_fillTimes 55 = .ok (.iload_n 2, 1) := by decide +kernel
theorem dX5_fillTimes_56 : decode cX5_fillTimes 56 = .ok (.iadd, 1) := by decide +kernel
theorem dX5_fillTimes_57 : decode cX5_fillTimes 57 = .ok (.aload_n 0, 1) := by decide +kernel
theorem dX5_fillTimes_58 : decode cX5_fillTimes 58 = .ok (.iload_n 1, 1) := by decide +kernel
theorem dX5_fillTimes_59 : decode cX5_fillTimes 59 = .ok (.iload_n 2, 1) := by decide +kernel
theorem dX5_fillTimes_60 : decode cX5_fillTimes 60 = .ok (.invokevirtual 78, 3) := by decide +kernel
theorem dX5_fillTimes_63 : decode cX5_fillTimes 63 = .ok (.ifCond .eq 8, 3) := by decide +kernel
theorem dX5_fillTimes_66 : decode cX5_fillTimes 66 = .ok (.ldc 70, 2) := by decide +kernel
theorem dX5_fillTimes_68 : decode cX5_fillTimes 68 = .ok (.goto 9, 3) := by decide +kernel
theorem dX5_fillTimes_71 : decode cX5_fillTimes 71 = .ok (.iload_n 3, 1) := by decide +kernel
theorem dX5_fillTimes_72 : decode cX5_fillTimes 72 = .ok (.ldc 70, 2) := by decide +kernel
theorem dX5_fillTimes_74 : decode cX5_fillTimes 74 = .ok (.invokestatic 44, 3) := by decide +kernel
theorem dX5_fillTimes_77 : decode cX5_fillTimes 77 = .ok (.iastore, 1) := by decide +kernel
theorem dX5_fillTimes_78 : decode cX5_fillTimes 78 = .ok (.iinc 2 (-1), 3) := by decide +kernel
theorem dX5_fillTimes_81 : decode cX5_fillTimes 81 = .ok (.goto (-67), 3) := by decide +kernel
theorem dX5_fillTimes_84 : decode cX5_fillTimes 84 = .ok (.iinc 1 (-1), 3) := by decide +kernel
theorem dX5_fillTimes_87 : decode cX5_fillTimes 87 = .ok (.goto (-82), 3) := by decide +kernel
theorem dX5_fillTimes_90 : decode cX5_fillTimes 90 = .ok (.return_, 1) := by decide +kernel
theorem dX5_leastAfter_0 : decode cX5_leastAfter 0 = .ok (.aload_n 0, 1) := by decide +kernel
theorem dX5_leastAfter_1 : decode cX5_leastAfter 1 = .ok (.iload_n 1, 1) := by decide +kernel
theorem dX5_leastAfter_2 : decode cX5_leastAfter 2 = .ok (.iconst 1, 1) := by decide +kernel
theorem dX5_leastAfter_3 : decode cX5_leastAfter 3 = .ok (.iadd, 1) := by decide +kernel
theorem dX5_leastAfter_4 : decode cX5_leastAfter 4 = .ok (.iload_n 2, 1) := by decide +kernel
theorem dX5_leastAfter_5 : decode cX5_leastAfter 5 = .ok (.invokevirtual 67, 3) := by decide +kernel
theorem dX5_leastAfter_8 : decode cX5_leastAfter 8 = .ok (.aload_n 0, 1) := by decide +kernel
theorem dX5_leastAfter_9 : decode cX5_leastAfter 9 = .ok (.iload_n 1, 1) := by decide +kernel
theorem dX5_leastAfter_10 : decode cX5_leastAfter 10 = .ok (.iload_n 2, 1) := by decide +kernel
theorem dX5_leastAfter_11 : decode cX5_leastAfter 11 = .ok (.iconst 1, 1) := by decide +kernel
theorem dX5_leastAfter_12 : decode cX5_leastAfter 12 = .ok (.iadd, 1) := by decide +kernel
theorem dX5_leastAfter_13 : decode cX5_leastAfter 13 = .ok (.invokevirtual 67, 3) := by decide +kernel
theorem dX5_leastAfter_16 : decode cX5_leastAfter 16 = .ok (.invokestatic 44, 3) := by decide +kernel
theorem dX5_leastAfter_19 : decode cX5_leastAfter 19 = .ok (.istore_n 3, 1) := by decide +kernel
theorem dX5_leastAfter_20 : decode cX5_leastAfter 20 = .ok (.aload_n 0, 1) := by decide +kernel
theorem dX5_leastAfter_21 : decode cX5_leastAfter 21 = .ok (.iload_n 1, 1) := by decide +kernel
theorem dX5_leastAfter_22 : decode cX5_leastAfter 22 = .ok (.iconst 1, 1) := by decide +kernel
theorem dX5_leastAfter_23 : decode cX5_leastAfter 23 = .ok (.iadd, 1) := by decide +kernel
theorem dX5_leastAfter_24 : decode cX5_leastAfter 24 = .ok (.iload_n 2, 1) := by decide +kernel
theorem dX5_leastAfter_25 : decode cX5_leastAfter 25 = .ok (.iconst 1, 1) := by decide +kernel
theorem dX5_leastAfter_26 : decode cX5_leastAfter 26 = .ok (.iadd, 1) := by decide +kernel
theorem dX5_leastAfter_27 : decode cX5_leastAfter 27 = .ok (.invokevirtual 67, 3) := by decide +kernel
theorem dX5_leastAfter_30 : decode cX5_leastAfter 30 = .ok (.iload_n 3, 1) := by decide +kernel
theorem dX5_leastAfter_31 : decode cX5_leastAfter 31 = .ok (.invokestatic 44, 3) := by decide +kernel
theorem dX5_leastAfter_34 : decode cX5_leastAfter 34 = .ok (.ireturn, 1) := by decide +kernel
theorem dX5_timesFrom_0 : decode cX5_timesFrom 0 = .ok (.iload_n 1, 1) := by decide +kernel
theorem dX5_timesFrom_1 : decode cX5_timesFrom 1 = .ok (.iconst 0, 1) := by decide +kernel
theorem dX5_timesFrom_2 : decode cX5_timesFrom 2 = .ok (.aload_n 0, 1) := by decide +kernel
theorem dX5_timesFrom_3 : decode cX5_timesFrom 3 = .ok (.getfield 50, 3) := by decide +kernel
theorem dX5_timesFrom_6 : decode cX5_timesFrom 6 = .ok (.invokestatic 82, 3) := by decide +kernel
theorem dX5_timesFrom_9 : decode cX5_timesFrom 9 = .ok (.ifCond .eq 19, 3) := by decide +kernel
theorem dX5_timesFrom_12 : decode cX5_timesFrom 12 = .ok (.iload_n 2, 1) := by decide +kernel
theorem dX5_timesFrom_13 : decode cX5_timesFrom 13 = .ok (.iconst 0, 1) := by decide +kernel
theorem dX5_timesFrom_14 : decode cX5_timesFrom 14 = .ok (.aload_n 0, 1) := by decide +kernel
theorem dX5_timesFrom_15 : decode cX5_timesFrom 15 = .ok (.getfield 53, 3) := by decide +kernel
theorem dX5_timesFrom_18 : decode cX5_timesFrom 18 = .ok (.invokestatic 82, 3) := by decide +kernel
theorem dX5_timesFrom_21 : decode cX5_timesFrom 21 = .ok (.ifCond .eq 7, 3) := by decide +kernel
theorem dX5_timesFrom_24 : decode cX5_timesFrom 24 = .ok (.iconst 1, 1) := by decide +kernel
theorem dX5_timesFrom_25 : decode cX5_timesFrom 25 = .ok (.goto 4, 3) := by decide +kernel
theorem dX5_timesFrom_28 : decode cX5_timesFrom 28 = .ok (.iconst 0, 1) := by decide +kernel
theorem dX5_timesFrom_29 : decode cX5_timesFrom 29 = .ok (.istore_n 3, 1) := by decide +kernel
theorem dX5_timesFrom_30 : decode cX5_timesFrom 30 = .ok (.iload_n 1, 1) := by decide +kernel
theorem dX5_timesFrom_31 : decode cX5_timesFrom 31 = .ok (.bipush 40, 2) := by decide +kernel
theorem dX5_timesFrom_33 : decode cX5_timesFrom 33 = .ok (.imul, 1) := by decide +kernel
theorem dX5_timesFrom_34 : decode cX5_timesFrom 34 = .ok (.iload_n 2, 1) := by decide +kernel
theorem dX5_timesFrom_35 : decode cX5_timesFrom 35 = .ok (.iadd, 1) := by decide +kernel
theorem dX5_timesFrom_36 : decode cX5_timesFrom 36 = .ok (.istore 4, 2) := by decide +kernel
theorem dX5_timesFrom_38 : decode cX5_timesFrom 38 = .ok (.iload_n 3, 1) := by decide +kernel
theorem dX5_timesFrom_39 : decode cX5_timesFrom 39 = .ok (.ifCond .eq 28, 3) := by decide +kernel
theorem dX5_timesFrom_42 : decode cX5_timesFrom 42 = .ok (.iload 4, 2) := by decide +kernel
theorem dX5_timesFrom_44 : decode cX5_timesFrom 44 = .ok (.ifCond .lt 23, 3) := by decide +kernel
theorem dX5_timesFrom_47 : decode cX5_timesFrom 47 = .ok (.iload 4, 2) := by decide +kernel
theorem dX5_timesFrom_49 : decode cX5_timesFrom 49 = .ok (.aload_n 0, 1) := by decide +kernel
theorem dX5_timesFrom_50 : decode cX5_timesFrom 50 = .ok (.getfield 18, 3) := by decide +kernel
theorem dX5_timesFrom_53 : decode cX5_timesFrom 53 = .ok (.arraylength, 1) := by decide +kernel
theorem dX5_timesFrom_54 : decode cX5_timesFrom 54 = .ok (.if_icmp .ge 13, 3) := by decide +kernel
theorem dX5_timesFrom_57 : decode cX5_timesFrom 57 = .ok (.aload_n 0, 1) := by decide +kernel
theorem dX5_timesFrom_58 : decode cX5_timesFrom 58 = .ok (.getfield 18, 3) := by decide +kernel
theorem dX5_timesFrom_61 : decode cX5_timesFrom 61 = .ok (.iload 4, 2) := by decide +kernel
theorem dX5_timesFrom_63 : decode cX5_timesFrom 63 = .ok (.iaload, 1) := by decide +kernel
theorem dX5_timesFrom_64 : decode cX5_timesFrom 64 = .ok (.goto 5, 3) := by decide +kernel
theorem dX5_timesFrom_67 : decode cX5_timesFrom 67 = .ok (.ldc 70, 2) := by decide +kernel
theorem dX5_timesFrom_69 : decode cX5_timesFrom 69 = .ok (.ireturn, 1) := by decide +kernel
theorem dX5_touch_0 : decode cX5_touch 0 = .ok (.iconst 0, 1) := by decide +kernel
theorem dX5_touch_1 : decode cX5_touch 1 = .ok (.istore_n 3, 1) := by decide +kernel
theorem dX5_touch_2 : decode cX5_touch 2 = .ok (.iload_n 3, 1) := by decide +kernel
theorem dX5_touch_3 : decode cX5_touch 3 = .ok (.aload_n 0, 1) := by decide +kernel
theorem dX5_touch_4 : decode cX5_touch 4 = .ok (.getfield 33, 3) := by decide +kernel
theorem dX5_touch_7 : decode cX5_touch 7 = .ok (.if_icmp .ge 68, 3) := by decide +kernel
theorem dX5_touch_10 : decode cX5_touch 10 = .ok (.iload_n 3, 1) := by decide +kernel
theorem dX5_touch_11 : decode cX5_touch 11 = .ok (.bipush 6, 2) := by decide +kernel
theorem dX5_touch_13 : decode cX5_touch 13 = .ok (.if_icmp .ge 62, 3) := by decide +kernel
theorem dX5_touch_16 : decode cX5_touch 16 = .ok (.iconst 0, 1) := by decide +kernel
theorem dX5_touch_17 : decode cX5_touch 17 = .ok (.istore 4, 2) := by decide +kernel
theorem dX5_touch_19 : decode cX5_touch 19 = .ok (.iload 4, 2) := by decide +kernel
theorem dX5_touch_21 : decode cX5_touch 21 = .ok (.aload_n 0, 1) := by decide +kernel
theorem dX5_touch_22 : decode cX5_touch 22 = .ok (.getfield 36, 3) := by decide +kernel
theorem dX5_touch_25 : decode cX5_touch 25 = .ok (.if_icmp .ge 44, 3) := by decide +kernel
theorem dX5_touch_28 : decode cX5_touch 28 = .ok (.iload 4, 2) := by decide +kernel
theorem dX5_touch_30 : decode cX5_touch 30 = .ok (.bipush 6, 2) := by decide +kernel
theorem dX5_touch_32 : decode cX5_touch 32 = .ok (.if_icmp .ge 37, 3) := by decide +kernel
theorem dX5_touch_35 : decode cX5_touch 35 = .ok (.aload_n 0, 1) := by decide +kernel
theorem dX5_touch_36 : decode cX5_touch 36 = .ok (.getfield 11, 3) := by decide +kernel
theorem dX5_touch_39 : decode cX5_touch 39 = .ok (.iload_n 1, 1) := by decide +kernel
theorem dX5_touch_40 : decode cX5_touch 40 = .ok (.bipush 6, 2) := by decide +kernel
theorem dX5_touch_42 : decode cX5_touch 42 = .ok (.imul, 1) := by decide +kernel
theorem dX5_touch_43 : decode cX5_touch 43 = .ok (.iload_n 3, 1) := by decide +kernel
theorem dX5_touch_44 : decode cX5_touch 44 = .ok (.iadd, 1) := by decide +kernel
theorem dX5_touch_45 : decode cX5_touch 45 = .ok (.iaload, 1) := by decide +kernel
theorem dX5_touch_46 : decode cX5_touch 46 = .ok (.aload_n 0, 1) := by decide +kernel
theorem dX5_touch_47 : decode cX5_touch 47 = .ok (.getfield 15, 3) := by decide +kernel
theorem dX5_touch_50 : decode cX5_touch 50 = .ok (.iload_n 2, 1) := by decide +kernel
theorem dX5_touch_51 : decode cX5_touch 51 = .ok (.bipush 6, 2) := by decide +kernel
theorem dX5_touch_53 : decode cX5_touch 53 = .ok (.imul, 1) := by decide +kernel
theorem dX5_touch_54 : decode cX5_touch 54 = .ok (.iload 4, 2) := by decide +kernel
theorem dX5_touch_56 : decode cX5_touch 56 = .ok (.iadd, 1) := by decide +kernel
theorem dX5_touch_57 : decode cX5_touch 57 = .ok (.iaload, 1) := by decide +kernel
theorem dX5_touch_58 : decode cX5_touch 58 = .ok (.if_icmp .ne 5, 3) := by decide +kernel
theorem dX5_touch_61 : decode cX5_touch 61 = .ok (.iconst 1, 1) := by decide +kernel
theorem dX5_touch_62 : decode cX5_touch 62 = .ok (.ireturn, 1) := by decide +kernel
theorem dX5_touch_63 : decode cX5_touch 63 = .ok (.iinc 4 1, 3) := by decide +kernel
theorem dX5_touch_66 : decode cX5_touch 66 = .ok (.goto (-47), 3) := by decide +kernel
theorem dX5_touch_69 : decode cX5_touch 69 = .ok (.iinc 3 1, 3) := by decide +kernel
theorem dX5_touch_72 : decode cX5_touch 72 = .ok (.goto (-70), 3) := by decide +kernel
theorem dX5_touch_75 : decode cX5_touch 75 = .ok (.iconst 0, 1) := by decide +kernel
theorem dX5_touch_76 : decode cX5_touch 76 = .ok (.ireturn, 1) := by decide +kernel
theorem dX5_trace_0 : decode cX5_trace 0 = .ok (.iconst 0, 1) := by decide +kernel
theorem dX5_trace_1 : decode cX5_trace 1 = .ok (.istore_n 2, 1) := by decide +kernel
theorem dX5_trace_2 : decode cX5_trace 2 = .ok (.iconst 0, 1) := by decide +kernel
theorem dX5_trace_3 : decode cX5_trace 3 = .ok (.istore_n 3, 1) := by decide +kernel
theorem dX5_trace_4 : decode cX5_trace 4 = .ok (.aload_n 0, 1) := by decide +kernel
theorem dX5_trace_5 : decode cX5_trace 5 = .ok (.iconst 0, 1) := by decide +kernel
theorem dX5_trace_6 : decode cX5_trace 6 = .ok (.putfield 24, 3) := by decide +kernel
theorem dX5_trace_9 : decode cX5_trace 9 = .ok (.iconst 0, 1) := by decide +kernel
theorem dX5_trace_10 : decode cX5_trace 10 = .ok (.istore 4, 2) := by decide +kernel
theorem dX5_trace_12 : decode cX5_trace 12 = .ok (.iload 4, 2) := by decide +kernel
theorem dX5_trace_14 : decode cX5_trace 14 = .ok (.iload_n 1, 1) := by decide +kernel
theorem dX5_trace_15 : decode cX5_trace 15 = .ok (.if_icmp .gt 123, 3) := by decide +kernel
theorem dX5_trace_18 : decode cX5_trace 18 = .ok (.iload 4, 2) := by decide +kernel
theorem dX5_trace_20 : decode cX5_trace 20 = .ok (.bipush 80, 2) := by decide +kernel
theorem dX5_trace_22 : decode cX5_trace 22 = .ok (.if_icmp .ge 116, 3) := by decide +kernel
theorem dX5_trace_25 : decode cX5_trace 25 = .ok (.aload_n 0, 1) := by decide +kernel
theorem dX5_trace_26 : decode cX5_trace 26 = .ok (.getfield 21, 3) := by decide +kernel
theorem dX5_trace_29 : decode cX5_trace 29 = .ok (.iload 4, 2) := by decide +kernel
theorem dX5_trace_31 : decode cX5_trace 31 = .ok (.iload_n 2, 1) := by decide +kernel
theorem dX5_trace_32 : decode cX5_trace 32 = .ok (.bipush 64, 2) := by decide +kernel
theorem dX5_trace_34 : decode cX5_trace 34 = .ok (.iload_n 3, 1) := by decide +kernel
theorem dX5_trace_35 : decode cX5_trace 35 = .ok (.imul, 1) := by decide +kernel
theorem dX5_trace_36 : decode cX5_trace 36 = .ok (.iadd, 1) := by decide +kernel
theorem dX5_trace_37 : decode cX5_trace 37 = .ok (.iastore, 1) := by decide +kernel
theorem dX5_trace_38 : decode cX5_trace 38 = .ok (.aload_n 0, 1) := by decide +kernel
theorem dX5_trace_39 : decode cX5_trace 39 = .ok (.iload 4, 2) := by decide +kernel
theorem dX5_trace_41 : decode cX5_trace 41 = .ok (.iconst 1, 1) := by decide +kernel
theorem dX5_trace_42 : decode cX5_trace 42 = .ok (.iadd, 1) := by decide +kernel
theorem dX5_trace_43 : decode cX5_trace 43 = .ok (.putfield 24, 3) := by decide +kernel
theorem dX5_trace_46 : decode cX5_trace 46 = .ok (.iload_n 1, 1) := by decide +kernel
theorem dX5_trace_47 : decode cX5_trace 47 = .ok (.iload 4, 2) := by decide +kernel
theorem dX5_trace_49 : decode cX5_trace 49 = .ok (.isub, 1) := by decide +kernel
theorem dX5_trace_50 : decode cX5_trace 50 = .ok (.iconst 1, 1) := by decide +kernel
theorem dX5_trace_51 : decode cX5_trace 51 = .ok (.isub, 1) := by decide +kernel
theorem dX5_trace_52 : decode cX5_trace 52 = .ok (.istore 5, 2) := by decide +kernel
theorem dX5_trace_54 : decode cX5_trace 54 = .ok (.aload_n 0, 1) := by decide +kernel
theorem dX5_trace_55 : decode cX5_trace 55 = .ok (.iload_n 2, 1) := by decide +kernel
theorem dX5_trace_56 : decode cX5_trace 56 = .ok (.iconst 1, 1) := by decide +kernel
theorem dX5_trace_57 : decode cX5_trace 57 = .ok (.iadd, 1) := by decide +kernel
theorem dX5_trace_58 : decode cX5_trace 58 = .ok (.iload_n 3, 1) := by decide +kernel
theorem dX5_trace_59 : decode cX5_trace 59 = .ok (.iconst 1, 1) := by decide +kernel
theorem dX5_trace_60 : decode cX5_trace 60 = .ok (.iadd, 1) := by decide +kernel
theorem dX5_trace_61 : decode cX5_trace 61 = .ok (.invokevirtual 67, 3) := by decide +kernel
theorem dX5_trace_64 : decode cX5_trace 64 = .ok (.iload 5, 2) := by decide +kernel
theorem dX5_trace_66 : decode cX5_trace 66 = .ok (.if_icmp .ne 7, 3) := by decide +kernel
theorem dX5_trace_69 : decode cX5_trace 69 = .ok (.iconst 1, 1) := by decide +kernel
theorem dX5_trace_70 : decode cX5_trace 70 = .ok (.goto 4, 3) := by decide +kernel
theorem dX5_trace_73 : decode cX5_trace 73 = .ok (.iconst 0, 1) := by decide +kernel
theorem dX5_trace_74 : decode cX5_trace 74 = .ok (.istore 6, 2) := by decide +kernel
theorem dX5_trace_76 : decode cX5_trace 76 = .ok (.iload 6, 2) := by decide +kernel
theorem dX5_trace_78 : decode cX5_trace 78 = .ok (.ifCond .ne 16, 3) := by decide +kernel
theorem dX5_trace_81 : decode cX5_trace 81 = .ok (.aload_n 0, 1) := by decide +kernel
theorem dX5_trace_82 : decode cX5_trace 82 = .ok (.iload_n 2, 1) := by decide +kernel
theorem dX5_trace_83 : decode cX5_trace 83 = .ok (.iconst 1, 1) := by decide +kernel
theorem dX5_trace_84 : decode cX5_trace 84 = .ok (.iadd, 1) := by decide +kernel
theorem dX5_trace_85 : decode cX5_trace 85 = .ok (.iload_n 3, 1) := by decide +kernel
theorem dX5_trace_86 : decode cX5_trace 86 = .ok (.invokevirtual 67, 3) := by decide +kernel
theorem dX5_trace_89 : decode cX5_trace 89 = .ok (.iload 5, 2) := by decide +kernel
theorem dX5_trace_91 : decode cX5_trace 91 = .ok (.if_icmp .ne 7, 3) := by decide +kernel
theorem dX5_trace_94 : decode cX5_trace 94 = .ok (.iconst 1, 1) := by decide +kernel
theorem dX5_trace_95 : decode cX5_trace 95 = .ok (.goto 4, 3) := by decide +kernel
theorem dX5_trace_98 : decode cX5_trace 98 = .ok (.iconst 0, 1) := by decide +kernel
theorem dX5_trace_99 : decode cX5_trace 99 = .ok (.istore 7, 2) := by decide +kernel
theorem dX5_trace_101 : decode cX5_trace 101 = .ok (.iload_n 2, 1) := by decide +kernel
theorem dX5_trace_102 : decode cX5_trace 102 = .ok (.iload 7, 2) := by decide +kernel
theorem dX5_trace_104 : decode cX5_trace 104 = .ok (.ifCond .eq 7, 3) := by decide +kernel
theorem dX5_trace_107 : decode cX5_trace 107 = .ok (.iconst 1, 1) := by decide +kernel
theorem dX5_trace_108 : decode cX5_trace 108 = .ok (.goto 4, 3) := by decide +kernel
theorem dX5_trace_111 : decode cX5_trace 111 = .ok (.iconst 0, 1) := by decide +kernel
theorem dX5_trace_112 : decode cX5_trace 112 = .ok (.iadd, 1) := by decide +kernel
theorem dX5_trace_113 : decode cX5_trace 113 = .ok (.istore_n 2, 1) := by decide +kernel
theorem dX5_trace_114 : decode cX5_trace 114 = .ok (.iload_n 3, 1) := by decide +kernel
theorem dX5_trace_115 : decode cX5_trace 115 = .ok (.iload 6, 2) := by decide +kernel
theorem dX5_trace_117 : decode cX5_trace 117 = .ok (.ifCond .ne 8, 3) := by decide +kernel
theorem dX5_trace_120 : decode cX5_trace 120 = .ok (.iload 7, 2) := by decide +kernel
theorem dX5_trace_122 : decode cX5_trace 122 = .ok (.ifCond .ne 7, 3) := by decide +kernel
theorem dX5_trace_125 : decode cX5_trace 125 = .ok (.iconst 1, 1) := by decide +kernel
theorem dX5_trace_126 : decode cX5_trace 126 = .ok (.goto 4, 3) := by decide +kernel
theorem dX5_trace_129 : decode cX5_trace 129 = .ok (.iconst 0, 1) := by decide +kernel
theorem dX5_trace_130 : decode cX5_trace 130 = .ok (.iadd, 1) := by decide +kernel
theorem dX5_trace_131 : decode cX5_trace 131 = .ok (.istore_n 3, 1) := by decide +kernel
theorem dX5_trace_132 : decode cX5_trace 132 = .ok (.iinc 4 1, 3) := by decide +kernel
theorem dX5_trace_135 : decode cX5_trace 135 = .ok (.goto (-123), 3) := by decide +kernel
theorem dX5_trace_138 : decode cX5_trace 138 = .ok (.return_, 1) := by decide +kernel
theorem dX6_init_0 : decode cX6_init 0 = .ok (.aload_n 0, 1) := by decide +kernel
theorem dX6_init_1 : decode cX6_init 1 = .ok (.invokespecial 3, 3) := by decide +kernel
theorem dX6_init_4 : decode cX6_init 4 = .ok (.aload_n 0, 1) := by decide +kernel
theorem dX6_init_5 : decode cX6_init 5 = .ok (.bipush 10, 2) := by decide +kernel
theorem dX6_init_7 : decode cX6_init 7 = .ok (.newarray .int, 2) := by decide +kernel
theorem dX6_init_9 : decode cX6_init 9 = .ok (.putfield 9, 3) := by decide +kernel
theorem dX6_init_12 : decode cX6_init 12 = .ok (.aload_n 0, 1) := by decide +kernel
theorem dX6_init_13 : decode cX6_init 13 = .ok (.bipush 10, 2) := by decide +kernel
theorem dX6_init_15 : decode cX6_init 15 = .ok (.newarray .int, 2) := by decide +kernel
theorem dX6_init_17 : decode cX6_init 17 = .ok (.putfield 15, 3) := by decide +kernel
theorem dX6_init_20 : decode cX6_init 20 = .ok (.aload_n 0, 1) := by decide +kernel
theorem dX6_init_21 : decode cX6_init 21 = .ok (.iconst 5, 1) := by decide +kernel
theorem dX6_init_22 : decode cX6_init 22 = .ok (.newarray .int, 2) := by decide +kernel
theorem dX6_init_24 : decode cX6_init 24 = .ok (.putfield 18, 3) := by decide +kernel
theorem dX6_init_27 : decode cX6_init 27 = .ok (.aload_n 0, 1) := by decide +kernel
theorem dX6_init_28 : decode cX6_init 28 = .ok (.iconst 5, 1) := by decide +kernel
theorem dX6_init_29 : decode cX6_init 29 = .ok (.newarray .int, 2) := by decide +kernel
theorem dX6_init_31 : decode cX6_init 31 = .ok (.putfield 21, 3) := by decide +kernel
theorem dX6_init_34 : decode cX6_init 34 = .ok (.aload_n 0, 1) := by decide +kernel
theorem dX6_init_35 : decode cX6_init 35 = .ok (.bipush 10, 2) := by decide +kernel
theorem dX6_init_37 : decode cX6_init 37 = .ok (.newarray .boolean, 2) := by decide +kernel
theorem dX6_init_39 : decode cX6_init 39 = .ok (.putfield 24, 3) := by decide +kernel
theorem dX6_init_42 : decode cX6_init 42 = .ok (.aload_n 0, 1) := by decide +kernel
theorem dX6_init_43 : decode cX6_init 43 = .ok (.bipush 64, 2) := by decide +kernel
theorem dX6_init_45 : decode cX6_init 45 = .ok (.newarray .int, 2) := by decide +kernel
theorem dX6_init_47 : decode cX6_init 47 = .ok (.putfield 28, 3) := by decide +kernel
theorem dX6_init_50 : decode cX6_init 50 = .ok (.aload_n 0, 1) := by decide +kernel
theorem dX6_init_51 : decode cX6_init 51 = .ok (.sipush 160, 3) := by decide +kernel
theorem dX6_init_54 : decode cX6_init 54 = .ok (.newarray .int, 2) := by decide +kernel
theorem dX6_init_56 : decode cX6_init 56 = .ok (.putfield 31, 3) := by decide +kernel
theorem dX6_init_59 : decode cX6_init 59 = .ok (.return_, 1) := by decide +kernel
theorem dX6_search_0 : decode cX6_search 0 = .ok (.aload_n 0, 1) := by decide +kernel
theorem dX6_search_1 : decode cX6_search 1 = .ok (.iconst 0, 1) := by decide +kernel
theorem dX6_search_2 : decode cX6_search 2 = .ok (.putfield 34, 3) := by decide +kernel
theorem dX6_search_5 : decode cX6_search 5 = .ok (.iconst 0, 1) := by decide +kernel
theorem dX6_search_6 : decode cX6_search 6 = .ok (.istore 5, 2) := by decide +kernel
theorem dX6_search_8 : decode cX6_search 8 = .ok (.iload 5, 2) := by decide +kernel
theorem dX6_search_10 : decode cX6_search 10 = .ok (.bipush 10, 2) := by decide +kernel
theorem dX6_search_12 : decode cX6_search 12 = .ok (.if_icmp .ge 102, 3) := by decide +kernel
theorem dX6_search_15 : decode cX6_search 15 = .ok (.aload_n 1, 1) := by decide +kernel
theorem dX6_search_16 : decode cX6_search 16 = .ok (.iload 5, 2) := by decide +kernel
theorem dX6_search_18 : decode cX6_search 18 = .ok (.invokevirtual 38, 3) := by decide +kernel
theorem dX6_search_21 : decode cX6_search 21 = .ok (.astore 6, 2) := by decide +kernel
theorem dX6_search_23 : decode cX6_search 23 = .ok (.aload 6, 2) := by decide +kernel
theorem dX6_search_25 : decode cX6_search 25 = .ok (.ifnull 83, 3) := by decide +kernel
theorem dX6_search_28 : decode cX6_search 28 = .ok (.iload_n 3, 1) := by decide +kernel
theorem dX6_search_29 : decode cX6_search 29 = .ok (.iload 5, 2) := by decide +kernel
theorem dX6_search_31 : decode cX6_search 31 = .ok (.ishr, 1) := by decide +kernel
theorem dX6_search_32 : decode cX6_search 32 = .ok (.iconst 1, 1) := by decide +kernel
theorem dX6_search_33 : decode cX6_search 33 = .ok (.iand, 1) := by decide +kernel
theorem dX6_search_34 : decode cX6_search 34 = .ok (.iconst 1, 1) := by decide +kernel
theorem dX6_search_35 : decode cX6_search 35 = .ok (.if_icmp .ne 73, 3) := by decide +kernel
theorem dX6_search_38 : decode cX6_search 38 = .ok (.aload_n 0, 1) := by decide +kernel
theorem dX6_search_39 : decode cX6_search 39 = .ok (.getfield 34, 3) := by decide +kernel
theorem dX6_search_42 : decode cX6_search 42 = .ok (.iconst 5, 1) := by decide +kernel
theorem dX6_search_43 : decode cX6_search 43 = .ok (.if_icmp .ge 65, 3) := by decide +kernel
theorem dX6_search_46 : decode cX6_search 46 = .ok (.aload_n 0, 1) := by decide +kernel
theorem dX6_search_47 : decode cX6_search 47 = .ok (.getfield 21, 3) := by decide +kernel
theorem dX6_search_50 : decode cX6_search 50 = .ok (.aload_n 0, 1) := by decide +kernel
theorem dX6_search_51 : decode cX6_search 51 = .ok (.getfield 34, 3) := by decide +kernel
theorem dX6_search_54 : decode cX6_search 54 = .ok (.iload 5, 2) := by decide +kernel
theorem dX6_search_56 : decode cX6_search 56 = .ok (.iastore, 1) := by decide +kernel
theorem dX6_search_57 : decode cX6_search 57 = .ok (.aload_n 0, 1) := by decide +kernel
theorem dX6_search_58 : decode cX6_search 58 = .ok (.getfield 18, 3) := by decide +kernel
theorem dX6_search_61 : decode cX6_search 61 = .ok (.aload_n 0, 1) := by decide +kernel
theorem dX6_search_62 : decode cX6_search 62 = .ok (.getfield 34, 3) := by decide +kernel
theorem dX6_search_65 : decode cX6_search 65 = .ok (.aload 6, 2) := by decide +kernel
theorem dX6_search_67 : decode cX6_search 67 = .ok (.getfield 44, 3) := by decide +kernel
theorem dX6_search_70 : decode cX6_search 70 = .ok (.iastore, 1) := by decide +kernel
theorem dX6_search_71 : decode cX6_search 71 = .ok (.iconst 0, 1) := by decide +kernel
theorem dX6_search_72 : decode cX6_search 72 = .ok (.istore 7, 2) := by decide +kernel
theorem dX6_search_74 : decode cX6_search 74 = .ok (.iload 7, 2) := by decide +kernel
theorem dX6_search_76 : decode cX6_search 76 = .ok (.iconst 2, 1) := by decide +kernel
theorem dX6_search_77 : decode cX6_search 77 = .ok (.if_icmp .ge 21, 3) := by decide +kernel
theorem dX6_search_80 : decode cX6_search 80 = .ok (.aload_n 0, 1) := by decide +kernel
theorem dX6_search_81 : decode cX6_search 81 = .ok (.aload_n 1, 1) := by decide +kernel
theorem dX6_search_82 : decode cX6_search 82 = .ok (.aload_n 2, 1) := by decide +kernel
theorem dX6_search_83 : decode cX6_search 83 = .ok (.aload 6, 2) := by decide +kernel
theorem dX6_search_85 : decode cX6_search 85 = .ok (.iload 7, 2) := by decide +kernel
theorem dX6_search_87 : decode cX6_search 87 = .ok (.iload 4, 2) := by decide +kernel
theorem dX6_search_89 : decode cX6_search 89 = .ok (.invokevirtual 48, 3) := by decide +kernel
theorem dX6_search_92 : decode cX6_search 92 = .ok (.iinc 7 1, 3) := by decide +kernel
theorem dX6_search_95 : decode cX6_search 95 = .ok (.goto (-21), 3) := by decide +kernel
theorem dX6_search_98 : decode cX6_search 98 = .ok (.aload_n 0, 1) := by decide +kernel
theorem dX6_search_99 : decode cX6_search 99 = .ok (.dup, 1) := by decide +kernel
theorem dX6_search_100 : decode cX6_search 100 = .ok (.getfield 34, 3) := by decide +kernel
theorem dX6_search_103 : decode cX6_search 103 = .ok (.iconst 1, 1) := by decide +kernel
theorem dX6_search_104 : decode cX6_search 104 = .ok (.iadd, 1) := by decide +kernel
theorem dX6_search_105 : decode cX6_search 105 = .ok (.putfield 34, 3) := by decide +kernel
theorem dX6_search_108 : decode cX6_search 108 = .ok (.iinc 5 1, 3) := by decide +kernel
theorem dX6_search_111 : decode cX6_search 111 = .ok (.goto (-103), 3) := by decide +kernel
theorem dX6_search_114 : decode cX6_search 114 = .ok (.iconst 0, 1) := by decide +kernel
theorem dX6_search_115 : decode cX6_search 115 = .ok (.istore 5, 2) := by decide +kernel
theorem dX6_search_117 : decode cX6_search 117 = .ok (.iload 5, 2) := by decide +kernel
theorem dX6_search_119 : decode cX6_search 119 = .ok (.iconst 2, 1) := by decide +kernel
theorem dX6_search_120 : decode cX6_search 120 = .ok (.if_icmp .ge 30, 3) := by decide +kernel
theorem dX6_search_123 : decode cX6_search 123 = .ok (.aload_n 1, 1) := by decide +kernel
theorem dX6_search_124 : decode cX6_search 124 = .ok (.iload 5, 2) := by decide +kernel
theorem dX6_search_126 : decode cX6_search 126 = .ok (.invokevirtual 52, 3) := by decide +kernel
theorem dX6_search_129 : decode cX6_search 129 = .ok (.astore 6, 2) := by decide +kernel
theorem dX6_search_131 : decode cX6_search 131 = .ok (.aload 6, 2) := by decide +kernel
theorem dX6_search_133 : decode cX6_search 133 = .ok (.ifnull 11, 3) := by decide +kernel
theorem dX6_search_136 : decode cX6_search 136 = .ok (.aload_n 0, 1) := by decide +kernel
theorem dX6_search_137 : decode cX6_search 137 = .ok (.aload 6, 2) := by decide +kernel
theorem dX6_search_139 : decode cX6_search 139 = .ok (.iload 5, 2) := by decide +kernel
theorem dX6_search_141 : decode cX6_search 141 = .ok (.invokevirtual 56, 3) := by decide +kernel
theorem dX6_search_144 : decode cX6_search 144 = .ok (.iinc 5 1, 3) := by decide +kernel
theorem dX6_search_147 : decode cX6_search 147 = .ok (.goto (-30), 3) := by decide +kernel
theorem dX6_search_150 : decode cX6_search 150 = .ok (.aload_n 0, 1) := by decide +kernel
theorem dX6_search_151 : decode cX6_search 151 = .ok (.invokevirtual 60, 3) := by decide +kernel
theorem dX6_search_154 : decode cX6_search 154 = .ok (.return_, 1) := by decide +kernel
theorem dX6_putTape_0 : decode cX6_putTape 0 = .ok (.iload 4, 2) := by decide +kernel
theorem dX6_putTape_2 : decode cX6_putTape 2 = .ok (.iconst 5, 1) := by decide +kernel
theorem dX6_putTape_3 : decode cX6_putTape 3 = .ok (.imul, 1) := by decide +kernel
theorem dX6_putTape_4 : decode cX6_putTape 4 = .ok (.aload_n 0, 1) := by decide +kernel
theorem dX6_putTape_5 : decode cX6_putTape 5 = .ok (.getfield 34, 3) := by decide +kernel
theorem dX6_putTape_8 : decode cX6_putTape 8 = .ok (.iadd, 1) := by decide +kernel
theorem dX6_putTape_9 : decode cX6_putTape 9 = .ok (.istore 6, 2) := by decide +kernel
theorem dX6_putTape_11 : decode cX6_putTape 11 = .ok (.aload_n 1, 1) := by decide +kernel
theorem dX6_putTape_12 : decode cX6_putTape 12 = .ok (.aload_n 3, 1) := by decide +kernel
theorem dX6_putTape_13 : decode cX6_putTape 13 = .ok (.invokevirtual 63, 3) := by decide +kernel
theorem dX6_putTape_16 : decode cX6_putTape 16 = .ok (.astore 7, 2) := by decide +kernel
theorem dX6_putTape_18 : decode cX6_putTape 18 = .ok (.aload_n 1, 1) := by decide +kernel
theorem dX6_putTape_19 : decode cX6_putTape 19 = .ok (.iload 4, 2) := by decide +kernel
theorem dX6_putTape_21 : decode cX6_putTape 21 = .ok (.invokevirtual 52, 3) := by decide +kernel
theorem dX6_putTape_24 : decode cX6_putTape 24 = .ok (.astore 8, 2) := by decide +kernel
theorem dX6_putTape_26 : decode cX6_putTape 26 = .ok (.aload 7, 2) := by decide +kernel
theorem dX6_putTape_28 : decode cX6_putTape 28 = .ok (.ifnull 23, 3) := by decide +kernel
theorem dX6_putTape_31 : decode cX6_putTape 31 = .ok (.aload 8, 2) := by decide +kernel
theorem dX6_putTape_33 : decode cX6_putTape 33 = .ok (.ifnull 18, 3) := by decide +kernel
theorem dX6_putTape_36 : decode cX6_putTape 36 = .ok (.iload 6, 2) := by decide +kernel
theorem dX6_putTape_38 : decode cX6_putTape 38 = .ok (.ifCond .lt 13, 3) := by decide +kernel
theorem dX6_putTape_41 : decode cX6_putTape 41 = .ok (.iload 6, 2) := by decide +kernel
theorem dX6_putTape_43 : decode cX6_putTape 43 = .ok (.aload_n 0, 1) := by decide +kernel
theorem dX6_putTape_44 : decode cX6_putTape 44 = .ok (.getfield 24, 3) := by decide +kernel
theorem dX6_putTape_47 : decode cX6_putTape 47 = .ok (.arraylength, 1) := by decide +kernel
theorem dX6_putTape_48 : decode cX6_putTape 48 = .ok (.if_icmp .lt 4, 3) := by decide +kernel
theorem dX6_putTape_51 : decode cX6_putTape 51 = .ok (.return_, 1) := by decide +kernel
theorem dX6_putTape_52 : decode cX6_putTape 52 = .ok (.aload_n 3, 1) := by decide +kernel
theorem dX6_putTape_53 : decode cX6_putTape 53 = .ok (.getfield 67, 3) := by decide +kernel
theorem dX6_putTape_56 : decode cX6_putTape 56 = .ok (.iload 4, 2) := by decide +kernel
theorem dX6_putTape_58 : decode cX6_putTape 58 = .ok (.if_icmp .ne 37, 3) := by decide +kernel
theorem dX6_putTape_61 : decode cX6_putTape 61 = .ok (.aload_n 0, 1) := by decide +kernel
theorem dX6_putTape_62 : decode cX6_putTape 62 = .ok (.getfield 24, 3) := by decide +kernel
theorem dX6_putTape_65 : decode cX6_putTape 65 = .ok (.iload 6, 2) := by decide +kernel
theorem dX6_putTape_67 : decode cX6_putTape 67 = .ok (.iconst 1, 1) := by decide +kernel
theorem dX6_putTape_68 : decode cX6_putTape 68 = .ok (.bastore, 1) := by decide +kernel
theorem dX6_putTape_69 : decode cX6_putTape 69 = .ok (.aload_n 0, 1) := by decide +kernel
theorem dX6_putTape_70 : decode cX6_putTape 70 = .ok (.getfield 9, 3) := by decide +kernel
theorem dX6_putTape_73 : decode cX6_putTape 73 = .ok (.iload 6, 2) := by decide +kernel
theorem dX6_putTape_75 : decode cX6_putTape 75 = .ok (.aload_n 3, 1) := by decide +kernel
theorem dX6_putTape_76 : decode cX6_putTape 76 = .ok (.iconst 0, 1) := by decide +kernel
theorem dX6_putTape_77 : decode cX6_putTape 77 = .ok (.invokevirtual 70, 3) := by decide +kernel
theorem dX6_putTape_80 : decode cX6_putTape 80 = .ok (.iastore, 1) := by decide +kernel
theorem dX6_putTape_81 : decode cX6_putTape 81 = .ok (.aload_n 0, 1) := by decide +kernel
theorem dX6_putTape_82 : decode cX6_putTape 82 = .ok (.getfield 15, 3) := by decide +kernel
theorem dX6_putTape_85 : decode cX6_putTape 85 = .ok (.iload 6, 2) := by decide +kernel
theorem dX6_putTape_87 : decode cX6_putTape 87 = .ok (.aload_n 3, 1) := by decide +kernel
theorem dX6_putTape_88 : decode cX6_putTape 88 = .ok (.invokevirtual 74, 3) := by decide +kernel
theorem dX6_putTape_91 : decode cX6_putTape 91 = .ok (.iastore, 1) := by decide +kernel
theorem dX6_putTape_92 : decode cX6_putTape 92 = .ok (.goto 51, 3) := by decide +kernel
theorem dX6_putTape_95 : decode cX6_putTape 95 = .ok (.aload_n 0, 1) := by decide +kernel
theorem dX6_putTape_96 : decode cX6_putTape 96 = .ok (.getfield 24, 3) := by decide +kernel
theorem dX6_putTape_99 : decode cX6_putTape 99 = .ok (.iload 6, 2) := by decide +kernel
theorem dX6_putTape_101 : decode cX6_putTape 101 = .ok (.aload_n 2, 1) := by decide +kernel
theorem dX6_putTape_102 : decode cX6_putTape 102 = .ok (.aload_n 3, 1) := by decide +kernel
theorem dX6_putTape_103 : decode cX6_putTape 103 = .ok (.aload 7, 2) := by decide +kernel
theorem dX6_putTape_105 : decode cX6_putTape 105 = .ok (.aload 8, 2) := by decide +kernel
theorem dX6_putTape_107 : decode cX6_putTape 107 = .ok (.iconst 0, 1) := by decide +kernel
theorem dX6_putTape_108 : decode cX6_putTape 108 = .ok (.iload 5, 2) := by decide +kernel
theorem dX6_putTape_110 : decode cX6_putTape 110 = .ok (.invokevirtual 78, 3) := by decide +kernel
theorem dX6_putTape_113 : decode cX6_putTape 113 = .ok (.bastore, 1) := by decide +kernel
theorem dX6_putTape_114 : decode cX6_putTape 114 = .ok (.aload_n 0, 1) := by decide +kernel
theorem dX6_putTape_115 : decode cX6_putTape 115 = .ok (.getfield 9, 3) := by decide +kernel
theorem dX6_putTape_118 : decode cX6_putTape 118 = .ok (.iload 6, 2) := by decide +kernel
theorem dX6_putTape_120 : decode cX6_putTape 120 = .ok (.aload_n 2, 1) := by decide +kernel
theorem dX6_putTape_121 : decode cX6_putTape 121 = .ok (.iconst 0, 1) := by decide +kernel
theorem dX6_putTape_122 : decode cX6_putTape 122 = .ok (.invokevirtual 84, 3) := by decide +kernel
theorem dX6_putTape_125 : decode cX6_putTape 125 = .ok (.iastore, 1) := by decide +kernel
theorem dX6_putTape_126 : decode cX6_putTape 126 = .ok (.aload_n 0, 1) := by decide +kernel
theorem dX6_putTape_127 : decode cX6_putTape 127 = .ok (.getfield 15, 3) := by decide +kernel
theorem dX6_putTape_130 : decode cX6_putTape 130 = .ok (.iload 6, 2) := by decide +kernel
theorem dX6_putTape_132 : decode cX6_putTape 132 = .ok (.aload_n 2, 1) := by decide +kernel
theorem dX6_putTape_133 : decode cX6_putTape 133 = .ok (.aload_n 3, 1) := by decide +kernel
theorem dX6_putTape_134 : decode cX6_putTape 134 = .ok (.getfield 44, 3) := by decide +kernel
