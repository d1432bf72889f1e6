theorem dX12_slows_43 : decode cX12_slows 43 = .ok (.iload_n 3, 1) := by decide +kernel
theorem dX12_slows_44 : decode cX12_slows 44 = .ok (.iload_n 1, 1) := by decide +kernel
theorem dX12_slows_45 : decode cX12_slows 45 = .ok (.idiv, 1) := by decide +kernel
theorem dX12_slows_46 : decode cX12_slows 46 = .ok (.iaload, 1) := by decide +kernel
theorem dX12_slows_47 : decode cX12_slows 47 = .ok (.iastore, 1) := by decide +kernel
theorem dX12_slows_48 : decode cX12_slows 48 = .ok (.iinc 3 (-1), 3) := by decide +kernel
theorem dX12_slows_51 : decode cX12_slows 51 = .ok (.goto (-35), 3) := by decide +kernel
theorem dX12_slows_54 : decode cX12_slows 54 = .ok (.aload_n 0, 1) := by decide +kernel
theorem dX12_slows_55 : decode cX12_slows 55 = .ok (.iload_n 2, 1) := by decide +kernel
theorem dX12_slows_56 : decode cX12_slows 56 = .ok (.putfield 260, 3) := by decide +kernel
theorem dX12_slows_59 : decode cX12_slows 59 = .ok (.return_, 1) := by decide +kernel
theorem dX12_out_0 : decode cX12_out 0 = .ok (.aload_n 0, 1) := by decide +kernel
theorem dX12_out_1 : decode cX12_out 1 = .ok (.getfield 242, 3) := by decide +kernel
theorem dX12_out_4 : decode cX12_out 4 = .ok (.bipush 40, 2) := by decide +kernel
theorem dX12_out_6 : decode cX12_out 6 = .ok (.if_icmp .le 4, 3) := by decide +kernel
theorem dX12_out_9 : decode cX12_out 9 = .ok (.return_, 1) := by decide +kernel
theorem dX12_out_10 : decode cX12_out 10 = .ok (.aload_n 0, 1) := by decide +kernel
theorem dX12_out_11 : decode cX12_out 11 = .ok (.getfield 73, 3) := by decide +kernel
theorem dX12_out_14 : decode cX12_out 14 = .ok (.aload_n 0, 1) := by decide +kernel
theorem dX12_out_15 : decode cX12_out 15 = .ok (.getfield 242, 3) := by decide +kernel
theorem dX12_out_18 : decode cX12_out 18 = .ok (.iload_n 1, 1) := by decide +kernel
theorem dX12_out_19 : decode cX12_out 19 = .ok (.iastore, 1) := by decide +kernel
theorem dX12_out_20 : decode cX12_out 20 = .ok (.aload_n 0, 1) := by decide +kernel
theorem dX12_out_21 : decode cX12_out 21 = .ok (.getfield 76, 3) := by decide +kernel
theorem dX12_out_24 : decode cX12_out 24 = .ok (.aload_n 0, 1) := by decide +kernel
theorem dX12_out_25 : decode cX12_out 25 = .ok (.getfield 242, 3) := by decide +kernel
theorem dX12_out_28 : decode cX12_out 28 = .ok (.iload_n 2, 1) := by decide +kernel
theorem dX12_out_29 : decode cX12_out 29 = .ok (.iastore, 1) := by decide +kernel
theorem dX12_out_30 : decode cX12_out 30 = .ok (.aload_n 0, 1) := by decide +kernel
theorem dX12_out_31 : decode cX12_out 31 = .ok (.dup, 1) := by decide +kernel
theorem dX12_out_32 : decode cX12_out 32 = .ok (.getfield 242, 3) := by decide +kernel
theorem dX12_out_35 : decode cX12_out 35 = .ok (.iconst 1, 1) := by decide +kernel
theorem dX12_out_36 : decode cX12_out 36 = .ok (.iadd, 1) := by decide +kernel
theorem dX12_out_37 : decode cX12_out 37 = .ok (.putfield 242, 3) := by decide +kernel
theorem dX12_out_40 : decode cX12_out 40 = .ok (.return_, 1) := by decide +kernel
theorem dX12_joinPart_0 : decode cX12_joinPart 0 = .ok (.aload_n 0, 1) := by decide +kernel
theorem dX12_joinPart_1 : decode cX12_joinPart 1 = .ok (.getfield 226, 3) := by decide +kernel
theorem dX12_joinPart_4 : decode cX12_joinPart 4 = .ok (.ifCond .ne 10, 3) := by decide +kernel
theorem dX12_joinPart_7 : decode cX12_joinPart 7 = .ok (.aload_n 0, 1) := by decide +kernel
theorem dX12_joinPart_8 : decode cX12_joinPart 8 = .ok (.getfield 260, 3) := by decide +kernel
theorem dX12_joinPart_11 : decode cX12_joinPart 11 = .ok (.ifCond .ne 4, 3) := by decide +kernel
theorem dX12_joinPart_14 : decode cX12_joinPart 14 = .ok (.return_, 1) := by decide +kernel
theorem dX12_joinPart_15 : decode cX12_joinPart 15 = .ok (.aload_n 0, 1) := by decide +kernel
theorem dX12_joinPart_16 : decode cX12_joinPart 16 = .ok (.getfield 242, 3) := by decide +kernel
theorem dX12_joinPart_19 : decode cX12_joinPart 19 = .ok (.ifCond .le 108, 3) := by decide +kernel
theorem dX12_joinPart_22 : decode cX12_joinPart 22 = .ok (.aload_n 0, 1) := by decide +kernel
theorem dX12_joinPart_23 : decode cX12_joinPart 23 = .ok (.getfield 73, 3) := by decide +kernel
theorem dX12_joinPart_26 : decode cX12_joinPart 26 = .ok (.aload_n 0, 1) := by decide +kernel
theorem dX12_joinPart_27 : decode cX12_joinPart 27 = .ok (.getfield 242, 3) := by decide +kernel
theorem dX12_joinPart_30 : decode cX12_joinPart 30 = .ok (.iconst 1, 1) := by decide +kernel
theorem dX12_joinPart_31 : decode cX12_joinPart 31 = .ok (.isub, 1) := by decide +kernel
theorem dX12_joinPart_32 : decode cX12_joinPart 32 = .ok (.iaload, 1) := by decide +kernel
theorem dX12_joinPart_33 : decode cX12_joinPart 33 = .ok (.istore_n 1, 1) := by decide +kernel
theorem dX12_joinPart_34 : decode cX12_joinPart 34 = .ok (.aload_n 0, 1) := by decide +kernel
theorem dX12_joinPart_35 : decode cX12_joinPart 35 = .ok (.getfield 67, 3) := by decide +kernel
theorem dX12_joinPart_38 : decode cX12_joinPart 38 = .ok (.iconst 0, 1) := by decide +kernel
theorem dX12_joinPart_39 : decode cX12_joinPart 39 = .ok (.iaload, 1) := by decide +kernel
theorem dX12_joinPart_40 : decode cX12_joinPart 40 = .ok (.istore_n 2, 1) := by decide +kernel
theorem dX12_joinPart_41 : decode cX12_joinPart 41 = .ok (.aload_n 0, 1) := by decide +kernel
theorem dX12_joinPart_42 : decode cX12_joinPart 42 = .ok (.aload_n 0, 1) := by decide +kernel
theorem dX12_joinPart_43 : decode cX12_joinPart 43 = .ok (.getfield 245, 3) := by decide +kernel
theorem dX12_joinPart_46 : decode cX12_joinPart 46 = .ok (.iload_n 1, 1) := by decide +kernel
theorem dX12_joinPart_47 : decode cX12_joinPart 47 = .ok (.iload_n 2, 1) := by decide +kernel
theorem dX12_joinPart_48 : decode cX12_joinPart 48 = .ok (.invokevirtual 177, 3) := by decide +kernel
theorem dX12_joinPart_51 : decode cX12_joinPart 51 = .ok (.istore_n 3, 1) := by decide +kernel
theorem dX12_joinPart_52 : decode cX12_joinPart 52 = .ok (.iconst 1, 1) := by decide +kernel
theorem dX12_joinPart_53 : decode cX12_joinPart 53 = .ok (.istore 4, 2) := by decide +kernel
theorem dX12_joinPart_55 : decode cX12_joinPart 55 = .ok (.iload 4, 2) := by decide +kernel
theorem dX12_joinPart_57 : decode cX12_joinPart 57 = .ok (.iload_n 3, 1) := by decide +kernel
theorem dX12_joinPart_58 : decode cX12_joinPart 58 = .ok (.if_icmp .ge 69, 3) := by decide +kernel
theorem dX12_joinPart_61 : decode cX12_joinPart 61 = .ok (.iconst 0, 1) := by decide +kernel
theorem dX12_joinPart_62 : decode cX12_joinPart 62 = .ok (.istore 5, 2) := by decide +kernel
theorem dX12_joinPart_64 : decode cX12_joinPart 64 = .ok (.iconst 0, 1) := by decide +kernel
theorem dX12_joinPart_65 : decode cX12_joinPart 65 = .ok (.istore 6, 2) := by decide +kernel
theorem dX12_joinPart_67 : decode cX12_joinPart 67 = .ok (.iload 6, 2) := by decide +kernel
theorem dX12_joinPart_69 : decode cX12_joinPart 69 = .ok (.iconst 3, 1) := by decide +kernel
theorem dX12_joinPart_70 : decode cX12_joinPart 70 = .ok (.if_icmp .ge 44, 3) := by decide +kernel
theorem dX12_joinPart_73 : decode cX12_joinPart 73 = .ok (.iload 5, 2) := by decide +kernel
theorem dX12_joinPart_75 : decode cX12_joinPart 75 = .ok (.iload_n 1, 1) := by decide +kernel
theorem dX12_joinPart_76 : decode cX12_joinPart 76 = .ok (.iload 6, 2) := by decide +kernel
theorem dX12_joinPart_78 : decode cX12_joinPart 78 = .ok (.invokestatic 155, 3) := by decide +kernel
theorem dX12_joinPart_81 : decode cX12_joinPart 81 = .ok (.iload_n 2, 1) := by decide +kernel
theorem dX12_joinPart_82 : decode cX12_joinPart 82 = .ok (.iload 6, 2) := by decide +kernel
theorem dX12_joinPart_84 : decode cX12_joinPart 84 = .ok (.invokestatic 155, 3) := by decide +kernel
theorem dX12_joinPart_87 : decode cX12_joinPart 87 = .ok (.iload_n 1, 1) := by decide +kernel
theorem dX12_joinPart_88 : decode cX12_joinPart 88 = .ok (.iload 6, 2) := by decide +kernel
theorem dX12_joinPart_90 : decode cX12_joinPart 90 = .ok (.invokestatic 155, 3) := by decide +kernel
theorem dX12_joinPart_93 : decode cX12_joinPart 93 = .ok (.isub, 1) := by decide +kernel
theorem dX12_joinPart_94 : decode cX12_joinPart 94 = .ok (.iload 4, 2) := by decide +kernel
theorem dX12_joinPart_96 : decode cX12_joinPart 96 = .ok (.imul, 1) := by decide +kernel
theorem dX12_joinPart_97 : decode cX12_joinPart 97 = .ok (.iload_n 3, 1) := by decide +kernel
theorem dX12_joinPart_98 : decode cX12_joinPart 98 = .ok (.idiv, 1) := by decide +kernel
theorem dX12_joinPart_99 : decode cX12_joinPart 99 = .ok (.iadd, 1) := by decide +kernel
theorem dX12_joinPart_100 : decode cX12_joinPart 100 = .ok (.iconst 4, 1) := by decide +kernel
theorem dX12_joinPart_101 : decode cX12_joinPart 101 = .ok (.iload 6, 2) := by decide +kernel
theorem dX12_joinPart_103 : decode cX12_joinPart 103 = .ok (.imul, 1) := by decide +kernel
theorem dX12_joinPart_104 : decode cX12_joinPart 104 = .ok (.ishl, 1) := by decide +kernel
theorem dX12_joinPart_105 : decode cX12_joinPart 105 = .ok (.ior, 1) := by decide +kernel
theorem dX12_joinPart_106 : decode cX12_joinPart 106 = .ok (.istore 5, 2) := by decide +kernel
theorem dX12_joinPart_108 : decode cX12_joinPart 108 = .ok (.iinc 6 1, 3) := by decide +kernel
theorem dX12_joinPart_111 : decode cX12_joinPart 111 = .ok (.goto (-44), 3) := by decide +kernel
theorem dX12_joinPart_114 : decode cX12_joinPart 114 = .ok (.aload_n 0, 1) := by decide +kernel
theorem dX12_joinPart_115 : decode cX12_joinPart 115 = .ok (.iload 5, 2) := by decide +kernel
theorem dX12_joinPart_117 : decode cX12_joinPart 117 = .ok (.iconst 0, 1) := by decide +kernel
theorem dX12_joinPart_118 : decode cX12_joinPart 118 = .ok (.invokevirtual 272, 3) := by decide +kernel
theorem dX12_joinPart_121 : decode cX12_joinPart 121 = .ok (.iinc 4 1, 3) := by decide +kernel
theorem dX12_joinPart_124 : decode cX12_joinPart 124 = .ok (.goto (-69), 3) := by decide +kernel
theorem dX12_joinPart_127 : decode cX12_joinPart 127 = .ok (.iconst 0, 1) := by decide +kernel
theorem dX12_joinPart_128 : decode cX12_joinPart 128 = .ok (.istore_n 1, 1) := by decide +kernel
theorem dX12_joinPart_129 : decode cX12_joinPart 129 = .ok (.iload_n 1, 1) := by decide +kernel
theorem dX12_joinPart_130 : decode cX12_joinPart 130 = .ok (.aload_n 0, 1) := by decide +kernel
theorem dX12_joinPart_131 : decode cX12_joinPart 131 = .ok (.getfield 260, 3) := by decide +kernel
theorem dX12_joinPart_134 : decode cX12_joinPart 134 = .ok (.if_icmp .ge 25, 3) := by decide +kernel
theorem dX12_joinPart_137 : decode cX12_joinPart 137 = .ok (.aload_n 0, 1) := by decide +kernel
theorem dX12_joinPart_138 : decode cX12_joinPart 138 = .ok (.aload_n 0, 1) := by decide +kernel
theorem dX12_joinPart_139 : decode cX12_joinPart 139 = .ok (.getfield 67, 3) := by decide +kernel
theorem dX12_joinPart_142 : decode cX12_joinPart 142 = .ok (.iload_n 1, 1) := by decide +kernel
theorem dX12_joinPart_143 : decode cX12_joinPart 143 = .ok (.iaload, 1) := by decide +kernel
theorem dX12_joinPart_144 : decode cX12_joinPart 144 = .ok (.aload_n 0, 1) := by decide +kernel
theorem dX12_joinPart_145 : decode cX12_joinPart 145 = .ok (.getfield 70, 3) := by decide +kernel
theorem dX12_joinPart_148 : decode cX12_joinPart 148 = .ok (.iload_n 1, 1) := by decide +kernel
theorem dX12_joinPart_149 : decode cX12_joinPart 149 = .ok (.iaload, 1) := by decide +kernel
theorem dX12_joinPart_150 : decode cX12_joinPart 150 = .ok (.invokevirtual 272, 3) := by decide +kernel
theorem dX12_joinPart_153 : decode cX12_joinPart 153 = .ok (.iinc 1 1, 3) := by decide +kernel
theorem dX12_joinPart_156 : decode cX12_joinPart 156 = .ok (.goto (-27), 3) := by decide +kernel
theorem dX12_joinPart_159 : decode cX12_joinPart 159 = .ok (.return_, 1) := by decide +kernel
theorem dX12_make_0 : decode cX12_make 0 = .ok (.aload_n 0, 1) := by decide +kernel
theorem dX12_make_1 : decode cX12_make 1 = .ok (.iconst 0, 1) := by decide +kernel
theorem dX12_make_2 : decode cX12_make 2 = .ok (.putfield 135, 3) := by decide +kernel
theorem dX12_make_5 : decode cX12_make 5 = .ok (.iload_n 1, 1) := by decide +kernel
theorem dX12_make_6 : decode cX12_make 6 = .ok (.ifCond .lt 11, 3) := by decide +kernel
theorem dX12_make_9 : decode cX12_make 9 = .ok (.iload_n 1, 1) := by decide +kernel
theorem dX12_make_10 : decode cX12_make 10 = .ok (.aload_n 0, 1) := by decide +kernel
theorem dX12_make_11 : decode cX12_make 11 = .ok (.getfield 138, 3) := by decide +kernel
theorem dX12_make_14 : decode cX12_make 14 = .ok (.if_icmp .le 6, 3) := by decide +kernel
theorem dX12_make_17 : decode cX12_make 17 = .ok (.bipush (-2), 2) := by decide +kernel
theorem dX12_make_19 : decode cX12_make 19 = .ok (.ireturn, 1) := by decide +kernel
theorem dX12_make_20 : decode cX12_make 20 = .ok (.aload_n 0, 1) := by decide +kernel
theorem dX12_make_21 : decode cX12_make 21 = .ok (.iload_n 1, 1) := by decide +kernel
theorem dX12_make_22 : decode cX12_make 22 = .ok (.putfield 191, 3) := by decide +kernel
theorem dX12_make_25 : decode cX12_make 25 = .ok (.aload_n 0, 1) := by decide +kernel
theorem dX12_make_26 : decode cX12_make 26 = .ok (.iconst 0, 1) := by decide +kernel
theorem dX12_make_27 : decode cX12_make 27 = .ok (.putfield 138, 3) := by decide +kernel
theorem dX12_make_30 : decode cX12_make 30 = .ok (.aload_n 0, 1) := by decide +kernel
theorem dX12_make_31 : decode cX12_make 31 = .ok (.iconst 0, 1) := by decide +kernel
theorem dX12_make_32 : decode cX12_make 32 = .ok (.putfield 188, 3) := by decide +kernel
theorem dX12_make_35 : decode cX12_make 35 = .ok (.aload_n 0, 1) := by decide +kernel
theorem dX12_make_36 : decode cX12_make 36 = .ok (.iconst 0, 1) := by decide +kernel
theorem dX12_make_37 : decode cX12_make 37 = .ok (.putfield 226, 3) := by decide +kernel
theorem dX12_make_40 : decode cX12_make 40 = .ok (.aload_n 0, 1) := by decide +kernel
theorem dX12_make_41 : decode cX12_make 41 = .ok (.iconst (-1), 1) := by decide +kernel
theorem dX12_make_42 : decode cX12_make 42 = .ok (.putfield 229, 3) := by decide +kernel
theorem dX12_make_45 : decode cX12_make 45 = .ok (.aload_n 0, 1) := by decide +kernel
theorem dX12_make_46 : decode cX12_make 46 = .ok (.aload_n 0, 1) := by decide +kernel
theorem dX12_make_47 : decode cX12_make 47 = .ok (.getfield 152, 3) := by decide +kernel
theorem dX12_make_50 : decode cX12_make 50 = .ok (.putfield 254, 3) := by decide +kernel
theorem dX12_make_53 : decode cX12_make 53 = .ok (.aload_n 0, 1) := by decide +kernel
theorem dX12_make_54 : decode cX12_make 54 = .ok (.invokevirtual 239, 3) := by decide +kernel
theorem dX12_make_57 : decode cX12_make 57 = .ok (.aload_n 0, 1) := by decide +kernel
theorem dX12_make_58 : decode cX12_make 58 = .ok (.getfield 226, 3) := by decide +kernel
theorem dX12_make_61 : decode cX12_make 61 = .ok (.ifCond .ne 18, 3) := by decide +kernel
theorem dX12_make_64 : decode cX12_make 64 = .ok (.aload_n 0, 1) := by decide +kernel
theorem dX12_make_65 : decode cX12_make 65 = .ok (.getfield 201, 3) := by decide +kernel
theorem dX12_make_68 : decode cX12_make 68 = .ok (.iconst 3, 1) := by decide +kernel
theorem dX12_make_69 : decode cX12_make 69 = .ok (.if_icmp .eq 10, 3) := by decide +kernel
theorem dX12_make_72 : decode cX12_make 72 = .ok (.aload_n 0, 1) := by decide +kernel
theorem dX12_make_73 : decode cX12_make 73 = .ok (.invokevirtual 276, 3) := by decide +kernel
theorem dX12_make_76 : decode cX12_make 76 = .ok (.goto (-19), 3) := by decide +kernel
theorem dX12_make_79 : decode cX12_make 79 = .ok (.aload_n 0, 1) := by decide +kernel
theorem dX12_make_80 : decode cX12_make 80 = .ok (.aload_n 0, 1) := by decide +kernel
theorem dX12_make_81 : decode cX12_make 81 = .ok (.getfield 226, 3) := by decide +kernel
theorem dX12_make_84 : decode cX12_make 84 = .ok (.putfield 279, 3) := by decide +kernel
theorem dX12_make_87 : decode cX12_make 87 = .ok (.aload_n 0, 1) := by decide +kernel
theorem dX12_make_88 : decode cX12_make 88 = .ok (.aload_n 0, 1) := by decide +kernel
theorem dX12_make_89 : decode cX12_make 89 = .ok (.getfield 229, 3) := by decide +kernel
theorem dX12_make_92 : decode cX12_make 92 = .ok (.putfield 63, 3) := by decide +kernel
theorem dX12_make_95 : decode cX12_make 95 = .ok (.aload_n 0, 1) := by decide +kernel
theorem dX12_make_96 : decode cX12_make 96 = .ok (.getfield 226, 3) := by decide +kernel
theorem dX12_make_99 : decode cX12_make 99 = .ok (.ifCond .eq 5, 3) := by decide +kernel
theorem dX12_make_102 : decode cX12_make 102 = .ok (.iconst (-1), 1) := by decide +kernel
theorem dX12_make_103 : decode cX12_make 103 = .ok (.ireturn, 1) := by decide +kernel
theorem dX12_make_104 : decode cX12_make 104 = .ok (.aload_n 0, 1) := by decide +kernel
theorem dX12_make_105 : decode cX12_make 105 = .ok (.getfield 254, 3) := by decide +kernel
theorem dX12_make_108 : decode cX12_make 108 = .ok (.aload_n 0, 1) := by decide +kernel
theorem dX12_make_109 : decode cX12_make 109 = .ok (.getfield 152, 3) := by decide +kernel
theorem dX12_make_112 : decode cX12_make 112 = .ok (.isub, 1) := by decide +kernel
theorem dX12_make_113 : decode cX12_make 113 = .ok (.istore_n 2, 1) := by decide +kernel
theorem dX12_make_114 : decode cX12_make 114 = .ok (.aload_n 0, 1) := by decide +kernel
theorem dX12_make_115 : decode cX12_make 115 = .ok (.aload_n 0, 1) := by decide +kernel
theorem dX12_make_116 : decode cX12_make 116 = .ok (.getfield 254, 3) := by decide +kernel
theorem dX12_make_119 : decode cX12_make 119 = .ok (.putfield 152, 3) := by decide +kernel
theorem dX12_make_122 : decode cX12_make 122 = .ok (.iload_n 2, 1) := by decide +kernel
theorem dX12_make_123 : decode cX12_make 123 = .ok (.ireturn, 1) := by decide +kernel
theorem dX12_fault_0 : decode cX12_fault 0 = .ok (.aload_n 0, 1) := by decide +kernel
theorem dX12_fault_1 : decode cX12_fault 1 = .ok (.iconst 0, 1) := by decide +kernel
theorem dX12_fault_2 : decode cX12_fault 2 = .ok (.putfield 135, 3) := by decide +kernel
theorem dX12_fault_5 : decode cX12_fault 5 = .ok (.iload_n 1, 1) := by decide +kernel
theorem dX12_fault_6 : decode cX12_fault 6 = .ok (.ifCond .ne 10, 3) := by decide +kernel
theorem dX12_fault_9 : decode cX12_fault 9 = .ok (.aload_n 0, 1) := by decide +kernel
theorem dX12_fault_10 : decode cX12_fault 10 = .ok (.getfield 279, 3) := by decide +kernel
theorem dX12_fault_13 : decode cX12_fault 13 = .ok (.goto 16, 3) := by decide +kernel
theorem dX12_fault_16 : decode cX12_fault 16 = .ok (.iload_n 1, 1) := by decide +kernel
theorem dX12_fault_17 : decode cX12_fault 17 = .ok (.iconst 1, 1) := by decide +kernel
theorem dX12_fault_18 : decode cX12_fault 18 = .ok (.if_icmp .ne 10, 3) := by decide +kernel
theorem dX12_fault_21 : decode cX12_fault 21 = .ok (.aload_n 0, 1) := by decide +kernel
theorem dX12_fault_22 : decode cX12_fault 22 = .ok (.getfield 63, 3) := by decide +kernel
theorem dX12_fault_25 : decode cX12_fault 25 = .ok (.goto 4, 3) := by decide +kernel
theorem dX12_fault_28 : decode cX12_fault 28 = .ok (.iconst (-1), 1) := by decide +kernel
theorem dX12_fault_29 : decode cX12_fault 29 = .ok (.ireturn, 1) := by decide +kernel
theorem dX12_isDrift_0 : decode cX12_isDrift 0 = .ok (.iload_n 0, 1) := by decide +kernel
theorem dX12_isDrift_1 : decode cX12_isDrift 1 = .ok (.sipush (-2000), 3) := by decide +kernel
theorem dX12_isDrift_4 : decode cX12_isDrift 4 = .ok (.sipush 2000, 3) := by decide +kernel
theorem dX12_isDrift_7 : decode cX12_isDrift 7 = .ok (.invokestatic 144, 3) := by decide +kernel
theorem dX12_isDrift_10 : decode cX12_isDrift 10 = .ok (.ireturn, 1) := by decide +kernel
theorem dX12_isOffset_0 : decode cX12_isOffset 0 = .ok (.iload_n 0, 1) := by decide +kernel
theorem dX12_isOffset_1 : decode cX12_isOffset 1 = .ok (.sipush (-20000), 3) := by decide +kernel
theorem dX12_isOffset_4 : decode cX12_isOffset 4 = .ok (.sipush 20000, 3) := by decide +kernel
theorem dX12_isOffset_7 : decode cX12_isOffset 7 = .ok (.invokestatic 144, 3) := by decide +kernel
theorem dX12_isOffset_10 : decode cX12_isOffset 10 = .ok (.ireturn, 1) := by decide +kernel
theorem dX12_spotOf_0 : decode cX12_spotOf 0 = .ok (.aload_n 0, 1) := by decide +kernel
theorem dX12_spotOf_1 : decode cX12_spotOf 1 = .ok (.iload_n 1, 1) := by decide +kernel
theorem dX12_spotOf_2 : decode cX12_spotOf 2 = .ok (.iload_n 2, 1) := by decide +kernel
theorem dX12_spotOf_3 : decode cX12_spotOf 3 = .ok (.iconst 1, 1) := by decide +kernel
theorem dX12_spotOf_4 : decode cX12_spotOf 4 = .ok (.invokevirtual 184, 3) := by decide +kernel
theorem dX12_spotOf_7 : decode cX12_spotOf 7 = .ok (.iload 5, 2) := by decide +kernel
theorem dX12_spotOf_9 : decode cX12_spotOf 9 = .ok (.isub, 1) := by decide +kernel
theorem dX12_spotOf_10 : decode cX12_spotOf 10 = .ok (.iload 4, 2) := by decide +kernel
theorem dX12_spotOf_12 : decode cX12_spotOf 12 = .ok (.iload_n 3, 1) := by decide +kernel
theorem dX12_spotOf_13 : decode cX12_spotOf 13 = .ok (.imul, 1) := by decide +kernel
theorem dX12_spotOf_14 : decode cX12_spotOf 14 = .ok (.isub, 1) := by decide +kernel
theorem dX12_spotOf_15 : decode cX12_spotOf 15 = .ok (.sipush 1000, 3) := by decide +kernel
theorem dX12_spotOf_18 : decode cX12_spotOf 18 = .ok (.invokestatic 282, 3) := by decide +kernel
theorem dX12_spotOf_21 : decode cX12_spotOf 21 = .ok (.istore 6, 2) := by decide +kernel
theorem dX12_spotOf_23 : decode cX12_spotOf 23 = .ok (.aload_n 0, 1) := by decide +kernel
theorem dX12_spotOf_24 : decode cX12_spotOf 24 = .ok (.iload_n 1, 1) := by decide +kernel
theorem dX12_spotOf_25 : decode cX12_spotOf 25 = .ok (.iload_n 2, 1) := by decide +kernel
theorem dX12_spotOf_26 : decode cX12_spotOf 26 = .ok (.iconst 0, 1) := by decide +kernel
theorem dX12_spotOf_27 : decode cX12_spotOf 27 = .ok (.invokevirtual 184, 3) := by decide +kernel
theorem dX12_spotOf_30 : decode cX12_spotOf 30 = .ok (.sipush 1000, 3) := by decide +kernel
theorem dX12_spotOf_33 : decode cX12_spotOf 33 = .ok (.invokestatic 282, 3) := by decide +kernel
theorem dX12_spotOf_36 : decode cX12_spotOf 36 = .ok (.istore 7, 2) := by decide +kernel
theorem dX12_spotOf_38 : decode cX12_spotOf 38 = .ok (.iload 6, 2) := by decide +kernel
theorem dX12_spotOf_40 : decode cX12_spotOf 40 = .ok (.iconst 0, 1) := by decide +kernel
theorem dX12_spotOf_41 : decode cX12_spotOf 41 = .ok (.bipush 15, 2) := by decide +kernel
theorem dX12_spotOf_43 : decode cX12_spotOf 43 = .ok (.invokestatic 144, 3) := by decide +kernel
theorem dX12_spotOf_46 : decode cX12_spotOf 46 = .ok (.ifCond .eq 25, 3) := by decide +kernel
theorem dX12_spotOf_49 : decode cX12_spotOf 49 = .ok (.iload 7, 2) := by decide +kernel
theorem dX12_spotOf_51 : decode cX12_spotOf 51 = .ok (.iconst 0, 1) := by decide +kernel
theorem dX12_spotOf_52 : decode cX12_spotOf 52 = .ok (.bipush 15, 2) := by decide +kernel
theorem dX12_spotOf_54 : decode cX12_spotOf 54 = .ok (.invokestatic 144, 3) := by decide +kernel
theorem dX12_spotOf_57 : decode cX12_spotOf 57 = .ok (.ifCond .eq 14, 3) := by decide +kernel
theorem dX12_spotOf_60 : decode cX12_spotOf 60 = .ok (.bipush 16, 2) := by decide +kernel
theorem dX12_spotOf_62 : decode cX12_spotOf 62 = .ok (.iload 7, 2) := by decide +kernel
theorem dX12_spotOf_64 : decode cX12_spotOf 64 = .ok (.imul, 1) := by decide +kernel
theorem dX12_spotOf_65 : decode cX12_spotOf 65 = .ok (.iload 6, 2) := by decide +kernel
theorem dX12_spotOf_67 : decode cX12_spotOf 67 = .ok (.iadd, 1) := by decide +kernel
theorem dX12_spotOf_68 : decode cX12_spotOf 68 = .ok (.goto 4, 3) := by decide +kernel
theorem dX12_spotOf_71 : decode cX12_spotOf 71 = .ok (.iconst (-1), 1) := by decide +kernel
theorem dX12_spotOf_72 : decode cX12_spotOf 72 = .ok (.ireturn, 1) := by decide +kernel
theorem dX12_worn_0 : decode cX12_worn 0 = .ok (.aload_n 0, 1) := by decide +kernel
theorem dX12_worn_1 : decode cX12_worn 1 = .ok (.getfield 57, 3) := by decide +kernel
theorem dX12_worn_4 : decode cX12_worn 4 = .ok (.bipush 40, 2) := by decide +kernel
theorem dX12_worn_6 : decode cX12_worn 6 = .ok (.iload_n 1, 1) := by decide +kernel
theorem dX12_worn_7 : decode cX12_worn 7 = .ok (.imul, 1) := by decide +kernel
theorem dX12_worn_8 : decode cX12_worn 8 = .ok (.iload_n 2, 1) := by decide +kernel
theorem dX12_worn_9 : decode cX12_worn 9 = .ok (.iadd, 1) := by decide +kernel
theorem dX12_worn_10 : decode cX12_worn 10 = .ok (.iaload, 1) := by decide +kernel
theorem dX12_worn_11 : decode cX12_worn 11 = .ok (.istore 7, 2) := by decide +kernel
theorem dX12_worn_13 : decode cX12_worn 13 = .ok (.iload 5, 2) := by decide +kernel
theorem dX12_worn_15 : decode cX12_worn 15 = .ok (.ifCond .eq 9, 3) := by decide +kernel
theorem dX12_worn_18 : decode cX12_worn 18 = .ok (.iload_n 2, 1) := by decide +kernel
theorem dX12_worn_19 : decode cX12_worn 19 = .ok (.iload 6, 2) := by decide +kernel
theorem dX12_worn_21 : decode cX12_worn 21 = .ok (.if_icmp .ge 6, 3) := by decide +kernel
theorem dX12_worn_24 : decode cX12_worn 24 = .ok (.iload 7, 2) := by decide +kernel
theorem dX12_worn_26 : decode cX12_worn 26 = .ok (.ireturn, 1) := by decide +kernel
theorem dX12_worn_27 : decode cX12_worn 27 = .ok (.iload 7, 2) := by decide +kernel
theorem dX12_worn_29 : decode cX12_worn 29 = .ok (.iload 4, 2) := by decide +kernel
theorem dX12_worn_31 : decode cX12_worn 31 = .ok (.invokestatic 155, 3) := by decide +kernel
theorem dX12_worn_34 : decode cX12_worn 34 = .ok (.istore 8, 2) := by decide +kernel
theorem dX12_worn_36 : decode cX12_worn 36 = .ok (.iload_n 3, 1) := by decide +kernel
theorem dX12_worn_37 : decode cX12_worn 37 = .ok (.ifCond .ne 31, 3) := by decide +kernel
theorem dX12_worn_40 : decode cX12_worn 40 = .ok (.aload_n 0, 1) := by decide +kernel
theorem dX12_worn_41 : decode cX12_worn 41 = .ok (.getfield 57, 3) := by decide +kernel
theorem dX12_worn_44 : decode cX12_worn 44 = .ok (.bipush 40, 2) := by decide +kernel
theorem dX12_worn_46 : decode cX12_worn 46 = .ok (.iload_n 1, 1) := by decide +kernel
theorem dX12_worn_47 : decode cX12_worn 47 = .ok (.imul, 1) := by decide +kernel
theorem dX12_worn_48 : decode cX12_worn 48 = .ok (.iconst 0, 1) := by decide +kernel
theorem dX12_worn_49 : decode cX12_worn 49 = .ok (.iload_n 2, 1) := by decide +kernel
theorem dX12_worn_50 : decode cX12_worn 50 = .ok (.iload 5, 2) := by decide +kernel
theorem dX12_worn_52 : decode cX12_worn 52 = .ok (.isub, 1) := by decide +kernel
theorem dX12_worn_53 : decode cX12_worn 53 = .ok (.invokestatic 174, 3) := by decide +kernel
theorem dX12_worn_56 : decode cX12_worn 56 = .ok (.iadd, 1) := by decide +kernel
theorem dX12_worn_57 : decode cX12_worn 57 = .ok (.iaload, 1) := by decide +kernel
theorem dX12_worn_58 : decode cX12_worn 58 = .ok (.iload 4, 2) := by decide +kernel
theorem dX12_worn_60 : decode cX12_worn 60 = .ok (.invokestatic 155, 3) := by decide +kernel
theorem dX12_worn_63 : decode cX12_worn 63 = .ok (.istore 8, 2) := by decide +kernel
theorem dX12_worn_65 : decode cX12_worn 65 = .ok (.goto 76, 3) := by decide +kernel
theorem dX12_worn_68 : decode cX12_worn 68 = .ok (.aload_n 0, 1) := by decide +kernel
theorem dX12_worn_69 : decode cX12_worn 69 = .ok (.getfield 57, 3) := by decide +kernel
theorem dX12_worn_72 : decode cX12_worn 72 = .ok (.bipush 40, 2) := by decide +kernel
theorem dX12_worn_74 : decode cX12_worn 74 = .ok (.iload_n 1, 1) := by decide +kernel
theorem dX12_worn_75 : decode cX12_worn 75 = .ok (.imul, 1) := by decide +kernel
theorem dX12_worn_76 : decode cX12_worn 76 = .ok (.iload 6, 2) := by decide +kernel
theorem dX12_worn_78 : decode cX12_worn 78 = .ok (.iadd, 1) := by decide +kernel
theorem dX12_worn_79 : decode cX12_worn 79 = .ok (.iaload, 1) := by decide +kernel
theorem dX12_worn_80 : decode cX12_worn 80 = .ok (.iload 4, 2) := by decide +kernel
theorem dX12_worn_82 : decode cX12_worn 82 = .ok (.invokestatic 155, 3) := by decide +kernel
theorem dX12_worn_85 : decode cX12_worn 85 = .ok (.istore 8, 2) := by decide +kernel
theorem dX12_worn_87 : decode cX12_worn 87 = .ok (.iload 6, 2) := by decide +kernel
theorem dX12_worn_89 : decode cX12_worn 89 = .ok (.iconst 1, 1) := by decide +kernel
theorem dX12_worn_90 : decode cX12_worn 90 = .ok (.iadd, 1) := by decide +kernel
theorem dX12_worn_91 : decode cX12_worn 91 = .ok (.istore 9, 2) := by decide +kernel
theorem dX12_worn_93 : decode cX12_worn 93 = .ok (.iload 9, 2) := by decide +kernel
theorem dX12_worn_95 : decode cX12_worn 95 = .ok (.iload_n 2, 1) := by decide +kernel
theorem dX12_worn_96 : decode cX12_worn 96 = .ok (.if_icmp .gt 45, 3) := by decide +kernel
theorem dX12_worn_99 : decode cX12_worn 99 = .ok (.aload_n 0, 1) := by decide +kernel
theorem dX12_worn_100 : decode cX12_worn 100 = .ok (.getfield 57, 3) := by decide +kernel
theorem dX12_worn_103 : decode cX12_worn 103 = .ok (.bipush 40, 2) := by decide +kernel
theorem dX12_worn_105 : decode cX12_worn 105 = .ok (.iload_n 1, 1) := by decide +kernel
theorem dX12_worn_106 : decode cX12_worn 106 = .ok (.imul, 1) := by decide +kernel
theorem dX12_worn_107 : decode cX12_worn 107 = .ok (.iload 9, 2) := by decide +kernel
theorem dX12_worn_109 : decode cX12_worn 109 = .ok (.iadd, 1) := by decide +kernel
theorem dX12_worn_110 : decode cX12_worn 110 = .ok (.iaload, 1) := by decide +kernel
theorem dX12_worn_111 : decode cX12_worn 111 = .ok (.iload 4, 2) := by decide +kernel
theorem dX12_worn_113 : decode cX12_worn 113 = .ok (.invokestatic 155, 3) := by decide +kernel
theorem dX12_worn_116 : decode cX12_worn 116 = .ok (.istore 10, 2) := by decide +kernel
theorem dX12_worn_118 : decode cX12_worn 118 = .ok (.iload 10, 2) := by decide +kernel
theorem dX12_worn_120 : decode cX12_worn 120 = .ok (.iload 5, 2) := by decide +kernel
theorem dX12_worn_122 : decode cX12_worn 122 = .ok (.isub, 1) := by decide +kernel
theorem dX12_worn_123 : decode cX12_worn 123 = .ok (.iload 10, 2) := by decide +kernel
theorem dX12_worn_125 : decode cX12_worn 125 = .ok (.iload 8, 2) := by decide +kernel
theorem dX12_worn_127 : decode cX12_worn 127 = .ok (.invokestatic 269, 3) := by decide +kernel
theorem dX12_worn_130 : decode cX12_worn 130 = .ok (.invokestatic 174, 3) := by decide +kernel
theorem dX12_worn_133 : decode cX12_worn 133 = .ok (.istore 8, 2) := by decide +kernel
theorem dX12_worn_135 : decode cX12_worn 135 = .ok (.iinc 9 1, 3) := by decide +kernel
theorem dX12_worn_138 : decode cX12_worn 138 = .ok (.goto (-45), 3) := by decide +kernel
theorem dX12_worn_141 : decode cX12_worn 141 = .ok (.iload 7, 2) := by decide +kernel
theorem dX12_worn_143 : decode cX12_worn 143 = .ok (.bipush 15, 2) := by decide +kernel
theorem dX12_worn_145 : decode cX12_worn 145 = .ok (.iconst 4, 1) := by decide +kernel
theorem dX12_worn_146 : decode cX12_worn 146 = .ok (.iload 4, 2) := by decide +kernel
theorem dX12_worn_148 : decode cX12_worn 148 = .ok (.imul, 1) := by decide +kernel
theorem dX12_worn_149 : decode cX12_worn 149 = .ok (.ishl, 1) := by decide +kernel
theorem dX12_worn_150 : decode cX12_worn 150 = .ok (.iconst (-1), 1) := by decide +kernel
theorem dX12_worn_151 : decode cX12_worn 151 = .ok (.ixor, 1) := by decide +kernel
theorem dX12_worn_152 : decode cX12_worn 152 = .ok (.iand, 1) := by decide +kernel
theorem dX12_worn_153 : decode cX12_worn 153 = .ok (.iload 8, 2) := by decide +kernel
theorem dX12_worn_155 : decode cX12_worn 155 = .ok (.iconst 4, 1) := by decide +kernel
theorem dX12_worn_156 : decode cX12_worn 156 = .ok (.iload 4, 2) := by decide +kernel
theorem dX12_worn_158 : decode cX12_worn 158 = .ok (.imul, 1) := by decide +kernel
theorem dX12_worn_159 : decode cX12_worn 159 = .ok (.ishl, 1) := by decide +kernel
theorem dX12_worn_160 : decode cX12_worn 160 = .ok (.ior, 1) := by decide +kernel
theorem dX12_worn_161 : decode cX12_worn 161 = .ok (.ireturn, 1) := by decide +kernel
theorem dX12_lays_0 : decode cX12_lays 0 = .ok (.iconst 0, 1) := by decide +kernel
theorem dX12_lays_1 : decode cX12_lays 1 = .ok (.istore 11, 2) := by decide +kernel
theorem dX12_lays_3 : decode cX12_lays 3 = .ok (.iload_n 3, 1) := by decide +kernel
theorem dX12_lays_4 : decode cX12_lays 4 = .ok (.istore 12, 2) := by decide +kernel
theorem dX12_lays_6 : decode cX12_lays 6 = .ok (.iload 12, 2) := by decide +kernel
theorem dX12_lays_8 : decode cX12_lays 8 = .ok (.iload 4, 2) := by decide +kernel
theorem dX12_lays_10 : decode cX12_lays 10 = .ok (.if_icmp .gt 103, 3) := by decide +kernel
theorem dX12_lays_13 : decode cX12_lays 13 = .ok (.aload_n 0, 1) := by decide +kernel
theorem dX12_lays_14 : decode cX12_lays 14 = .ok (.aload_n 0, 1) := by decide +kernel
theorem dX12_lays_15 : decode cX12_lays 15 = .ok (.getfield 51, 3) := by decide +kernel
theorem dX12_lays_18 : decode cX12_lays 18 = .ok (.iload_n 2, 1) := by decide +kernel
theorem dX12_lays_19 : decode cX12_lays 19 = .ok (.iaload, 1) := by decide +kernel
theorem dX12_lays_20 : decode cX12_lays 20 = .ok (.aload_n 0, 1) := by decide +kernel
theorem dX12_lays_21 : decode cX12_lays 21 = .ok (.iload_n 2, 1) := by decide +kernel
theorem dX12_lays_22 : decode cX12_lays 22 = .ok (.iload 12, 2) := by decide +kernel
theorem dX12_lays_24 : decode cX12_lays 24 = .ok (.iload 7, 2) := by decide +kernel
theorem dX12_lays_26 : decode cX12_lays 26 = .ok (.iload 8, 2) := by decide +kernel
theorem dX12_lays_28 : decode cX12_lays 28 = .ok (.iload 9, 2) := by decide +kernel
theorem dX12_lays_30 : decode cX12_lays 30 = .ok (.iload 10, 2) := by decide +kernel
theorem dX12_lays_32 : decode cX12_lays 32 = .ok (.invokevirtual 285, 3) := by decide +kernel
theorem dX12_lays_35 : decode cX12_lays 35 = .ok (.iload 12, 2) := by decide +kernel
theorem dX12_lays_37 : decode cX12_lays 37 = .ok (.iload 5, 2) := by decide +kernel
theorem dX12_lays_39 : decode cX12_lays 39 = .ok (.iload 6, 2) := by decide +kernel
theorem dX12_lays_41 : decode cX12_lays 41 = .ok (.invokevirtual 289, 3) := by decide +kernel
theorem dX12_lays_44 : decode cX12_lays 44 = .ok (.istore 13, 2) := by decide +kernel
theorem dX12_lays_46 : decode cX12_lays 46 = .ok (.iload 13, 2) := by decide +kernel
theorem dX12_lays_48 : decode cX12_lays 48 = .ok (.iconst (-1), 1) := by decide +kernel
theorem dX12_lays_49 : decode cX12_lays 49 = .ok (.if_icmp .ne 6, 3) := by decide +kernel
theorem dX12_lays_52 : decode cX12_lays 52 = .ok (.goto 55, 3) := by decide +kernel
theorem dX12_lays_55 : decode cX12_lays 55 = .ok (.aload_n 1, 1) := by decide +kernel
theorem dX12_lays_56 : decode cX12_lays 56 = .ok (.iload 13, 2) := by decide +kernel
theorem dX12_lays_58 : decode cX12_lays 58 = .ok (.dup2, 1) := by decide +kernel
theorem dX12_lays_59 : decode cX12_lays 59 = .ok (.iaload, 1) := by decide +kernel
theorem dX12_lays_60 : decode cX12_lays 60 = .ok (.aload_n 0, 1) := by decide +kernel
theorem dX12_lays_61 : decode cX12_lays 61 = .ok (.getfield 60, 3) := by decide +kernel
theorem dX12_lays_64 : decode cX12_lays 64 = .ok (.bipush 40, 2) := by decide +kernel
theorem dX12_lays_66 : decode cX12_lays 66 = .ok (.iload_n 2, 1) := by decide +kernel
theorem dX12_lays_67 : decode cX12_lays 67 = .ok (.imul, 1) := by decide +kernel
theorem dX12_lays_68 : decode cX12_lays 68 = .ok (.iload 12, 2) := by decide +kernel
theorem dX12_lays_70 : decode cX12_lays 70 = .ok (.iadd, 1) := by decide +kernel
theorem dX12_lays_71 : decode cX12_lays 71 = .ok (.iaload, 1) := by decide +kernel
theorem dX12_lays_72 : decode cX12_lays 72 = .ok (.aload_n 0, 1) := by decide +kernel
theorem dX12_lays_73 : decode cX12_lays 73 = .ok (.getfield 82, 3) := by decide +kernel
theorem dX12_lays_76 : decode cX12_lays 76 = .ok (.imul, 1) := by decide +kernel
theorem dX12_lays_77 : decode cX12_lays 77 = .ok (.bipush 10, 2) := by decide +kernel
theorem dX12_lays_79 : decode cX12_lays 79 = .ok (.idiv, 1) := by decide +kernel
theorem dX12_lays_80 : decode cX12_lays 80 = .ok (.iadd, 1) := by decide +kernel
theorem dX12_lays_81 : decode cX12_lays 81 = .ok (.iastore, 1) := by decide +kernel
theorem dX12_lays_82 : decode cX12_lays 82 = .ok (.iload 11, 2) := by decide +kernel
theorem dX12_lays_84 : decode cX12_lays 84 = .ok (.aload_n 0, 1) := by decide +kernel
theorem dX12_lays_85 : decode cX12_lays 85 = .ok (.getfield 60, 3) := by decide +kernel
theorem dX12_lays_88 : decode cX12_lays 88 = .ok (.bipush 40, 2) := by decide +kernel
theorem dX12_lays_90 : decode cX12_lays 90 = .ok (.iload_n 2, 1) := by decide +kernel
theorem dX12_lays_91 : decode cX12_lays 91 = .ok (.imul, 1) := by decide +kernel
theorem dX12_lays_92 : decode cX12_lays 92 = .ok (.iload 12, 2) := by decide +kernel
theorem dX12_lays_94 : decode cX12_lays 94 = .ok (.iadd, 1) := by decide +kernel
theorem dX12_lays_95 : decode cX12_lays 95 = .ok (.iaload, 1) := by decide +kernel
theorem dX12_lays_96 : decode cX12_lays 96 = .ok (.aload_n 0, 1) := by decide +kernel
theorem dX12_lays_97 : decode cX12_lays 97 = .ok (.getfield 82, 3) := by decide +kernel
theorem dX12_lays_100 : decode cX12_lays 100 = .ok (.imul, 1) := by decide +kernel
theorem dX12_lays_101 : decode cX12_lays 101 = .ok (.bipush 10, 2) := by decide +kernel
theorem dX12_lays_103 : decode cX12_lays 103 = .ok (.idiv, 1) := by decide +kernel
theorem dX12_lays_104 : decode cX12_lays 104 = .ok (.iadd, 1) := by decide +kernel
theorem dX12_lays_105 : decode cX12_lays 105 = .ok (.istore 11, 2) := by decide +kernel
theorem dX12_lays_107 : decode cX12_lays 107 = .ok (.iinc 12 1, 3) := by decide +kernel
theorem dX12_lays_110 : decode cX12_lays 110 = .ok (.goto (-104), 3) := by decide +kernel
theorem dX12_lays_113 : decode cX12_lays 113 = .ok (.iload 11, 2) := by decide +kernel
theorem dX12_lays_115 : decode cX12_lays 115 = .ok (.ireturn, 1) := by decide +kernel
theorem dX12_empties_0 : decode cX12_empties 0 = .ok (.iconst 0, 1) := by decide +kernel
theorem dX12_empties_1 : decode cX12_empties 1 = .ok (.istore_n 1, 1) := by decide +kernel
theorem dX12_empties_2 : decode cX12_empties 2 = .ok (.iload_n 1, 1) := by decide +kernel
theorem dX12_empties_3 : decode cX12_empties 3 = .ok (.aload_n 0, 1) := by decide +kernel
theorem dX12_empties_4 : decode cX12_empties 4 = .ok (.arraylength, 1) := by decide +kernel
theorem dX12_empties_5 : decode cX12_empties 5 = .ok (.if_icmp .ge 13, 3) := by decide +kernel
theorem dX12_empties_8 : decode cX12_empties 8 = .ok (.aload_n 0, 1) := by decide +kernel
theorem dX12_empties_9 : decode cX12_empties 9 = .ok (.iload_n 1, 1) := by decide +kernel
theorem dX12_empties_10 : decode cX12_empties 10 = .ok (.iconst 0, 1) := by decide +kernel
theorem dX12_empties_11 : decode cX12_empties 11 = .ok (.iastore, 1) := by decide +kernel
theorem dX12_empties_12 : decode cX12_empties 12 = .ok (.iinc 1 1, 3) := by decide +kernel
theorem dX12_empties_15 : decode cX12_empties 15 = .ok (.goto (-13), 3) := by decide +kernel
theorem dX12_empties_18 : decode cX12_empties 18 = .ok (.return_, 1) := by decide +kernel
theorem dX12_play_0 : decode cX12_play 0 = .ok (.aload_n 0, 1) := by decide +kernel
theorem dX12_play_1 : decode cX12_play 1 = .ok (.iconst 0, 1) := by decide +kernel
theorem dX12_play_2 : decode cX12_play 2 = .ok (.putfield 135, 3) := by decide +kernel
theorem dX12_play_5 : decode cX12_play 5 = .ok (.aload_n 0, 1) := by decide +kernel
theorem dX12_play_6 : decode cX12_play 6 = .ok (.iload_n 1, 1) := by decide +kernel
theorem dX12_play_7 : decode cX12_play 7 = .ok (.invokevirtual 181, 3) := by decide +kernel
theorem dX12_play_10 : decode cX12_play 10 = .ok (.ifCond .eq 17, 3) := by decide +kernel
theorem dX12_play_13 : decode cX12_play 13 = .ok (.iload_n 2, 1) := by decide +kernel
theorem dX12_play_14 : decode cX12_play 14 = .ok (.invokestatic 293, 3) := by decide +kernel
theorem dX12_play_17 : decode cX12_play 17 = .ok (.ifCond .eq 10, 3) := by decide +kernel
theorem dX12_play_20 : decode cX12_play 20 = .ok (.iload_n 3, 1) := by decide +kernel
theorem dX12_play_21 : decode cX12_play 21 = .ok (.invokestatic 296, 3) := by decide +kernel
theorem dX12_play_24 : decode cX12_play 24 = .ok (.ifCond .ne 5, 3) := by decide +kernel
theorem dX12_play_27 : decode cX12_play 27 = .ok (.iconst (-1), 1) := by decide +kernel
theorem dX12_play_28 : decode cX12_play 28 = .ok (.ireturn, 1) := by decide +kernel
theorem dX12_play_29 : decode cX12_play 29 = .ok (.aload_n 0, 1) := by decide +kernel
theorem dX12_play_30 : decode cX12_play 30 = .ok (.getfield 51, 3) := by decide +kernel
theorem dX12_play_33 : decode cX12_play 33 = .ok (.iload_n 1, 1) := by decide +kernel
theorem dX12_play_34 : decode cX12_play 34 = .ok (.iaload, 1) := by decide +kernel
theorem dX12_play_35 : decode cX12_play 35 = .ok (.istore 4, 2) := by decide +kernel
theorem dX12_play_37 : decode cX12_play 37 = .ok (.aload_n 0, 1) := by decide +kernel
theorem dX12_play_38 : decode cX12_play 38 = .ok (.aload_n 0, 1) := by decide +kernel
theorem dX12_play_39 : decode cX12_play 39 = .ok (.getfield 79, 3) := by decide +kernel
theorem dX12_play_42 : decode cX12_play 42 = .ok (.iload_n 1, 1) := by decide +kernel
theorem dX12_play_43 : decode cX12_play 43 = .ok (.iconst 0, 1) := by decide +kernel
theorem dX12_play_44 : decode cX12_play 44 = .ok (.aload_n 0, 1) := by decide +kernel
theorem dX12_play_45 : decode cX12_play 45 = .ok (.getfield 54, 3) := by decide +kernel
theorem dX12_play_48 : decode cX12_play 48 = .ok (.iload_n 1, 1) := by decide +kernel
theorem dX12_play_49 : decode cX12_play 49 = .ok (.iaload, 1) := by decide +kernel
theorem dX12_play_50 : decode cX12_play 50 = .ok (.iconst 1, 1) := by decide +kernel
theorem dX12_play_51 : decode cX12_play 51 = .ok (.isub, 1) := by decide +kernel
theorem dX12_play_52 : decode cX12_play 52 = .ok (.iload_n 2, 1) := by decide +kernel
theorem dX12_play_53 : decode cX12_play 53 = .ok (.iload_n 3, 1) := by decide +kernel
theorem dX12_play_54 : decode cX12_play 54 = .ok (.aload_n 0, 1) := by decide +kernel
theorem dX12_play_55 : decode cX12_play 55 = .ok (.getfield 39, 3) := by decide +kernel
theorem dX12_play_58 : decode cX12_play 58 = .ok (.iload 4, 2) := by decide +kernel
theorem dX12_play_60 : decode cX12_play 60 = .ok (.iaload, 1) := by decide +kernel
theorem dX12_play_61 : decode cX12_play 61 = .ok (.aload_n 0, 1) := by decide +kernel
theorem dX12_play_62 : decode cX12_play 62 = .ok (.getfield 42, 3) := by decide +kernel
theorem dX12_play_65 : decode cX12_play 65 = .ok (.iload 4, 2) := by decide +kernel
theorem dX12_play_67 : decode cX12_play 67 = .ok (.iaload, 1) := by decide +kernel
theorem dX12_play_68 : decode cX12_play 68 = .ok (.aload_n 0, 1) := by decide +kernel
theorem dX12_play_69 : decode cX12_play 69 = .ok (.getfield 45, 3) := by decide +kernel
theorem dX12_play_72 : decode cX12_play 72 = .ok (.iload 4, 2) := by decide +kernel
theorem dX12_play_74 : decode cX12_play 74 = .ok (.iaload, 1) := by decide +kernel
theorem dX12_play_75 : decode cX12_play 75 = .ok (.aload_n 0, 1) := by decide +kernel
theorem dX12_play_76 : decode cX12_play 76 = .ok (.getfield 48, 3) := by decide +kernel
theorem dX12_play_79 : decode cX12_play 79 = .ok (.iload 4, 2) := by decide +kernel
theorem dX12_play_81 : decode cX12_play 81 = .ok (.iaload, 1) := by decide +kernel
theorem dX12_play_82 : decode cX12_play 82 = .ok (.invokevirtual 299, 3) := by decide +kernel
theorem dX12_play_85 : decode cX12_play 85 = .ok (.ireturn, 1) := by decide +kernel
theorem dX12_nozzle_0 : decode cX12_nozzle 0 = .ok (.aload_n 0, 1) := by decide +kernel
theorem dX12_nozzle_1 : decode cX12_nozzle 1 = .ok (.iconst 0, 1) := by decide +kernel
theorem dX12_nozzle_2 : decode cX12_nozzle 2 = .ok (.putfield 135, 3) := by decide +kernel
theorem dX12_nozzle_5 : decode cX12_nozzle 5 = .ok (.iload_n 1, 1) := by decide +kernel
theorem dX12_nozzle_6 : decode cX12_nozzle 6 = .ok (.iconst 0, 1) := by decide +kernel
theorem dX12_nozzle_7 : decode cX12_nozzle 7 = .ok (.bipush 30, 2) := by decide +kernel
theorem dX12_nozzle_9 : decode cX12_nozzle 9 = .ok (.invokestatic 144, 3) := by decide +kernel
theorem dX12_nozzle_12 : decode cX12_nozzle 12 = .ok (.ifCond .ne 5, 3) := by decide +kernel
theorem dX12_nozzle_15 : decode cX12_nozzle 15 = .ok (.iconst 0, 1) := by decide +kernel
theorem dX12_nozzle_16 : decode cX12_nozzle 16 = .ok (.ireturn, 1) := by decide +kernel
theorem dX12_nozzle_17 : decode cX12_nozzle 17 = .ok (.aload_n 0, 1) := by decide +kernel
theorem dX12_nozzle_18 : decode cX12_nozzle 18 = .ok (.iload_n 1, 1) := by decide +kernel
theorem dX12_nozzle_19 : decode cX12_nozzle 19 = .ok (.putfield 82, 3) := by decide +kernel
theorem dX12_nozzle_22 : decode cX12_nozzle 22 = .ok (.iconst 1, 1) := by decide +kernel
theorem dX12_nozzle_23 : decode cX12_nozzle 23 = .ok (.ireturn, 1) := by decide +kernel
theorem dX12_thick_0 : decode cX12_thick 0 = .ok (.aload_n 0, 1) := by decide +kernel
theorem dX12_thick_1 : decode cX12_thick 1 = .ok (.iconst 0, 1) := by decide +kernel
theorem dX12_thick_2 : decode cX12_thick 2 = .ok (.putfield 135, 3) := by decide +kernel
theorem dX12_thick_5 : decode cX12_thick 5 = .ok (.iload_n 1, 1) := by decide +kernel
theorem dX12_thick_6 : decode cX12_thick 6 = .ok (.ifCond .lt 42, 3) := by decide +kernel
theorem dX12_thick_9 : decode cX12_thick 9 = .ok (.iload_n 2, 1) := by decide +kernel
theorem dX12_thick_10 : decode cX12_thick 10 = .ok (.ifCond .lt 38, 3) := by decide +kernel
theorem dX12_thick_13 : decode cX12_thick 13 = .ok (.iload_n 3, 1) := by decide +kernel
theorem dX12_thick_14 : decode cX12_thick 14 = .ok (.bipush 15, 2) := by decide +kernel
theorem dX12_thick_16 : decode cX12_thick 16 = .ok (.if_icmp .gt 32, 3) := by decide +kernel
theorem dX12_thick_19 : decode cX12_thick 19 = .ok (.iload 4, 2) := by decide +kernel
theorem dX12_thick_21 : decode cX12_thick 21 = .ok (.bipush 15, 2) := by decide +kernel
theorem dX12_thick_23 : decode cX12_thick 23 = .ok (.if_icmp .gt 25, 3) := by decide +kernel
theorem dX12_thick_26 : decode cX12_thick 26 = .ok (.iload_n 3, 1) := by decide +kernel
theorem dX12_thick_27 : decode cX12_thick 27 = .ok (.iload_n 1, 1) := by decide +kernel
theorem dX12_thick_28 : decode cX12_thick 28 = .ok (.if_icmp .lt 20, 3) := by decide +kernel
theorem dX12_thick_31 : decode cX12_thick 31 = .ok (.iload 4, 2) := by decide +kernel
theorem dX12_thick_33 : decode cX12_thick 33 = .ok (.iload_n 2, 1) := by decide +kernel
theorem dX12_thick_34 : decode cX12_thick 34 = .ok (.if_icmp .lt 14, 3) := by decide +kernel
theorem dX12_thick_37 : decode cX12_thick 37 = .ok (.iload 5, 2) := by decide +kernel
theorem dX12_thick_39 : decode cX12_thick 39 = .ok (.ifCond .lt 9, 3) := by decide +kernel
theorem dX12_thick_42 : decode cX12_thick 42 = .ok (.iload 5, 2) := by decide +kernel
theorem dX12_thick_44 : decode cX12_thick 44 = .ok (.iconst 3, 1) := by decide +kernel
theorem dX12_thick_45 : decode cX12_thick 45 = .ok (.if_icmp .le 5, 3) := by decide +kernel
theorem dX12_thick_48 : decode cX12_thick 48 = .ok (.iconst (-1), 1) := by decide +kernel
theorem dX12_thick_49 : decode cX12_thick 49 = .ok (.ireturn, 1) := by decide +kernel
theorem dX12_thick_50 : decode cX12_thick 50 = .ok (.aload_n 0, 1) := by decide +kernel
theorem dX12_thick_51 : decode cX12_thick 51 = .ok (.getfield 79, 3) := by decide +kernel
theorem dX12_thick_54 : decode cX12_thick 54 = .ok (.bipush 16, 2) := by decide +kernel
theorem dX12_thick_56 : decode cX12_thick 56 = .ok (.iload_n 2, 1) := by decide +kernel
theorem dX12_thick_57 : decode cX12_thick 57 = .ok (.imul, 1) := by decide +kernel
theorem dX12_thick_58 : decode cX12_thick 58 = .ok (.iload_n 1, 1) := by decide +kernel
theorem dX12_thick_59 : decode cX12_thick 59 = .ok (.iadd, 1) := by decide +kernel
theorem dX12_thick_60 : decode cX12_thick 60 = .ok (.iaload, 1) := by decide +kernel
theorem dX12_thick_61 : decode cX12_thick 61 = .ok (.istore 6, 2) := by decide +kernel
theorem dX12_thick_63 : decode cX12_thick 63 = .ok (.iconst 0, 1) := by decide +kernel
theorem dX12_thick_64 : decode cX12_thick 64 = .ok (.istore 7, 2) := by decide +kernel
theorem dX12_thick_66 : decode cX12_thick 66 = .ok (.iconst 0, 1) := by decide +kernel
theorem dX12_thick_67 : decode cX12_thick 67 = .ok (.istore 8, 2) := by decide +kernel
theorem dX12_thick_69 : decode cX12_thick 69 = .ok (.iconst 0, 1) := by decide +kernel
theorem dX12_thick_70 : decode cX12_thick 70 = .ok (.istore 9, 2) := by decide +kernel
theorem dX12_thick_72 : decode cX12_thick 72 = .ok (.iload_n 2, 1) := by decide +kernel
theorem dX12_thick_73 : decode cX12_thick 73 = .ok (.istore 10, 2) := by decide +kernel
theorem dX12_thick_75 : decode cX12_thick 75 = .ok (.iload 10, 2) := by decide +kernel
theorem dX12_thick_77 : decode cX12_thick 77 = .ok (.iload 4, 2) := by decide +kernel
theorem dX12_thick_79 : decode cX12_thick 79 = .ok (.if_icmp .gt 93, 3) := by decide +kernel
theorem dX12_thick_82 : decode cX12_thick 82 = .ok (.iload_n 1, 1) := by decide +kernel
theorem dX12_thick_83 : decode cX12_thick 83 = .ok (.istore 11, 2) := by decide +kernel
theorem dX12_thick_85 : decode cX12_thick 85 = .ok (.iload 11, 2) := by decide +kernel
theorem dX12_thick_87 : decode cX12_thick 87 = .ok (.iload_n 3, 1) := by decide +kernel
theorem dX12_thick_88 : decode cX12_thick 88 = .ok (.if_icmp .gt 78, 3) := by decide +kernel
theorem dX12_thick_91 : decode cX12_thick 91 = .ok (.aload_n 0, 1) := by decide +kernel
theorem dX12_thick_92 : decode cX12_thick 92 = .ok (.getfield 79, 3) := by decide +kernel
theorem dX12_thick_95 : decode cX12_thick 95 = .ok (.bipush 16, 2) := by decide +kernel
theorem dX12_thick_97 : decode cX12_thick 97 = .ok (.iload 10, 2) := by decide +kernel
theorem dX12_thick_99 : decode cX12_thick 99 = .ok (.imul, 1) := by decide +kernel
theorem dX12_thick_100 : decode cX12_thick 100 = .ok (.iload 11, 2) := by decide +kernel
theorem dX12_thick_102 : decode cX12_thick 102 = .ok (.iadd, 1) := by decide +kernel
theorem dX12_thick_103 : decode cX12_thick 103 = .ok (.iaload, 1) := by decide +kernel
theorem dX12_thick_104 : decode cX12_thick 104 = .ok (.istore 12, 2) := by decide +kernel
theorem dX12_thick_106 : decode cX12_thick 106 = .ok (.iload 12, 2) := by decide +kernel
theorem dX12_thick_108 : decode cX12_thick 108 = .ok (.iload 6, 2) := by decide +kernel
theorem dX12_thick_110 : decode cX12_thick 110 = .ok (.if_icmp .ge 7, 3) := by decide +kernel
theorem dX12_thick_113 : decode cX12_thick 113 = .ok (.iconst 1, 1) := by decide +kernel
theorem dX12_thick_114 : decode cX12_thick 114 = .ok (.goto 19, 3) := by decide +kernel
theorem dX12_thick_117 : decode cX12_thick 117 = .ok (.iload 12, 2) := by decide +kernel
theorem dX12_thick_119 : decode cX12_thick 119 = .ok (.iload 6, 2) := by decide +kernel
theorem dX12_thick_121 : decode cX12_thick 121 = .ok (.if_icmp .ne 10, 3) := by decide +kernel
theorem dX12_thick_124 : decode cX12_thick 124 = .ok (.iload 9, 2) := by decide +kernel
theorem dX12_thick_126 : decode cX12_thick 126 = .ok (.iconst 1, 1) := by decide +kernel
theorem dX12_thick_127 : decode cX12_thick 127 = .ok (.iadd, 1) := by decide +kernel
theorem dX12_thick_128 : decode cX12_thick 128 = .ok (.goto 5, 3) := by decide +kernel
theorem dX12_thick_131 : decode cX12_thick 131 = .ok (.iload 9, 2) := by decide +kernel
theorem dX12_thick_133 : decode cX12_thick 133 = .ok (.istore 9, 2) := by decide +kernel
theorem dX12_thick_135 : decode cX12_thick 135 = .ok (.iload 6, 2) := by decide +kernel
theorem dX12_thick_137 : decode cX12_thick 137 = .ok (.iload 12, 2) := by decide +kernel
theorem dX12_thick_139 : decode cX12_thick 139 = .ok (.invokestatic 269, 3) := by decide +kernel
theorem dX12_thick_142 : decode cX12_thick 142 = .ok (.istore 6, 2) := by decide +kernel
theorem dX12_thick_144 : decode cX12_thick 144 = .ok (.iload 7, 2) := by decide +kernel
theorem dX12_thick_146 : decode cX12_thick 146 = .ok (.iload 12, 2) := by decide +kernel
theorem dX12_thick_148 : decode cX12_thick 148 = .ok (.invokestatic 174, 3) := by decide +kernel
theorem dX12_thick_151 : decode cX12_thick 151 = .ok (.istore 7, 2) := by decide +kernel
theorem dX12_thick_153 : decode cX12_thick 153 = .ok (.iload 8, 2) := by decide +kernel
theorem dX12_thick_155 : decode cX12_thick 155 = .ok (.iload 12, 2) := by decide +kernel
theorem dX12_thick_157 : decode cX12_thick 157 = .ok (.iadd, 1) := by decide +kernel
theorem dX12_thick_158 : decode cX12_thick 158 = .ok (.istore 8, 2) := by decide +kernel
theorem dX12_thick_160 : decode cX12_thick 160 = .ok (.iinc 11 1, 3) := by decide +kernel
theorem dX12_thick_163 : decode cX12_thick 163 = .ok (.goto (-78), 3) := by decide +kernel
theorem dX12_thick_166 : decode cX12_thick 166 = .ok (.iinc 10 1, 3) := by decide +kernel
theorem dX12_thick_169 : decode cX12_thick 169 = .ok (.goto (-94), 3) := by decide +kernel
theorem dX12_thick_172 : decode cX12_thick 172 = .ok (.iload 5, 2) := by decide +kernel
theorem dX12_thick_174 : decode cX12_thick 174 = .ok (.ifCond .ne 8, 3) := by decide +kernel
theorem dX12_thick_177 : decode cX12_thick 177 = .ok (.iload 6, 2) := by decide +kernel
theorem dX12_thick_179 : decode cX12_thick 179 = .ok (.goto 27, 3) := by decide +kernel
theorem dX12_thick_182 : decode cX12_thick 182 = .ok (.iload 5, 2) := by decide +kernel
theorem dX12_thick_184 : decode cX12_thick 184 = .ok (.iconst 1, 1) := by decide +kernel
theorem dX12_thick_185 : decode cX12_thick 185 = .ok (.if_icmp .ne 8, 3) := by decide +kernel
theorem dX12_thick_188 : decode cX12_thick 188 = .ok (.iload 7, 2) := by decide +kernel
theorem dX12_thick_190 : decode cX12_thick 190 = .ok (.goto 16, 3) := by decide +kernel
theorem dX12_thick_193 : decode cX12_thick 193 = .ok (.iload 5, 2) := by decide +kernel
theorem dX12_thick_195 : decode cX12_thick 195 = .ok (.iconst 2, 1) := by decide +kernel
theorem dX12_thick_196 : decode cX12_thick 196 = .ok (.if_icmp .ne 8, 3) := by decide +kernel
theorem dX12_thick_199 : decode cX12_thick 199 = .ok (.iload 8, 2) := by decide +kernel
theorem dX12_thick_201 : decode cX12_thick 201 = .ok (.goto 5, 3) := by decide +kernel
theorem dX12_thick_204 : decode cX12_thick 204 = .ok (.iload 9, 2) := by decide +kernel
theorem dX12_thick_206 : decode cX12_thick 206 = .ok (.ireturn, 1) := by decide +kernel
theorem dX12_paint_0 : decode cX12_paint 0 = .ok (.aload_n 0, 1) := by decide +kernel
theorem dX12_paint_1 : decode cX12_paint 1 = .ok (.iconst 0, 1) := by decide +kernel
theorem dX12_paint_2 : decode cX12_paint 2 = .ok (.putfield 135, 3) := by decide +kernel
theorem dX12_paint_5 : decode cX12_paint 5 = .ok (.iload_n 1, 1) := by decide +kernel
theorem dX12_paint_6 : decode cX12_paint 6 = .ok (.iconst 0, 1) := by decide +kernel
theorem dX12_paint_7 : decode cX12_paint 7 = .ok (.bipush 15, 2) := by decide +kernel
theorem dX12_paint_9 : decode cX12_paint 9 = .ok (.invokestatic 144, 3) := by decide +kernel
theorem dX12_paint_12 : decode cX12_paint 12 = .ok (.ifCond .eq 27, 3) := by decide +kernel
theorem dX12_paint_15 : decode cX12_paint 15 = .ok (.iload_n 2, 1) := by decide +kernel
theorem dX12_paint_16 : decode cX12_paint 16 = .ok (.iconst 0, 1) := by decide +kernel
theorem dX12_paint_17 : decode cX12_paint 17 = .ok (.bipush 15, 2) := by decide +kernel
theorem dX12_paint_19 : decode cX12_paint 19 = .ok (.invokestatic 144, 3) := by decide +kernel
theorem dX12_paint_22 : decode cX12_paint 22 = .ok (.ifCond .eq 17, 3) := by decide +kernel
theorem dX12_paint_25 : decode cX12_paint 25 = .ok (.aload_n 0, 1) := by decide +kernel
theorem dX12_paint_26 : decode cX12_paint 26 = .ok (.getfield 79, 3) := by decide +kernel
theorem dX12_paint_29 : decode cX12_paint 29 = .ok (.bipush 16, 2) := by decide +kernel
theorem dX12_paint_31 : decode cX12_paint 31 = .ok (.iload_n 2, 1) := by decide +kernel
theorem dX12_paint_32 : decode cX12_paint 32 = .ok (.imul, 1) := by decide +kernel
theorem dX12_paint_33 : decode cX12_paint 33 = .ok (.iload_n 1, 1) := by decide +kernel
theorem dX12_paint_34 : decode cX12_paint 34 = .ok (.iadd, 1) := by decide +kernel
theorem dX12_paint_35 : decode cX12_paint 35 = .ok (.iaload, 1) := by decide +kernel
theorem dX12_paint_36 : decode cX12_paint 36 = .ok (.goto 4, 3) := by decide +kernel
theorem dX12_paint_39 : decode cX12_paint 39 = .ok (.iconst (-1), 1) := by decide +kernel
theorem dX12_paint_40 : decode cX12_paint 40 = .ok (.ireturn, 1) := by decide +kernel
theorem dX12_painted_0 : decode cX12_painted 0 = .ok (.iconst 0, 1) := by decide +kernel
theorem dX12_painted_1 : decode cX12_painted 1 = .ok (.istore_n 1, 1) := by decide +kernel
theorem dX12_painted_2 : decode cX12_painted 2 = .ok (.iconst 0, 1) := by decide +kernel
theorem dX12_painted_3 : decode cX12_painted 3 = .ok (.istore_n 2, 1) := by decide +kernel
theorem dX12_painted_4 : decode cX12_painted 4 = .ok (.iload_n 2, 1) := by decide +kernel
theorem dX12_painted_5 : decode cX12_painted 5 = .ok (.aload_n 0, 1) := by decide +kernel
theorem dX12_painted_6 : decode cX12_painted 6 = .ok (.getfield 79, 3) := by decide +kernel
theorem dX12_painted_9 : decode cX12_painted 9 = .ok (.arraylength, 1) := by decide +kernel
theorem dX12_painted_10 : decode cX12_painted 10 = .ok (.if_icmp .ge 26, 3) := by decide +kernel
theorem dX12_painted_13 : decode cX12_painted 13 = .ok (.iload_n 1, 1) := by decide +kernel
theorem dX12_painted_14 : decode cX12_painted 14 = .ok (.aload_n 0, 1) := by decide +kernel
theorem dX12_painted_15 : decode cX12_painted 15 = .ok (.getfield 79, 3) := by decide +kernel
theorem dX12_painted_18 : decode cX12_painted 18 = .ok (.iload_n 2, 1) := by decide +kernel
theorem dX12_painted_19 : decode cX12_painted 19 = .ok (.iaload, 1) := by decide +kernel
theorem dX12_painted_20 : decode cX12_painted 20 = .ok (.ifCond .le 7, 3) := by decide +kernel
theorem dX12_painted_23 : decode cX12_painted 23 = .ok (.iconst 1, 1) := by decide +kernel
theorem dX12_painted_24 : decode cX12_painted 24 = .ok (.goto 4, 3) := by decide +kernel
theorem dX12_painted_27 : decode cX12_painted 27 = .ok (.iconst 0, 1) := by decide +kernel
theorem dX12_painted_28 : decode cX12_painted 28 = .ok (.iadd, 1) := by decide +kernel
theorem dX12_painted_29 : decode cX12_painted 29 = .ok (.istore_n 1, 1) := by decide +kernel
theorem dX12_painted_30 : decode cX12_painted 30 = .ok (.iinc 2 1, 3) := by decide +kernel
theorem dX12_painted_33 : decode cX12_painted 33 = .ok (.goto (-29), 3) := by decide +kernel
theorem dX12_painted_36 : decode cX12_painted 36 = .ok (.iload_n 1, 1) := by decide +kernel
theorem dX12_painted_37 : decode cX12_painted 37 = .ok (.ireturn, 1) := by decide +kernel
theorem dX12_clean_0 : decode cX12_clean 0 = .ok (.aload_n 0, 1) := by decide +kernel
theorem dX12_clean_1 : decode cX12_clean 1 = .ok (.iconst 0, 1) := by decide +kernel
theorem dX12_clean_2 : decode cX12_clean 2 = .ok (.putfield 135, 3) := by decide +kernel
theorem dX12_clean_5 : decode cX12_clean 5 = .ok (.aload_n 0, 1) := by decide +kernel
theorem dX12_clean_6 : decode cX12_clean 6 = .ok (.invokevirtual 303, 3) := by decide +kernel
theorem dX12_clean_9 : decode cX12_clean 9 = .ok (.istore_n 1, 1) := by decide +kernel
theorem dX12_clean_10 : decode cX12_clean 10 = .ok (.aload_n 0, 1) := by decide +kernel
theorem dX12_clean_11 : decode cX12_clean 11 = .ok (.getfield 79, 3) := by decide +kernel
theorem dX12_clean_14 : decode cX12_clean 14 = .ok (.invokestatic 306, 3) := by decide +kernel
theorem dX12_clean_17 : decode cX12_clean 17 = .ok (.iload_n 1, 1) := by decide +kernel
theorem dX12_clean_18 : decode cX12_clean 18 = .ok (.ireturn, 1) := by decide +kernel
theorem dX12_isThere_0 : decode cX12_isThere 0 = .ok (.aload_n 0, 1) := by decide +kernel
theorem dX12_isThere_1 : decode cX12_isThere 1 = .ok (.iload_n 2, 1) := by decide +kernel
theorem dX12_isThere_2 : decode cX12_isThere 2 = .ok (.iload 6, 2) := by decide +kernel
theorem dX12_isThere_4 : decode cX12_isThere 4 = .ok (.invokevirtual 163, 3) := by decide +kernel
theorem dX12_isThere_7 : decode cX12_isThere 7 = .ok (.ifCond .ne 5, 3) := by decide +kernel
theorem dX12_isThere_10 : decode cX12_isThere 10 = .ok (.iconst 0, 1) := by decide +kernel
theorem dX12_isThere_11 : decode cX12_isThere 11 = .ok (.ireturn, 1) := by decide +kernel
theorem dX12_isThere_12 : decode cX12_isThere 12 = .ok (.aload_n 0, 1) := by decide +kernel
theorem dX12_isThere_13 : decode cX12_isThere 13 = .ok (.getfield 57, 3) := by decide +kernel
theorem dX12_isThere_16 : decode cX12_isThere 16 = .ok (.bipush 40, 2) := by decide +kernel
theorem dX12_isThere_18 : decode cX12_isThere 18 = .ok (.iload_n 1, 1) := by decide +kernel
theorem dX12_isThere_19 : decode cX12_isThere 19 = .ok (.imul, 1) := by decide +kernel
theorem dX12_isThere_20 : decode cX12_isThere 20 = .ok (.iload_n 3, 1) := by decide +kernel
theorem dX12_isThere_21 : decode cX12_isThere 21 = .ok (.iadd, 1) := by decide +kernel
theorem dX12_isThere_22 : decode cX12_isThere 22 = .ok (.iaload, 1) := by decide +kernel
theorem dX12_isThere_23 : decode cX12_isThere 23 = .ok (.istore 7, 2) := by decide +kernel
theorem dX12_isThere_25 : decode cX12_isThere 25 = .ok (.aload_n 0, 1) := by decide +kernel
theorem dX12_isThere_26 : decode cX12_isThere 26 = .ok (.iload_n 2, 1) := by decide +kernel
theorem dX12_isThere_27 : decode cX12_isThere 27 = .ok (.iload 6, 2) := by decide +kernel
theorem dX12_isThere_29 : decode cX12_isThere 29 = .ok (.iconst 1, 1) := by decide +kernel
theorem dX12_isThere_30 : decode cX12_isThere 30 = .ok (.invokevirtual 184, 3) := by decide +kernel
theorem dX12_isThere_33 : decode cX12_isThere 33 = .ok (.aload_n 0, 1) := by decide +kernel
theorem dX12_isThere_34 : decode cX12_isThere 34 = .ok (.aload_n 0, 1) := by decide +kernel
theorem dX12_isThere_35 : decode cX12_isThere 35 = .ok (.getfield 51, 3) := by decide +kernel
theorem dX12_isThere_38 : decode cX12_isThere 38 = .ok (.iload_n 1, 1) := by decide +kernel
theorem dX12_isThere_39 : decode cX12_isThere 39 = .ok (.iaload, 1) := by decide +kernel
theorem dX12_isThere_40 : decode cX12_isThere 40 = .ok (.iload 7, 2) := by decide +kernel
theorem dX12_isThere_42 : decode cX12_isThere 42 = .ok (.iconst 1, 1) := by decide +kernel
theorem dX12_isThere_43 : decode cX12_isThere 43 = .ok (.invokevirtual 184, 3) := by decide +kernel
theorem dX12_isThere_46 : decode cX12_isThere 46 = .ok (.isub, 1) := by decide +kernel
theorem dX12_isThere_47 : decode cX12_isThere 47 = .ok (.iload 4, 2) := by decide +kernel
theorem dX12_isThere_49 : decode cX12_isThere 49 = .ok (.iload_n 3, 1) := by decide +kernel
theorem dX12_isThere_50 : decode cX12_isThere 50 = .ok (.imul, 1) := by decide +kernel
theorem dX12_isThere_51 : decode cX12_isThere 51 = .ok (.isub, 1) := by decide +kernel
theorem dX12_isThere_52 : decode cX12_isThere 52 = .ok (.invokestatic 168, 3) := by decide +kernel
theorem dX12_isThere_55 : decode cX12_isThere 55 = .ok (.iload 5, 2) := by decide +kernel
theorem dX12_isThere_57 : decode cX12_isThere 57 = .ok (.if_icmp .gt 37, 3) := by decide +kernel
theorem dX12_isThere_60 : decode cX12_isThere 60 = .ok (.aload_n 0, 1) := by decide +kernel
theorem dX12_isThere_61 : decode cX12_isThere 61 = .ok (.iload_n 2, 1) := by decide +kernel
theorem dX12_isThere_62 : decode cX12_isThere 62 = .ok (.iload 6, 2) := by decide +kernel
theorem dX12_isThere_64 : decode cX12_isThere 64 = .ok (.iconst 0, 1) := by decide +kernel
theorem dX12_isThere_65 : decode cX12_isThere 65 = .ok (.invokevirtual 184, 3) := by decide +kernel
theorem dX12_isThere_68 : decode cX12_isThere 68 = .ok (.aload_n 0, 1) := by decide +kernel
theorem dX12_isThere_69 : decode cX12_isThere 69 = .ok (.aload_n 0, 1) := by decide +kernel
theorem dX12_isThere_70 : decode cX12_isThere 70 = .ok (.getfield 51, 3) := by decide +kernel
theorem dX12_isThere_73 : decode cX12_isThere 73 = .ok (.iload_n 1, 1) := by decide +kernel
theorem dX12_isThere_74 : decode cX12_isThere 74 = .ok (.iaload, 1) := by decide +kernel
theorem dX12_isThere_75 : decode cX12_isThere 75 = .ok (.iload 7, 2) := by decide +kernel
theorem dX12_isThere_77 : decode cX12_isThere 77 = .ok (.iconst 0, 1) := by decide +kernel
theorem dX12_isThere_78 : decode cX12_isThere 78 = .ok (.invokevirtual 184, 3) := by decide +kernel
theorem dX12_isThere_81 : decode cX12_isThere 81 = .ok (.isub, 1) := by decide +kernel
theorem dX12_isThere_82 : decode cX12_isThere 82 = .ok (.invokestatic 168, 3) := by decide +kernel
theorem dX12_isThere_85 : decode cX12_isThere 85 = .ok (.iload 5, 2) := by decide +kernel
theorem dX12_isThere_87 : decode cX12_isThere 87 = .ok (.if_icmp .gt 7, 3) := by decide +kernel
theorem dX12_isThere_90 : decode cX12_isThere 90 = .ok (.iconst 1, 1) := by decide +kernel
theorem dX12_isThere_91 : decode cX12_isThere 91 = .ok (.goto 4, 3) := by decide +kernel
theorem dX12_isThere_94 : decode cX12_isThere 94 = .ok (.iconst 0, 1) := by decide +kernel
theorem dX12_isThere_95 : decode cX12_isThere 95 = .ok (.ireturn, 1) := by decide +kernel
theorem dX12_beside_0 : decode cX12_beside 0 = .ok (.iload_n 3, 1) := by decide +kernel
theorem dX12_beside_1 : decode cX12_beside 1 = .ok (.istore 4, 2) := by decide +kernel
theorem dX12_beside_3 : decode cX12_beside 3 = .ok (.iconst 0, 1) := by decide +kernel
theorem dX12_beside_4 : decode cX12_beside 4 = .ok (.istore 5, 2) := by decide +kernel
theorem dX12_beside_6 : decode cX12_beside 6 = .ok (.aload_n 0, 1) := by decide +kernel
theorem dX12_beside_7 : decode cX12_beside 7 = .ok (.getfield 24, 3) := by decide +kernel
theorem dX12_beside_10 : decode cX12_beside 10 = .ok (.iload_n 1, 1) := by decide +kernel
theorem dX12_beside_11 : decode cX12_beside 11 = .ok (.iaload, 1) := by decide +kernel
theorem dX12_beside_12 : decode cX12_beside 12 = .ok (.iconst 1, 1) := by decide +kernel
theorem dX12_beside_13 : decode cX12_beside 13 = .ok (.isub, 1) := by decide +kernel
theorem dX12_beside_14 : decode cX12_beside 14 = .ok (.istore 6, 2) := by decide +kernel
theorem dX12_beside_16 : decode cX12_beside 16 = .ok (.iload 6, 2) := by decide +kernel
theorem dX12_beside_18 : decode cX12_beside 18 = .ok (.ifCond .lt 100, 3) := by decide +kernel
theorem dX12_beside_21 : decode cX12_beside 21 = .ok (.aload_n 0, 1) := by decide +kernel
theorem dX12_beside_22 : decode cX12_beside 22 = .ok (.getfield 36, 3) := by decide +kernel
theorem dX12_beside_25 : decode cX12_beside 25 = .ok (.iconst 3, 1) := by decide +kernel
theorem dX12_beside_26 : decode cX12_beside 26 = .ok (.iload_n 1, 1) := by decide +kernel
theorem dX12_beside_27 : decode cX12_beside 27 = .ok (.imul, 1) := by decide +kernel
theorem dX12_beside_28 : decode cX12_beside 28 = .ok (.iload 6, 2) := by decide +kernel
theorem dX12_beside_30 : decode cX12_beside 30 = .ok (.iadd, 1) := by decide +kernel
theorem dX12_beside_31 : decode cX12_beside 31 = .ok (.iaload, 1) := by decide +kernel
theorem dX12_beside_32 : decode cX12_beside 32 = .ok (.istore 7, 2) := by decide +kernel
theorem dX12_beside_34 : decode cX12_beside 34 = .ok (.iload_n 2, 1) := by decide +kernel
theorem dX12_beside_35 : decode cX12_beside 35 = .ok (.iload 6, 2) := by decide +kernel
theorem dX12_beside_37 : decode cX12_beside 37 = .ok (.invokestatic 155, 3) := by decide +kernel
theorem dX12_beside_40 : decode cX12_beside 40 = .ok (.iload 7, 2) := by decide +kernel
theorem dX12_beside_42 : decode cX12_beside 42 = .ok (.isub, 1) := by decide +kernel
theorem dX12_beside_43 : decode cX12_beside 43 = .ok (.iload 4, 2) := by decide +kernel
theorem dX12_beside_45 : decode cX12_beside 45 = .ok (.aload_n 0, 1) := by decide +kernel
theorem dX12_beside_46 : decode cX12_beside 46 = .ok (.iload_n 1, 1) := by decide +kernel
theorem dX12_beside_47 : decode cX12_beside 47 = .ok (.iload 6, 2) := by decide +kernel
theorem dX12_beside_49 : decode cX12_beside 49 = .ok (.invokevirtual 310, 3) := by decide +kernel
theorem dX12_beside_52 : decode cX12_beside 52 = .ok (.idiv, 1) := by decide +kernel
theorem dX12_beside_53 : decode cX12_beside 53 = .ok (.iadd, 1) := by decide +kernel
theorem dX12_beside_54 : decode cX12_beside 54 = .ok (.istore 8, 2) := by decide +kernel
theorem dX12_beside_56 : decode cX12_beside 56 = .ok (.iload 4, 2) := by decide +kernel
theorem dX12_beside_58 : decode cX12_beside 58 = .ok (.aload_n 0, 1) := by decide +kernel
theorem dX12_beside_59 : decode cX12_beside 59 = .ok (.iload_n 1, 1) := by decide +kernel
theorem dX12_beside_60 : decode cX12_beside 60 = .ok (.iload 6, 2) := by decide +kernel
theorem dX12_beside_62 : decode cX12_beside 62 = .ok (.invokevirtual 310, 3) := by decide +kernel
theorem dX12_beside_65 : decode cX12_beside 65 = .ok (.irem, 1) := by decide +kernel
theorem dX12_beside_66 : decode cX12_beside 66 = .ok (.istore 4, 2) := by decide +kernel
theorem dX12_beside_68 : decode cX12_beside 68 = .ok (.iload 8, 2) := by decide +kernel
theorem dX12_beside_70 : decode cX12_beside 70 = .ok (.aload_n 0, 1) := by decide +kernel
theorem dX12_beside_71 : decode cX12_beside 71 = .ok (.getfield 30, 3) := by decide +kernel
theorem dX12_beside_74 : decode cX12_beside 74 = .ok (.iconst 3, 1) := by decide +kernel
theorem dX12_beside_75 : decode cX12_beside 75 = .ok (.iload_n 1, 1) := by decide +kernel
theorem dX12_beside_76 : decode cX12_beside 76 = .ok (.imul, 1) := by decide +kernel
theorem dX12_beside_77 : decode cX12_beside 77 = .ok (.iload 6, 2) := by decide +kernel
theorem dX12_beside_79 : decode cX12_beside 79 = .ok (.iadd, 1) := by decide +kernel
theorem dX12_beside_80 : decode cX12_beside 80 = .ok (.iaload, 1) := by decide +kernel
theorem dX12_beside_81 : decode cX12_beside 81 = .ok (.aload_n 0, 1) := by decide +kernel
theorem dX12_beside_82 : decode cX12_beside 82 = .ok (.getfield 33, 3) := by decide +kernel
theorem dX12_beside_85 : decode cX12_beside 85 = .ok (.iconst 3, 1) := by decide +kernel
theorem dX12_beside_86 : decode cX12_beside 86 = .ok (.iload_n 1, 1) := by decide +kernel
theorem dX12_beside_87 : decode cX12_beside 87 = .ok (.imul, 1) := by decide +kernel
theorem dX12_beside_88 : decode cX12_beside 88 = .ok (.iload 6, 2) := by decide +kernel
theorem dX12_beside_90 : decode cX12_beside 90 = .ok (.iadd, 1) := by decide +kernel
theorem dX12_beside_91 : decode cX12_beside 91 = .ok (.iaload, 1) := by decide +kernel
theorem dX12_beside_92 : decode cX12_beside 92 = .ok (.invokestatic 144, 3) := by decide +kernel
theorem dX12_beside_95 : decode cX12_beside 95 = .ok (.ifCond .ne 5, 3) := by decide +kernel
theorem dX12_beside_98 : decode cX12_beside 98 = .ok (.iconst (-1), 1) := by decide +kernel
theorem dX12_beside_99 : decode cX12_beside 99 = .ok (.ireturn, 1) := by decide +kernel
theorem dX12_beside_100 : decode cX12_beside 100 = .ok (.iload 5, 2) := by decide +kernel
theorem dX12_beside_102 : decode cX12_beside 102 = .ok (.iload 8, 2) := by decide +kernel
theorem dX12_beside_104 : decode cX12_beside 104 = .ok (.iconst 4, 1) := by decide +kernel
theorem dX12_beside_105 : decode cX12_beside 105 = .ok (.iload 6, 2) := by decide +kernel
theorem dX12_beside_107 : decode cX12_beside 107 = .ok (.imul, 1) := by decide +kernel
theorem dX12_beside_108 : decode cX12_beside 108 = .ok (.ishl, 1) := by decide +kernel
theorem dX12_beside_109 : decode cX12_beside 109 = .ok (.ior, 1) := by decide +kernel
theorem dX12_beside_110 : decode cX12_beside 110 = .ok (.istore 5, 2) := by decide +kernel
theorem dX12_beside_112 : decode cX12_beside 112 = .ok (.iinc 6 (-1), 3) := by decide +kernel
theorem dX12_beside_115 : decode cX12_beside 115 = .ok (.goto (-99), 3) := by decide +kernel
theorem dX12_beside_118 : decode cX12_beside 118 = .ok (.iload 5, 2) := by decide +kernel
theorem dX12_beside_120 : decode cX12_beside 120 = .ok (.ireturn, 1) := by decide +kernel
theorem dX12_besides_0 : decode cX12_besides 0 = .ok (.iconst 1, 1) := by decide +kernel
theorem dX12_besides_1 : decode cX12_besides 1 = .ok (.istore_n 3, 1) := by decide +kernel
theorem dX12_besides_2 : decode cX12_besides 2 = .ok (.iconst 0, 1) := by decide +kernel
theorem dX12_besides_3 : decode cX12_besides 3 = .ok (.istore 4, 2) := by decide +kernel
theorem dX12_besides_5 : decode cX12_besides 5 = .ok (.iload 4, 2) := by decide +kernel
theorem dX12_besides_7 : decode cX12_besides 7 = .ok (.iload_n 2, 1) := by decide +kernel
theorem dX12_besides_8 : decode cX12_besides 8 = .ok (.if_icmp .ge 27, 3) := by decide +kernel
theorem dX12_besides_11 : decode cX12_besides 11 = .ok (.iload_n 3, 1) := by decide +kernel
theorem dX12_besides_12 : decode cX12_besides 12 = .ok (.iconst 2, 1) := by decide +kernel
theorem dX12_besides_13 : decode cX12_besides 13 = .ok (.aload_n 0, 1) := by decide +kernel
theorem dX12_besides_14 : decode cX12_besides 14 = .ok (.getfield 36, 3) := by decide +kernel
theorem dX12_besides_17 : decode cX12_besides 17 = .ok (.iconst 3, 1) := by decide +kernel
theorem dX12_besides_18 : decode cX12_besides 18 = .ok (.iload_n 1, 1) := by decide +kernel
theorem dX12_besides_19 : decode cX12_besides 19 = .ok (.imul, 1) := by decide +kernel
theorem dX12_besides_20 : decode cX12_besides 20 = .ok (.iload 4, 2) := by decide +kernel
theorem dX12_besides_22 : decode cX12_besides 22 = .ok (.iadd, 1) := by decide +kernel
theorem dX12_besides_23 : decode cX12_besides 23 = .ok (.iaload, 1) := by decide +kernel
theorem dX12_besides_24 : decode cX12_besides 24 = .ok (.imul, 1) := by decide +kernel
theorem dX12_besides_25 : decode cX12_besides 25 = .ok (.iconst 1, 1) := by decide +kernel
theorem dX12_besides_26 : decode cX12_besides 26 = .ok (.iadd, 1) := by decide +kernel
theorem dX12_besides_27 : decode cX12_besides 27 = .ok (.imul, 1) := by decide +kernel
theorem dX12_besides_28 : decode cX12_besides 28 = .ok (.istore_n 3, 1) := by decide +kernel
theorem dX12_besides_29 : decode cX12_besides 29 = .ok (.iinc 4 1, 3) := by decide +kernel
theorem dX12_besides_32 : decode cX12_besides 32 = .ok (.goto (-27), 3) := by decide +kernel
theorem dX12_besides_35 : decode cX12_besides 35 = .ok (.iload_n 3, 1) := by decide +kernel
theorem dX12_besides_36 : decode cX12_besides 36 = .ok (.ireturn, 1) := by decide +kernel
theorem dX12_wayBetween_0 : decode cX12_wayBetween 0 = .ok (.iconst 0, 1) := by decide +kernel
theorem dX12_wayBetween_1 : decode cX12_wayBetween 1 = .ok (.istore_n 3, 1) := by decide +kernel
theorem dX12_wayBetween_2 : decode cX12_wayBetween 2 = .ok (.iconst 0, 1) := by decide +kernel
theorem dX12_wayBetween_3 : decode cX12_wayBetween 3 = .ok (.istore 4, 2) := by decide +kernel
theorem dX12_wayBetween_5 : decode cX12_wayBetween 5 = .ok (.iload 4, 2) := by decide +kernel
theorem dX12_wayBetween_7 : decode cX12_wayBetween 7 = .ok (.iconst 3, 1) := by decide +kernel
theorem dX12_wayBetween_8 : decode cX12_wayBetween 8 = .ok (.if_icmp .ge 28, 3) := by decide +kernel
theorem dX12_wayBetween_11 : decode cX12_wayBetween 11 = .ok (.iload_n 3, 1) := by decide +kernel
theorem dX12_wayBetween_12 : decode cX12_wayBetween 12 = .ok (.iload_n 1, 1) := by decide +kernel
theorem dX12_wayBetween_13 : decode cX12_wayBetween 13 = .ok (.iload 4, 2) := by decide +kernel
theorem dX12_wayBetween_15 : decode cX12_wayBetween 15 = .ok (.invokestatic 155, 3) := by decide +kernel
theorem dX12_wayBetween_18 : decode cX12_wayBetween 18 = .ok (.iload_n 2, 1) := by decide +kernel
theorem dX12_wayBetween_19 : decode cX12_wayBetween 19 = .ok (.iload 4, 2) := by decide +kernel
theorem dX12_wayBetween_21 : decode cX12_wayBetween 21 = .ok (.invokestatic 155, 3) := by decide +kernel
theorem dX12_wayBetween_24 : decode cX12_wayBetween 24 = .ok (.isub, 1) := by decide +kernel
theorem dX12_wayBetween_25 : decode cX12_wayBetween 25 = .ok (.invokestatic 168, 3) := by decide +kernel
theorem dX12_wayBetween_28 : decode cX12_wayBetween 28 = .ok (.iadd, 1) := by decide +kernel
theorem dX12_wayBetween_29 : decode cX12_wayBetween 29 = .ok (.istore_n 3, 1) := by decide +kernel
theorem dX12_wayBetween_30 : decode cX12_wayBetween 30 = .ok (.iinc 4 1, 3) := by decide +kernel
theorem dX12_wayBetween_33 : decode cX12_wayBetween 33 = .ok (.goto (-28), 3) := by decide +kernel
theorem dX12_wayBetween_36 : decode cX12_wayBetween 36 = .ok (.iload_n 3, 1) := by decide +kernel
theorem dX12_wayBetween_37 : decode cX12_wayBetween 37 = .ok (.ireturn, 1) := by decide +kernel
theorem dX12_follows_0 : decode cX12_follows 0 = .ok (.aload_n 0, 1) := by decide +kernel
theorem dX12_follows_1 : decode cX12_follows 1 = .ok (.getfield 54, 3) := by decide +kernel
theorem dX12_follows_4 : decode cX12_follows 4 = .ok (.iload_n 1, 1) := by decide +kernel
theorem dX12_follows_5 : decode cX12_follows 5 = .ok (.iaload, 1) := by decide +kernel
theorem dX12_follows_6 : decode cX12_follows 6 = .ok (.iconst 1, 1) := by decide +kernel
theorem dX12_follows_7 : decode cX12_follows 7 = .ok (.isub, 1) := by decide +kernel
theorem dX12_follows_8 : decode cX12_follows 8 = .ok (.istore 5, 2) := by decide +kernel
theorem dX12_follows_10 : decode cX12_follows 10 = .ok (.aload_n 0, 1) := by decide +kernel
theorem dX12_follows_11 : decode cX12_follows 11 = .ok (.iload_n 2, 1) := by decide +kernel
theorem dX12_follows_12 : decode cX12_follows 12 = .ok (.aload_n 0, 1) := by decide +kernel
theorem dX12_follows_13 : decode cX12_follows 13 = .ok (.getfield 24, 3) := by decide +kernel
theorem dX12_follows_16 : decode cX12_follows 16 = .ok (.iload_n 2, 1) := by decide +kernel
theorem dX12_follows_17 : decode cX12_follows 17 = .ok (.iaload, 1) := by decide +kernel
theorem dX12_follows_18 : decode cX12_follows 18 = .ok (.invokevirtual 310, 3) := by decide +kernel
theorem dX12_follows_21 : decode cX12_follows 21 = .ok (.istore 6, 2) := by decide +kernel
theorem dX12_follows_23 : decode cX12_follows 23 = .ok (.iload 5, 2) := by decide +kernel
theorem dX12_follows_25 : decode cX12_follows 25 = .ok (.istore 7, 2) := by decide +kernel
theorem dX12_follows_27 : decode cX12_follows 27 = .ok (.iload 7, 2) := by decide +kernel
theorem dX12_follows_29 : decode cX12_follows 29 = .ok (.ifCond .lt 201, 3) := by decide +kernel
theorem dX12_follows_32 : decode cX12_follows 32 = .ok (.iconst 0, 1) := by decide +kernel
theorem dX12_follows_33 : decode cX12_follows 33 = .ok (.istore 8, 2) := by decide +kernel
theorem dX12_follows_35 : decode cX12_follows 35 = .ok (.iload 8, 2) := by decide +kernel
theorem dX12_follows_37 : decode cX12_follows 37 = .ok (.sipush 4096, 3) := by decide +kernel
theorem dX12_follows_40 : decode cX12_follows 40 = .ok (.if_icmp .ge 184, 3) := by decide +kernel
theorem dX12_follows_43 : decode cX12_follows 43 = .ok (.aload_n 0, 1) := by decide +kernel
theorem dX12_follows_44 : decode cX12_follows 44 = .ok (.getfield 92, 3) := by decide +kernel
theorem dX12_follows_47 : decode cX12_follows 47 = .ok (.sipush 4096, 3) := by decide +kernel
theorem dX12_follows_50 : decode cX12_follows 50 = .ok (.iload 7, 2) := by decide +kernel
theorem dX12_follows_52 : decode cX12_follows 52 = .ok (.imul, 1) := by decide +kernel
theorem dX12_follows_53 : decode cX12_follows 53 = .ok (.iload 8, 2) := by decide +kernel
theorem dX12_follows_55 : decode cX12_follows 55 = .ok (.iadd, 1) := by decide +kernel
theorem dX12_follows_56 : decode cX12_follows 56 = .ok (.iconst (-1), 1) := by decide +kernel
theorem dX12_follows_57 : decode cX12_follows 57 = .ok (.iastore, 1) := by decide +kernel
theorem dX12_follows_58 : decode cX12_follows 58 = .ok (.aload_n 0, 1) := by decide +kernel
theorem dX12_follows_59 : decode cX12_follows 59 = .ok (.iload_n 1, 1) := by decide +kernel
theorem dX12_follows_60 : decode cX12_follows 60 = .ok (.iload_n 2, 1) := by decide +kernel
theorem dX12_follows_61 : decode cX12_follows 61 = .ok (.iload 7, 2) := by decide +kernel
theorem dX12_follows_63 : decode cX12_follows 63 = .ok (.iload_n 3, 1) := by decide +kernel
theorem dX12_follows_64 : decode cX12_follows 64 = .ok (.iload 4, 2) := by decide +kernel
theorem dX12_follows_66 : decode cX12_follows 66 = .ok (.iload 8, 2) := by decide +kernel
theorem dX12_follows_68 : decode cX12_follows 68 = .ok (.invokevirtual 313, 3) := by decide +kernel
theorem dX12_follows_71 : decode cX12_follows 71 = .ok (.ifCond .ne 6, 3) := by decide +kernel
theorem dX12_follows_74 : decode cX12_follows 74 = .ok (.goto 144, 3) := by decide +kernel
theorem dX12_follows_77 : decode cX12_follows 77 = .ok (.iload 7, 2) := by decide +kernel
theorem dX12_follows_79 : decode cX12_follows 79 = .ok (.iload 5, 2) := by decide +kernel
theorem dX12_follows_81 : decode cX12_follows 81 = .ok (.if_icmp .ne 7, 3) := by decide +kernel
theorem dX12_follows_84 : decode cX12_follows 84 = .ok (.iconst 0, 1) := by decide +kernel
theorem dX12_follows_85 : decode cX12_follows 85 = .ok (.goto 4, 3) := by decide +kernel
theorem dX12_follows_88 : decode cX12_follows 88 = .ok (.iconst (-1), 1) := by decide +kernel
theorem dX12_follows_89 : decode cX12_follows 89 = .ok (.istore 9, 2) := by decide +kernel
theorem dX12_follows_91 : decode cX12_follows 91 = .ok (.iconst 0, 1) := by decide +kernel
theorem dX12_follows_92 : decode cX12_follows 92 = .ok (.istore 10, 2) := by decide +kernel
theorem dX12_follows_94 : decode cX12_follows 94 = .ok (.iload 10, 2) := by decide +kernel
theorem dX12_follows_96 : decode cX12_follows 96 = .ok (.iload 6, 2) := by decide +kernel
theorem dX12_follows_98 : decode cX12_follows 98 = .ok (.if_icmp .ge 104, 3) := by decide +kernel
theorem dX12_follows_101 : decode cX12_follows 101 = .ok (.iload 7, 2) := by decide +kernel
theorem dX12_follows_103 : decode cX12_follows 103 = .ok (.iload 5, 2) := by decide +kernel
theorem dX12_follows_105 : decode cX12_follows 105 = .ok (.if_icmp .ge 97, 3) := by decide +kernel
theorem dX12_follows_108 : decode cX12_follows 108 = .ok (.aload_n 0, 1) := by decide +kernel
theorem dX12_follows_109 : decode cX12_follows 109 = .ok (.iload_n 2, 1) := by decide +kernel
theorem dX12_follows_110 : decode cX12_follows 110 = .ok (.iload 8, 2) := by decide +kernel
theorem dX12_follows_112 : decode cX12_follows 112 = .ok (.iload 10, 2) := by decide +kernel
theorem dX12_follows_114 : decode cX12_follows 114 = .ok (.invokevirtual 317, 3) := by decide +kernel
theorem dX12_follows_117 : decode cX12_follows 117 = .ok (.istore 11, 2) := by decide +kernel
theorem dX12_follows_119 : decode cX12_follows 119 = .ok (.iload 11, 2) := by decide +kernel
theorem dX12_follows_121 : decode cX12_follows 121 = .ok (.iconst (-1), 1) := by decide +kernel
theorem dX12_follows_122 : decode cX12_follows 122 = .ok (.if_icmp .eq 74, 3) := by decide +kernel
theorem dX12_follows_125 : decode cX12_follows 125 = .ok (.aload_n 0, 1) := by decide +kernel
theorem dX12_follows_126 : decode cX12_follows 126 = .ok (.getfield 92, 3) := by decide +kernel
theorem dX12_follows_129 : decode cX12_follows 129 = .ok (.sipush 4096, 3) := by decide +kernel
theorem dX12_follows_132 : decode cX12_follows 132 = .ok (.iload 7, 2) := by decide +kernel
theorem dX12_follows_134 : decode cX12_follows 134 = .ok (.imul, 1) := by decide +kernel
theorem dX12_follows_135 : decode cX12_follows 135 = .ok (.sipush 4096, 3) := by decide +kernel
theorem dX12_follows_138 : decode cX12_follows 138 = .ok (.iadd, 1) := by decide +kernel
theorem dX12_follows_139 : decode cX12_follows 139 = .ok (.iload 11, 2) := by decide +kernel
theorem dX12_follows_141 : decode cX12_follows 141 = .ok (.iadd, 1) := by decide +kernel
theorem dX12_follows_142 : decode cX12_follows 142 = .ok (.iaload, 1) := by decide +kernel
theorem dX12_follows_143 : decode cX12_follows 143 = .ok (.iconst (-1), 1) := by decide +kernel
theorem dX12_follows_144 : decode cX12_follows 144 = .ok (.if_icmp .ne 6, 3) := by decide +kernel
theorem dX12_follows_147 : decode cX12_follows 147 = .ok (.goto 49, 3) := by decide +kernel
theorem dX12_follows_150 : decode cX12_follows 150 = .ok (.aload_n 0, 1) := by decide +kernel
theorem dX12_follows_151 : decode cX12_follows 151 = .ok (.getfield 92, 3) := by decide +kernel
theorem dX12_follows_154 : decode cX12_follows 154 = .ok (.sipush 4096, 3) := by decide +kernel
theorem dX12_follows_157 : decode cX12_follows 157 = .ok (.iload 7, 2) := by decide +kernel
theorem dX12_follows_159 : decode cX12_follows 159 = .ok (.imul, 1) := by decide +kernel
theorem dX12_follows_160 : decode cX12_follows 160 = .ok (.sipush 4096, 3) := by decide +kernel
theorem dX12_follows_163 : decode cX12_follows 163 = .ok (.iadd, 1) := by decide +kernel
theorem dX12_follows_164 : decode cX12_follows 164 = .ok (.iload 11, 2) := by decide +kernel
theorem dX12_follows_166 : decode cX12_follows 166 = .ok (.iadd, 1) := by decide +kernel
theorem dX12_follows_167 : decode cX12_follows 167 = .ok (.iaload, 1) := by decide +kernel
theorem dX12_follows_168 : decode cX12_follows 168 = .ok (.aload_n 0, 1) := by decide +kernel
theorem dX12_follows_169 : decode cX12_follows 169 = .ok (.iload 8, 2) := by decide +kernel
theorem dX12_follows_171 : decode cX12_follows 171 = .ok (.iload 11, 2) := by decide +kernel
theorem dX12_follows_173 : decode cX12_follows 173 = .ok (.invokevirtual 320, 3) := by decide +kernel
theorem dX12_follows_176 : decode cX12_follows 176 = .ok (.iadd, 1) := by decide +kernel
theorem dX12_follows_177 : decode cX12_follows 177 = .ok (.istore 12, 2) := by decide +kernel
theorem dX12_follows_179 : decode cX12_follows 179 = .ok (.iload 9, 2) := by decide +kernel
theorem dX12_follows_181 : decode cX12_follows 181 = .ok (.iconst (-1), 1) := by decide +kernel
theorem dX12_follows_182 : decode cX12_follows 182 = .ok (.if_icmp .eq 10, 3) := by decide +kernel
theorem dX12_follows_185 : decode cX12_follows 185 = .ok (.iload 12, 2) := by decide +kernel
theorem dX12_follows_187 : decode cX12_follows 187 = .ok (.iload 9, 2) := by decide +kernel
theorem dX12_follows_189 : decode cX12_follows 189 = .ok (.if_icmp .ge 7, 3) := by decide +kernel
theorem dX12_follows_192 : decode cX12_follows 192 = .ok (.iload 12, 2) := by decide +kernel
theorem dX12_follows_194 : decode cX12_follows 194 = .ok (.istore 9, 2) := by decide +kernel
theorem dX12_follows_196 : decode cX12_follows 196 = .ok (.iinc 10 1, 3) := by decide +kernel
theorem dX12_follows_199 : decode cX12_follows 199 = .ok (.goto (-105), 3) := by decide +kernel
theorem dX12_follows_202 : decode cX12_follows 202 = .ok (.aload_n 0, 1) := by decide +kernel
theorem dX12_follows_203 : decode cX12_follows 203 = .ok (.getfield 92, 3) := by decide +kernel
theorem dX12_follows_206 : decode cX12_follows 206 = .ok (.sipush 4096, 3) := by decide +kernel
theorem dX12_follows_209 : decode cX12_follows 209 = .ok (.iload 7, 2) := by decide +kernel
theorem dX12_follows_211 : decode cX12_follows 211 = .ok (.imul, 1) := by decide +kernel
theorem dX12_follows_212 : decode cX12_follows 212 = .ok (.iload 8, 2) := by decide +kernel
theorem dX12_follows_214 : decode cX12_follows 214 = .ok (.iadd, 1) := by decide +kernel
theorem dX12_follows_215 : decode cX12_follows 215 = .ok (.iload 9, 2) := by decide +kernel
theorem dX12_follows_217 : decode cX12_follows 217 = .ok (.iastore, 1) := by decide +kernel
theorem dX12_follows_218 : decode cX12_follows 218 = .ok (.iinc 8 1, 3) := by decide +kernel
theorem dX12_follows_221 : decode cX12_follows 221 = .ok (.goto (-186), 3) := by decide +kernel
theorem dX12_follows_224 : decode cX12_follows 224 = .ok (.iinc 7 (-1), 3) := by decide +kernel
theorem dX12_follows_227 : decode cX12_follows 227 = .ok (.goto (-200), 3) := by decide +kernel
theorem dX12_follows_230 : decode cX12_follows 230 = .ok (.iconst (-1), 1) := by decide +kernel
theorem dX12_follows_231 : decode cX12_follows 231 = .ok (.istore 7, 2) := by decide +kernel
theorem dX12_follows_233 : decode cX12_follows 233 = .ok (.iconst 0, 1) := by decide +kernel
theorem dX12_follows_234 : decode cX12_follows 234 = .ok (.istore 8, 2) := by decide +kernel
theorem dX12_follows_236 : decode cX12_follows 236 = .ok (.iload 8, 2) := by decide +kernel
theorem dX12_follows_238 : decode cX12_follows 238 = .ok (.sipush 4096, 3) := by decide +kernel
theorem dX12_follows_241 : decode cX12_follows 241 = .ok (.if_icmp .ge 47, 3) := by decide +kernel
theorem dX12_follows_244 : decode cX12_follows 244 = .ok (.aload_n 0, 1) := by decide +kernel
theorem dX12_follows_245 : decode cX12_follows 245 = .ok (.getfield 92, 3) := by decide +kernel
theorem dX12_follows_248 : decode cX12_follows 248 = .ok (.iload 8, 2) := by decide +kernel
theorem dX12_follows_250 : decode cX12_follows 250 = .ok (.iaload, 1) := by decide +kernel
theorem dX12_follows_251 : decode cX12_follows 251 = .ok (.iconst (-1), 1) := by decide +kernel
theorem dX12_follows_252 : decode cX12_follows 252 = .ok (.if_icmp .eq 30, 3) := by decide +kernel
theorem dX12_follows_255 : decode cX12_follows 255 = .ok (.iload 7, 2) := by decide +kernel
theorem dX12_follows_257 : decode cX12_follows 257 = .ok (.iconst (-1), 1) := by decide +kernel
theorem dX12_follows_258 : decode cX12_follows 258 = .ok (.if_icmp .eq 20, 3) := by decide +kernel
theorem dX12_follows_261 : decode cX12_follows 261 = .ok (.aload_n 0, 1) := by decide +kernel
theorem dX12_follows_262 : decode cX12_follows 262 = .ok (.getfield 92, 3) := by decide +kernel
theorem dX12_follows_265 : decode cX12_follows 265 = .ok (.iload 8, 2) := by decide +kernel
theorem dX12_follows_267 : decode cX12_follows 267 = .ok (.iaload, 1) := by decide +kernel
theorem dX12_follows_268 : decode cX12_follows 268 = .ok (.aload_n 0, 1) := by decide +kernel
theorem dX12_follows_269 : decode cX12_follows 269 = .ok (.getfield 92, 3) := by decide +kernel
theorem dX12_follows_272 : decode cX12_follows 272 = .ok (.iload 7, 2) := by decide +kernel
theorem dX12_follows_274 : decode cX12_follows 274 = .ok (.iaload, 1) := by decide +kernel
theorem dX12_follows_275 : decode cX12_follows 275 = .ok (.if_icmp .ge 7, 3) := by decide +kernel
theorem dX12_follows_278 : decode cX12_follows 278 = .ok (.iload 8, 2) := by decide +kernel
theorem dX12_follows_280 : decode cX12_follows 280 = .ok (.istore 7, 2) := by decide +kernel
theorem dX12_follows_282 : decode cX12_follows 282 = .ok (.iinc 8 1, 3) := by decide +kernel
theorem dX12_follows_285 : decode cX12_follows 285 = .ok (.goto (-49), 3) := by decide +kernel
theorem dX12_follows_288 : decode cX12_follows 288 = .ok (.iload 7, 2) := by decide +kernel
theorem dX12_follows_290 : decode cX12_follows 290 = .ok (.iconst (-1), 1) := by decide +kernel
theorem dX12_follows_291 : decode cX12_follows 291 = .ok (.if_icmp .ne 18, 3) := by decide +kernel
theorem dX12_follows_294 : decode cX12_follows 294 = .ok (.aload_n 0, 1) := by decide +kernel
theorem dX12_follows_295 : decode cX12_follows 295 = .ok (.aload_n 0, 1) := by decide +kernel
theorem dX12_follows_296 : decode cX12_follows 296 = .ok (.iload_n 1, 1) := by decide +kernel
theorem dX12_follows_297 : decode cX12_follows 297 = .ok (.iload_n 2, 1) := by decide +kernel
theorem dX12_follows_298 : decode cX12_follows 298 = .ok (.iload_n 3, 1) := by decide +kernel
theorem dX12_follows_299 : decode cX12_follows 299 = .ok (.iload 4, 2) := by decide +kernel
theorem dX12_follows_301 : decode cX12_follows 301 = .ok (.invokevirtual 323, 3) := by decide +kernel
theorem dX12_follows_304 : decode cX12_follows 304 = .ok (.putfield 85, 3) := by decide +kernel
theorem dX12_follows_307 : decode cX12_follows 307 = .ok (.iconst 0, 1) := by decide +kernel
theorem dX12_follows_308 : decode cX12_follows 308 = .ok (.ireturn, 1) := by decide +kernel
theorem dX12_follows_309 : decode cX12_follows 309 = .ok (.aload_n 0, 1) := by decide +kernel
theorem dX12_follows_310 : decode cX12_follows 310 = .ok (.aload_n 0, 1) := by decide +kernel
theorem dX12_follows_311 : decode cX12_follows 311 = .ok (.getfield 92, 3) := by decide +kernel
theorem dX12_follows_314 : decode cX12_follows 314 = .ok (.iload 7, 2) := by decide +kernel
theorem dX12_follows_316 : decode cX12_follows 316 = .ok (.iaload, 1) := by decide +kernel
theorem dX12_follows_317 : decode cX12_follows 317 = .ok (.putfield 327, 3) := by decide +kernel
theorem dX12_follows_320 : decode cX12_follows 320 = .ok (.iconst 0, 1) := by decide +kernel
theorem dX12_follows_321 : decode cX12_follows 321 = .ok (.istore 8, 2) := by decide +kernel
theorem dX12_follows_323 : decode cX12_follows 323 = .ok (.iload 8, 2) := by decide +kernel
theorem dX12_follows_325 : decode cX12_follows 325 = .ok (.iload 5, 2) := by decide +kernel
theorem dX12_follows_327 : decode cX12_follows 327 = .ok (.if_icmp .gt 141, 3) := by decide +kernel
theorem dX12_follows_330 : decode cX12_follows 330 = .ok (.aload_n 0, 1) := by decide +kernel
theorem dX12_follows_331 : decode cX12_follows 331 = .ok (.getfield 99, 3) := by decide +kernel
theorem dX12_follows_334 : decode cX12_follows 334 = .ok (.iload 8, 2) := by decide +kernel
theorem dX12_follows_336 : decode cX12_follows 336 = .ok (.iload 7, 2) := by decide +kernel
theorem dX12_follows_338 : decode cX12_follows 338 = .ok (.iastore, 1) := by decide +kernel
theorem dX12_follows_339 : decode cX12_follows 339 = .ok (.iconst (-1), 1) := by decide +kernel
theorem dX12_follows_340 : decode cX12_follows 340 = .ok (.istore 9, 2) := by decide +kernel
theorem dX12_follows_342 : decode cX12_follows 342 = .ok (.iconst 0, 1) := by decide +kernel
theorem dX12_follows_343 : decode cX12_follows 343 = .ok (.istore 10, 2) := by decide +kernel
theorem dX12_follows_345 : decode cX12_follows 345 = .ok (.iload 10, 2) := by decide +kernel
theorem dX12_follows_347 : decode cX12_follows 347 = .ok (.iload 6, 2) := by decide +kernel
theorem dX12_follows_349 : decode cX12_follows 349 = .ok (.if_icmp .ge 109, 3) := by decide +kernel
theorem dX12_follows_352 : decode cX12_follows 352 = .ok (.iload 8, 2) := by decide +kernel
theorem dX12_follows_354 : decode cX12_follows 354 = .ok (.iload 5, 2) := by decide +kernel
theorem dX12_follows_356 : decode cX12_follows 356 = .ok (.if_icmp .ge 102, 3) := by decide +kernel
theorem dX12_follows_359 : decode cX12_follows 359 = .ok (.aload_n 0, 1) := by decide +kernel
theorem dX12_follows_360 : decode cX12_follows 360 = .ok (.iload_n 2, 1) := by decide +kernel
theorem dX12_follows_361 : decode cX12_follows 361 = .ok (.iload 7, 2) := by decide +kernel
theorem dX12_follows_363 : decode cX12_follows 363 = .ok (.iload 10, 2) := by decide +kernel
theorem dX12_follows_365 : decode cX12_follows 365 = .ok (.invokevirtual 317, 3) := by decide +kernel
theorem dX12_follows_368 : decode cX12_follows 368 = .ok (.istore 11, 2) := by decide +kernel
theorem dX12_follows_370 : decode cX12_follows 370 = .ok (.iload 11, 2) := by decide +kernel
theorem dX12_follows_372 : decode cX12_follows 372 = .ok (.iconst (-1), 1) := by decide +kernel
theorem dX12_follows_373 : decode cX12_follows 373 = .ok (.if_icmp .eq 79, 3) := by decide +kernel
theorem dX12_follows_376 : decode cX12_follows 376 = .ok (.aload_n 0, 1) := by decide +kernel
theorem dX12_follows_377 : decode cX12_follows 377 = .ok (.getfield 92, 3) := by decide +kernel
theorem dX12_follows_380 : decode cX12_follows 380 = .ok (.sipush 4096, 3) := by decide +kernel
theorem dX12_follows_383 : decode cX12_follows 383 = .ok (.iload 8, 2) := by decide +kernel
theorem dX12_follows_385 : decode cX12_follows 385 = .ok (.imul, 1) := by decide +kernel
theorem dX12_follows_386 : decode cX12_follows 386 = .ok (.sipush 4096, 3) := by decide +kernel
theorem dX12_follows_389 : decode cX12_follows 389 = .ok (.iadd, 1) := by decide +kernel
theorem dX12_follows_390 : decode cX12_follows 390 = .ok (.iload 11, 2) := by decide +kernel
theorem dX12_follows_392 : decode cX12_follows 392 = .ok (.iadd, 1) := by decide +kernel
theorem dX12_follows_393 : decode cX12_follows 393 = .ok (.iaload, 1) := by decide +kernel
theorem dX12_follows_394 : decode cX12_follows 394 = .ok (.iconst (-1), 1) := by decide +kernel
theorem dX12_follows_395 : decode cX12_follows 395 = .ok (.if_icmp .eq 57, 3) := by decide +kernel
theorem dX12_follows_398 : decode cX12_follows 398 = .ok (.aload_n 0, 1) := by decide +kernel
theorem dX12_follows_399 : decode cX12_follows 399 = .ok (.getfield 92, 3) := by decide +kernel
theorem dX12_follows_402 : decode cX12_follows 402 = .ok (.sipush 4096, 3) := by decide +kernel
theorem dX12_follows_405 : decode cX12_follows 405 = .ok (.iload 8, 2) := by decide +kernel
theorem dX12_follows_407 : decode cX12_follows 407 = .ok (.imul, 1) := by decide +kernel
theorem dX12_follows_408 : decode cX12_follows 408 = .ok (.sipush 4096, 3) := by decide +kernel
theorem dX12_follows_411 : decode cX12_follows 411 = .ok (.iadd, 1) := by decide +kernel
theorem dX12_follows_412 : decode cX12_follows 412 = .ok (.iload 11, 2) := by decide +kernel
theorem dX12_follows_414 : decode cX12_follows 414 = .ok (.iadd, 1) := by decide +kernel
theorem dX12_follows_415 : decode cX12_follows 415 = .ok (.iaload, 1) := by decide +kernel
theorem dX12_follows_416 : decode cX12_follows 416 = .ok (.aload_n 0, 1) := by decide +kernel
theorem dX12_follows_417 : decode cX12_follows 417 = .ok (.iload 7, 2) := by decide +kernel
theorem dX12_follows_419 : decode cX12_follows 419 = .ok (.iload 11, 2) := by decide +kernel
theorem dX12_follows_421 : decode cX12_follows 421 = .ok (.invokevirtual 320, 3) := by decide +kernel
theorem dX12_follows_424 : decode cX12_follows 424 = .ok (.iadd, 1) := by decide +kernel
theorem dX12_follows_425 : decode cX12_follows 425 = .ok (.aload_n 0, 1) := by decide +kernel
theorem dX12_follows_426 : decode cX12_follows 426 = .ok (.getfield 92, 3) := by decide +kernel
theorem dX12_follows_429 : decode cX12_follows 429 = .ok (.sipush 4096, 3) := by decide +kernel
theorem dX12_follows_432 : decode cX12_follows 432 = .ok (.iload 8, 2) := by decide +kernel
theorem dX12_follows_434 : decode cX12_follows 434 = .ok (.imul, 1) := by decide +kernel
theorem dX12_follows_435 : decode cX12_follows 435 = .ok (.iload 7, 2) := by decide +kernel
theorem dX12_follows_437 : decode cX12_follows 437 = .ok (.iadd, 1) := by decide +kernel
theorem dX12_follows_438 : decode cX12_follows 438 = .ok (.iaload, 1) := by decide +kernel
theorem dX12_follows_439 : decode cX12_follows 439 = .ok (.if_icmp .ne 13, 3) := by decide +kernel
theorem dX12_follows_442 : decode cX12_follows 442 = .ok (.iload 9, 2) := by decide +kernel
theorem dX12_follows_444 : decode cX12_follows 444 = .ok (.iconst (-1), 1) := by decide +kernel
theorem dX12_follows_445 : decode cX12_follows 445 = .ok (.if_icmp .ne 7, 3) := by decide +kernel
theorem dX12_follows_448 : decode cX12_follows 448 = .ok (.iload 11, 2) := by decide +kernel
theorem dX12_follows_450 : decode cX12_follows 450 = .ok (.istore 9, 2) := by decide +kernel
theorem dX12_follows_452 : decode cX12_follows 452 = .ok (.iinc 10 1, 3) := by decide +kernel
theorem dX12_follows_455 : decode cX12_follows 455 = .ok (.goto (-110), 3) := by decide +kernel
theorem dX12_follows_458 : decode cX12_follows 458 = .ok (.iload 9, 2) := by decide +kernel
theorem dX12_follows_460 : decode cX12_follows 460 = .ok (.istore 7, 2) := by decide +kernel
theorem dX12_follows_462 : decode cX12_follows 462 = .ok (.iinc 8 1, 3) := by decide +kernel
theorem dX12_follows_465 : decode cX12_follows 465 = .ok (.goto (-142), 3) := by decide +kernel
theorem dX12_follows_468 : decode cX12_follows 468 = .ok (.iconst 1, 1) := by decide +kernel
theorem dX12_follows_469 : decode cX12_follows 469 = .ok (.ireturn, 1) := by decide +kernel
theorem dX12_stops_0 : decode cX12_stops 0 = .ok (.aload_n 0, 1) := by decide +kernel
theorem dX12_stops_1 : decode cX12_stops 1 = .ok (.iload_n 2, 1) := by decide +kernel
theorem dX12_stops_2 : decode cX12_stops 2 = .ok (.aload_n 0, 1) := by decide +kernel
theorem dX12_stops_3 : decode cX12_stops 3 = .ok (.getfield 24, 3) := by decide +kernel
theorem dX12_stops_6 : decode cX12_stops 6 = .ok (.iload_n 2, 1) := by decide +kernel
theorem dX12_stops_7 : decode cX12_stops 7 = .ok (.iaload, 1) := by decide +kernel
theorem dX12_stops_8 : decode cX12_stops 8 = .ok (.invokevirtual 310, 3) := by decide +kernel
theorem dX12_stops_11 : decode cX12_stops 11 = .ok (.istore 5, 2) := by decide +kernel
theorem dX12_stops_13 : decode cX12_stops 13 = .ok (.iconst 0, 1) := by decide +kernel
theorem dX12_stops_14 : decode cX12_stops 14 = .ok (.istore 6, 2) := by decide +kernel
theorem dX12_stops_16 : decode cX12_stops 16 = .ok (.iload 6, 2) := by decide +kernel
theorem dX12_stops_18 : decode cX12_stops 18 = .ok (.aload_n 0, 1) := by decide +kernel
theorem dX12_stops_19 : decode cX12_stops 19 = .ok (.getfield 54, 3) := by decide +kernel
theorem dX12_stops_22 : decode cX12_stops 22 = .ok (.iload_n 1, 1) := by decide +kernel
theorem dX12_stops_23 : decode cX12_stops 23 = .ok (.iaload, 1) := by decide +kernel
theorem dX12_stops_24 : decode cX12_stops 24 = .ok (.if_icmp .ge 188, 3) := by decide +kernel
theorem dX12_stops_27 : decode cX12_stops 27 = .ok (.sipush 4096, 3) := by decide +kernel
theorem dX12_stops_30 : decode cX12_stops 30 = .ok (.iload 6, 2) := by decide +kernel
theorem dX12_stops_32 : decode cX12_stops 32 = .ok (.iconst 2, 1) := by decide +kernel
theorem dX12_stops_33 : decode cX12_stops 33 = .ok (.irem, 1) := by decide +kernel
theorem dX12_stops_34 : decode cX12_stops 34 = .ok (.imul, 1) := by decide +kernel
theorem dX12_stops_35 : decode cX12_stops 35 = .ok (.istore 7, 2) := by decide +kernel
theorem dX12_stops_37 : decode cX12_stops 37 = .ok (.sipush 4096, 3) := by decide +kernel
theorem dX12_stops_40 : decode cX12_stops 40 = .ok (.iload 7, 2) := by decide +kernel
theorem dX12_stops_42 : decode cX12_stops 42 = .ok (.isub, 1) := by decide +kernel
theorem dX12_stops_43 : decode cX12_stops 43 = .ok (.istore 8, 2) := by decide +kernel
theorem dX12_stops_45 : decode cX12_stops 45 = .ok (.iconst 0, 1) := by decide +kernel
theorem dX12_stops_46 : decode cX12_stops 46 = .ok (.istore 9, 2) := by decide +kernel
theorem dX12_stops_48 : decode cX12_stops 48 = .ok (.iconst 0, 1) := by decide +kernel
theorem dX12_stops_49 : decode cX12_stops 49 = .ok (.istore 10, 2) := by decide +kernel
theorem dX12_stops_51 : decode cX12_stops 51 = .ok (.iload 10, 2) := by decide +kernel
theorem dX12_stops_53 : decode cX12_stops 53 = .ok (.sipush 4096, 3) := by decide +kernel
theorem dX12_stops_56 : decode cX12_stops 56 = .ok (.if_icmp .ge 142, 3) := by decide +kernel
theorem dX12_stops_59 : decode cX12_stops 59 = .ok (.aload_n 0, 1) := by decide +kernel
theorem dX12_stops_60 : decode cX12_stops 60 = .ok (.getfield 95, 3) := by decide +kernel
theorem dX12_stops_63 : decode cX12_stops 63 = .ok (.iload 7, 2) := by decide +kernel
theorem dX12_stops_65 : decode cX12_stops 65 = .ok (.iload 10, 2) := by decide +kernel
theorem dX12_stops_67 : decode cX12_stops 67 = .ok (.iadd, 1) := by decide +kernel
theorem dX12_stops_68 : decode cX12_stops 68 = .ok (.iconst 0, 1) := by decide +kernel
theorem dX12_stops_69 : decode cX12_stops 69 = .ok (.bastore, 1) := by decide +kernel
theorem dX12_stops_70 : decode cX12_stops 70 = .ok (.aload_n 0, 1) := by decide +kernel
theorem dX12_stops_71 : decode cX12_stops 71 = .ok (.iload_n 1, 1) := by decide +kernel
theorem dX12_stops_72 : decode cX12_stops 72 = .ok (.iload_n 2, 1) := by decide +kernel
theorem dX12_stops_73 : decode cX12_stops 73 = .ok (.iload 6, 2) := by decide +kernel
theorem dX12_stops_75 : decode cX12_stops 75 = .ok (.iload_n 3, 1) := by decide +kernel
theorem dX12_stops_76 : decode cX12_stops 76 = .ok (.iload 4, 2) := by decide +kernel
theorem dX12_stops_78 : decode cX12_stops 78 = .ok (.iload 10, 2) := by decide +kernel
theorem dX12_stops_80 : decode cX12_stops 80 = .ok (.invokevirtual 313, 3) := by decide +kernel
theorem dX12_stops_83 : decode cX12_stops 83 = .ok (.ifCond .ne 6, 3) := by decide +kernel
theorem dX12_stops_86 : decode cX12_stops 86 = .ok (.goto 106, 3) := by decide +kernel
theorem dX12_stops_89 : decode cX12_stops 89 = .ok (.iconst 0, 1) := by decide +kernel
theorem dX12_stops_90 : decode cX12_stops 90 = .ok (.istore 11, 2) := by decide +kernel
theorem dX12_stops_92 : decode cX12_stops 92 = .ok (.iload 11, 2) := by decide +kernel
theorem dX12_stops_94 : decode cX12_stops 94 = .ok (.iload 5, 2) := by decide +kernel
theorem dX12_stops_96 : decode cX12_stops 96 = .ok (.if_icmp .ge 55, 3) := by decide +kernel
theorem dX12_stops_99 : decode cX12_stops 99 = .ok (.iload 6, 2) := by decide +kernel
theorem dX12_stops_101 : decode cX12_stops 101 = .ok (.ifCond .le 50, 3) := by decide +kernel
theorem dX12_stops_104 : decode cX12_stops 104 = .ok (.aload_n 0, 1) := by decide +kernel
theorem dX12_stops_105 : decode cX12_stops 105 = .ok (.iload_n 2, 1) := by decide +kernel
theorem dX12_stops_106 : decode cX12_stops 106 = .ok (.iload 10, 2) := by decide +kernel
theorem dX12_stops_108 : decode cX12_stops 108 = .ok (.iload 11, 2) := by decide +kernel
theorem dX12_stops_110 : decode cX12_stops 110 = .ok (.invokevirtual 317, 3) := by decide +kernel
theorem dX12_stops_113 : decode cX12_stops 113 = .ok (.istore 12, 2) := by decide +kernel
theorem dX12_stops_115 : decode cX12_stops 115 = .ok (.iload 12, 2) := by decide +kernel
theorem dX12_stops_117 : decode cX12_stops 117 = .ok (.iconst (-1), 1) := by decide +kernel
theorem dX12_stops_118 : decode cX12_stops 118 = .ok (.if_icmp .eq 27, 3) := by decide +kernel
theorem dX12_stops_121 : decode cX12_stops 121 = .ok (.aload_n 0, 1) := by decide +kernel
theorem dX12_stops_122 : decode cX12_stops 122 = .ok (.getfield 95, 3) := by decide +kernel
theorem dX12_stops_125 : decode cX12_stops 125 = .ok (.iload 8, 2) := by decide +kernel
theorem dX12_stops_127 : decode cX12_stops 127 = .ok (.iload 12, 2) := by decide +kernel
theorem dX12_stops_129 : decode cX12_stops 129 = .ok (.iadd, 1) := by decide +kernel
theorem dX12_stops_130 : decode cX12_stops 130 = .ok (.baload, 1) := by decide +kernel
theorem dX12_stops_131 : decode cX12_stops 131 = .ok (.ifCond .eq 14, 3) := by decide +kernel
theorem dX12_stops_134 : decode cX12_stops 134 = .ok (.aload_n 0, 1) := by decide +kernel
theorem dX12_stops_135 : decode cX12_stops 135 = .ok (.getfield 95, 3) := by decide +kernel
theorem dX12_stops_138 : decode cX12_stops 138 = .ok (.iload 7, 2) := by decide +kernel
theorem dX12_stops_140 : decode cX12_stops 140 = .ok (.iload 10, 2) := by decide +kernel
theorem dX12_stops_142 : decode cX12_stops 142 = .ok (.iadd, 1) := by decide +kernel
theorem dX12_stops_143 : decode cX12_stops 143 = .ok (.iconst 1, 1) := by decide +kernel
theorem dX12_stops_144 : decode cX12_stops 144 = .ok (.bastore, 1) := by decide +kernel
theorem dX12_stops_145 : decode cX12_stops 145 = .ok (.iinc 11 1, 3) := by decide +kernel
theorem dX12_stops_148 : decode cX12_stops 148 = .ok (.goto (-56), 3) := by decide +kernel
theorem dX12_stops_151 : decode cX12_stops 151 = .ok (.iload 6, 2) := by decide +kernel
theorem dX12_stops_153 : decode cX12_stops 153 = .ok (.ifCond .ne 14, 3) := by decide +kernel
theorem dX12_stops_156 : decode cX12_stops 156 = .ok (.aload_n 0, 1) := by decide +kernel
theorem dX12_stops_157 : decode cX12_stops 157 = .ok (.getfield 95, 3) := by decide +kernel
theorem dX12_stops_160 : decode cX12_stops 160 = .ok (.iload 7, 2) := by decide +kernel
theorem dX12_stops_162 : decode cX12_stops 162 = .ok (.iload 10, 2) := by decide +kernel
theorem dX12_stops_164 : decode cX12_stops 164 = .ok (.iadd, 1) := by decide +kernel
theorem dX12_stops_165 : decode cX12_stops 165 = .ok (.iconst 1, 1) := by decide +kernel
theorem dX12_stops_166 : decode cX12_stops 166 = .ok (.bastore, 1) := by decide +kernel
theorem dX12_stops_167 : decode cX12_stops 167 = .ok (.iload 9, 2) := by decide +kernel
theorem dX12_stops_169 : decode cX12_stops 169 = .ok (.ifCond .ne 16, 3) := by decide +kernel
theorem dX12_stops_172 : decode cX12_stops 172 = .ok (.aload_n 0, 1) := by decide +kernel
theorem dX12_stops_173 : decode cX12_stops 173 = .ok (.getfield 95, 3) := by decide +kernel
theorem dX12_stops_176 : decode cX12_stops 176 = .ok (.iload 7, 2) := by decide +kernel
theorem dX12_stops_178 : decode cX12_stops 178 = .ok (.iload 10, 2) := by decide +kernel
theorem dX12_stops_180 : decode cX12_stops 180 = .ok (.iadd, 1) := by decide +kernel
theorem dX12_stops_181 : decode cX12_stops 181 = .ok (.baload, 1) := by decide +kernel
theorem dX12_stops_182 : decode cX12_stops 182 = .ok (.ifCond .eq 7, 3) := by decide +kernel
theorem dX12_stops_185 : decode cX12_stops 185 = .ok (.iconst 1, 1) := by decide +kernel
theorem dX12_stops_186 : decode cX12_stops 186 = .ok (.goto 4, 3) := by decide +kernel
theorem dX12_stops_189 : decode cX12_stops 189 = .ok (.iconst 0, 1) := by decide +kernel
theorem dX12_stops_190 : decode cX12_stops 190 = .ok (.istore 9, 2) := by decide +kernel
theorem dX12_stops_192 : decode cX12_stops 192 = .ok (.iinc 10 1, 3) := by decide +kernel
theorem dX12_stops_195 : decode cX12_stops 195 = .ok (.goto (-144), 3) := by decide +kernel
theorem dX12_stops_198 : decode cX12_stops 198 = .ok (.iload 9, 2) := by decide +kernel
theorem dX12_stops_200 : decode cX12_stops 200 = .ok (.ifCond .ne 6, 3) := by decide +kernel
theorem dX12_stops_203 : decode cX12_stops 203 = .ok (.iload 6, 2) := by decide +kernel
theorem dX12_stops_205 : decode cX12_stops 205 = .ok (.ireturn, 1) := by decide +kernel
theorem dX12_stops_206 : decode cX12_stops 206 = .ok (.iinc 6 1, 3) := by decide +kernel
theorem dX12_stops_209 : decode cX12_stops 209 = .ok (.goto (-193), 3) := by decide +kernel
theorem dX12_stops_212 : decode cX12_stops 212 = .ok (.iconst (-1), 1) := by decide +kernel
theorem dX12_stops_213 : decode cX12_stops 213 = .ok (.ireturn, 1) := by decide +kernel
theorem dX12_isError_0 : decode cX12_isError 0 = .ok (.iload_n 0, 1) := by decide +kernel
theorem dX12_isError_1 : decode cX12_isError 1 = .ok (.iconst 0, 1) := by decide +kernel
theorem dX12_isError_2 : decode cX12_isError 2 = .ok (.sipush 2000, 3) := by decide +kernel
theorem dX12_isError_5 : decode cX12_isError 5 = .ok (.invokestatic 144, 3) := by decide +kernel
theorem dX12_isError_8 : decode cX12_isError 8 = .ok (.ireturn, 1) := by decide +kernel
theorem dX12_follow_0 : decode cX12_follow 0 = .ok (.aload_n 0, 1) := by decide +kernel
theorem dX12_follow_1 : decode cX12_follow 1 = .ok (.iconst 0, 1) := by decide +kernel
theorem dX12_follow_2 : decode cX12_follow 2 = .ok (.putfield 135, 3) := by decide +kernel
theorem dX12_follow_5 : decode cX12_follow 5 = .ok (.aload_n 0, 1) := by decide +kernel
theorem dX12_follow_6 : decode cX12_follow 6 = .ok (.iload_n 1, 1) := by decide +kernel
theorem dX12_follow_7 : decode cX12_follow 7 = .ok (.invokevirtual 181, 3) := by decide +kernel
theorem dX12_follow_10 : decode cX12_follow 10 = .ok (.ifCond .eq 53, 3) := by decide +kernel
theorem dX12_follow_13 : decode cX12_follow 13 = .ok (.aload_n 0, 1) := by decide +kernel
theorem dX12_follow_14 : decode cX12_follow 14 = .ok (.getfield 54, 3) := by decide +kernel
theorem dX12_follow_17 : decode cX12_follow 17 = .ok (.iload_n 1, 1) := by decide +kernel
theorem dX12_follow_18 : decode cX12_follow 18 = .ok (.iaload, 1) := by decide +kernel
theorem dX12_follow_19 : decode cX12_follow 19 = .ok (.ifCond .eq 44, 3) := by decide +kernel
theorem dX12_follow_22 : decode cX12_follow 22 = .ok (.aload_n 0, 1) := by decide +kernel
theorem dX12_follow_23 : decode cX12_follow 23 = .ok (.iload_n 2, 1) := by decide +kernel
theorem dX12_follow_24 : decode cX12_follow 24 = .ok (.invokevirtual 148, 3) := by decide +kernel
theorem dX12_follow_27 : decode cX12_follow 27 = .ok (.ifCond .eq 36, 3) := by decide +kernel
theorem dX12_follow_30 : decode cX12_follow 30 = .ok (.aload_n 0, 1) := by decide +kernel
theorem dX12_follow_31 : decode cX12_follow 31 = .ok (.getfield 24, 3) := by decide +kernel
theorem dX12_follow_34 : decode cX12_follow 34 = .ok (.iload_n 2, 1) := by decide +kernel
theorem dX12_follow_35 : decode cX12_follow 35 = .ok (.iaload, 1) := by decide +kernel
theorem dX12_follow_36 : decode cX12_follow 36 = .ok (.ifCond .eq 27, 3) := by decide +kernel
theorem dX12_follow_39 : decode cX12_follow 39 = .ok (.iload_n 3, 1) := by decide +kernel
theorem dX12_follow_40 : decode cX12_follow 40 = .ok (.invokestatic 293, 3) := by decide +kernel
theorem dX12_follow_43 : decode cX12_follow 43 = .ok (.ifCond .eq 20, 3) := by decide +kernel
theorem dX12_follow_46 : decode cX12_follow 46 = .ok (.iload 4, 2) := by decide +kernel
theorem dX12_follow_48 : decode cX12_follow 48 = .ok (.invokestatic 330, 3) := by decide +kernel
theorem dX12_follow_51 : decode cX12_follow 51 = .ok (.ifCond .eq 12, 3) := by decide +kernel
theorem dX12_follow_54 : decode cX12_follow 54 = .ok (.aload_n 0, 1) := by decide +kernel
theorem dX12_follow_55 : decode cX12_follow 55 = .ok (.getfield 152, 3) := by decide +kernel
theorem dX12_follow_58 : decode cX12_follow 58 = .ok (.bipush 10, 2) := by decide +kernel
theorem dX12_follow_60 : decode cX12_follow 60 = .ok (.if_icmp .ne 5, 3) := by decide +kernel
theorem dX12_follow_63 : decode cX12_follow 63 = .ok (.iconst (-1), 1) := by decide +kernel
theorem dX12_follow_64 : decode cX12_follow 64 = .ok (.ireturn, 1) := by decide +kernel
theorem dX12_follow_65 : decode cX12_follow 65 = .ok (.aload_n 0, 1) := by decide +kernel
theorem dX12_follow_66 : decode cX12_follow 66 = .ok (.iload_n 1, 1) := by decide +kernel
theorem dX12_follow_67 : decode cX12_follow 67 = .ok (.iload_n 2, 1) := by decide +kernel
theorem dX12_follow_68 : decode cX12_follow 68 = .ok (.iload_n 3, 1) := by decide +kernel
theorem dX12_follow_69 : decode cX12_follow 69 = .ok (.iload 4, 2) := by decide +kernel
theorem dX12_follow_71 : decode cX12_follow 71 = .ok (.invokevirtual 333, 3) := by decide +kernel
theorem dX12_follow_74 : decode cX12_follow 74 = .ok (.ifCond .ne 6, 3) := by decide +kernel
theorem dX12_follow_77 : decode cX12_follow 77 = .ok (.bipush (-2), 2) := by decide +kernel
theorem dX12_follow_79 : decode cX12_follow 79 = .ok (.ireturn, 1) := by decide +kernel
theorem dX12_follow_80 : decode cX12_follow 80 = .ok (.aload_n 0, 1) := by decide +kernel
theorem dX12_follow_81 : decode cX12_follow 81 = .ok (.iconst (-1), 1) := by decide +kernel
theorem dX12_follow_82 : decode cX12_follow 82 = .ok (.putfield 85, 3) := by decide +kernel
theorem dX12_follow_85 : decode cX12_follow 85 = .ok (.aload_n 0, 1) := by decide +kernel
theorem dX12_follow_86 : decode cX12_follow 86 = .ok (.aload_n 0, 1) := by decide +kernel
theorem dX12_follow_87 : decode cX12_follow 87 = .ok (.getfield 327, 3) := by decide +kernel
theorem dX12_follow_90 : decode cX12_follow 90 = .ok (.putfield 88, 3) := by decide +kernel
theorem dX12_follow_93 : decode cX12_follow 93 = .ok (.aload_n 0, 1) := by decide +kernel
theorem dX12_follow_94 : decode cX12_follow 94 = .ok (.getfield 51, 3) := by decide +kernel
theorem dX12_follow_97 : decode cX12_follow 97 = .ok (.aload_n 0, 1) := by decide +kernel
theorem dX12_follow_98 : decode cX12_follow 98 = .ok (.getfield 152, 3) := by decide +kernel
theorem dX12_follow_101 : decode cX12_follow 101 = .ok (.iload_n 2, 1) := by decide +kernel
theorem dX12_follow_102 : decode cX12_follow 102 = .ok (.iastore, 1) := by decide +kernel
theorem dX12_follow_103 : decode cX12_follow 103 = .ok (.aload_n 0, 1) := by decide +kernel
theorem dX12_follow_104 : decode cX12_follow 104 = .ok (.getfield 54, 3) := by decide +kernel
theorem dX12_follow_107 : decode cX12_follow 107 = .ok (.aload_n 0, 1) := by decide +kernel
theorem dX12_follow_108 : decode cX12_follow 108 = .ok (.getfield 152, 3) := by decide +kernel
theorem dX12_follow_111 : decode cX12_follow 111 = .ok (.aload_n 0, 1) := by decide +kernel
theorem dX12_follow_112 : decode cX12_follow 112 = .ok (.getfield 54, 3) := by decide +kernel
theorem dX12_follow_115 : decode cX12_follow 115 = .ok (.iload_n 1, 1) := by decide +kernel
theorem dX12_follow_116 : decode cX12_follow 116 = .ok (.iaload, 1) := by decide +kernel
theorem dX12_follow_117 : decode cX12_follow 117 = .ok (.iastore, 1) := by decide +kernel
theorem dX12_follow_118 : decode cX12_follow 118 = .ok (.iconst 0, 1) := by decide +kernel
theorem dX12_follow_119 : decode cX12_follow 119 = .ok (.istore 5, 2) := by decide +kernel
theorem dX12_follow_121 : decode cX12_follow 121 = .ok (.iload 5, 2) := by decide +kernel
theorem dX12_follow_123 : decode cX12_follow 123 = .ok (.aload_n 0, 1) := by decide +kernel
theorem dX12_follow_124 : decode cX12_follow 124 = .ok (.getfield 54, 3) := by decide +kernel
theorem dX12_follow_127 : decode cX12_follow 127 = .ok (.iload_n 1, 1) := by decide +kernel
theorem dX12_follow_128 : decode cX12_follow 128 = .ok (.iaload, 1) := by decide +kernel
theorem dX12_follow_129 : decode cX12_follow 129 = .ok (.if_icmp .ge 58, 3) := by decide +kernel
theorem dX12_follow_132 : decode cX12_follow 132 = .ok (.aload_n 0, 1) := by decide +kernel
theorem dX12_follow_133 : decode cX12_follow 133 = .ok (.getfield 57, 3) := by decide +kernel
theorem dX12_follow_136 : decode cX12_follow 136 = .ok (.bipush 40, 2) := by decide +kernel
theorem dX12_follow_138 : decode cX12_follow 138 = .ok (.aload_n 0, 1) := by decide +kernel
theorem dX12_follow_139 : decode cX12_follow 139 = .ok (.getfield 152, 3) := by decide +kernel
theorem dX12_follow_142 : decode cX12_follow 142 = .ok (.imul, 1) := by decide +kernel
theorem dX12_follow_143 : decode cX12_follow 143 = .ok (.iload 5, 2) := by decide +kernel
theorem dX12_follow_145 : decode cX12_follow 145 = .ok (.iadd, 1) := by decide +kernel
theorem dX12_follow_146 : decode cX12_follow 146 = .ok (.aload_n 0, 1) := by decide +kernel
theorem dX12_follow_147 : decode cX12_follow 147 = .ok (.getfield 99, 3) := by decide +kernel
theorem dX12_follow_150 : decode cX12_follow 150 = .ok (.iload 5, 2) := by decide +kernel
theorem dX12_follow_152 : decode cX12_follow 152 = .ok (.iaload, 1) := by decide +kernel
theorem dX12_follow_153 : decode cX12_follow 153 = .ok (.iastore, 1) := by decide +kernel
theorem dX12_follow_154 : decode cX12_follow 154 = .ok (.aload_n 0, 1) := by decide +kernel
theorem dX12_follow_155 : decode cX12_follow 155 = .ok (.getfield 60, 3) := by decide +kernel
theorem dX12_follow_158 : decode cX12_follow 158 = .ok (.bipush 40, 2) := by decide +kernel
theorem dX12_follow_160 : decode cX12_follow 160 = .ok (.aload_n 0, 1) := by decide +kernel
theorem dX12_follow_161 : decode cX12_follow 161 = .ok (.getfield 152, 3) := by decide +kernel
theorem dX12_follow_164 : decode cX12_follow 164 = .ok (.imul, 1) := by decide +kernel
theorem dX12_follow_165 : decode cX12_follow 165 = .ok (.iload 5, 2) := by decide +kernel
theorem dX12_follow_167 : decode cX12_follow 167 = .ok (.iadd, 1) := by decide +kernel
theorem dX12_follow_168 : decode cX12_follow 168 = .ok (.aload_n 0, 1) := by decide +kernel
theorem dX12_follow_169 : decode cX12_follow 169 = .ok (.getfield 60, 3) := by decide +kernel
theorem dX12_follow_172 : decode cX12_follow 172 = .ok (.bipush 40, 2) := by decide +kernel
theorem dX12_follow_174 : decode cX12_follow 174 = .ok (.iload_n 1, 1) := by decide +kernel
theorem dX12_follow_175 : decode cX12_follow 175 = .ok (.imul, 1) := by decide +kernel
theorem dX12_follow_176 : decode cX12_follow 176 = .ok (.iload 5, 2) := by decide +kernel
theorem dX12_follow_178 : decode cX12_follow 178 = .ok (.iadd, 1) := by decide +kernel
theorem dX12_follow_179 : decode cX12_follow 179 = .ok (.iaload, 1) := by decide +kernel
theorem dX12_follow_180 : decode cX12_follow 180 = .ok (.iastore, 1) := by decide +kernel
theorem dX12_follow_181 : decode cX12_follow 181 = .ok (.iinc 5 1, 3) := by decide +kernel
theorem dX12_follow_184 : decode cX12_follow 184 = .ok (.goto (-63), 3) := by decide +kernel
theorem dX12_follow_187 : decode cX12_follow 187 = .ok (.aload_n 0, 1) := by decide +kernel
theorem dX12_follow_188 : decode cX12_follow 188 = .ok (.dup, 1) := by decide +kernel
theorem dX12_follow_189 : decode cX12_follow 189 = .ok (.getfield 152, 3) := by decide +kernel
theorem dX12_follow_192 : decode cX12_follow 192 = .ok (.iconst 1, 1) := by decide +kernel
theorem dX12_follow_193 : decode cX12_follow 193 = .ok (.iadd, 1) := by decide +kernel
theorem dX12_follow_194 : decode cX12_follow 194 = .ok (.putfield 152, 3) := by decide +kernel
theorem dX12_follow_197 : decode cX12_follow 197 = .ok (.aload_n 0, 1) := by decide +kernel
theorem dX12_follow_198 : decode cX12_follow 198 = .ok (.getfield 152, 3) := by decide +kernel
theorem dX12_follow_201 : decode cX12_follow 201 = .ok (.iconst 1, 1) := by decide +kernel
theorem dX12_follow_202 : decode cX12_follow 202 = .ok (.isub, 1) := by decide +kernel
theorem dX12_follow_203 : decode cX12_follow 203 = .ok (.ireturn, 1) := by decide +kernel
theorem dX12_stop_0 : decode cX12_stop 0 = .ok (.aload_n 0, 1) := by decide +kernel
theorem dX12_stop_1 : decode cX12_stop 1 = .ok (.iconst 0, 1) := by decide +kernel
theorem dX12_stop_2 : decode cX12_stop 2 = .ok (.putfield 135, 3) := by decide +kernel
theorem dX12_stop_5 : decode cX12_stop 5 = .ok (.aload_n 0, 1) := by decide +kernel
theorem dX12_stop_6 : decode cX12_stop 6 = .ok (.getfield 85, 3) := by decide +kernel
theorem dX12_stop_9 : decode cX12_stop 9 = .ok (.ireturn, 1) := by decide +kernel
theorem dX12_way_0 : decode cX12_way 0 = .ok (.aload_n 0, 1) := by decide +kernel
theorem dX12_way_1 : decode cX12_way 1 = .ok (.iconst 0, 1) := by decide +kernel
theorem dX12_way_2 : decode cX12_way 2 = .ok (.putfield 135, 3) := by decide +kernel
theorem dX12_way_5 : decode cX12_way 5 = .ok (.aload_n 0, 1) := by decide +kernel
theorem dX12_way_6 : decode cX12_way 6 = .ok (.getfield 88, 3) := by decide +kernel
theorem dX12_way_9 : decode cX12_way 9 = .ok (.ireturn, 1) := by decide +kernel
theorem dX12_cellOf_0 : decode cX12_cellOf 0 = .ok (.sipush 1000, 3) := by decide +kernel
theorem dX12_cellOf_3 : decode cX12_cellOf 3 = .ok (.iload_n 1, 1) := by decide +kernel
theorem dX12_cellOf_4 : decode cX12_cellOf 4 = .ok (.sipush 1000, 3) := by decide +kernel
theorem dX12_cellOf_7 : decode cX12_cellOf 7 = .ok (.invokestatic 282, 3) := by decide +kernel
theorem dX12_cellOf_10 : decode cX12_cellOf 10 = .ok (.imul, 1) := by decide +kernel
theorem dX12_cellOf_11 : decode cX12_cellOf 11 = .ok (.iload_n 0, 1) := by decide +kernel
theorem dX12_cellOf_12 : decode cX12_cellOf 12 = .ok (.sipush 1000, 3) := by decide +kernel
theorem dX12_cellOf_15 : decode cX12_cellOf 15 = .ok (.invokestatic 282, 3) := by decide +kernel
theorem dX12_cellOf_18 : decode cX12_cellOf 18 = .ok (.iadd, 1) := by decide +kernel
theorem dX12_cellOf_19 : decode cX12_cellOf 19 = .ok (.ireturn, 1) := by decide +kernel
theorem dX12_middle_0 : decode cX12_middle 0 = .ok (.iload_n 0, 1) := by decide +kernel
theorem dX12_middle_1 : decode cX12_middle 1 = .ok (.iload_n 1, 1) := by decide +kernel
theorem dX12_middle_2 : decode cX12_middle 2 = .ok (.iadd, 1) := by decide +kernel
theorem dX12_middle_3 : decode cX12_middle 3 = .ok (.iconst 2, 1) := by decide +kernel
theorem dX12_middle_4 : decode cX12_middle 4 = .ok (.invokestatic 282, 3) := by decide +kernel
theorem dX12_middle_7 : decode cX12_middle 7 = .ok (.ireturn, 1) := by decide +kernel
theorem dX12_bodyOf_0 : decode cX12_bodyOf 0 = .ok (.iload_n 3, 1) := by decide +kernel
theorem dX12_bodyOf_1 : decode cX12_bodyOf 1 = .ok (.istore 4, 2) := by decide +kernel
theorem dX12_bodyOf_3 : decode cX12_bodyOf 3 = .ok (.iconst 1, 1) := by decide +kernel
theorem dX12_bodyOf_4 : decode cX12_bodyOf 4 = .ok (.istore 5, 2) := by decide +kernel
theorem dX12_bodyOf_6 : decode cX12_bodyOf 6 = .ok (.iload 5, 2) := by decide +kernel
theorem dX12_bodyOf_8 : decode cX12_bodyOf 8 = .ok (.aload_n 0, 1) := by decide +kernel
theorem dX12_bodyOf_9 : decode cX12_bodyOf 9 = .ok (.getfield 24, 3) := by decide +kernel
theorem dX12_bodyOf_12 : decode cX12_bodyOf 12 = .ok (.iload_n 1, 1) := by decide +kernel
theorem dX12_bodyOf_13 : decode cX12_bodyOf 13 = .ok (.iaload, 1) := by decide +kernel
theorem dX12_bodyOf_14 : decode cX12_bodyOf 14 = .ok (.if_icmp .gt 100, 3) := by decide +kernel
theorem dX12_bodyOf_17 : decode cX12_bodyOf 17 = .ok (.aload_n 0, 1) := by decide +kernel
theorem dX12_bodyOf_18 : decode cX12_bodyOf 18 = .ok (.iload_n 1, 1) := by decide +kernel
theorem dX12_bodyOf_19 : decode cX12_bodyOf 19 = .ok (.iload_n 2, 1) := by decide +kernel
theorem dX12_bodyOf_20 : decode cX12_bodyOf 20 = .ok (.iload 5, 2) := by decide +kernel
theorem dX12_bodyOf_22 : decode cX12_bodyOf 22 = .ok (.iconst 1, 1) := by decide +kernel
theorem dX12_bodyOf_23 : decode cX12_bodyOf 23 = .ok (.invokevirtual 159, 3) := by decide +kernel
theorem dX12_bodyOf_26 : decode cX12_bodyOf 26 = .ok (.istore 6, 2) := by decide +kernel
theorem dX12_bodyOf_28 : decode cX12_bodyOf 28 = .ok (.aload_n 0, 1) := by decide +kernel
theorem dX12_bodyOf_29 : decode cX12_bodyOf 29 = .ok (.iload_n 1, 1) := by decide +kernel
theorem dX12_bodyOf_30 : decode cX12_bodyOf 30 = .ok (.iload_n 2, 1) := by decide +kernel
theorem dX12_bodyOf_31 : decode cX12_bodyOf 31 = .ok (.iload 5, 2) := by decide +kernel
theorem dX12_bodyOf_33 : decode cX12_bodyOf 33 = .ok (.iconst 0, 1) := by decide +kernel
theorem dX12_bodyOf_34 : decode cX12_bodyOf 34 = .ok (.invokevirtual 159, 3) := by decide +kernel
theorem dX12_bodyOf_37 : decode cX12_bodyOf 37 = .ok (.istore 7, 2) := by decide +kernel
theorem dX12_bodyOf_39 : decode cX12_bodyOf 39 = .ok (.aload_n 0, 1) := by decide +kernel
theorem dX12_bodyOf_40 : decode cX12_bodyOf 40 = .ok (.iload_n 1, 1) := by decide +kernel
theorem dX12_bodyOf_41 : decode cX12_bodyOf 41 = .ok (.iload_n 2, 1) := by decide +kernel
theorem dX12_bodyOf_42 : decode cX12_bodyOf 42 = .ok (.iload 5, 2) := by decide +kernel
theorem dX12_bodyOf_44 : decode cX12_bodyOf 44 = .ok (.iconst 1, 1) := by decide +kernel
theorem dX12_bodyOf_45 : decode cX12_bodyOf 45 = .ok (.isub, 1) := by decide +kernel
theorem dX12_bodyOf_46 : decode cX12_bodyOf 46 = .ok (.iconst 1, 1) := by decide +kernel
theorem dX12_bodyOf_47 : decode cX12_bodyOf 47 = .ok (.invokevirtual 159, 3) := by decide +kernel
theorem dX12_bodyOf_50 : decode cX12_bodyOf 50 = .ok (.istore 8, 2) := by decide +kernel
theorem dX12_bodyOf_52 : decode cX12_bodyOf 52 = .ok (.aload_n 0, 1) := by decide +kernel
theorem dX12_bodyOf_53 : decode cX12_bodyOf 53 = .ok (.iload_n 1, 1) := by decide +kernel
theorem dX12_bodyOf_54 : decode cX12_bodyOf 54 = .ok (.iload_n 2, 1) := by decide +kernel
theorem dX12_bodyOf_55 : decode cX12_bodyOf 55 = .ok (.iload 5, 2) := by decide +kernel
theorem dX12_bodyOf_57 : decode cX12_bodyOf 57 = .ok (.iconst 1, 1) := by decide +kernel
theorem dX12_bodyOf_58 : decode cX12_bodyOf 58 = .ok (.isub, 1) := by decide +kernel
theorem dX12_bodyOf_59 : decode cX12_bodyOf 59 = .ok (.iconst 0, 1) := by decide +kernel
theorem dX12_bodyOf_60 : decode cX12_bodyOf 60 = .ok (.invokevirtual 159, 3) := by decide +kernel
theorem dX12_bodyOf_63 : decode cX12_bodyOf 63 = .ok (.istore 9, 2) := by decide +kernel
theorem dX12_bodyOf_65 : decode cX12_bodyOf 65 = .ok (.aload_n 0, 1) := by decide +kernel
theorem dX12_bodyOf_66 : decode cX12_bodyOf 66 = .ok (.getfield 108, 3) := by decide +kernel
theorem dX12_bodyOf_69 : decode cX12_bodyOf 69 = .ok (.iload 4, 2) := by decide +kernel
theorem dX12_bodyOf_71 : decode cX12_bodyOf 71 = .ok (.iload 6, 2) := by decide +kernel
theorem dX12_bodyOf_73 : decode cX12_bodyOf 73 = .ok (.iload 7, 2) := by decide +kernel
theorem dX12_bodyOf_75 : decode cX12_bodyOf 75 = .ok (.invokestatic 337, 3) := by decide +kernel
theorem dX12_bodyOf_78 : decode cX12_bodyOf 78 = .ok (.iastore, 1) := by decide +kernel
theorem dX12_bodyOf_79 : decode cX12_bodyOf 79 = .ok (.aload_n 0, 1) := by decide +kernel
theorem dX12_bodyOf_80 : decode cX12_bodyOf 80 = .ok (.getfield 108, 3) := by decide +kernel
theorem dX12_bodyOf_83 : decode cX12_bodyOf 83 = .ok (.iload 4, 2) := by decide +kernel
theorem dX12_bodyOf_85 : decode cX12_bodyOf 85 = .ok (.iconst 1, 1) := by decide +kernel
theorem dX12_bodyOf_86 : decode cX12_bodyOf 86 = .ok (.iadd, 1) := by decide +kernel
theorem dX12_bodyOf_87 : decode cX12_bodyOf 87 = .ok (.iload 8, 2) := by decide +kernel
theorem dX12_bodyOf_89 : decode cX12_bodyOf 89 = .ok (.iload 6, 2) := by decide +kernel
theorem dX12_bodyOf_91 : decode cX12_bodyOf 91 = .ok (.invokestatic 340, 3) := by decide +kernel
theorem dX12_bodyOf_94 : decode cX12_bodyOf 94 = .ok (.iload 9, 2) := by decide +kernel
theorem dX12_bodyOf_96 : decode cX12_bodyOf 96 = .ok (.iload 7, 2) := by decide +kernel
theorem dX12_bodyOf_98 : decode cX12_bodyOf 98 = .ok (.invokestatic 340, 3) := by decide +kernel
theorem dX12_bodyOf_101 : decode cX12_bodyOf 101 = .ok (.invokestatic 337, 3) := by decide +kernel
theorem dX12_bodyOf_104 : decode cX12_bodyOf 104 = .ok (.iastore, 1) := by decide +kernel
theorem dX12_bodyOf_105 : decode cX12_bodyOf 105 = .ok (.iinc 4 2, 3) := by decide +kernel
theorem dX12_bodyOf_108 : decode cX12_bodyOf 108 = .ok (.iinc 5 1, 3) := by decide +kernel
theorem dX12_bodyOf_111 : decode cX12_bodyOf 111 = .ok (.goto (-105), 3) := by decide +kernel
theorem dX12_bodyOf_114 : decode cX12_bodyOf 114 = .ok (.iload 4, 2) := by decide +kernel
theorem dX12_bodyOf_116 : decode cX12_bodyOf 116 = .ok (.ireturn, 1) := by decide +kernel
theorem dX12_isClear_0 : decode cX12_isClear 0 = .ok (.aload_n 0, 1) := by decide +kernel
theorem dX12_isClear_1 : decode cX12_isClear 1 = .ok (.iconst 0, 1) := by decide +kernel
theorem dX12_isClear_2 : decode cX12_isClear 2 = .ok (.iload_n 1, 1) := by decide +kernel
theorem dX12_isClear_3 : decode cX12_isClear 3 = .ok (.iconst 0, 1) := by decide +kernel
theorem dX12_isClear_4 : decode cX12_isClear 4 = .ok (.invokevirtual 343, 3) := by decide +kernel
theorem dX12_isClear_7 : decode cX12_isClear 7 = .ok (.istore_n 3, 1) := by decide +kernel
theorem dX12_isClear_8 : decode cX12_isClear 8 = .ok (.aload_n 0, 1) := by decide +kernel
theorem dX12_isClear_9 : decode cX12_isClear 9 = .ok (.iconst 1, 1) := by decide +kernel
theorem dX12_isClear_10 : decode cX12_isClear 10 = .ok (.iload_n 2, 1) := by decide +kernel
theorem dX12_isClear_11 : decode cX12_isClear 11 = .ok (.iload_n 3, 1) := by decide +kernel
theorem dX12_isClear_12 : decode cX12_isClear 12 = .ok (.invokevirtual 343, 3) := by decide +kernel
theorem dX12_isClear_15 : decode cX12_isClear 15 = .ok (.istore 4, 2) := by decide +kernel
theorem dX12_isClear_17 : decode cX12_isClear 17 = .ok (.iconst 0, 1) := by decide +kernel
theorem dX12_isClear_18 : decode cX12_isClear 18 = .ok (.istore 5, 2) := by decide +kernel
theorem dX12_isClear_20 : decode cX12_isClear 20 = .ok (.iload 5, 2) := by decide +kernel
theorem dX12_isClear_22 : decode cX12_isClear 22 = .ok (.iload_n 3, 1) := by decide +kernel
theorem dX12_isClear_23 : decode cX12_isClear 23 = .ok (.if_icmp .ge 44, 3) := by decide +kernel
theorem dX12_isClear_26 : decode cX12_isClear 26 = .ok (.iload_n 3, 1) := by decide +kernel
theorem dX12_isClear_27 : decode cX12_isClear 27 = .ok (.istore 6, 2) := by decide +kernel
theorem dX12_isClear_29 : decode cX12_isClear 29 = .ok (.iload 6, 2) := by decide +kernel
theorem dX12_isClear_31 : decode cX12_isClear 31 = .ok (.iload 4, 2) := by decide +kernel
theorem dX12_isClear_33 : decode cX12_isClear 33 = .ok (.if_icmp .ge 28, 3) := by decide +kernel
theorem dX12_isClear_36 : decode cX12_isClear 36 = .ok (.aload_n 0, 1) := by decide +kernel
theorem dX12_isClear_37 : decode cX12_isClear 37 = .ok (.getfield 108, 3) := by decide +kernel
theorem dX12_isClear_40 : decode cX12_isClear 40 = .ok (.iload 5, 2) := by decide +kernel
theorem dX12_isClear_42 : decode cX12_isClear 42 = .ok (.iaload, 1) := by decide +kernel
theorem dX12_isClear_43 : decode cX12_isClear 43 = .ok (.aload_n 0, 1) := by decide +kernel
theorem dX12_isClear_44 : decode cX12_isClear 44 = .ok (.getfield 108, 3) := by decide +kernel
theorem dX12_isClear_47 : decode cX12_isClear 47 = .ok (.iload 6, 2) := by decide +kernel
theorem dX12_isClear_49 : decode cX12_isClear 49 = .ok (.iaload, 1) := by decide +kernel
theorem dX12_isClear_50 : decode cX12_isClear 50 = .ok (.if_icmp .ne 5, 3) := by decide +kernel
theorem dX12_isClear_53 : decode cX12_isClear 53 = .ok (.iconst 0, 1) := by decide +kernel
theorem dX12_isClear_54 : decode cX12_isClear 54 = .ok (.ireturn, 1) := by decide +kernel
theorem dX12_isClear_55 : decode cX12_isClear 55 = .ok (.iinc 6 1, 3) := by decide +kernel
theorem dX12_isClear_58 : decode cX12_isClear 58 = .ok (.goto (-29), 3) := by decide +kernel
theorem dX12_isClear_61 : decode cX12_isClear 61 = .ok (.iinc 5 1, 3) := by decide +kernel
theorem dX12_isClear_64 : decode cX12_isClear 64 = .ok (.goto (-44), 3) := by decide +kernel
theorem dX12_isClear_67 : decode cX12_isClear 67 = .ok (.iconst 1, 1) := by decide +kernel
theorem dX12_isClear_68 : decode cX12_isClear 68 = .ok (.ireturn, 1) := by decide +kernel
theorem dX12_restOf_0 : decode cX12_restOf 0 = .ok (.iload_n 1, 1) := by decide +kernel
theorem dX12_restOf_1 : decode cX12_restOf 1 = .ok (.aload_n 0, 1) := by decide +kernel
theorem dX12_restOf_2 : decode cX12_restOf 2 = .ok (.getfield 54, 3) := by decide +kernel
theorem dX12_restOf_5 : decode cX12_restOf 5 = .ok (.iload_n 3, 1) := by decide +kernel
theorem dX12_restOf_6 : decode cX12_restOf 6 = .ok (.iaload, 1) := by decide +kernel
theorem dX12_restOf_7 : decode cX12_restOf 7 = .ok (.if_icmp .ge 14, 3) := by decide +kernel
theorem dX12_restOf_10 : decode cX12_restOf 10 = .ok (.iload_n 2, 1) := by decide +kernel
theorem dX12_restOf_11 : decode cX12_restOf 11 = .ok (.aload_n 0, 1) := by decide +kernel
theorem dX12_restOf_12 : decode cX12_restOf 12 = .ok (.getfield 54, 3) := by decide +kernel
theorem dX12_restOf_15 : decode cX12_restOf 15 = .ok (.iload 4, 2) := by decide +kernel
theorem dX12_restOf_17 : decode cX12_restOf 17 = .ok (.iaload, 1) := by decide +kernel
theorem dX12_restOf_18 : decode cX12_restOf 18 = .ok (.if_icmp .lt 7, 3) := by decide +kernel
theorem dX12_restOf_21 : decode cX12_restOf 21 = .ok (.iconst (-1), 1) := by decide +kernel
theorem dX12_restOf_22 : decode cX12_restOf 22 = .ok (.goto 14, 3) := by decide +kernel
theorem dX12_restOf_25 : decode cX12_restOf 25 = .ok (.aload_n 0, 1) := by decide +kernel
theorem dX12_restOf_26 : decode cX12_restOf 26 = .ok (.getfield 102, 3) := by decide +kernel
theorem dX12_restOf_29 : decode cX12_restOf 29 = .ok (.bipush 40, 2) := by decide +kernel
theorem dX12_restOf_31 : decode cX12_restOf 31 = .ok (.iload_n 1, 1) := by decide +kernel
theorem dX12_restOf_32 : decode cX12_restOf 32 = .ok (.imul, 1) := by decide +kernel
theorem dX12_restOf_33 : decode cX12_restOf 33 = .ok (.iload_n 2, 1) := by decide +kernel
theorem dX12_restOf_34 : decode cX12_restOf 34 = .ok (.iadd, 1) := by decide +kernel
theorem dX12_restOf_35 : decode cX12_restOf 35 = .ok (.iaload, 1) := by decide +kernel
theorem dX12_restOf_36 : decode cX12_restOf 36 = .ok (.ireturn, 1) := by decide +kernel
theorem dX12_meet_0 : decode cX12_meet 0 = .ok (.aload_n 0, 1) := by decide +kernel
theorem dX12_meet_1 : decode cX12_meet 1 = .ok (.iconst 0, 1) := by decide +kernel
theorem dX12_meet_2 : decode cX12_meet 2 = .ok (.putfield 135, 3) := by decide +kernel
theorem dX12_meet_5 : decode cX12_meet 5 = .ok (.aload_n 0, 1) := by decide +kernel
theorem dX12_meet_6 : decode cX12_meet 6 = .ok (.iload_n 1, 1) := by decide +kernel
theorem dX12_meet_7 : decode cX12_meet 7 = .ok (.invokevirtual 181, 3) := by decide +kernel
theorem dX12_meet_10 : decode cX12_meet 10 = .ok (.ifCond .eq 48, 3) := by decide +kernel
theorem dX12_meet_13 : decode cX12_meet 13 = .ok (.aload_n 0, 1) := by decide +kernel
theorem dX12_meet_14 : decode cX12_meet 14 = .ok (.iload_n 2, 1) := by decide +kernel
theorem dX12_meet_15 : decode cX12_meet 15 = .ok (.invokevirtual 181, 3) := by decide +kernel
theorem dX12_meet_18 : decode cX12_meet 18 = .ok (.ifCond .eq 40, 3) := by decide +kernel
theorem dX12_meet_21 : decode cX12_meet 21 = .ok (.aload_n 0, 1) := by decide +kernel
theorem dX12_meet_22 : decode cX12_meet 22 = .ok (.getfield 51, 3) := by decide +kernel
theorem dX12_meet_25 : decode cX12_meet 25 = .ok (.iload_n 1, 1) := by decide +kernel
theorem dX12_meet_26 : decode cX12_meet 26 = .ok (.iaload, 1) := by decide +kernel
theorem dX12_meet_27 : decode cX12_meet 27 = .ok (.ifCond .ne 31, 3) := by decide +kernel
theorem dX12_meet_30 : decode cX12_meet 30 = .ok (.aload_n 0, 1) := by decide +kernel
theorem dX12_meet_31 : decode cX12_meet 31 = .ok (.getfield 51, 3) := by decide +kernel
theorem dX12_meet_34 : decode cX12_meet 34 = .ok (.iload_n 2, 1) := by decide +kernel
theorem dX12_meet_35 : decode cX12_meet 35 = .ok (.iaload, 1) := by decide +kernel
theorem dX12_meet_36 : decode cX12_meet 36 = .ok (.iconst 1, 1) := by decide +kernel
theorem dX12_meet_37 : decode cX12_meet 37 = .ok (.if_icmp .ne 21, 3) := by decide +kernel
theorem dX12_meet_40 : decode cX12_meet 40 = .ok (.aload_n 0, 1) := by decide +kernel
theorem dX12_meet_41 : decode cX12_meet 41 = .ok (.getfield 54, 3) := by decide +kernel
theorem dX12_meet_44 : decode cX12_meet 44 = .ok (.iload_n 1, 1) := by decide +kernel
theorem dX12_meet_45 : decode cX12_meet 45 = .ok (.iaload, 1) := by decide +kernel
theorem dX12_meet_46 : decode cX12_meet 46 = .ok (.ifCond .eq 12, 3) := by decide +kernel
theorem dX12_meet_49 : decode cX12_meet 49 = .ok (.aload_n 0, 1) := by decide +kernel
theorem dX12_meet_50 : decode cX12_meet 50 = .ok (.getfield 54, 3) := by decide +kernel
theorem dX12_meet_53 : decode cX12_meet 53 = .ok (.iload_n 2, 1) := by decide +kernel
theorem dX12_meet_54 : decode cX12_meet 54 = .ok (.iaload, 1) := by decide +kernel
theorem dX12_meet_55 : decode cX12_meet 55 = .ok (.ifCond .ne 5, 3) := by decide +kernel
theorem dX12_meet_58 : decode cX12_meet 58 = .ok (.iconst (-1), 1) := by decide +kernel
theorem dX12_meet_59 : decode cX12_meet 59 = .ok (.ireturn, 1) := by decide +kernel
theorem dX12_meet_60 : decode cX12_meet 60 = .ok (.aload_n 0, 1) := by decide +kernel
theorem dX12_meet_61 : decode cX12_meet 61 = .ok (.getfield 54, 3) := by decide +kernel
theorem dX12_meet_64 : decode cX12_meet 64 = .ok (.iload_n 1, 1) := by decide +kernel
theorem dX12_meet_65 : decode cX12_meet 65 = .ok (.iaload, 1) := by decide +kernel
theorem dX12_meet_66 : decode cX12_meet 66 = .ok (.iconst 1, 1) := by decide +kernel
theorem dX12_meet_67 : decode cX12_meet 67 = .ok (.isub, 1) := by decide +kernel
theorem dX12_meet_68 : decode cX12_meet 68 = .ok (.istore_n 3, 1) := by decide +kernel
theorem dX12_meet_69 : decode cX12_meet 69 = .ok (.iload_n 3, 1) := by decide +kernel
theorem dX12_meet_70 : decode cX12_meet 70 = .ok (.ifCond .lt 188, 3) := by decide +kernel
theorem dX12_meet_73 : decode cX12_meet 73 = .ok (.aload_n 0, 1) := by decide +kernel
theorem dX12_meet_74 : decode cX12_meet 74 = .ok (.getfield 54, 3) := by decide +kernel
theorem dX12_meet_77 : decode cX12_meet 77 = .ok (.iload_n 2, 1) := by decide +kernel
theorem dX12_meet_78 : decode cX12_meet 78 = .ok (.iaload, 1) := by decide +kernel
theorem dX12_meet_79 : decode cX12_meet 79 = .ok (.iconst 1, 1) := by decide +kernel
theorem dX12_meet_80 : decode cX12_meet 80 = .ok (.isub, 1) := by decide +kernel
theorem dX12_meet_81 : decode cX12_meet 81 = .ok (.istore 4, 2) := by decide +kernel
theorem dX12_meet_83 : decode cX12_meet 83 = .ok (.iload 4, 2) := by decide +kernel
theorem dX12_meet_85 : decode cX12_meet 85 = .ok (.ifCond .lt 167, 3) := by decide +kernel
theorem dX12_meet_88 : decode cX12_meet 88 = .ok (.iload_n 3, 1) := by decide +kernel
theorem dX12_meet_89 : decode cX12_meet 89 = .ok (.aload_n 0, 1) := by decide +kernel
theorem dX12_meet_90 : decode cX12_meet 90 = .ok (.getfield 54, 3) := by decide +kernel
theorem dX12_meet_93 : decode cX12_meet 93 = .ok (.iload_n 1, 1) := by decide +kernel
theorem dX12_meet_94 : decode cX12_meet 94 = .ok (.iaload, 1) := by decide +kernel
theorem dX12_meet_95 : decode cX12_meet 95 = .ok (.iconst 1, 1) := by decide +kernel
theorem dX12_meet_96 : decode cX12_meet 96 = .ok (.isub, 1) := by decide +kernel
theorem dX12_meet_97 : decode cX12_meet 97 = .ok (.if_icmp .ne 20, 3) := by decide +kernel
theorem dX12_meet_100 : decode cX12_meet 100 = .ok (.iload 4, 2) := by decide +kernel
theorem dX12_meet_102 : decode cX12_meet 102 = .ok (.aload_n 0, 1) := by decide +kernel
theorem dX12_meet_103 : decode cX12_meet 103 = .ok (.getfield 54, 3) := by decide +kernel
theorem dX12_meet_106 : decode cX12_meet 106 = .ok (.iload_n 2, 1) := by decide +kernel
theorem dX12_meet_107 : decode cX12_meet 107 = .ok (.iaload, 1) := by decide +kernel
theorem dX12_meet_108 : decode cX12_meet 108 = .ok (.iconst 1, 1) := by decide +kernel
theorem dX12_meet_109 : decode cX12_meet 109 = .ok (.isub, 1) := by decide +kernel
theorem dX12_meet_110 : decode cX12_meet 110 = .ok (.if_icmp .ne 7, 3) := by decide +kernel
theorem dX12_meet_113 : decode cX12_meet 113 = .ok (.iconst 0, 1) := by decide +kernel
theorem dX12_meet_114 : decode cX12_meet 114 = .ok (.goto 4, 3) := by decide +kernel
theorem dX12_meet_117 : decode cX12_meet 117 = .ok (.iconst (-1), 1) := by decide +kernel
theorem dX12_meet_118 : decode cX12_meet 118 = .ok (.istore 5, 2) := by decide +kernel
theorem dX12_meet_120 : decode cX12_meet 120 = .ok (.iconst 0, 1) := by decide +kernel
theorem dX12_meet_121 : decode cX12_meet 121 = .ok (.istore 6, 2) := by decide +kernel
theorem dX12_meet_123 : decode cX12_meet 123 = .ok (.iload 6, 2) := by decide +kernel
theorem dX12_meet_125 : decode cX12_meet 125 = .ok (.iconst 3, 1) := by decide +kernel
theorem dX12_meet_126 : decode cX12_meet 126 = .ok (.if_icmp .ge 72, 3) := by decide +kernel
theorem dX12_meet_129 : decode cX12_meet 129 = .ok (.aload_n 0, 1) := by decide +kernel
theorem dX12_meet_130 : decode cX12_meet 130 = .ok (.iload 6, 2) := by decide +kernel
theorem dX12_meet_132 : decode cX12_meet 132 = .ok (.iconst 2, 1) := by decide +kernel
theorem dX12_meet_133 : decode cX12_meet 133 = .ok (.if_icmp .ge 9, 3) := by decide +kernel
theorem dX12_meet_136 : decode cX12_meet 136 = .ok (.iload_n 3, 1) := by decide +kernel
theorem dX12_meet_137 : decode cX12_meet 137 = .ok (.iconst 1, 1) := by decide +kernel
theorem dX12_meet_138 : decode cX12_meet 138 = .ok (.iadd, 1) := by decide +kernel
theorem dX12_meet_139 : decode cX12_meet 139 = .ok (.goto 4, 3) := by decide +kernel
theorem dX12_meet_142 : decode cX12_meet 142 = .ok (.iload_n 3, 1) := by decide +kernel
theorem dX12_meet_143 : decode cX12_meet 143 = .ok (.iload 6, 2) := by decide +kernel
theorem dX12_meet_145 : decode cX12_meet 145 = .ok (.iconst 1, 1) := by decide +kernel
theorem dX12_meet_146 : decode cX12_meet 146 = .ok (.if_icmp .ne 8, 3) := by decide +kernel
theorem dX12_meet_149 : decode cX12_meet 149 = .ok (.iload 4, 2) := by decide +kernel
theorem dX12_meet_151 : decode cX12_meet 151 = .ok (.goto 7, 3) := by decide +kernel
theorem dX12_meet_154 : decode cX12_meet 154 = .ok (.iload 4, 2) := by decide +kernel
theorem dX12_meet_156 : decode cX12_meet 156 = .ok (.iconst 1, 1) := by decide +kernel
theorem dX12_meet_157 : decode cX12_meet 157 = .ok (.iadd, 1) := by decide +kernel
theorem dX12_meet_158 : decode cX12_meet 158 = .ok (.iload_n 1, 1) := by decide +kernel
theorem dX12_meet_159 : decode cX12_meet 159 = .ok (.iload_n 2, 1) := by decide +kernel
theorem dX12_meet_160 : decode cX12_meet 160 = .ok (.invokevirtual 346, 3) := by decide +kernel
theorem dX12_meet_163 : decode cX12_meet 163 = .ok (.istore 7, 2) := by decide +kernel
theorem dX12_meet_165 : decode cX12_meet 165 = .ok (.iload 7, 2) := by decide +kernel
theorem dX12_meet_167 : decode cX12_meet 167 = .ok (.iconst (-1), 1) := by decide +kernel
theorem dX12_meet_168 : decode cX12_meet 168 = .ok (.if_icmp .eq 24, 3) := by decide +kernel
theorem dX12_meet_171 : decode cX12_meet 171 = .ok (.iload 5, 2) := by decide +kernel
theorem dX12_meet_173 : decode cX12_meet 173 = .ok (.iconst (-1), 1) := by decide +kernel
theorem dX12_meet_174 : decode cX12_meet 174 = .ok (.if_icmp .eq 12, 3) := by decide +kernel
theorem dX12_meet_177 : decode cX12_meet 177 = .ok (.iload 7, 2) := by decide +kernel
theorem dX12_meet_179 : decode cX12_meet 179 = .ok (.iconst 1, 1) := by decide +kernel
theorem dX12_meet_180 : decode cX12_meet 180 = .ok (.iadd, 1) := by decide +kernel
theorem dX12_meet_181 : decode cX12_meet 181 = .ok (.iload 5, 2) := by decide +kernel
theorem dX12_meet_183 : decode cX12_meet 183 = .ok (.if_icmp .ge 9, 3) := by decide +kernel
theorem dX12_meet_186 : decode cX12_meet 186 = .ok (.iload 7, 2) := by decide +kernel
theorem dX12_meet_188 : decode cX12_meet 188 = .ok (.iconst 1, 1) := by decide +kernel
theorem dX12_meet_189 : decode cX12_meet 189 = .ok (.iadd, 1) := by decide +kernel
theorem dX12_meet_190 : decode cX12_meet 190 = .ok (.istore 5, 2) := by decide +kernel
theorem dX12_meet_192 : decode cX12_meet 192 = .ok (.iinc 6 1, 3) := by decide +kernel
theorem dX12_meet_195 : decode cX12_meet 195 = .ok (.goto (-72), 3) := by decide +kernel
theorem dX12_meet_198 : decode cX12_meet 198 = .ok (.aload_n 0, 1) := by decide +kernel
theorem dX12_meet_199 : decode cX12_meet 199 = .ok (.getfield 102, 3) := by decide +kernel
theorem dX12_meet_202 : decode cX12_meet 202 = .ok (.bipush 40, 2) := by decide +kernel
theorem dX12_meet_204 : decode cX12_meet 204 = .ok (.iload_n 3, 1) := by decide +kernel
