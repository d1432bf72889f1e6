theorem dX0_init_0 : decode cX0_init 0 = .ok (.aload_n 0, 1) := by decide +kernel
theorem dX0_init_1 : decode cX0_init 1 = .ok (.invokespecial 3, 3) := by decide +kernel
theorem dX0_init_4 : decode cX0_init 4 = .ok (.aload_n 0, 1) := by decide +kernel
theorem dX0_init_5 : decode cX0_init 5 = .ok (.iconst 3, 1) := by decide +kernel
theorem dX0_init_6 : decode cX0_init 6 = .ok (.newarray .int, 2) := by decide +kernel
theorem dX0_init_8 : decode cX0_init 8 = .ok (.putfield 9, 3) := by decide +kernel
theorem dX0_init_11 : decode cX0_init 11 = .ok (.aload_n 0, 1) := by decide +kernel
theorem dX0_init_12 : decode cX0_init 12 = .ok (.iconst 3, 1) := by decide +kernel
theorem dX0_init_13 : decode cX0_init 13 = .ok (.newarray .int, 2) := by decide +kernel
theorem dX0_init_15 : decode cX0_init 15 = .ok (.putfield 15, 3) := by decide +kernel
theorem dX0_init_18 : decode cX0_init 18 = .ok (.aload_n 0, 1) := by decide +kernel
theorem dX0_init_19 : decode cX0_init 19 = .ok (.iconst 3, 1) := by decide +kernel
theorem dX0_init_20 : decode cX0_init 20 = .ok (.newarray .int, 2) := by decide +kernel
theorem dX0_init_22 : decode cX0_init 22 = .ok (.putfield 18, 3) := by decide +kernel
theorem dX0_init_25 : decode cX0_init 25 = .ok (.aload_n 0, 1) := by decide +kernel
theorem dX0_init_26 : decode cX0_init 26 = .ok (.iconst 3, 1) := by decide +kernel
theorem dX0_init_27 : decode cX0_init 27 = .ok (.newarray .int, 2) := by decide +kernel
theorem dX0_init_29 : decode cX0_init 29 = .ok (.putfield 21, 3) := by decide +kernel
theorem dX0_init_32 : decode cX0_init 32 = .ok (.return_, 1) := by decide +kernel
theorem dX0_stand_0 : decode cX0_stand 0 = .ok (.aload_n 0, 1) := by decide +kernel
theorem dX0_stand_1 : decode cX0_stand 1 = .ok (.iload_n 1, 1) := by decide +kernel
theorem dX0_stand_2 : decode cX0_stand 2 = .ok (.putfield 24, 3) := by decide +kernel
theorem dX0_stand_5 : decode cX0_stand 5 = .ok (.aload_n 0, 1) := by decide +kernel
theorem dX0_stand_6 : decode cX0_stand 6 = .ok (.iload_n 2, 1) := by decide +kernel
theorem dX0_stand_7 : decode cX0_stand 7 = .ok (.putfield 28, 3) := by decide +kernel
theorem dX0_stand_10 : decode cX0_stand 10 = .ok (.return_, 1) := by decide +kernel
theorem dX0_addJoint_0 : decode cX0_addJoint 0 = .ok (.aload_n 0, 1) := by decide +kernel
theorem dX0_addJoint_1 : decode cX0_addJoint 1 = .ok (.getfield 31, 3) := by decide +kernel
theorem dX0_addJoint_4 : decode cX0_addJoint 4 = .ok (.ifCond .lt 11, 3) := by decide +kernel
theorem dX0_addJoint_7 : decode cX0_addJoint 7 = .ok (.aload_n 0, 1) := by decide +kernel
theorem dX0_addJoint_8 : decode cX0_addJoint 8 = .ok (.getfield 31, 3) := by decide +kernel
theorem dX0_addJoint_11 : decode cX0_addJoint 11 = .ok (.iconst 3, 1) := by decide +kernel
theorem dX0_addJoint_12 : decode cX0_addJoint 12 = .ok (.if_icmp .lt 5, 3) := by decide +kernel
theorem dX0_addJoint_15 : decode cX0_addJoint 15 = .ok (.iconst (-1), 1) := by decide +kernel
theorem dX0_addJoint_16 : decode cX0_addJoint 16 = .ok (.ireturn, 1) := by decide +kernel
theorem dX0_addJoint_17 : decode cX0_addJoint 17 = .ok (.aload_n 0, 1) := by decide +kernel
theorem dX0_addJoint_18 : decode cX0_addJoint 18 = .ok (.getfield 9, 3) := by decide +kernel
theorem dX0_addJoint_21 : decode cX0_addJoint 21 = .ok (.aload_n 0, 1) := by decide +kernel
theorem dX0_addJoint_22 : decode cX0_addJoint 22 = .ok (.getfield 31, 3) := by decide +kernel
theorem dX0_addJoint_25 : decode cX0_addJoint 25 = .ok (.iload_n 1, 1) := by decide +kernel
theorem dX0_addJoint_26 : decode cX0_addJoint 26 = .ok (.iastore, 1) := by decide +kernel
theorem dX0_addJoint_27 : decode cX0_addJoint 27 = .ok (.aload_n 0, 1) := by decide +kernel
theorem dX0_addJoint_28 : decode cX0_addJoint 28 = .ok (.getfield 15, 3) := by decide +kernel
theorem dX0_addJoint_31 : decode cX0_addJoint 31 = .ok (.aload_n 0, 1) := by decide +kernel
theorem dX0_addJoint_32 : decode cX0_addJoint 32 = .ok (.getfield 31, 3) := by decide +kernel
theorem dX0_addJoint_35 : decode cX0_addJoint 35 = .ok (.iload_n 2, 1) := by decide +kernel
theorem dX0_addJoint_36 : decode cX0_addJoint 36 = .ok (.iastore, 1) := by decide +kernel
theorem dX0_addJoint_37 : decode cX0_addJoint 37 = .ok (.aload_n 0, 1) := by decide +kernel
theorem dX0_addJoint_38 : decode cX0_addJoint 38 = .ok (.getfield 18, 3) := by decide +kernel
theorem dX0_addJoint_41 : decode cX0_addJoint 41 = .ok (.aload_n 0, 1) := by decide +kernel
theorem dX0_addJoint_42 : decode cX0_addJoint 42 = .ok (.getfield 31, 3) := by decide +kernel
theorem dX0_addJoint_45 : decode cX0_addJoint 45 = .ok (.iload_n 3, 1) := by decide +kernel
theorem dX0_addJoint_46 : decode cX0_addJoint 46 = .ok (.iastore, 1) := by decide +kernel
theorem dX0_addJoint_47 : decode cX0_addJoint 47 = .ok (.aload_n 0, 1) := by decide +kernel
theorem dX0_addJoint_48 : decode cX0_addJoint 48 = .ok (.getfield 21, 3) := by decide +kernel
theorem dX0_addJoint_51 : decode cX0_addJoint 51 = .ok (.aload_n 0, 1) := by decide +kernel
theorem dX0_addJoint_52 : decode cX0_addJoint 52 = .ok (.getfield 31, 3) := by decide +kernel
theorem dX0_addJoint_55 : decode cX0_addJoint 55 = .ok (.iload 4, 2) := by decide +kernel
theorem dX0_addJoint_57 : decode cX0_addJoint 57 = .ok (.iastore, 1) := by decide +kernel
theorem dX0_addJoint_58 : decode cX0_addJoint 58 = .ok (.aload_n 0, 1) := by decide +kernel
theorem dX0_addJoint_59 : decode cX0_addJoint 59 = .ok (.dup, 1) := by decide +kernel
theorem dX0_addJoint_60 : decode cX0_addJoint 60 = .ok (.getfield 31, 3) := by decide +kernel
theorem dX0_addJoint_63 : decode cX0_addJoint 63 = .ok (.iconst 1, 1) := by decide +kernel
theorem dX0_addJoint_64 : decode cX0_addJoint 64 = .ok (.iadd, 1) := by decide +kernel
theorem dX0_addJoint_65 : decode cX0_addJoint 65 = .ok (.putfield 31, 3) := by decide +kernel
theorem dX0_addJoint_68 : decode cX0_addJoint 68 = .ok (.aload_n 0, 1) := by decide +kernel
theorem dX0_addJoint_69 : decode cX0_addJoint 69 = .ok (.getfield 31, 3) := by decide +kernel
theorem dX0_addJoint_72 : decode cX0_addJoint 72 = .ok (.iconst 1, 1) := by decide +kernel
theorem dX0_addJoint_73 : decode cX0_addJoint 73 = .ok (.isub, 1) := by decide +kernel
theorem dX0_addJoint_74 : decode cX0_addJoint 74 = .ok (.ireturn, 1) := by decide +kernel
theorem dX0_wearOut_0 : decode cX0_wearOut 0 = .ok (.aload_n 0, 1) := by decide +kernel
theorem dX0_wearOut_1 : decode cX0_wearOut 1 = .ok (.iload_n 1, 1) := by decide +kernel
theorem dX0_wearOut_2 : decode cX0_wearOut 2 = .ok (.putfield 34, 3) := by decide +kernel
theorem dX0_wearOut_5 : decode cX0_wearOut 5 = .ok (.aload_n 0, 1) := by decide +kernel
theorem dX0_wearOut_6 : decode cX0_wearOut 6 = .ok (.iload_n 2, 1) := by decide +kernel
theorem dX0_wearOut_7 : decode cX0_wearOut 7 = .ok (.putfield 37, 3) := by decide +kernel
theorem dX0_wearOut_10 : decode cX0_wearOut 10 = .ok (.aload_n 0, 1) := by decide +kernel
theorem dX0_wearOut_11 : decode cX0_wearOut 11 = .ok (.iload_n 3, 1) := by decide +kernel
theorem dX0_wearOut_12 : decode cX0_wearOut 12 = .ok (.putfield 40, 3) := by decide +kernel
theorem dX0_wearOut_15 : decode cX0_wearOut 15 = .ok (.aload_n 0, 1) := by decide +kernel
theorem dX0_wearOut_16 : decode cX0_wearOut 16 = .ok (.iload 4, 2) := by decide +kernel
theorem dX0_wearOut_18 : decode cX0_wearOut 18 = .ok (.putfield 43, 3) := by decide +kernel
theorem dX0_wearOut_21 : decode cX0_wearOut 21 = .ok (.return_, 1) := by decide +kernel
theorem dX0_low_0 : decode cX0_low 0 = .ok (.iload_n 1, 1) := by decide +kernel
theorem dX0_low_1 : decode cX0_low 1 = .ok (.ifCond .lt 17, 3) := by decide +kernel
theorem dX0_low_4 : decode cX0_low 4 = .ok (.iload_n 1, 1) := by decide +kernel
theorem dX0_low_5 : decode cX0_low 5 = .ok (.iconst 3, 1) := by decide +kernel
theorem dX0_low_6 : decode cX0_low 6 = .ok (.if_icmp .ge 12, 3) := by decide +kernel
theorem dX0_low_9 : decode cX0_low 9 = .ok (.aload_n 0, 1) := by decide +kernel
theorem dX0_low_10 : decode cX0_low 10 = .ok (.getfield 15, 3) := by decide +kernel
theorem dX0_low_13 : decode cX0_low 13 = .ok (.iload_n 1, 1) := by decide +kernel
theorem dX0_low_14 : decode cX0_low 14 = .ok (.iaload, 1) := by decide +kernel
theorem dX0_low_15 : decode cX0_low 15 = .ok (.goto 4, 3) := by decide +kernel
theorem dX0_low_18 : decode cX0_low 18 = .ok (.iconst 0, 1) := by decide +kernel
theorem dX0_low_19 : decode cX0_low 19 = .ok (.ireturn, 1) := by decide +kernel
theorem dX0_high_0 : decode cX0_high 0 = .ok (.iload_n 1, 1) := by decide +kernel
theorem dX0_high_1 : decode cX0_high 1 = .ok (.ifCond .lt 17, 3) := by decide +kernel
theorem dX0_high_4 : decode cX0_high 4 = .ok (.iload_n 1, 1) := by decide +kernel
theorem dX0_high_5 : decode cX0_high 5 = .ok (.iconst 3, 1) := by decide +kernel
theorem dX0_high_6 : decode cX0_high 6 = .ok (.if_icmp .ge 12, 3) := by decide +kernel
theorem dX0_high_9 : decode cX0_high 9 = .ok (.aload_n 0, 1) := by decide +kernel
theorem dX0_high_10 : decode cX0_high 10 = .ok (.getfield 18, 3) := by decide +kernel
theorem dX0_high_13 : decode cX0_high 13 = .ok (.iload_n 1, 1) := by decide +kernel
theorem dX0_high_14 : decode cX0_high 14 = .ok (.iaload, 1) := by decide +kernel
theorem dX0_high_15 : decode cX0_high 15 = .ok (.goto 4, 3) := by decide +kernel
theorem dX0_high_18 : decode cX0_high 18 = .ok (.iconst 0, 1) := by decide +kernel
theorem dX0_high_19 : decode cX0_high 19 = .ok (.ireturn, 1) := by decide +kernel
theorem dX0_speed_0 : decode cX0_speed 0 = .ok (.iload_n 1, 1) := by decide +kernel
theorem dX0_speed_1 : decode cX0_speed 1 = .ok (.ifCond .lt 17, 3) := by decide +kernel
theorem dX0_speed_4 : decode cX0_speed 4 = .ok (.iload_n 1, 1) := by decide +kernel
theorem dX0_speed_5 : decode cX0_speed 5 = .ok (.iconst 3, 1) := by decide +kernel
theorem dX0_speed_6 : decode cX0_speed 6 = .ok (.if_icmp .ge 12, 3) := by decide +kernel
theorem dX0_speed_9 : decode cX0_speed 9 = .ok (.aload_n 0, 1) := by decide +kernel
theorem dX0_speed_10 : decode cX0_speed 10 = .ok (.getfield 21, 3) := by decide +kernel
theorem dX0_speed_13 : decode cX0_speed 13 = .ok (.iload_n 1, 1) := by decide +kernel
theorem dX0_speed_14 : decode cX0_speed 14 = .ok (.iaload, 1) := by decide +kernel
theorem dX0_speed_15 : decode cX0_speed 15 = .ok (.goto 4, 3) := by decide +kernel
theorem dX0_speed_18 : decode cX0_speed 18 = .ok (.iconst 0, 1) := by decide +kernel
theorem dX0_speed_19 : decode cX0_speed 19 = .ok (.ireturn, 1) := by decide +kernel
theorem dX0_hasPose_0 : decode cX0_hasPose 0 = .ok (.iload_n 1, 1) := by decide +kernel
theorem dX0_hasPose_1 : decode cX0_hasPose 1 = .ok (.ifCond .lt 14, 3) := by decide +kernel
theorem dX0_hasPose_4 : decode cX0_hasPose 4 = .ok (.iload_n 1, 1) := by decide +kernel
theorem dX0_hasPose_5 : decode cX0_hasPose 5 = .ok (.sipush 4096, 3) := by decide +kernel
theorem dX0_hasPose_8 : decode cX0_hasPose 8 = .ok (.if_icmp .ge 7, 3) := by decide +kernel
theorem dX0_hasPose_11 : decode cX0_hasPose 11 = .ok (.iconst 1, 1) := by decide +kernel
theorem dX0_hasPose_12 : decode cX0_hasPose 12 = .ok (.goto 4, 3) := by decide +kernel
theorem dX0_hasPose_15 : decode cX0_hasPose 15 = .ok (.iconst 0, 1) := by decide +kernel
theorem dX0_hasPose_16 : decode cX0_hasPose 16 = .ok (.istore_n 2, 1) := by decide +kernel
theorem dX0_hasPose_17 : decode cX0_hasPose 17 = .ok (.iconst 0, 1) := by decide +kernel
theorem dX0_hasPose_18 : decode cX0_hasPose 18 = .ok (.istore_n 3, 1) := by decide +kernel
theorem dX0_hasPose_19 : decode cX0_hasPose 19 = .ok (.iload_n 3, 1) := by decide +kernel
theorem dX0_hasPose_20 : decode cX0_hasPose 20 = .ok (.iconst 3, 1) := by decide +kernel
theorem dX0_hasPose_21 : decode cX0_hasPose 21 = .ok (.if_icmp .ge 34, 3) := by decide +kernel
theorem dX0_hasPose_24 : decode cX0_hasPose 24 = .ok (.iload_n 2, 1) := by decide +kernel
theorem dX0_hasPose_25 : decode cX0_hasPose 25 = .ok (.ifCond .eq 30, 3) := by decide +kernel
theorem dX0_hasPose_28 : decode cX0_hasPose 28 = .ok (.iload_n 1, 1) := by decide +kernel
theorem dX0_hasPose_29 : decode cX0_hasPose 29 = .ok (.iload_n 3, 1) := by decide +kernel
theorem dX0_hasPose_30 : decode cX0_hasPose 30 = .ok (.invokestatic 46, 3) := by decide +kernel
theorem dX0_hasPose_33 : decode cX0_hasPose 33 = .ok (.aload_n 0, 1) := by decide +kernel
theorem dX0_hasPose_34 : decode cX0_hasPose 34 = .ok (.getfield 15, 3) := by decide +kernel
theorem dX0_hasPose_37 : decode cX0_hasPose 37 = .ok (.iload_n 3, 1) := by decide +kernel
theorem dX0_hasPose_38 : decode cX0_hasPose 38 = .ok (.iaload, 1) := by decide +kernel
theorem dX0_hasPose_39 : decode cX0_hasPose 39 = .ok (.aload_n 0, 1) := by decide +kernel
theorem dX0_hasPose_40 : decode cX0_hasPose 40 = .ok (.getfield 18, 3) := by decide +kernel
theorem dX0_hasPose_43 : decode cX0_hasPose 43 = .ok (.iload_n 3, 1) := by decide +kernel
theorem dX0_hasPose_44 : decode cX0_hasPose 44 = .ok (.iaload, 1) := by decide +kernel
theorem dX0_hasPose_45 : decode cX0_hasPose 45 = .ok (.invokestatic 50, 3) := by decide +kernel
theorem dX0_hasPose_48 : decode cX0_hasPose 48 = .ok (.istore_n 2, 1) := by decide +kernel
theorem dX0_hasPose_49 : decode cX0_hasPose 49 = .ok (.iinc 3 1, 3) := by decide +kernel
theorem dX0_hasPose_52 : decode cX0_hasPose 52 = .ok (.goto (-33), 3) := by decide +kernel
theorem dX0_hasPose_55 : decode cX0_hasPose 55 = .ok (.iload_n 2, 1) := by decide +kernel
theorem dX0_hasPose_56 : decode cX0_hasPose 56 = .ok (.ireturn, 1) := by decide +kernel
theorem dX0_pointX_0 : decode cX0_pointX 0 = .ok (.sipush 1000, 3) := by decide +kernel
theorem dX0_pointX_3 : decode cX0_pointX 3 = .ok (.aload_n 0, 1) := by decide +kernel
theorem dX0_pointX_4 : decode cX0_pointX 4 = .ok (.getfield 24, 3) := by decide +kernel
theorem dX0_pointX_7 : decode cX0_pointX 7 = .ok (.imul, 1) := by decide +kernel
theorem dX0_pointX_8 : decode cX0_pointX 8 = .ok (.aload_n 0, 1) := by decide +kernel
theorem dX0_pointX_9 : decode cX0_pointX 9 = .ok (.iload_n 1, 1) := by decide +kernel
theorem dX0_pointX_10 : decode cX0_pointX 10 = .ok (.iload_n 2, 1) := by decide +kernel
theorem dX0_pointX_11 : decode cX0_pointX 11 = .ok (.iconst 0, 1) := by decide +kernel
theorem dX0_pointX_12 : decode cX0_pointX 12 = .ok (.invokevirtual 54, 3) := by decide +kernel
theorem dX0_pointX_15 : decode cX0_pointX 15 = .ok (.iadd, 1) := by decide +kernel
theorem dX0_pointX_16 : decode cX0_pointX 16 = .ok (.ireturn, 1) := by decide +kernel
theorem dX0_pointY_0 : decode cX0_pointY 0 = .ok (.sipush 1000, 3) := by decide +kernel
theorem dX0_pointY_3 : decode cX0_pointY 3 = .ok (.aload_n 0, 1) := by decide +kernel
theorem dX0_pointY_4 : decode cX0_pointY 4 = .ok (.getfield 28, 3) := by decide +kernel
theorem dX0_pointY_7 : decode cX0_pointY 7 = .ok (.imul, 1) := by decide +kernel
theorem dX0_pointY_8 : decode cX0_pointY 8 = .ok (.aload_n 0, 1) := by decide +kernel
theorem dX0_pointY_9 : decode cX0_pointY 9 = .ok (.iload_n 1, 1) := by decide +kernel
theorem dX0_pointY_10 : decode cX0_pointY 10 = .ok (.iload_n 2, 1) := by decide +kernel
theorem dX0_pointY_11 : decode cX0_pointY 11 = .ok (.bipush 12, 2) := by decide +kernel
theorem dX0_pointY_13 : decode cX0_pointY 13 = .ok (.invokevirtual 54, 3) := by decide +kernel
theorem dX0_pointY_16 : decode cX0_pointY 16 = .ok (.iadd, 1) := by decide +kernel
theorem dX0_pointY_17 : decode cX0_pointY 17 = .ok (.ireturn, 1) := by decide +kernel
theorem dX0_tipX_0 : decode cX0_tipX 0 = .ok (.sipush 1000, 3) := by decide +kernel
theorem dX0_tipX_3 : decode cX0_tipX 3 = .ok (.aload_n 0, 1) := by decide +kernel
theorem dX0_tipX_4 : decode cX0_tipX 4 = .ok (.getfield 24, 3) := by decide +kernel
theorem dX0_tipX_7 : decode cX0_tipX 7 = .ok (.imul, 1) := by decide +kernel
theorem dX0_tipX_8 : decode cX0_tipX 8 = .ok (.aload_n 0, 1) := by decide +kernel
theorem dX0_tipX_9 : decode cX0_tipX 9 = .ok (.iload_n 1, 1) := by decide +kernel
theorem dX0_tipX_10 : decode cX0_tipX 10 = .ok (.aload_n 0, 1) := by decide +kernel
theorem dX0_tipX_11 : decode cX0_tipX 11 = .ok (.getfield 31, 3) := by decide +kernel
theorem dX0_tipX_14 : decode cX0_tipX 14 = .ok (.iconst 0, 1) := by decide +kernel
theorem dX0_tipX_15 : decode cX0_tipX 15 = .ok (.invokevirtual 54, 3) := by decide +kernel
theorem dX0_tipX_18 : decode cX0_tipX 18 = .ok (.iadd, 1) := by decide +kernel
theorem dX0_tipX_19 : decode cX0_tipX 19 = .ok (.ireturn, 1) := by decide +kernel
theorem dX0_tipY_0 : decode cX0_tipY 0 = .ok (.sipush 1000, 3) := by decide +kernel
theorem dX0_tipY_3 : decode cX0_tipY 3 = .ok (.aload_n 0, 1) := by decide +kernel
theorem dX0_tipY_4 : decode cX0_tipY 4 = .ok (.getfield 28, 3) := by decide +kernel
theorem dX0_tipY_7 : decode cX0_tipY 7 = .ok (.imul, 1) := by decide +kernel
theorem dX0_tipY_8 : decode cX0_tipY 8 = .ok (.aload_n 0, 1) := by decide +kernel
theorem dX0_tipY_9 : decode cX0_tipY 9 = .ok (.iload_n 1, 1) := by decide +kernel
theorem dX0_tipY_10 : decode cX0_tipY 10 = .ok (.aload_n 0, 1) := by decide +kernel
theorem dX0_tipY_11 : decode cX0_tipY 11 = .ok (.getfield 31, 3) := by decide +kernel
theorem dX0_tipY_14 : decode cX0_tipY 14 = .ok (.bipush 12, 2) := by decide +kernel
theorem dX0_tipY_16 : decode cX0_tipY 16 = .ok (.invokevirtual 54, 3) := by decide +kernel
theorem dX0_tipY_19 : decode cX0_tipY 19 = .ok (.iadd, 1) := by decide +kernel
theorem dX0_tipY_20 : decode cX0_tipY 20 = .ok (.ireturn, 1) := by decide +kernel
theorem dX0_reach_0 : decode cX0_reach 0 = .ok (.iconst 0, 1) := by decide +kernel
theorem dX0_reach_1 : decode cX0_reach 1 = .ok (.istore 4, 2) := by decide +kernel
theorem dX0_reach_3 : decode cX0_reach 3 = .ok (.iload_n 3, 1) := by decide +kernel
theorem dX0_reach_4 : decode cX0_reach 4 = .ok (.istore 5, 2) := by decide +kernel
theorem dX0_reach_6 : decode cX0_reach 6 = .ok (.iconst 0, 1) := by decide +kernel
theorem dX0_reach_7 : decode cX0_reach 7 = .ok (.istore 6, 2) := by decide +kernel
theorem dX0_reach_9 : decode cX0_reach 9 = .ok (.iload 6, 2) := by decide +kernel
theorem dX0_reach_11 : decode cX0_reach 11 = .ok (.iload_n 2, 1) := by decide +kernel
theorem dX0_reach_12 : decode cX0_reach 12 = .ok (.if_icmp .ge 48, 3) := by decide +kernel
theorem dX0_reach_15 : decode cX0_reach 15 = .ok (.iload 6, 2) := by decide +kernel
theorem dX0_reach_17 : decode cX0_reach 17 = .ok (.iconst 3, 1) := by decide +kernel
theorem dX0_reach_18 : decode cX0_reach 18 = .ok (.if_icmp .ge 42, 3) := by decide +kernel
theorem dX0_reach_21 : decode cX0_reach 21 = .ok (.iload 5, 2) := by decide +kernel
theorem dX0_reach_23 : decode cX0_reach 23 = .ok (.iload_n 1, 1) := by decide +kernel
theorem dX0_reach_24 : decode cX0_reach 24 = .ok (.iload 6, 2) := by decide +kernel
theorem dX0_reach_26 : decode cX0_reach 26 = .ok (.invokestatic 46, 3) := by decide +kernel
theorem dX0_reach_29 : decode cX0_reach 29 = .ok (.iadd, 1) := by decide +kernel
theorem dX0_reach_30 : decode cX0_reach 30 = .ok (.istore 5, 2) := by decide +kernel
theorem dX0_reach_32 : decode cX0_reach 32 = .ok (.iload 4, 2) := by decide +kernel
theorem dX0_reach_34 : decode cX0_reach 34 = .ok (.aload_n 0, 1) := by decide +kernel
theorem dX0_reach_35 : decode cX0_reach 35 = .ok (.getfield 9, 3) := by decide +kernel
theorem dX0_reach_38 : decode cX0_reach 38 = .ok (.iload 6, 2) := by decide +kernel
theorem dX0_reach_40 : decode cX0_reach 40 = .ok (.iaload, 1) := by decide +kernel
theorem dX0_reach_41 : decode cX0_reach 41 = .ok (.getstatic 58, 3) := by decide +kernel
theorem dX0_reach_44 : decode cX0_reach 44 = .ok (.iload 5, 2) := by decide +kernel
theorem dX0_reach_46 : decode cX0_reach 46 = .ok (.bipush 15, 2) := by decide +kernel
theorem dX0_reach_48 : decode cX0_reach 48 = .ok (.iand, 1) := by decide +kernel
theorem dX0_reach_49 : decode cX0_reach 49 = .ok (.iaload, 1) := by decide +kernel
theorem dX0_reach_50 : decode cX0_reach 50 = .ok (.imul, 1) := by decide +kernel
theorem dX0_reach_51 : decode cX0_reach 51 = .ok (.iadd, 1) := by decide +kernel
theorem dX0_reach_52 : decode cX0_reach 52 = .ok (.istore 4, 2) := by decide +kernel
theorem dX0_reach_54 : decode cX0_reach 54 = .ok (.iinc 6 1, 3) := by decide +kernel
theorem dX0_reach_57 : decode cX0_reach 57 = .ok (.goto (-48), 3) := by decide +kernel
theorem dX0_reach_60 : decode cX0_reach 60 = .ok (.iload 4, 2) := by decide +kernel
theorem dX0_reach_62 : decode cX0_reach 62 = .ok (.ireturn, 1) := by decide +kernel
theorem dX0_hopBetween_0 : decode cX0_hopBetween 0 = .ok (.iconst 0, 1) := by decide +kernel
theorem dX0_hopBetween_1 : decode cX0_hopBetween 1 = .ok (.istore_n 3, 1) := by decide +kernel
theorem dX0_hopBetween_2 : decode cX0_hopBetween 2 = .ok (.iconst 0, 1) := by decide +kernel
theorem dX0_hopBetween_3 : decode cX0_hopBetween 3 = .ok (.istore 4, 2) := by decide +kernel
theorem dX0_hopBetween_5 : decode cX0_hopBetween 5 = .ok (.iload 4, 2) := by decide +kernel
theorem dX0_hopBetween_7 : decode cX0_hopBetween 7 = .ok (.aload_n 0, 1) := by decide +kernel
theorem dX0_hopBetween_8 : decode cX0_hopBetween 8 = .ok (.getfield 31, 3) := by decide +kernel
theorem dX0_hopBetween_11 : decode cX0_hopBetween 11 = .ok (.if_icmp .ge 62, 3) := by decide +kernel
theorem dX0_hopBetween_14 : decode cX0_hopBetween 14 = .ok (.iload 4, 2) := by decide +kernel
theorem dX0_hopBetween_16 : decode cX0_hopBetween 16 = .ok (.iconst 3, 1) := by decide +kernel
theorem dX0_hopBetween_17 : decode cX0_hopBetween 17 = .ok (.if_icmp .ge 56, 3) := by decide +kernel
theorem dX0_hopBetween_20 : decode cX0_hopBetween 20 = .ok (.iload_n 1, 1) := by decide +kernel
theorem dX0_hopBetween_21 : decode cX0_hopBetween 21 = .ok (.iload 4, 2) := by decide +kernel
theorem dX0_hopBetween_23 : decode cX0_hopBetween 23 = .ok (.invokestatic 46, 3) := by decide +kernel
theorem dX0_hopBetween_26 : decode cX0_hopBetween 26 = .ok (.iload_n 2, 1) := by decide +kernel
theorem dX0_hopBetween_27 : decode cX0_hopBetween 27 = .ok (.iload 4, 2) := by decide +kernel
theorem dX0_hopBetween_29 : decode cX0_hopBetween 29 = .ok (.invokestatic 46, 3) := by decide +kernel
theorem dX0_hopBetween_32 : decode cX0_hopBetween 32 = .ok (.isub, 1) := by decide +kernel
theorem dX0_hopBetween_33 : decode cX0_hopBetween 33 = .ok (.invokestatic 61, 3) := by decide +kernel
theorem dX0_hopBetween_36 : decode cX0_hopBetween 36 = .ok (.istore 5, 2) := by decide +kernel
theorem dX0_hopBetween_38 : decode cX0_hopBetween 38 = .ok (.aload_n 0, 1) := by decide +kernel
theorem dX0_hopBetween_39 : decode cX0_hopBetween 39 = .ok (.getfield 21, 3) := by decide +kernel
theorem dX0_hopBetween_42 : decode cX0_hopBetween 42 = .ok (.iload 4, 2) := by decide +kernel
theorem dX0_hopBetween_44 : decode cX0_hopBetween 44 = .ok (.iaload, 1) := by decide +kernel
theorem dX0_hopBetween_45 : decode cX0_hopBetween 45 = .ok (.istore 6, 2) := by decide +kernel
theorem dX0_hopBetween_47 : decode cX0_hopBetween 47 = .ok (.iload 6, 2) := by decide +kernel
theorem dX0_hopBetween_49 : decode cX0_hopBetween 49 = .ok (.ifCond .le 18, 3) := by decide +kernel
theorem dX0_hopBetween_52 : decode cX0_hopBetween 52 = .ok (.iload_n 3, 1) := by decide +kernel
theorem dX0_hopBetween_53 : decode cX0_hopBetween 53 = .ok (.iload 5, 2) := by decide +kernel
theorem dX0_hopBetween_55 : decode cX0_hopBetween 55 = .ok (.iload 6, 2) := by decide +kernel
theorem dX0_hopBetween_57 : decode cX0_hopBetween 57 = .ok (.iadd, 1) := by decide +kernel
theorem dX0_hopBetween_58 : decode cX0_hopBetween 58 = .ok (.iconst 1, 1) := by decide +kernel
theorem dX0_hopBetween_59 : decode cX0_hopBetween 59 = .ok (.isub, 1) := by decide +kernel
theorem dX0_hopBetween_60 : decode cX0_hopBetween 60 = .ok (.iload 6, 2) := by decide +kernel
theorem dX0_hopBetween_62 : decode cX0_hopBetween 62 = .ok (.idiv, 1) := by decide +kernel
theorem dX0_hopBetween_63 : decode cX0_hopBetween 63 = .ok (.invokestatic 67, 3) := by decide +kernel
theorem dX0_hopBetween_66 : decode cX0_hopBetween 66 = .ok (.istore_n 3, 1) := by decide +kernel
theorem dX0_hopBetween_67 : decode cX0_hopBetween 67 = .ok (.iinc 4 1, 3) := by decide +kernel
theorem dX0_hopBetween_70 : decode cX0_hopBetween 70 = .ok (.goto (-65), 3) := by decide +kernel
theorem dX0_hopBetween_73 : decode cX0_hopBetween 73 = .ok (.iload_n 3, 1) := by decide +kernel
theorem dX0_hopBetween_74 : decode cX0_hopBetween 74 = .ok (.ireturn, 1) := by decide +kernel
theorem dX0_ticksBetween_0 : decode cX0_ticksBetween 0 = .ok (.aload_n 0, 1) := by decide +kernel
theorem dX0_ticksBetween_1 : decode cX0_ticksBetween 1 = .ok (.iload_n 1, 1) := by decide +kernel
theorem dX0_ticksBetween_2 : decode cX0_ticksBetween 2 = .ok (.iload_n 2, 1) := by decide +kernel
theorem dX0_ticksBetween_3 : decode cX0_ticksBetween 3 = .ok (.invokevirtual 70, 3) := by decide +kernel
theorem dX0_ticksBetween_6 : decode cX0_ticksBetween 6 = .ok (.iconst 1, 1) := by decide +kernel
theorem dX0_ticksBetween_7 : decode cX0_ticksBetween 7 = .ok (.isub, 1) := by decide +kernel
theorem dX0_ticksBetween_8 : decode cX0_ticksBetween 8 = .ok (.iconst 0, 1) := by decide +kernel
theorem dX0_ticksBetween_9 : decode cX0_ticksBetween 9 = .ok (.invokestatic 67, 3) := by decide +kernel
theorem dX0_ticksBetween_12 : decode cX0_ticksBetween 12 = .ok (.ireturn, 1) := by decide +kernel
theorem dX0_poseOnWay_0 : decode cX0_poseOnWay 0 = .ok (.iconst 0, 1) := by decide +kernel
theorem dX0_poseOnWay_1 : decode cX0_poseOnWay 1 = .ok (.istore 5, 2) := by decide +kernel
theorem dX0_poseOnWay_3 : decode cX0_poseOnWay 3 = .ok (.iconst 0, 1) := by decide +kernel
theorem dX0_poseOnWay_4 : decode cX0_poseOnWay 4 = .ok (.istore 6, 2) := by decide +kernel
theorem dX0_poseOnWay_6 : decode cX0_poseOnWay 6 = .ok (.iload 6, 2) := by decide +kernel
theorem dX0_poseOnWay_8 : decode cX0_poseOnWay 8 = .ok (.aload_n 0, 1) := by decide +kernel
theorem dX0_poseOnWay_9 : decode cX0_poseOnWay 9 = .ok (.getfield 31, 3) := by decide +kernel
theorem dX0_poseOnWay_12 : decode cX0_poseOnWay 12 = .ok (.if_icmp .ge 52, 3) := by decide +kernel
theorem dX0_poseOnWay_15 : decode cX0_poseOnWay 15 = .ok (.iload 4, 2) := by decide +kernel
theorem dX0_poseOnWay_17 : decode cX0_poseOnWay 17 = .ok (.ifCond .le 47, 3) := by decide +kernel
theorem dX0_poseOnWay_20 : decode cX0_poseOnWay 20 = .ok (.iload_n 1, 1) := by decide +kernel
theorem dX0_poseOnWay_21 : decode cX0_poseOnWay 21 = .ok (.iload 6, 2) := by decide +kernel
theorem dX0_poseOnWay_23 : decode cX0_poseOnWay 23 = .ok (.invokestatic 46, 3) := by decide +kernel
theorem dX0_poseOnWay_26 : decode cX0_poseOnWay 26 = .ok (.istore 7, 2) := by decide +kernel
theorem dX0_poseOnWay_28 : decode cX0_poseOnWay 28 = .ok (.iload 7, 2) := by decide +kernel
theorem dX0_poseOnWay_30 : decode cX0_poseOnWay 30 = .ok (.iload_n 2, 1) := by decide +kernel
theorem dX0_poseOnWay_31 : decode cX0_poseOnWay 31 = .ok (.iload 6, 2) := by decide +kernel
theorem dX0_poseOnWay_33 : decode cX0_poseOnWay 33 = .ok (.invokestatic 46, 3) := by decide +kernel
theorem dX0_poseOnWay_36 : decode cX0_poseOnWay 36 = .ok (.iload 7, 2) := by decide +kernel
theorem dX0_poseOnWay_38 : decode cX0_poseOnWay 38 = .ok (.isub, 1) := by decide +kernel
theorem dX0_poseOnWay_39 : decode cX0_poseOnWay 39 = .ok (.iload_n 3, 1) := by decide +kernel
theorem dX0_poseOnWay_40 : decode cX0_poseOnWay 40 = .ok (.imul, 1) := by decide +kernel
theorem dX0_poseOnWay_41 : decode cX0_poseOnWay 41 = .ok (.iload 4, 2) := by decide +kernel
theorem dX0_poseOnWay_43 : decode cX0_poseOnWay 43 = .ok (.idiv, 1) := by decide +kernel
theorem dX0_poseOnWay_44 : decode cX0_poseOnWay 44 = .ok (.iadd, 1) := by decide +kernel
theorem dX0_poseOnWay_45 : decode cX0_poseOnWay 45 = .ok (.istore 8, 2) := by decide +kernel
theorem dX0_poseOnWay_47 : decode cX0_poseOnWay 47 = .ok (.iload 5, 2) := by decide +kernel
theorem dX0_poseOnWay_49 : decode cX0_poseOnWay 49 = .ok (.iload 6, 2) := by decide +kernel
theorem dX0_poseOnWay_51 : decode cX0_poseOnWay 51 = .ok (.iload 8, 2) := by decide +kernel
theorem dX0_poseOnWay_53 : decode cX0_poseOnWay 53 = .ok (.invokestatic 73, 3) := by decide +kernel
theorem dX0_poseOnWay_56 : decode cX0_poseOnWay 56 = .ok (.istore 5, 2) := by decide +kernel
theorem dX0_poseOnWay_58 : decode cX0_poseOnWay 58 = .ok (.iinc 6 1, 3) := by decide +kernel
theorem dX0_poseOnWay_61 : decode cX0_poseOnWay 61 = .ok (.goto (-55), 3) := by decide +kernel
theorem dX0_poseOnWay_64 : decode cX0_poseOnWay 64 = .ok (.iload 5, 2) := by decide +kernel
theorem dX0_poseOnWay_66 : decode cX0_poseOnWay 66 = .ok (.ireturn, 1) := by decide +kernel
theorem dX0_fillBody_0 : decode cX0_fillBody 0 = .ok (.aload_n 0, 1) := by decide +kernel
theorem dX0_fillBody_1 : decode cX0_fillBody 1 = .ok (.iload_n 1, 1) := by decide +kernel
theorem dX0_fillBody_2 : decode cX0_fillBody 2 = .ok (.iconst 0, 1) := by decide +kernel
theorem dX0_fillBody_3 : decode cX0_fillBody 3 = .ok (.invokevirtual 76, 3) := by decide +kernel
theorem dX0_fillBody_6 : decode cX0_fillBody 6 = .ok (.istore 4, 2) := by decide +kernel
theorem dX0_fillBody_8 : decode cX0_fillBody 8 = .ok (.aload_n 0, 1) := by decide +kernel
theorem dX0_fillBody_9 : decode cX0_fillBody 9 = .ok (.iload_n 1, 1) := by decide +kernel
theorem dX0_fillBody_10 : decode cX0_fillBody 10 = .ok (.iconst 0, 1) := by decide +kernel
theorem dX0_fillBody_11 : decode cX0_fillBody 11 = .ok (.invokevirtual 79, 3) := by decide +kernel
theorem dX0_fillBody_14 : decode cX0_fillBody 14 = .ok (.istore 5, 2) := by decide +kernel
theorem dX0_fillBody_16 : decode cX0_fillBody 16 = .ok (.iload_n 3, 1) := by decide +kernel
theorem dX0_fillBody_17 : decode cX0_fillBody 17 = .ok (.istore 6, 2) := by decide +kernel
theorem dX0_fillBody_19 : decode cX0_fillBody 19 = .ok (.iconst 1, 1) := by decide +kernel
theorem dX0_fillBody_20 : decode cX0_fillBody 20 = .ok (.istore 7, 2) := by decide +kernel
theorem dX0_fillBody_22 : decode cX0_fillBody 22 = .ok (.iload 7, 2) := by decide +kernel
theorem dX0_fillBody_24 : decode cX0_fillBody 24 = .ok (.aload_n 0, 1) := by decide +kernel
theorem dX0_fillBody_25 : decode cX0_fillBody 25 = .ok (.getfield 31, 3) := by decide +kernel
theorem dX0_fillBody_28 : decode cX0_fillBody 28 = .ok (.if_icmp .gt 90, 3) := by decide +kernel
theorem dX0_fillBody_31 : decode cX0_fillBody 31 = .ok (.iload 6, 2) := by decide +kernel
theorem dX0_fillBody_33 : decode cX0_fillBody 33 = .ok (.ifCond .lt 85, 3) := by decide +kernel
theorem dX0_fillBody_36 : decode cX0_fillBody 36 = .ok (.iload 6, 2) := by decide +kernel
theorem dX0_fillBody_38 : decode cX0_fillBody 38 = .ok (.iconst 1, 1) := by decide +kernel
theorem dX0_fillBody_39 : decode cX0_fillBody 39 = .ok (.iadd, 1) := by decide +kernel
theorem dX0_fillBody_40 : decode cX0_fillBody 40 = .ok (.aload_n 2, 1) := by decide +kernel
theorem dX0_fillBody_41 : decode cX0_fillBody 41 = .ok (.arraylength, 1) := by decide +kernel
theorem dX0_fillBody_42 : decode cX0_fillBody 42 = .ok (.if_icmp .ge 76, 3) := by decide +kernel
theorem dX0_fillBody_45 : decode cX0_fillBody 45 = .ok (.aload_n 0, 1) := by decide +kernel
theorem dX0_fillBody_46 : decode cX0_fillBody 46 = .ok (.iload_n 1, 1) := by decide +kernel
theorem dX0_fillBody_47 : decode cX0_fillBody 47 = .ok (.iload 7, 2) := by decide +kernel
theorem dX0_fillBody_49 : decode cX0_fillBody 49 = .ok (.invokevirtual 76, 3) := by decide +kernel
theorem dX0_fillBody_52 : decode cX0_fillBody 52 = .ok (.istore 8, 2) := by decide +kernel
theorem dX0_fillBody_54 : decode cX0_fillBody 54 = .ok (.aload_n 0, 1) := by decide +kernel
theorem dX0_fillBody_55 : decode cX0_fillBody 55 = .ok (.iload_n 1, 1) := by decide +kernel
theorem dX0_fillBody_56 : decode cX0_fillBody 56 = .ok (.iload 7, 2) := by decide +kernel
theorem dX0_fillBody_58 : decode cX0_fillBody 58 = .ok (.invokevirtual 79, 3) := by decide +kernel
theorem dX0_fillBody_61 : decode cX0_fillBody 61 = .ok (.istore 9, 2) := by decide +kernel
theorem dX0_fillBody_63 : decode cX0_fillBody 63 = .ok (.aload_n 2, 1) := by decide +kernel
theorem dX0_fillBody_64 : decode cX0_fillBody 64 = .ok (.iload 6, 2) := by decide +kernel
theorem dX0_fillBody_66 : decode cX0_fillBody 66 = .ok (.iload 4, 2) := by decide +kernel
theorem dX0_fillBody_68 : decode cX0_fillBody 68 = .ok (.iload 8, 2) := by decide +kernel
theorem dX0_fillBody_70 : decode cX0_fillBody 70 = .ok (.iadd, 1) := by decide +kernel
theorem dX0_fillBody_71 : decode cX0_fillBody 71 = .ok (.iconst 2, 1) := by decide +kernel
theorem dX0_fillBody_72 : decode cX0_fillBody 72 = .ok (.invokestatic 82, 3) := by decide +kernel
theorem dX0_fillBody_75 : decode cX0_fillBody 75 = .ok (.iload 5, 2) := by decide +kernel
theorem dX0_fillBody_77 : decode cX0_fillBody 77 = .ok (.iload 9, 2) := by decide +kernel
theorem dX0_fillBody_79 : decode cX0_fillBody 79 = .ok (.iadd, 1) := by decide +kernel
theorem dX0_fillBody_80 : decode cX0_fillBody 80 = .ok (.iconst 2, 1) := by decide +kernel
theorem dX0_fillBody_81 : decode cX0_fillBody 81 = .ok (.invokestatic 82, 3) := by decide +kernel
theorem dX0_fillBody_84 : decode cX0_fillBody 84 = .ok (.invokestatic 85, 3) := by decide +kernel
theorem dX0_fillBody_87 : decode cX0_fillBody 87 = .ok (.iastore, 1) := by decide +kernel
theorem dX0_fillBody_88 : decode cX0_fillBody 88 = .ok (.aload_n 2, 1) := by decide +kernel
theorem dX0_fillBody_89 : decode cX0_fillBody 89 = .ok (.iload 6, 2) := by decide +kernel
theorem dX0_fillBody_91 : decode cX0_fillBody 91 = .ok (.iconst 1, 1) := by decide +kernel
theorem dX0_fillBody_92 : decode cX0_fillBody 92 = .ok (.iadd, 1) := by decide +kernel
theorem dX0_fillBody_93 : decode cX0_fillBody 93 = .ok (.iload 8, 2) := by decide +kernel
theorem dX0_fillBody_95 : decode cX0_fillBody 95 = .ok (.iload 9, 2) := by decide +kernel
theorem dX0_fillBody_97 : decode cX0_fillBody 97 = .ok (.invokestatic 85, 3) := by decide +kernel
theorem dX0_fillBody_100 : decode cX0_fillBody 100 = .ok (.iastore, 1) := by decide +kernel
theorem dX0_fillBody_101 : decode cX0_fillBody 101 = .ok (.iinc 6 2, 3) := by decide +kernel
theorem dX0_fillBody_104 : decode cX0_fillBody 104 = .ok (.iload 8, 2) := by decide +kernel
theorem dX0_fillBody_106 : decode cX0_fillBody 106 = .ok (.istore 4, 2) := by decide +kernel
theorem dX0_fillBody_108 : decode cX0_fillBody 108 = .ok (.iload 9, 2) := by decide +kernel
theorem dX0_fillBody_110 : decode cX0_fillBody 110 = .ok (.istore 5, 2) := by decide +kernel
theorem dX0_fillBody_112 : decode cX0_fillBody 112 = .ok (.iinc 7 1, 3) := by decide +kernel
theorem dX0_fillBody_115 : decode cX0_fillBody 115 = .ok (.goto (-93), 3) := by decide +kernel
theorem dX0_fillBody_118 : decode cX0_fillBody 118 = .ok (.return_, 1) := by decide +kernel
theorem dX0_cellOf_0 : decode cX0_cellOf 0 = .ok (.iload_n 0, 1) := by decide +kernel
theorem dX0_cellOf_1 : decode cX0_cellOf 1 = .ok (.sipush 1000, 3) := by decide +kernel
theorem dX0_cellOf_4 : decode cX0_cellOf 4 = .ok (.invokestatic 82, 3) := by decide +kernel
theorem dX0_cellOf_7 : decode cX0_cellOf 7 = .ok (.bipush 64, 2) := by decide +kernel
theorem dX0_cellOf_9 : decode cX0_cellOf 9 = .ok (.iadd, 1) := by decide +kernel
theorem dX0_cellOf_10 : decode cX0_cellOf 10 = .ok (.sipush 256, 3) := by decide +kernel
theorem dX0_cellOf_13 : decode cX0_cellOf 13 = .ok (.imul, 1) := by decide +kernel
theorem dX0_cellOf_14 : decode cX0_cellOf 14 = .ok (.iload_n 1, 1) := by decide +kernel
theorem dX0_cellOf_15 : decode cX0_cellOf 15 = .ok (.sipush 1000, 3) := by decide +kernel
theorem dX0_cellOf_18 : decode cX0_cellOf 18 = .ok (.invokestatic 82, 3) := by decide +kernel
theorem dX0_cellOf_21 : decode cX0_cellOf 21 = .ok (.iadd, 1) := by decide +kernel
theorem dX0_cellOf_22 : decode cX0_cellOf 22 = .ok (.bipush 64, 2) := by decide +kernel
theorem dX0_cellOf_24 : decode cX0_cellOf 24 = .ok (.iadd, 1) := by decide +kernel
theorem dX0_cellOf_25 : decode cX0_cellOf 25 = .ok (.ireturn, 1) := by decide +kernel
theorem dX1_init_0 : decode cX1_init 0 = .ok (.aload_n 0, 1) := by decide +kernel
theorem dX1_init_1 : decode cX1_init 1 = .ok (.invokespecial 3, 3) := by decide +kernel
theorem dX1_init_4 : decode cX1_init 4 = .ok (.aload_n 0, 1) := by decide +kernel
theorem dX1_init_5 : decode cX1_init 5 = .ok (.sipush 640, 3) := by decide +kernel
theorem dX1_init_8 : decode cX1_init 8 = .ok (.newarray .int, 2) := by decide +kernel
theorem dX1_init_10 : decode cX1_init 10 = .ok (.putfield 9, 3) := by decide +kernel
theorem dX1_init_13 : decode cX1_init 13 = .ok (.aload_n 0, 1) := by decide +kernel
theorem dX1_init_14 : decode cX1_init 14 = .ok (.bipush 40, 2) := by decide +kernel
theorem dX1_init_16 : decode cX1_init 16 = .ok (.newarray .int, 2) := by decide +kernel
theorem dX1_init_18 : decode cX1_init 18 = .ok (.putfield 15, 3) := by decide +kernel
theorem dX1_init_21 : decode cX1_init 21 = .ok (.aload_n 0, 1) := by decide +kernel
theorem dX1_init_22 : decode cX1_init 22 = .ok (.bipush 40, 2) := by decide +kernel
theorem dX1_init_24 : decode cX1_init 24 = .ok (.newarray .int, 2) := by decide +kernel
theorem dX1_init_26 : decode cX1_init 26 = .ok (.putfield 18, 3) := by decide +kernel
theorem dX1_init_29 : decode cX1_init 29 = .ok (.aload_n 0, 1) := by decide +kernel
theorem dX1_init_30 : decode cX1_init 30 = .ok (.sipush 256, 3) := by decide +kernel
theorem dX1_init_33 : decode cX1_init 33 = .ok (.newarray .int, 2) := by decide +kernel
theorem dX1_init_35 : decode cX1_init 35 = .ok (.putfield 21, 3) := by decide +kernel
theorem dX1_init_38 : decode cX1_init 38 = .ok (.aload_n 0, 1) := by decide +kernel
theorem dX1_init_39 : decode cX1_init 39 = .ok (.iconst 3, 1) := by decide +kernel
theorem dX1_init_40 : decode cX1_init 40 = .ok (.newarray .int, 2) := by decide +kernel
theorem dX1_init_42 : decode cX1_init 42 = .ok (.putfield 24, 3) := by decide +kernel
theorem dX1_init_45 : decode cX1_init 45 = .ok (.aload_n 0, 1) := by decide +kernel
theorem dX1_init_46 : decode cX1_init 46 = .ok (.iconst 3, 1) := by decide +kernel
theorem dX1_init_47 : decode cX1_init 47 = .ok (.newarray .int, 2) := by decide +kernel
theorem dX1_init_49 : decode cX1_init 49 = .ok (.putfield 27, 3) := by decide +kernel
theorem dX1_init_52 : decode cX1_init 52 = .ok (.return_, 1) := by decide +kernel
theorem dX1_search_0 : decode cX1_search 0 = .ok (.aload_n 0, 1) := by decide +kernel
theorem dX1_search_1 : decode cX1_search 1 = .ok (.aload_n 1, 1) := by decide +kernel
theorem dX1_search_2 : decode cX1_search 2 = .ok (.aload_n 2, 1) := by decide +kernel
theorem dX1_search_3 : decode cX1_search 3 = .ok (.invokevirtual 30, 3) := by decide +kernel
theorem dX1_search_6 : decode cX1_search 6 = .ok (.aload_n 0, 1) := by decide +kernel
theorem dX1_search_7 : decode cX1_search 7 = .ok (.iconst 0, 1) := by decide +kernel
theorem dX1_search_8 : decode cX1_search 8 = .ok (.putfield 34, 3) := by decide +kernel
theorem dX1_search_11 : decode cX1_search 11 = .ok (.aload_n 0, 1) := by decide +kernel
theorem dX1_search_12 : decode cX1_search 12 = .ok (.iconst 0, 1) := by decide +kernel
theorem dX1_search_13 : decode cX1_search 13 = .ok (.putfield 38, 3) := by decide +kernel
theorem dX1_search_16 : decode cX1_search 16 = .ok (.aload_n 0, 1) := by decide +kernel
theorem dX1_search_17 : decode cX1_search 17 = .ok (.iconst 0, 1) := by decide +kernel
theorem dX1_search_18 : decode cX1_search 18 = .ok (.putfield 41, 3) := by decide +kernel
theorem dX1_search_21 : decode cX1_search 21 = .ok (.iconst 0, 1) := by decide +kernel
theorem dX1_search_22 : decode cX1_search 22 = .ok (.istore_n 3, 1) := by decide +kernel
theorem dX1_search_23 : decode cX1_search 23 = .ok (.iload_n 3, 1) := by decide +kernel
theorem dX1_search_24 : decode cX1_search 24 = .ok (.aload_n 2, 1) := by decide +kernel
theorem dX1_search_25 : decode cX1_search 25 = .ok (.getfield 45, 3) := by decide +kernel
theorem dX1_search_28 : decode cX1_search 28 = .ok (.if_icmp .ge 73, 3) := by decide +kernel
theorem dX1_search_31 : decode cX1_search 31 = .ok (.iload_n 3, 1) := by decide +kernel
theorem dX1_search_32 : decode cX1_search 32 = .ok (.iconst 3, 1) := by decide +kernel
theorem dX1_search_33 : decode cX1_search 33 = .ok (.if_icmp .ge 68, 3) := by decide +kernel
theorem dX1_search_36 : decode cX1_search 36 = .ok (.aload_n 0, 1) := by decide +kernel
theorem dX1_search_37 : decode cX1_search 37 = .ok (.getfield 24, 3) := by decide +kernel
theorem dX1_search_40 : decode cX1_search 40 = .ok (.iload_n 3, 1) := by decide +kernel
theorem dX1_search_41 : decode cX1_search 41 = .ok (.bipush 40, 2) := by decide +kernel
theorem dX1_search_43 : decode cX1_search 43 = .ok (.iastore, 1) := by decide +kernel
theorem dX1_search_44 : decode cX1_search 44 = .ok (.aload_n 0, 1) := by decide +kernel
theorem dX1_search_45 : decode cX1_search 45 = .ok (.getfield 27, 3) := by decide +kernel
theorem dX1_search_48 : decode cX1_search 48 = .ok (.iload_n 3, 1) := by decide +kernel
theorem dX1_search_49 : decode cX1_search 49 = .ok (.iconst (-1), 1) := by decide +kernel
theorem dX1_search_50 : decode cX1_search 50 = .ok (.iastore, 1) := by decide +kernel
theorem dX1_search_51 : decode cX1_search 51 = .ok (.aload_n 0, 1) := by decide +kernel
theorem dX1_search_52 : decode cX1_search 52 = .ok (.aload_n 1, 1) := by decide +kernel
theorem dX1_search_53 : decode cX1_search 53 = .ok (.aload_n 2, 1) := by decide +kernel
theorem dX1_search_54 : decode cX1_search 54 = .ok (.iload_n 3, 1) := by decide +kernel
theorem dX1_search_55 : decode cX1_search 55 = .ok (.invokevirtual 48, 3) := by decide +kernel
theorem dX1_search_58 : decode cX1_search 58 = .ok (.iload_n 3, 1) := by decide +kernel
theorem dX1_search_59 : decode cX1_search 59 = .ok (.ifCond .ne 30, 3) := by decide +kernel
theorem dX1_search_62 : decode cX1_search 62 = .ok (.aload_n 0, 1) := by decide +kernel
theorem dX1_search_63 : decode cX1_search 63 = .ok (.aload_n 1, 1) := by decide +kernel
theorem dX1_search_64 : decode cX1_search 64 = .ok (.iconst 0, 1) := by decide +kernel
theorem dX1_search_65 : decode cX1_search 65 = .ok (.iconst 0, 1) := by decide +kernel
theorem dX1_search_66 : decode cX1_search 66 = .ok (.iconst 0, 1) := by decide +kernel
theorem dX1_search_67 : decode cX1_search 67 = .ok (.iconst 0, 1) := by decide +kernel
theorem dX1_search_68 : decode cX1_search 68 = .ok (.invokevirtual 52, 3) := by decide +kernel
theorem dX1_search_71 : decode cX1_search 71 = .ok (.ifCond .eq 18, 3) := by decide +kernel
theorem dX1_search_74 : decode cX1_search 74 = .ok (.aload_n 0, 1) := by decide +kernel
theorem dX1_search_75 : decode cX1_search 75 = .ok (.iconst 1, 1) := by decide +kernel
theorem dX1_search_76 : decode cX1_search 76 = .ok (.putfield 41, 3) := by decide +kernel
theorem dX1_search_79 : decode cX1_search 79 = .ok (.aload_n 0, 1) := by decide +kernel
theorem dX1_search_80 : decode cX1_search 80 = .ok (.dup, 1) := by decide +kernel
theorem dX1_search_81 : decode cX1_search 81 = .ok (.getfield 34, 3) := by decide +kernel
theorem dX1_search_84 : decode cX1_search 84 = .ok (.iconst 1, 1) := by decide +kernel
theorem dX1_search_85 : decode cX1_search 85 = .ok (.iadd, 1) := by decide +kernel
theorem dX1_search_86 : decode cX1_search 86 = .ok (.putfield 34, 3) := by decide +kernel
theorem dX1_search_89 : decode cX1_search 89 = .ok (.aload_n 0, 1) := by decide +kernel
theorem dX1_search_90 : decode cX1_search 90 = .ok (.aload_n 1, 1) := by decide +kernel
theorem dX1_search_91 : decode cX1_search 91 = .ok (.iload_n 3, 1) := by decide +kernel
theorem dX1_search_92 : decode cX1_search 92 = .ok (.invokevirtual 56, 3) := by decide +kernel
theorem dX1_search_95 : decode cX1_search 95 = .ok (.iinc 3 1, 3) := by decide +kernel
theorem dX1_search_98 : decode cX1_search 98 = .ok (.goto (-75), 3) := by decide +kernel
theorem dX1_search_101 : decode cX1_search 101 = .ok (.return_, 1) := by decide +kernel
theorem dX1_takePaint_0 : decode cX1_takePaint 0 = .ok (.aload_n 1, 1) := by decide +kernel
theorem dX1_takePaint_1 : decode cX1_takePaint 1 = .ok (.aload_n 2, 1) := by decide +kernel
theorem dX1_takePaint_2 : decode cX1_takePaint 2 = .ok (.getfield 60, 3) := by decide +kernel
theorem dX1_takePaint_5 : decode cX1_takePaint 5 = .ok (.aload_n 2, 1) := by decide +kernel
theorem dX1_takePaint_6 : decode cX1_takePaint 6 = .ok (.getfield 63, 3) := by decide +kernel
theorem dX1_takePaint_9 : decode cX1_takePaint 9 = .ok (.aload_n 2, 1) := by decide +kernel
theorem dX1_takePaint_10 : decode cX1_takePaint 10 = .ok (.getfield 66, 3) := by decide +kernel
theorem dX1_takePaint_13 : decode cX1_takePaint 13 = .ok (.aload_n 2, 1) := by decide +kernel
theorem dX1_takePaint_14 : decode cX1_takePaint 14 = .ok (.getfield 69, 3) := by decide +kernel
theorem dX1_takePaint_17 : decode cX1_takePaint 17 = .ok (.invokevirtual 72, 3) := by decide +kernel
theorem dX1_takePaint_20 : decode cX1_takePaint 20 = .ok (.aload_n 0, 1) := by decide +kernel
theorem dX1_takePaint_21 : decode cX1_takePaint 21 = .ok (.aload_n 1, 1) := by decide +kernel
theorem dX1_takePaint_22 : decode cX1_takePaint 22 = .ok (.invokevirtual 78, 3) := by decide +kernel
theorem dX1_takePaint_25 : decode cX1_takePaint 25 = .ok (.bipush 40, 2) := by decide +kernel
theorem dX1_takePaint_27 : decode cX1_takePaint 27 = .ok (.invokestatic 82, 3) := by decide +kernel
theorem dX1_takePaint_30 : decode cX1_takePaint 30 = .ok (.putfield 88, 3) := by decide +kernel
theorem dX1_takePaint_33 : decode cX1_takePaint 33 = .ok (.aload_n 0, 1) := by decide +kernel
theorem dX1_takePaint_34 : decode cX1_takePaint 34 = .ok (.iconst 0, 1) := by decide +kernel
theorem dX1_takePaint_35 : decode cX1_takePaint 35 = .ok (.putfield 90, 3) := by decide +kernel
theorem dX1_takePaint_38 : decode cX1_takePaint 38 = .ok (.iconst 0, 1) := by decide +kernel
theorem dX1_takePaint_39 : decode cX1_takePaint 39 = .ok (.istore_n 3, 1) := by decide +kernel
theorem dX1_takePaint_40 : decode cX1_takePaint 40 = .ok (.iload_n 3, 1) := by decide +kernel
theorem dX1_takePaint_41 : decode cX1_takePaint 41 = .ok (.sipush 256, 3) := by decide +kernel
theorem dX1_takePaint_44 : decode cX1_takePaint 44 = .ok (.if_icmp .ge 16, 3) := by decide +kernel
theorem dX1_takePaint_47 : decode cX1_takePaint 47 = .ok (.aload_n 0, 1) := by decide +kernel
theorem dX1_takePaint_48 : decode cX1_takePaint 48 = .ok (.getfield 21, 3) := by decide +kernel
theorem dX1_takePaint_51 : decode cX1_takePaint 51 = .ok (.iload_n 3, 1) := by decide +kernel
theorem dX1_takePaint_52 : decode cX1_takePaint 52 = .ok (.iconst 0, 1) := by decide +kernel
theorem dX1_takePaint_53 : decode cX1_takePaint 53 = .ok (.iastore, 1) := by decide +kernel
theorem dX1_takePaint_54 : decode cX1_takePaint 54 = .ok (.iinc 3 1, 3) := by decide +kernel
theorem dX1_takePaint_57 : decode cX1_takePaint 57 = .ok (.goto (-17), 3) := by decide +kernel
theorem dX1_takePaint_60 : decode cX1_takePaint 60 = .ok (.iconst 0, 1) := by decide +kernel
theorem dX1_takePaint_61 : decode cX1_takePaint 61 = .ok (.istore_n 3, 1) := by decide +kernel
theorem dX1_takePaint_62 : decode cX1_takePaint 62 = .ok (.iload_n 3, 1) := by decide +kernel
theorem dX1_takePaint_63 : decode cX1_takePaint 63 = .ok (.aload_n 0, 1) := by decide +kernel
theorem dX1_takePaint_64 : decode cX1_takePaint 64 = .ok (.getfield 88, 3) := by decide +kernel
theorem dX1_takePaint_67 : decode cX1_takePaint 67 = .ok (.if_icmp .ge 77, 3) := by decide +kernel
theorem dX1_takePaint_70 : decode cX1_takePaint 70 = .ok (.iload_n 3, 1) := by decide +kernel
theorem dX1_takePaint_71 : decode cX1_takePaint 71 = .ok (.bipush 40, 2) := by decide +kernel
theorem dX1_takePaint_73 : decode cX1_takePaint 73 = .ok (.if_icmp .ge 71, 3) := by decide +kernel
theorem dX1_takePaint_76 : decode cX1_takePaint 76 = .ok (.aload_n 0, 1) := by decide +kernel
theorem dX1_takePaint_77 : decode cX1_takePaint 77 = .ok (.getfield 18, 3) := by decide +kernel
theorem dX1_takePaint_80 : decode cX1_takePaint 80 = .ok (.iload_n 3, 1) := by decide +kernel
theorem dX1_takePaint_81 : decode cX1_takePaint 81 = .ok (.aload_n 1, 1) := by decide +kernel
theorem dX1_takePaint_82 : decode cX1_takePaint 82 = .ok (.iload_n 3, 1) := by decide +kernel
theorem dX1_takePaint_83 : decode cX1_takePaint 83 = .ok (.invokevirtual 93, 3) := by decide +kernel
theorem dX1_takePaint_86 : decode cX1_takePaint 86 = .ok (.iastore, 1) := by decide +kernel
theorem dX1_takePaint_87 : decode cX1_takePaint 87 = .ok (.aload_n 1, 1) := by decide +kernel
theorem dX1_takePaint_88 : decode cX1_takePaint 88 = .ok (.iload_n 3, 1) := by decide +kernel
theorem dX1_takePaint_89 : decode cX1_takePaint 89 = .ok (.invokevirtual 97, 3) := by decide +kernel
theorem dX1_takePaint_92 : decode cX1_takePaint 92 = .ok (.istore 4, 2) := by decide +kernel
theorem dX1_takePaint_94 : decode cX1_takePaint 94 = .ok (.iload 4, 2) := by decide +kernel
theorem dX1_takePaint_96 : decode cX1_takePaint 96 = .ok (.ifCond .lt 42, 3) := by decide +kernel
theorem dX1_takePaint_99 : decode cX1_takePaint 99 = .ok (.iload 4, 2) := by decide +kernel
theorem dX1_takePaint_101 : decode cX1_takePaint 101 = .ok (.sipush 256, 3) := by decide +kernel
theorem dX1_takePaint_104 : decode cX1_takePaint 104 = .ok (.if_icmp .ge 34, 3) := by decide +kernel
theorem dX1_takePaint_107 : decode cX1_takePaint 107 = .ok (.aload_n 0, 1) := by decide +kernel
theorem dX1_takePaint_108 : decode cX1_takePaint 108 = .ok (.getfield 21, 3) := by decide +kernel
theorem dX1_takePaint_111 : decode cX1_takePaint 111 = .ok (.iload 4, 2) := by decide +kernel
theorem dX1_takePaint_113 : decode cX1_takePaint 113 = .ok (.dup2, 1) := by decide +kernel
theorem dX1_takePaint_114 : decode cX1_takePaint 114 = .ok (.iaload, 1) := by decide +kernel
theorem dX1_takePaint_115 : decode cX1_takePaint 115 = .ok (.aload_n 0, 1) := by decide +kernel
theorem dX1_takePaint_116 : decode cX1_takePaint 116 = .ok (.getfield 18, 3) := by decide +kernel
theorem dX1_takePaint_119 : decode cX1_takePaint 119 = .ok (.iload_n 3, 1) := by decide +kernel
theorem dX1_takePaint_120 : decode cX1_takePaint 120 = .ok (.iaload, 1) := by decide +kernel
theorem dX1_takePaint_121 : decode cX1_takePaint 121 = .ok (.iadd, 1) := by decide +kernel
theorem dX1_takePaint_122 : decode cX1_takePaint 122 = .ok (.iastore, 1) := by decide +kernel
theorem dX1_takePaint_123 : decode cX1_takePaint 123 = .ok (.aload_n 0, 1) := by decide +kernel
theorem dX1_takePaint_124 : decode cX1_takePaint 124 = .ok (.dup, 1) := by decide +kernel
theorem dX1_takePaint_125 : decode cX1_takePaint 125 = .ok (.getfield 90, 3) := by decide +kernel
theorem dX1_takePaint_128 : decode cX1_takePaint 128 = .ok (.aload_n 0, 1) := by decide +kernel
theorem dX1_takePaint_129 : decode cX1_takePaint 129 = .ok (.getfield 18, 3) := by decide +kernel
theorem dX1_takePaint_132 : decode cX1_takePaint 132 = .ok (.iload_n 3, 1) := by decide +kernel
theorem dX1_takePaint_133 : decode cX1_takePaint 133 = .ok (.iaload, 1) := by decide +kernel
theorem dX1_takePaint_134 : decode cX1_takePaint 134 = .ok (.iadd, 1) := by decide +kernel
theorem dX1_takePaint_135 : decode cX1_takePaint 135 = .ok (.putfield 90, 3) := by decide +kernel
theorem dX1_takePaint_138 : decode cX1_takePaint 138 = .ok (.iinc 3 1, 3) := by decide +kernel
theorem dX1_takePaint_141 : decode cX1_takePaint 141 = .ok (.goto (-79), 3) := by decide +kernel
theorem dX1_takePaint_144 : decode cX1_takePaint 144 = .ok (.return_, 1) := by decide +kernel
theorem dX1_fillSpots_0 : decode cX1_fillSpots 0 = .ok (.iconst 0, 1) := by decide +kernel
theorem dX1_fillSpots_1 : decode cX1_fillSpots 1 = .ok (.istore 4, 2) := by decide +kernel
theorem dX1_fillSpots_3 : decode cX1_fillSpots 3 = .ok (.iload 4, 2) := by decide +kernel
theorem dX1_fillSpots_5 : decode cX1_fillSpots 5 = .ok (.aload_n 0, 1) := by decide +kernel
theorem dX1_fillSpots_6 : decode cX1_fillSpots 6 = .ok (.getfield 88, 3) := by decide +kernel
theorem dX1_fillSpots_9 : decode cX1_fillSpots 9 = .ok (.if_icmp .ge 68, 3) := by decide +kernel
theorem dX1_fillSpots_12 : decode cX1_fillSpots 12 = .ok (.iload 4, 2) := by decide +kernel
theorem dX1_fillSpots_14 : decode cX1_fillSpots 14 = .ok (.bipush 40, 2) := by decide +kernel
theorem dX1_fillSpots_16 : decode cX1_fillSpots 16 = .ok (.if_icmp .ge 61, 3) := by decide +kernel
theorem dX1_fillSpots_19 : decode cX1_fillSpots 19 = .ok (.aload_n 2, 1) := by decide +kernel
theorem dX1_fillSpots_20 : decode cX1_fillSpots 20 = .ok (.iload_n 3, 1) := by decide +kernel
theorem dX1_fillSpots_21 : decode cX1_fillSpots 21 = .ok (.invokevirtual 100, 3) := by decide +kernel
theorem dX1_fillSpots_24 : decode cX1_fillSpots 24 = .ok (.istore 5, 2) := by decide +kernel
theorem dX1_fillSpots_26 : decode cX1_fillSpots 26 = .ok (.iload 5, 2) := by decide +kernel
theorem dX1_fillSpots_28 : decode cX1_fillSpots 28 = .ok (.aload_n 2, 1) := by decide +kernel
theorem dX1_fillSpots_29 : decode cX1_fillSpots 29 = .ok (.iload_n 3, 1) := by decide +kernel
theorem dX1_fillSpots_30 : decode cX1_fillSpots 30 = .ok (.invokevirtual 103, 3) := by decide +kernel
theorem dX1_fillSpots_33 : decode cX1_fillSpots 33 = .ok (.if_icmp .gt 38, 3) := by decide +kernel
theorem dX1_fillSpots_36 : decode cX1_fillSpots 36 = .ok (.iload 5, 2) := by decide +kernel
theorem dX1_fillSpots_38 : decode cX1_fillSpots 38 = .ok (.bipush 16, 2) := by decide +kernel
theorem dX1_fillSpots_40 : decode cX1_fillSpots 40 = .ok (.if_icmp .ge 31, 3) := by decide +kernel
theorem dX1_fillSpots_43 : decode cX1_fillSpots 43 = .ok (.aload_n 0, 1) := by decide +kernel
theorem dX1_fillSpots_44 : decode cX1_fillSpots 44 = .ok (.getfield 9, 3) := by decide +kernel
theorem dX1_fillSpots_47 : decode cX1_fillSpots 47 = .ok (.iload 4, 2) := by decide +kernel
theorem dX1_fillSpots_49 : decode cX1_fillSpots 49 = .ok (.bipush 16, 2) := by decide +kernel
theorem dX1_fillSpots_51 : decode cX1_fillSpots 51 = .ok (.imul, 1) := by decide +kernel
theorem dX1_fillSpots_52 : decode cX1_fillSpots 52 = .ok (.iload 5, 2) := by decide +kernel
theorem dX1_fillSpots_54 : decode cX1_fillSpots 54 = .ok (.iadd, 1) := by decide +kernel
theorem dX1_fillSpots_55 : decode cX1_fillSpots 55 = .ok (.aload_n 1, 1) := by decide +kernel
theorem dX1_fillSpots_56 : decode cX1_fillSpots 56 = .ok (.iload_n 3, 1) := by decide +kernel
theorem dX1_fillSpots_57 : decode cX1_fillSpots 57 = .ok (.iload 5, 2) := by decide +kernel
theorem dX1_fillSpots_59 : decode cX1_fillSpots 59 = .ok (.iload 4, 2) := by decide +kernel
theorem dX1_fillSpots_61 : decode cX1_fillSpots 61 = .ok (.invokevirtual 106, 3) := by decide +kernel
theorem dX1_fillSpots_64 : decode cX1_fillSpots 64 = .ok (.iastore, 1) := by decide +kernel
theorem dX1_fillSpots_65 : decode cX1_fillSpots 65 = .ok (.iinc 5 1, 3) := by decide +kernel
theorem dX1_fillSpots_68 : decode cX1_fillSpots 68 = .ok (.goto (-42), 3) := by decide +kernel
theorem dX1_fillSpots_71 : decode cX1_fillSpots 71 = .ok (.iinc 4 1, 3) := by decide +kernel
theorem dX1_fillSpots_74 : decode cX1_fillSpots 74 = .ok (.goto (-71), 3) := by decide +kernel
theorem dX1_fillSpots_77 : decode cX1_fillSpots 77 = .ok (.return_, 1) := by decide +kernel
theorem dX1_tryJoint_0 : decode cX1_tryJoint 0 = .ok (.iconst 0, 1) := by decide +kernel
theorem dX1_tryJoint_1 : decode cX1_tryJoint 1 = .ok (.istore_n 3, 1) := by decide +kernel
theorem dX1_tryJoint_2 : decode cX1_tryJoint 2 = .ok (.iload_n 3, 1) := by decide +kernel
theorem dX1_tryJoint_3 : decode cX1_tryJoint 3 = .ok (.iconst 1, 1) := by decide +kernel
theorem dX1_tryJoint_4 : decode cX1_tryJoint 4 = .ok (.if_icmp .gt 63, 3) := by decide +kernel
theorem dX1_tryJoint_7 : decode cX1_tryJoint 7 = .ok (.iconst 1, 1) := by decide +kernel
theorem dX1_tryJoint_8 : decode cX1_tryJoint 8 = .ok (.istore 4, 2) := by decide +kernel
theorem dX1_tryJoint_10 : decode cX1_tryJoint 10 = .ok (.iload 4, 2) := by decide +kernel
theorem dX1_tryJoint_12 : decode cX1_tryJoint 12 = .ok (.iconst 3, 1) := by decide +kernel
theorem dX1_tryJoint_13 : decode cX1_tryJoint 13 = .ok (.if_icmp .gt 48, 3) := by decide +kernel
theorem dX1_tryJoint_16 : decode cX1_tryJoint 16 = .ok (.iconst 0, 1) := by decide +kernel
theorem dX1_tryJoint_17 : decode cX1_tryJoint 17 = .ok (.istore 5, 2) := by decide +kernel
theorem dX1_tryJoint_19 : decode cX1_tryJoint 19 = .ok (.iload 5, 2) := by decide +kernel
theorem dX1_tryJoint_21 : decode cX1_tryJoint 21 = .ok (.aload_n 0, 1) := by decide +kernel
theorem dX1_tryJoint_22 : decode cX1_tryJoint 22 = .ok (.getfield 88, 3) := by decide +kernel
theorem dX1_tryJoint_25 : decode cX1_tryJoint 25 = .ok (.if_icmp .ge 30, 3) := by decide +kernel
theorem dX1_tryJoint_28 : decode cX1_tryJoint 28 = .ok (.aload_n 0, 1) := by decide +kernel
theorem dX1_tryJoint_29 : decode cX1_tryJoint 29 = .ok (.aload_n 1, 1) := by decide +kernel
theorem dX1_tryJoint_30 : decode cX1_tryJoint 30 = .ok (.iload_n 2, 1) := by decide +kernel
theorem dX1_tryJoint_31 : decode cX1_tryJoint 31 = .ok (.iload_n 3, 1) := by decide +kernel
theorem dX1_tryJoint_32 : decode cX1_tryJoint 32 = .ok (.iload 4, 2) := by decide +kernel
theorem dX1_tryJoint_34 : decode cX1_tryJoint 34 = .ok (.iload 5, 2) := by decide +kernel
theorem dX1_tryJoint_36 : decode cX1_tryJoint 36 = .ok (.invokevirtual 52, 3) := by decide +kernel
theorem dX1_tryJoint_39 : decode cX1_tryJoint 39 = .ok (.ifCond .eq 10, 3) := by decide +kernel
theorem dX1_tryJoint_42 : decode cX1_tryJoint 42 = .ok (.aload_n 0, 1) := by decide +kernel
theorem dX1_tryJoint_43 : decode cX1_tryJoint 43 = .ok (.iload_n 2, 1) := by decide +kernel
theorem dX1_tryJoint_44 : decode cX1_tryJoint 44 = .ok (.iload 5, 2) := by decide +kernel
theorem dX1_tryJoint_46 : decode cX1_tryJoint 46 = .ok (.invokevirtual 110, 3) := by decide +kernel
theorem dX1_tryJoint_49 : decode cX1_tryJoint 49 = .ok (.iinc 5 1, 3) := by decide +kernel
theorem dX1_tryJoint_52 : decode cX1_tryJoint 52 = .ok (.goto (-33), 3) := by decide +kernel
theorem dX1_tryJoint_55 : decode cX1_tryJoint 55 = .ok (.iinc 4 1, 3) := by decide +kernel
theorem dX1_tryJoint_58 : decode cX1_tryJoint 58 = .ok (.goto (-48), 3) := by decide +kernel
theorem dX1_tryJoint_61 : decode cX1_tryJoint 61 = .ok (.iinc 3 1, 3) := by decide +kernel
theorem dX1_tryJoint_64 : decode cX1_tryJoint 64 = .ok (.goto (-62), 3) := by decide +kernel
theorem dX1_tryJoint_67 : decode cX1_tryJoint 67 = .ok (.return_, 1) := by decide +kernel
theorem dX1_note_0 : decode cX1_note 0 = .ok (.iload_n 1, 1) := by decide +kernel
theorem dX1_note_1 : decode cX1_note 1 = .ok (.ifCond .lt 8, 3) := by decide +kernel
theorem dX1_note_4 : decode cX1_note 4 = .ok (.iload_n 1, 1) := by decide +kernel
theorem dX1_note_5 : decode cX1_note 5 = .ok (.iconst 3, 1) := by decide +kernel
theorem dX1_note_6 : decode cX1_note 6 = .ok (.if_icmp .lt 4, 3) := by decide +kernel
theorem dX1_note_9 : decode cX1_note 9 = .ok (.return_, 1) := by decide +kernel
theorem dX1_note_10 : decode cX1_note 10 = .ok (.aload_n 0, 1) := by decide +kernel
theorem dX1_note_11 : decode cX1_note 11 = .ok (.dup, 1) := by decide +kernel
theorem dX1_note_12 : decode cX1_note 12 = .ok (.getfield 34, 3) := by decide +kernel
theorem dX1_note_15 : decode cX1_note 15 = .ok (.iconst 1, 1) := by decide +kernel
theorem dX1_note_16 : decode cX1_note 16 = .ok (.iadd, 1) := by decide +kernel
theorem dX1_note_17 : decode cX1_note 17 = .ok (.putfield 34, 3) := by decide +kernel
theorem dX1_note_20 : decode cX1_note 20 = .ok (.aload_n 0, 1) := by decide +kernel
theorem dX1_note_21 : decode cX1_note 21 = .ok (.dup, 1) := by decide +kernel
theorem dX1_note_22 : decode cX1_note 22 = .ok (.getfield 38, 3) := by decide +kernel
theorem dX1_note_25 : decode cX1_note 25 = .ok (.iconst 1, 1) := by decide +kernel
theorem dX1_note_26 : decode cX1_note 26 = .ok (.iload_n 1, 1) := by decide +kernel
theorem dX1_note_27 : decode cX1_note 27 = .ok (.ishl, 1) := by decide +kernel
theorem dX1_note_28 : decode cX1_note 28 = .ok (.ior, 1) := by decide +kernel
theorem dX1_note_29 : decode cX1_note 29 = .ok (.putfield 38, 3) := by decide +kernel
theorem dX1_note_32 : decode cX1_note 32 = .ok (.aload_n 0, 1) := by decide +kernel
theorem dX1_note_33 : decode cX1_note 33 = .ok (.getfield 24, 3) := by decide +kernel
theorem dX1_note_36 : decode cX1_note 36 = .ok (.iload_n 1, 1) := by decide +kernel
theorem dX1_note_37 : decode cX1_note 37 = .ok (.aload_n 0, 1) := by decide +kernel
theorem dX1_note_38 : decode cX1_note 38 = .ok (.getfield 24, 3) := by decide +kernel
theorem dX1_note_41 : decode cX1_note 41 = .ok (.iload_n 1, 1) := by decide +kernel
theorem dX1_note_42 : decode cX1_note 42 = .ok (.iaload, 1) := by decide +kernel
theorem dX1_note_43 : decode cX1_note 43 = .ok (.iload_n 2, 1) := by decide +kernel
theorem dX1_note_44 : decode cX1_note 44 = .ok (.invokestatic 82, 3) := by decide +kernel
theorem dX1_note_47 : decode cX1_note 47 = .ok (.iastore, 1) := by decide +kernel
theorem dX1_note_48 : decode cX1_note 48 = .ok (.aload_n 0, 1) := by decide +kernel
theorem dX1_note_49 : decode cX1_note 49 = .ok (.getfield 27, 3) := by decide +kernel
theorem dX1_note_52 : decode cX1_note 52 = .ok (.iload_n 1, 1) := by decide +kernel
theorem dX1_note_53 : decode cX1_note 53 = .ok (.aload_n 0, 1) := by decide +kernel
theorem dX1_note_54 : decode cX1_note 54 = .ok (.getfield 27, 3) := by decide +kernel
theorem dX1_note_57 : decode cX1_note 57 = .ok (.iload_n 1, 1) := by decide +kernel
theorem dX1_note_58 : decode cX1_note 58 = .ok (.iaload, 1) := by decide +kernel
theorem dX1_note_59 : decode cX1_note 59 = .ok (.iload_n 2, 1) := by decide +kernel
theorem dX1_note_60 : decode cX1_note 60 = .ok (.invokestatic 114, 3) := by decide +kernel
theorem dX1_note_63 : decode cX1_note 63 = .ok (.iastore, 1) := by decide +kernel
theorem dX1_note_64 : decode cX1_note 64 = .ok (.return_, 1) := by decide +kernel
theorem dX1_fits_0 : decode cX1_fits 0 = .ok (.iconst 0, 1) := by decide +kernel
theorem dX1_fits_1 : decode cX1_fits 1 = .ok (.istore 6, 2) := by decide +kernel
theorem dX1_fits_3 : decode cX1_fits 3 = .ok (.iconst 0, 1) := by decide +kernel
theorem dX1_fits_4 : decode cX1_fits 4 = .ok (.istore 7, 2) := by decide +kernel
theorem dX1_fits_6 : decode cX1_fits 6 = .ok (.iconst 0, 1) := by decide +kernel
theorem dX1_fits_7 : decode cX1_fits 7 = .ok (.istore 8, 2) := by decide +kernel
theorem dX1_fits_9 : decode cX1_fits 9 = .ok (.iconst 1, 1) := by decide +kernel
theorem dX1_fits_10 : decode cX1_fits 10 = .ok (.istore 9, 2) := by decide +kernel
theorem dX1_fits_12 : decode cX1_fits 12 = .ok (.iconst 0, 1) := by decide +kernel
theorem dX1_fits_13 : decode cX1_fits 13 = .ok (.istore 10, 2) := by decide +kernel
theorem dX1_fits_15 : decode cX1_fits 15 = .ok (.iload 10, 2) := by decide +kernel
theorem dX1_fits_17 : decode cX1_fits 17 = .ok (.aload_n 0, 1) := by decide +kernel
theorem dX1_fits_18 : decode cX1_fits 18 = .ok (.getfield 88, 3) := by decide +kernel
theorem dX1_fits_21 : decode cX1_fits 21 = .ok (.if_icmp .ge 129, 3) := by decide +kernel
theorem dX1_fits_24 : decode cX1_fits 24 = .ok (.iload 10, 2) := by decide +kernel
theorem dX1_fits_26 : decode cX1_fits 26 = .ok (.bipush 40, 2) := by decide +kernel
theorem dX1_fits_28 : decode cX1_fits 28 = .ok (.if_icmp .ge 122, 3) := by decide +kernel
theorem dX1_fits_31 : decode cX1_fits 31 = .ok (.iload 9, 2) := by decide +kernel
theorem dX1_fits_33 : decode cX1_fits 33 = .ok (.ifCond .eq 117, 3) := by decide +kernel
theorem dX1_fits_36 : decode cX1_fits 36 = .ok (.aload_n 1, 1) := by decide +kernel
theorem dX1_fits_37 : decode cX1_fits 37 = .ok (.iload_n 2, 1) := by decide +kernel
theorem dX1_fits_38 : decode cX1_fits 38 = .ok (.iload_n 3, 1) := by decide +kernel
theorem dX1_fits_39 : decode cX1_fits 39 = .ok (.iload 4, 2) := by decide +kernel
theorem dX1_fits_41 : decode cX1_fits 41 = .ok (.iload 5, 2) := by decide +kernel
theorem dX1_fits_43 : decode cX1_fits 43 = .ok (.iload 10, 2) := by decide +kernel
theorem dX1_fits_45 : decode cX1_fits 45 = .ok (.iload 7, 2) := by decide +kernel
theorem dX1_fits_47 : decode cX1_fits 47 = .ok (.invokevirtual 117, 3) := by decide +kernel
theorem dX1_fits_50 : decode cX1_fits 50 = .ok (.bipush 15, 2) := by decide +kernel
theorem dX1_fits_52 : decode cX1_fits 52 = .ok (.iand, 1) := by decide +kernel
theorem dX1_fits_53 : decode cX1_fits 53 = .ok (.istore 7, 2) := by decide +kernel
theorem dX1_fits_55 : decode cX1_fits 55 = .ok (.aload_n 0, 1) := by decide +kernel
theorem dX1_fits_56 : decode cX1_fits 56 = .ok (.getfield 9, 3) := by decide +kernel
theorem dX1_fits_59 : decode cX1_fits 59 = .ok (.iload 10, 2) := by decide +kernel
theorem dX1_fits_61 : decode cX1_fits 61 = .ok (.bipush 16, 2) := by decide +kernel
theorem dX1_fits_63 : decode cX1_fits 63 = .ok (.imul, 1) := by decide +kernel
theorem dX1_fits_64 : decode cX1_fits 64 = .ok (.iload 7, 2) := by decide +kernel
theorem dX1_fits_66 : decode cX1_fits 66 = .ok (.iadd, 1) := by decide +kernel
theorem dX1_fits_67 : decode cX1_fits 67 = .ok (.iaload, 1) := by decide +kernel
theorem dX1_fits_68 : decode cX1_fits 68 = .ok (.istore 11, 2) := by decide +kernel
theorem dX1_fits_70 : decode cX1_fits 70 = .ok (.aload_n 0, 1) := by decide +kernel
theorem dX1_fits_71 : decode cX1_fits 71 = .ok (.getfield 15, 3) := by decide +kernel
theorem dX1_fits_74 : decode cX1_fits 74 = .ok (.iload 10, 2) := by decide +kernel
theorem dX1_fits_76 : decode cX1_fits 76 = .ok (.iload 11, 2) := by decide +kernel
theorem dX1_fits_78 : decode cX1_fits 78 = .ok (.iastore, 1) := by decide +kernel
theorem dX1_fits_79 : decode cX1_fits 79 = .ok (.iload 10, 2) := by decide +kernel
theorem dX1_fits_81 : decode cX1_fits 81 = .ok (.iconst 1, 1) := by decide +kernel
theorem dX1_fits_82 : decode cX1_fits 82 = .ok (.iadd, 1) := by decide +kernel
theorem dX1_fits_83 : decode cX1_fits 83 = .ok (.istore 8, 2) := by decide +kernel
theorem dX1_fits_85 : decode cX1_fits 85 = .ok (.iload 11, 2) := by decide +kernel
theorem dX1_fits_87 : decode cX1_fits 87 = .ok (.ifCond .lt 57, 3) := by decide +kernel
theorem dX1_fits_90 : decode cX1_fits 90 = .ok (.iload 11, 2) := by decide +kernel
theorem dX1_fits_92 : decode cX1_fits 92 = .ok (.sipush 256, 3) := by decide +kernel
theorem dX1_fits_95 : decode cX1_fits 95 = .ok (.if_icmp .ge 49, 3) := by decide +kernel
theorem dX1_fits_98 : decode cX1_fits 98 = .ok (.aload_n 0, 1) := by decide +kernel
theorem dX1_fits_99 : decode cX1_fits 99 = .ok (.getfield 21, 3) := by decide +kernel
theorem dX1_fits_102 : decode cX1_fits 102 = .ok (.iload 11, 2) := by decide +kernel
theorem dX1_fits_104 : decode cX1_fits 104 = .ok (.dup2, 1) := by decide +kernel
theorem dX1_fits_105 : decode cX1_fits 105 = .ok (.iaload, 1) := by decide +kernel
theorem dX1_fits_106 : decode cX1_fits 106 = .ok (.aload_n 0, 1) := by decide +kernel
theorem dX1_fits_107 : decode cX1_fits 107 = .ok (.getfield 18, 3) := by decide +kernel
theorem dX1_fits_110 : decode cX1_fits 110 = .ok (.iload 10, 2) := by decide +kernel
theorem dX1_fits_112 : decode cX1_fits 112 = .ok (.iaload, 1) := by decide +kernel
theorem dX1_fits_113 : decode cX1_fits 113 = .ok (.isub, 1) := by decide +kernel
theorem dX1_fits_114 : decode cX1_fits 114 = .ok (.iastore, 1) := by decide +kernel
theorem dX1_fits_115 : decode cX1_fits 115 = .ok (.iload 6, 2) := by decide +kernel
theorem dX1_fits_117 : decode cX1_fits 117 = .ok (.aload_n 0, 1) := by decide +kernel
theorem dX1_fits_118 : decode cX1_fits 118 = .ok (.getfield 18, 3) := by decide +kernel
theorem dX1_fits_121 : decode cX1_fits 121 = .ok (.iload 10, 2) := by decide +kernel
theorem dX1_fits_123 : decode cX1_fits 123 = .ok (.iaload, 1) := by decide +kernel
theorem dX1_fits_124 : decode cX1_fits 124 = .ok (.iadd, 1) := by decide +kernel
theorem dX1_fits_125 : decode cX1_fits 125 = .ok (.istore 6, 2) := by decide +kernel
theorem dX1_fits_127 : decode cX1_fits 127 = .ok (.aload_n 0, 1) := by decide +kernel
theorem dX1_fits_128 : decode cX1_fits 128 = .ok (.getfield 21, 3) := by decide +kernel
theorem dX1_fits_131 : decode cX1_fits 131 = .ok (.iload 11, 2) := by decide +kernel
theorem dX1_fits_133 : decode cX1_fits 133 = .ok (.iaload, 1) := by decide +kernel
theorem dX1_fits_134 : decode cX1_fits 134 = .ok (.ifCond .lt 7, 3) := by decide +kernel
theorem dX1_fits_137 : decode cX1_fits 137 = .ok (.iconst 1, 1) := by decide +kernel
theorem dX1_fits_138 : decode cX1_fits 138 = .ok (.goto 4, 3) := by decide +kernel
theorem dX1_fits_141 : decode cX1_fits 141 = .ok (.iconst 0, 1) := by decide +kernel
theorem dX1_fits_142 : decode cX1_fits 142 = .ok (.istore 9, 2) := by decide +kernel
theorem dX1_fits_144 : decode cX1_fits 144 = .ok (.iinc 10 1, 3) := by decide +kernel
theorem dX1_fits_147 : decode cX1_fits 147 = .ok (.goto (-132), 3) := by decide +kernel
theorem dX1_fits_150 : decode cX1_fits 150 = .ok (.iconst 0, 1) := by decide +kernel
theorem dX1_fits_151 : decode cX1_fits 151 = .ok (.istore 10, 2) := by decide +kernel
theorem dX1_fits_153 : decode cX1_fits 153 = .ok (.iload 10, 2) := by decide +kernel
theorem dX1_fits_155 : decode cX1_fits 155 = .ok (.iload 8, 2) := by decide +kernel
theorem dX1_fits_157 : decode cX1_fits 157 = .ok (.if_icmp .ge 55, 3) := by decide +kernel
theorem dX1_fits_160 : decode cX1_fits 160 = .ok (.iload 10, 2) := by decide +kernel
theorem dX1_fits_162 : decode cX1_fits 162 = .ok (.bipush 40, 2) := by decide +kernel
theorem dX1_fits_164 : decode cX1_fits 164 = .ok (.if_icmp .ge 48, 3) := by decide +kernel
theorem dX1_fits_167 : decode cX1_fits 167 = .ok (.aload_n 0, 1) := by decide +kernel
theorem dX1_fits_168 : decode cX1_fits 168 = .ok (.getfield 15, 3) := by decide +kernel
theorem dX1_fits_171 : decode cX1_fits 171 = .ok (.iload 10, 2) := by decide +kernel
theorem dX1_fits_173 : decode cX1_fits 173 = .ok (.iaload, 1) := by decide +kernel
theorem dX1_fits_174 : decode cX1_fits 174 = .ok (.istore 11, 2) := by decide +kernel
theorem dX1_fits_176 : decode cX1_fits 176 = .ok (.iload 11, 2) := by decide +kernel
theorem dX1_fits_178 : decode cX1_fits 178 = .ok (.ifCond .lt 28, 3) := by decide +kernel
theorem dX1_fits_181 : decode cX1_fits 181 = .ok (.iload 11, 2) := by decide +kernel
theorem dX1_fits_183 : decode cX1_fits 183 = .ok (.sipush 256, 3) := by decide +kernel
theorem dX1_fits_186 : decode cX1_fits 186 = .ok (.if_icmp .ge 20, 3) := by decide +kernel
theorem dX1_fits_189 : decode cX1_fits 189 = .ok (.aload_n 0, 1) := by decide +kernel
theorem dX1_fits_190 : decode cX1_fits 190 = .ok (.getfield 21, 3) := by decide +kernel
theorem dX1_fits_193 : decode cX1_fits 193 = .ok (.iload 11, 2) := by decide +kernel
theorem dX1_fits_195 : decode cX1_fits 195 = .ok (.dup2, 1) := by decide +kernel
theorem dX1_fits_196 : decode cX1_fits 196 = .ok (.iaload, 1) := by decide +kernel
theorem dX1_fits_197 : decode cX1_fits 197 = .ok (.aload_n 0, 1) := by decide +kernel
theorem dX1_fits_198 : decode cX1_fits 198 = .ok (.getfield 18, 3) := by decide +kernel
theorem dX1_fits_201 : decode cX1_fits 201 = .ok (.iload 10, 2) := by decide +kernel
theorem dX1_fits_203 : decode cX1_fits 203 = .ok (.iaload, 1) := by decide +kernel
theorem dX1_fits_204 : decode cX1_fits 204 = .ok (.iadd, 1) := by decide +kernel
theorem dX1_fits_205 : decode cX1_fits 205 = .ok (.iastore, 1) := by decide +kernel
theorem dX1_fits_206 : decode cX1_fits 206 = .ok (.iinc 10 1, 3) := by decide +kernel
theorem dX1_fits_209 : decode cX1_fits 209 = .ok (.goto (-56), 3) := by decide +kernel
theorem dX1_fits_212 : decode cX1_fits 212 = .ok (.iload 9, 2) := by decide +kernel
theorem dX1_fits_214 : decode cX1_fits 214 = .ok (.ifCond .eq 16, 3) := by decide +kernel
theorem dX1_fits_217 : decode cX1_fits 217 = .ok (.iload 6, 2) := by decide +kernel
theorem dX1_fits_219 : decode cX1_fits 219 = .ok (.aload_n 0, 1) := by decide +kernel
theorem dX1_fits_220 : decode cX1_fits 220 = .ok (.getfield 90, 3) := by decide +kernel
theorem dX1_fits_223 : decode cX1_fits 223 = .ok (.if_icmp .ne 7, 3) := by decide +kernel
theorem dX1_fits_226 : decode cX1_fits 226 = .ok (.iconst 1, 1) := by decide +kernel
theorem dX1_fits_227 : decode cX1_fits 227 = .ok (.goto 4, 3) := by decide +kernel
theorem dX1_fits_230 : decode cX1_fits 230 = .ok (.iconst 0, 1) := by decide +kernel
theorem dX1_fits_231 : decode cX1_fits 231 = .ok (.ireturn, 1) := by decide +kernel
theorem dX1_tell_0 : decode cX1_tell 0 = .ok (.aload_n 0, 1) := by decide +kernel
theorem dX1_tell_1 : decode cX1_tell 1 = .ok (.invokevirtual 121, 3) := by decide +kernel
theorem dX1_tell_4 : decode cX1_tell 4 = .ok (.istore_n 2, 1) := by decide +kernel
theorem dX1_tell_5 : decode cX1_tell 5 = .ok (.iload_n 2, 1) := by decide +kernel
theorem dX1_tell_6 : decode cX1_tell 6 = .ok (.ifCond .lt 12, 3) := by decide +kernel
theorem dX1_tell_9 : decode cX1_tell 9 = .ok (.iload_n 2, 1) := by decide +kernel
theorem dX1_tell_10 : decode cX1_tell 10 = .ok (.iconst 3, 1) := by decide +kernel
theorem dX1_tell_11 : decode cX1_tell 11 = .ok (.if_icmp .ge 7, 3) := by decide +kernel
theorem dX1_tell_14 : decode cX1_tell 14 = .ok (.iconst 1, 1) := by decide +kernel
theorem dX1_tell_15 : decode cX1_tell 15 = .ok (.goto 4, 3) := by decide +kernel
theorem dX1_tell_18 : decode cX1_tell 18 = .ok (.iconst 0, 1) := by decide +kernel
theorem dX1_tell_19 : decode cX1_tell 19 = .ok (.istore_n 3, 1) := by decide +kernel
theorem dX1_tell_20 : decode cX1_tell 20 = .ok (.iload_n 1, 1) := by decide +kernel
theorem dX1_tell_21 : decode cX1_tell 21 = .ok (.tableswitch 75 0 4 #[35, 40, 45, 58, 60], 35) := by decide +kernel
theorem dX1_tell_56 : decode cX1_tell 56 = .ok (.aload_n 0, 1) := by decide +kernel
theorem dX1_tell_57 : decode cX1_tell 57 = .ok (.getfield 34, 3) := by decide +kernel
theorem dX1_tell_60 : decode cX1_tell 60 = .ok (.ireturn, 1) := by decide +kernel
theorem dX1_tell_61 : decode cX1_tell 61 = .ok (.aload_n 0, 1) := by decide +kernel
theorem dX1_tell_62 : decode cX1_tell 62 = .ok (.getfield 38, 3) := by decide +kernel
theorem dX1_tell_65 : decode cX1_tell 65 = .ok (.ireturn, 1) := by decide +kernel
theorem dX1_tell_66 : decode cX1_tell 66 = .ok (.aload_n 0, 1) := by decide +kernel
theorem dX1_tell_67 : decode cX1_tell 67 = .ok (.getfield 41, 3) := by decide +kernel
theorem dX1_tell_70 : decode cX1_tell 70 = .ok (.ifCond .eq 7, 3) := by decide +kernel
theorem dX1_tell_73 : decode cX1_tell 73 = .ok (.iconst 1, 1) := by decide +kernel
theorem dX1_tell_74 : decode cX1_tell 74 = .ok (.goto 4, 3) := by decide +kernel
theorem dX1_tell_77 : decode cX1_tell 77 = .ok (.iconst 0, 1) := by decide +kernel
theorem dX1_tell_78 : decode cX1_tell 78 = .ok (.ireturn, 1) := by decide +kernel
theorem dX1_tell_79 : decode cX1_tell 79 = .ok (.iload_n 2, 1) := by decide +kernel
theorem dX1_tell_80 : decode cX1_tell 80 = .ok (.ireturn, 1) := by decide +kernel
theorem dX1_tell_81 : decode cX1_tell 81 = .ok (.iload_n 3, 1) := by decide +kernel
theorem dX1_tell_82 : decode cX1_tell 82 = .ok (.ifCond .eq 12, 3) := by decide +kernel
theorem dX1_tell_85 : decode cX1_tell 85 = .ok (.aload_n 0, 1) := by decide +kernel
theorem dX1_tell_86 : decode cX1_tell 86 = .ok (.getfield 24, 3) := by decide +kernel
theorem dX1_tell_89 : decode cX1_tell 89 = .ok (.iload_n 2, 1) := by decide +kernel
theorem dX1_tell_90 : decode cX1_tell 90 = .ok (.iaload, 1) := by decide +kernel
theorem dX1_tell_91 : decode cX1_tell 91 = .ok (.goto 4, 3) := by decide +kernel
theorem dX1_tell_94 : decode cX1_tell 94 = .ok (.iconst (-1), 1) := by decide +kernel
theorem dX1_tell_95 : decode cX1_tell 95 = .ok (.ireturn, 1) := by decide +kernel
theorem dX1_tell_96 : decode cX1_tell 96 = .ok (.iload_n 3, 1) := by decide +kernel
theorem dX1_tell_97 : decode cX1_tell 97 = .ok (.ifCond .eq 12, 3) := by decide +kernel
theorem dX1_tell_100 : decode cX1_tell 100 = .ok (.aload_n 0, 1) := by decide +kernel
theorem dX1_tell_101 : decode cX1_tell 101 = .ok (.getfield 27, 3) := by decide +kernel
theorem dX1_tell_104 : decode cX1_tell 104 = .ok (.iload_n 2, 1) := by decide +kernel
theorem dX1_tell_105 : decode cX1_tell 105 = .ok (.iaload, 1) := by decide +kernel
theorem dX1_tell_106 : decode cX1_tell 106 = .ok (.goto 4, 3) := by decide +kernel
theorem dX1_tell_109 : decode cX1_tell 109 = .ok (.iconst (-1), 1) := by decide +kernel
theorem dX1_tell_110 : decode cX1_tell 110 = .ok (.ireturn, 1) := by decide +kernel
theorem dX1_sureJoint_0 : decode cX1_sureJoint 0 = .ok (.aload_n 0, 1) := by decide +kernel
theorem dX1_sureJoint_1 : decode cX1_sureJoint 1 = .ok (.getfield 41, 3) := by decide +kernel
theorem dX1_sureJoint_4 : decode cX1_sureJoint 4 = .ok (.ifCond .ne 14, 3) := by decide +kernel
theorem dX1_sureJoint_7 : decode cX1_sureJoint 7 = .ok (.aload_n 0, 1) := by decide +kernel
theorem dX1_sureJoint_8 : decode cX1_sureJoint 8 = .ok (.getfield 38, 3) := by decide +kernel
theorem dX1_sureJoint_11 : decode cX1_sureJoint 11 = .ok (.invokestatic 124, 3) := by decide +kernel
theorem dX1_sureJoint_14 : decode cX1_sureJoint 14 = .ok (.iconst 1, 1) := by decide +kernel
theorem dX1_sureJoint_15 : decode cX1_sureJoint 15 = .ok (.if_icmp .eq 5, 3) := by decide +kernel
theorem dX1_sureJoint_18 : decode cX1_sureJoint 18 = .ok (.iconst (-1), 1) := by decide +kernel
theorem dX1_sureJoint_19 : decode cX1_sureJoint 19 = .ok (.ireturn, 1) := by decide +kernel
theorem dX1_sureJoint_20 : decode cX1_sureJoint 20 = .ok (.aload_n 0, 1) := by decide +kernel
theorem dX1_sureJoint_21 : decode cX1_sureJoint 21 = .ok (.getfield 38, 3) := by decide +kernel
theorem dX1_sureJoint_24 : decode cX1_sureJoint 24 = .ok (.iconst 1, 1) := by decide +kernel
theorem dX1_sureJoint_25 : decode cX1_sureJoint 25 = .ok (.ishr, 1) := by decide +kernel
theorem dX1_sureJoint_26 : decode cX1_sureJoint 26 = .ok (.ireturn, 1) := by decide +kernel
theorem dX2_init_0 : decode cX2_init 0 = .ok (.aload_n 0, 1) := by decide +kernel
theorem dX2_init_1 : decode cX2_init 1 = .ok (.invokespecial 3, 3) := by decide +kernel
theorem dX2_init_4 : decode cX2_init 4 = .ok (.aload_n 0, 1) := by decide +kernel
theorem dX2_init_5 : decode cX2_init 5 = .ok (.sipush 256, 3) := by decide +kernel
theorem dX2_init_8 : decode cX2_init 8 = .ok (.newarray .int, 2) := by decide +kernel
theorem dX2_init_10 : decode cX2_init 10 = .ok (.putfield 9, 3) := by decide +kernel
theorem dX2_init_13 : decode cX2_init 13 = .ok (.aload_n 0, 1) := by decide +kernel
theorem dX2_init_14 : decode cX2_init 14 = .ok (.sipush 256, 3) := by decide +kernel
theorem dX2_init_17 : decode cX2_init 17 = .ok (.newarray .int, 2) := by decide +kernel
theorem dX2_init_19 : decode cX2_init 19 = .ok (.putfield 15, 3) := by decide +kernel
theorem dX2_init_22 : decode cX2_init 22 = .ok (.return_, 1) := by decide +kernel
theorem dX2_spotAt_0 : decode cX2_spotAt 0 = .ok (.iload_n 0, 1) := by decide +kernel
theorem dX2_spotAt_1 : decode cX2_spotAt 1 = .ok (.iconst 0, 1) := by decide +kernel
theorem dX2_spotAt_2 : decode cX2_spotAt 2 = .ok (.bipush 15, 2) := by decide +kernel
theorem dX2_spotAt_4 : decode cX2_spotAt 4 = .ok (.invokestatic 18, 3) := by decide +kernel
theorem dX2_spotAt_7 : decode cX2_spotAt 7 = .ok (.ifCond .eq 22, 3) := by decide +kernel
theorem dX2_spotAt_10 : decode cX2_spotAt 10 = .ok (.iload_n 1, 1) := by decide +kernel
theorem dX2_spotAt_11 : decode cX2_spotAt 11 = .ok (.iconst 0, 1) := by decide +kernel
theorem dX2_spotAt_12 : decode cX2_spotAt 12 = .ok (.bipush 15, 2) := by decide +kernel
theorem dX2_spotAt_14 : decode cX2_spotAt 14 = .ok (.invokestatic 18, 3) := by decide +kernel
theorem dX2_spotAt_17 : decode cX2_spotAt 17 = .ok (.ifCond .eq 12, 3) := by decide +kernel
theorem dX2_spotAt_20 : decode cX2_spotAt 20 = .ok (.iload_n 1, 1) := by decide +kernel
theorem dX2_spotAt_21 : decode cX2_spotAt 21 = .ok (.bipush 16, 2) := by decide +kernel
theorem dX2_spotAt_23 : decode cX2_spotAt 23 = .ok (.imul, 1) := by decide +kernel
theorem dX2_spotAt_24 : decode cX2_spotAt 24 = .ok (.iload_n 0, 1) := by decide +kernel
theorem dX2_spotAt_25 : decode cX2_spotAt 25 = .ok (.iadd, 1) := by decide +kernel
theorem dX2_spotAt_26 : decode cX2_spotAt 26 = .ok (.goto 4, 3) := by decide +kernel
theorem dX2_spotAt_29 : decode cX2_spotAt 29 = .ok (.iconst (-1), 1) := by decide +kernel
theorem dX2_spotAt_30 : decode cX2_spotAt 30 = .ok (.ireturn, 1) := by decide +kernel
theorem dX2_paintOn_0 : decode cX2_paintOn 0 = .ok (.iload_n 1, 1) := by decide +kernel
theorem dX2_paintOn_1 : decode cX2_paintOn 1 = .ok (.ifCond .lt 19, 3) := by decide +kernel
theorem dX2_paintOn_4 : decode cX2_paintOn 4 = .ok (.iload_n 1, 1) := by decide +kernel
theorem dX2_paintOn_5 : decode cX2_paintOn 5 = .ok (.sipush 256, 3) := by decide +kernel
theorem dX2_paintOn_8 : decode cX2_paintOn 8 = .ok (.if_icmp .ge 12, 3) := by decide +kernel
theorem dX2_paintOn_11 : decode cX2_paintOn 11 = .ok (.aload_n 0, 1) := by decide +kernel
theorem dX2_paintOn_12 : decode cX2_paintOn 12 = .ok (.getfield 9, 3) := by decide +kernel
theorem dX2_paintOn_15 : decode cX2_paintOn 15 = .ok (.iload_n 1, 1) := by decide +kernel
theorem dX2_paintOn_16 : decode cX2_paintOn 16 = .ok (.iaload, 1) := by decide +kernel
theorem dX2_paintOn_17 : decode cX2_paintOn 17 = .ok (.goto 4, 3) := by decide +kernel
theorem dX2_paintOn_20 : decode cX2_paintOn 20 = .ok (.iconst (-1), 1) := by decide +kernel
theorem dX2_paintOn_21 : decode cX2_paintOn 21 = .ok (.ireturn, 1) := by decide +kernel
theorem dX2_lay_0 : decode cX2_lay 0 = .ok (.iconst 0, 1) := by decide +kernel
theorem dX2_lay_1 : decode cX2_lay 1 = .ok (.istore_n 2, 1) := by decide +kernel
theorem dX2_lay_2 : decode cX2_lay 2 = .ok (.iconst 0, 1) := by decide +kernel
theorem dX2_lay_3 : decode cX2_lay 3 = .ok (.istore_n 3, 1) := by decide +kernel
theorem dX2_lay_4 : decode cX2_lay 4 = .ok (.iload_n 3, 1) := by decide +kernel
theorem dX2_lay_5 : decode cX2_lay 5 = .ok (.aload_n 1, 1) := by decide +kernel
theorem dX2_lay_6 : decode cX2_lay 6 = .ok (.invokevirtual 22, 3) := by decide +kernel
theorem dX2_lay_9 : decode cX2_lay 9 = .ok (.if_icmp .ge 52, 3) := by decide +kernel
theorem dX2_lay_12 : decode cX2_lay 12 = .ok (.aload_n 1, 1) := by decide +kernel
theorem dX2_lay_13 : decode cX2_lay 13 = .ok (.iload_n 3, 1) := by decide +kernel
theorem dX2_lay_14 : decode cX2_lay 14 = .ok (.invokevirtual 28, 3) := by decide +kernel
theorem dX2_lay_17 : decode cX2_lay 17 = .ok (.istore 4, 2) := by decide +kernel
theorem dX2_lay_19 : decode cX2_lay 19 = .ok (.iload 4, 2) := by decide +kernel
theorem dX2_lay_21 : decode cX2_lay 21 = .ok (.ifCond .lt 34, 3) := by decide +kernel
theorem dX2_lay_24 : decode cX2_lay 24 = .ok (.iload 4, 2) := by decide +kernel
theorem dX2_lay_26 : decode cX2_lay 26 = .ok (.sipush 256, 3) := by decide +kernel
theorem dX2_lay_29 : decode cX2_lay 29 = .ok (.if_icmp .ge 26, 3) := by decide +kernel
theorem dX2_lay_32 : decode cX2_lay 32 = .ok (.aload_n 0, 1) := by decide +kernel
theorem dX2_lay_33 : decode cX2_lay 33 = .ok (.getfield 9, 3) := by decide +kernel
theorem dX2_lay_36 : decode cX2_lay 36 = .ok (.iload 4, 2) := by decide +kernel
theorem dX2_lay_38 : decode cX2_lay 38 = .ok (.dup2, 1) := by decide +kernel
theorem dX2_lay_39 : decode cX2_lay 39 = .ok (.iaload, 1) := by decide +kernel
theorem dX2_lay_40 : decode cX2_lay 40 = .ok (.aload_n 1, 1) := by decide +kernel
theorem dX2_lay_41 : decode cX2_lay 41 = .ok (.iload_n 3, 1) := by decide +kernel
theorem dX2_lay_42 : decode cX2_lay 42 = .ok (.invokevirtual 32, 3) := by decide +kernel
theorem dX2_lay_45 : decode cX2_lay 45 = .ok (.iadd, 1) := by decide +kernel
theorem dX2_lay_46 : decode cX2_lay 46 = .ok (.iastore, 1) := by decide +kernel
theorem dX2_lay_47 : decode cX2_lay 47 = .ok (.iload_n 2, 1) := by decide +kernel
theorem dX2_lay_48 : decode cX2_lay 48 = .ok (.aload_n 1, 1) := by decide +kernel
theorem dX2_lay_49 : decode cX2_lay 49 = .ok (.iload_n 3, 1) := by decide +kernel
theorem dX2_lay_50 : decode cX2_lay 50 = .ok (.invokevirtual 32, 3) := by decide +kernel
theorem dX2_lay_53 : decode cX2_lay 53 = .ok (.iadd, 1) := by decide +kernel
theorem dX2_lay_54 : decode cX2_lay 54 = .ok (.istore_n 2, 1) := by decide +kernel
theorem dX2_lay_55 : decode cX2_lay 55 = .ok (.iinc 3 1, 3) := by decide +kernel
theorem dX2_lay_58 : decode cX2_lay 58 = .ok (.goto (-54), 3) := by decide +kernel
theorem dX2_lay_61 : decode cX2_lay 61 = .ok (.iload_n 2, 1) := by decide +kernel
theorem dX2_lay_62 : decode cX2_lay 62 = .ok (.ireturn, 1) := by decide +kernel
theorem dX2_measure_0 : decode cX2_measure 0 = .ok (.aload_n 0, 1) := by decide +kernel
theorem dX2_measure_1 : decode cX2_measure 1 = .ok (.iload_n 1, 1) := by decide +kernel
theorem dX2_measure_2 : decode cX2_measure 2 = .ok (.iload_n 2, 1) := by decide +kernel
theorem dX2_measure_3 : decode cX2_measure 3 = .ok (.invokestatic 35, 3) := by decide +kernel
theorem dX2_measure_6 : decode cX2_measure 6 = .ok (.invokevirtual 38, 3) := by decide +kernel
theorem dX2_measure_9 : decode cX2_measure 9 = .ok (.istore 6, 2) := by decide +kernel
theorem dX2_measure_11 : decode cX2_measure 11 = .ok (.iload 6, 2) := by decide +kernel
theorem dX2_measure_13 : decode cX2_measure 13 = .ok (.istore 7, 2) := by decide +kernel
theorem dX2_measure_15 : decode cX2_measure 15 = .ok (.iconst 0, 1) := by decide +kernel
theorem dX2_measure_16 : decode cX2_measure 16 = .ok (.istore 8, 2) := by decide +kernel
theorem dX2_measure_18 : decode cX2_measure 18 = .ok (.iconst 0, 1) := by decide +kernel
theorem dX2_measure_19 : decode cX2_measure 19 = .ok (.istore 9, 2) := by decide +kernel
theorem dX2_measure_21 : decode cX2_measure 21 = .ok (.iload_n 2, 1) := by decide +kernel
theorem dX2_measure_22 : decode cX2_measure 22 = .ok (.istore 10, 2) := by decide +kernel
theorem dX2_measure_24 : decode cX2_measure 24 = .ok (.iload 10, 2) := by decide +kernel
theorem dX2_measure_26 : decode cX2_measure 26 = .ok (.iload 4, 2) := by decide +kernel
theorem dX2_measure_28 : decode cX2_measure 28 = .ok (.if_icmp .gt 91, 3) := by decide +kernel
theorem dX2_measure_31 : decode cX2_measure 31 = .ok (.iload_n 1, 1) := by decide +kernel
theorem dX2_measure_32 : decode cX2_measure 32 = .ok (.istore 11, 2) := by decide +kernel
theorem dX2_measure_34 : decode cX2_measure 34 = .ok (.iload 11, 2) := by decide +kernel
theorem dX2_measure_36 : decode cX2_measure 36 = .ok (.iload_n 3, 1) := by decide +kernel
theorem dX2_measure_37 : decode cX2_measure 37 = .ok (.if_icmp .gt 76, 3) := by decide +kernel
theorem dX2_measure_40 : decode cX2_measure 40 = .ok (.aload_n 0, 1) := by decide +kernel
theorem dX2_measure_41 : decode cX2_measure 41 = .ok (.iload 11, 2) := by decide +kernel
theorem dX2_measure_43 : decode cX2_measure 43 = .ok (.iload 10, 2) := by decide +kernel
theorem dX2_measure_45 : decode cX2_measure 45 = .ok (.invokestatic 35, 3) := by decide +kernel
theorem dX2_measure_48 : decode cX2_measure 48 = .ok (.invokevirtual 38, 3) := by decide +kernel
theorem dX2_measure_51 : decode cX2_measure 51 = .ok (.istore 12, 2) := by decide +kernel
theorem dX2_measure_53 : decode cX2_measure 53 = .ok (.iload 12, 2) := by decide +kernel
theorem dX2_measure_55 : decode cX2_measure 55 = .ok (.iload 6, 2) := by decide +kernel
theorem dX2_measure_57 : decode cX2_measure 57 = .ok (.if_icmp .ge 7, 3) := by decide +kernel
theorem dX2_measure_60 : decode cX2_measure 60 = .ok (.iconst 1, 1) := by decide +kernel
theorem dX2_measure_61 : decode cX2_measure 61 = .ok (.goto 19, 3) := by decide +kernel
theorem dX2_measure_64 : decode cX2_measure 64 = .ok (.iload 12, 2) := by decide +kernel
theorem dX2_measure_66 : decode cX2_measure 66 = .ok (.iload 6, 2) := by decide +kernel
theorem dX2_measure_68 : decode cX2_measure 68 = .ok (.if_icmp .ne 10, 3) := by decide +kernel
theorem dX2_measure_71 : decode cX2_measure 71 = .ok (.iload 9, 2) := by decide +kernel
theorem dX2_measure_73 : decode cX2_measure 73 = .ok (.iconst 1, 1) := by decide +kernel
theorem dX2_measure_74 : decode cX2_measure 74 = .ok (.iadd, 1) := by decide +kernel
theorem dX2_measure_75 : decode cX2_measure 75 = .ok (.goto 5, 3) := by decide +kernel
theorem dX2_measure_78 : decode cX2_measure 78 = .ok (.iload 9, 2) := by decide +kernel
theorem dX2_measure_80 : decode cX2_measure 80 = .ok (.istore 9, 2) := by decide +kernel
theorem dX2_measure_82 : decode cX2_measure 82 = .ok (.iload 6, 2) := by decide +kernel
theorem dX2_measure_84 : decode cX2_measure 84 = .ok (.iload 12, 2) := by decide +kernel
theorem dX2_measure_86 : decode cX2_measure 86 = .ok (.invokestatic 41, 3) := by decide +kernel
theorem dX2_measure_89 : decode cX2_measure 89 = .ok (.istore 6, 2) := by decide +kernel
theorem dX2_measure_91 : decode cX2_measure 91 = .ok (.iload 7, 2) := by decide +kernel
theorem dX2_measure_93 : decode cX2_measure 93 = .ok (.iload 12, 2) := by decide +kernel
theorem dX2_measure_95 : decode cX2_measure 95 = .ok (.invokestatic 46, 3) := by decide +kernel
theorem dX2_measure_98 : decode cX2_measure 98 = .ok (.istore 7, 2) := by decide +kernel
theorem dX2_measure_100 : decode cX2_measure 100 = .ok (.iload 8, 2) := by decide +kernel
theorem dX2_measure_102 : decode cX2_measure 102 = .ok (.iload 12, 2) := by decide +kernel
theorem dX2_measure_104 : decode cX2_measure 104 = .ok (.iadd, 1) := by decide +kernel
theorem dX2_measure_105 : decode cX2_measure 105 = .ok (.istore 8, 2) := by decide +kernel
theorem dX2_measure_107 : decode cX2_measure 107 = .ok (.iinc 11 1, 3) := by decide +kernel
theorem dX2_measure_110 : decode cX2_measure 110 = .ok (.goto (-76), 3) := by decide +kernel
theorem dX2_measure_113 : decode cX2_measure 113 = .ok (.iinc 10 1, 3) := by decide +kernel
theorem dX2_measure_116 : decode cX2_measure 116 = .ok (.goto (-92), 3) := by decide +kernel
theorem dX2_measure_119 : decode cX2_measure 119 = .ok (.iload 5, 2) := by decide +kernel
theorem dX2_measure_121 : decode cX2_measure 121 = .ok (.tableswitch 36 0 2 #[27, 30, 33], 27) := by decide +kernel
theorem dX2_measure_148 : decode cX2_measure 148 = .ok (.iload 6, 2) := by decide +kernel
theorem dX2_measure_150 : decode cX2_measure 150 = .ok (.ireturn, 1) := by decide +kernel
theorem dX2_measure_151 : decode cX2_measure 151 = .ok (.iload 7, 2) := by decide +kernel
theorem dX2_measure_153 : decode cX2_measure 153 = .ok (.ireturn, 1) := by decide +kernel
theorem dX2_measure_154 : decode cX2_measure 154 = .ok (.iload 8, 2) := by decide +kernel
theorem dX2_measure_156 : decode cX2_measure 156 = .ok (.ireturn, 1) := by decide +kernel
theorem dX2_measure_157 : decode cX2_measure 157 = .ok (.iload 9, 2) := by decide +kernel
theorem dX2_measure_159 : decode cX2_measure 159 = .ok (.ireturn, 1) := by decide +kernel
theorem dX2_painted_0 : decode cX2_painted 0 = .ok (.iconst 0, 1) := by decide +kernel
theorem dX2_painted_1 : decode cX2_painted 1 = .ok (.istore_n 1, 1) := by decide +kernel
theorem dX2_painted_2 : decode cX2_painted 2 = .ok (.iconst 0, 1) := by decide +kernel
theorem dX2_painted_3 : decode cX2_painted 3 = .ok (.istore_n 2, 1) := by decide +kernel
theorem dX2_painted_4 : decode cX2_painted 4 = .ok (.iload_n 2, 1) := by decide +kernel
theorem dX2_painted_5 : decode cX2_painted 5 = .ok (.sipush 256, 3) := by decide +kernel
theorem dX2_painted_8 : decode cX2_painted 8 = .ok (.if_icmp .ge 26, 3) := by decide +kernel
theorem dX2_painted_11 : decode cX2_painted 11 = .ok (.iload_n 1, 1) := by decide +kernel
theorem dX2_painted_12 : decode cX2_painted 12 = .ok (.aload_n 0, 1) := by decide +kernel
theorem dX2_painted_13 : decode cX2_painted 13 = .ok (.getfield 9, 3) := by decide +kernel
theorem dX2_painted_16 : decode cX2_painted 16 = .ok (.iload_n 2, 1) := by decide +kernel
theorem dX2_painted_17 : decode cX2_painted 17 = .ok (.iaload, 1) := by decide +kernel
theorem dX2_painted_18 : decode cX2_painted 18 = .ok (.ifCond .le 7, 3) := by decide +kernel
theorem dX2_painted_21 : decode cX2_painted 21 = .ok (.iconst 1, 1) := by decide +kernel
theorem dX2_painted_22 : decode cX2_painted 22 = .ok (.goto 4, 3) := by decide +kernel
theorem dX2_painted_25 : decode cX2_painted 25 = .ok (.iconst 0, 1) := by decide +kernel
theorem dX2_painted_26 : decode cX2_painted 26 = .ok (.iadd, 1) := by decide +kernel
theorem dX2_painted_27 : decode cX2_painted 27 = .ok (.istore_n 1, 1) := by decide +kernel
theorem dX2_painted_28 : decode cX2_painted 28 = .ok (.iinc 2 1, 3) := by decide +kernel
theorem dX2_painted_31 : decode cX2_painted 31 = .ok (.goto (-27), 3) := by decide +kernel
theorem dX2_painted_34 : decode cX2_painted 34 = .ok (.iload_n 1, 1) := by decide +kernel
theorem dX2_painted_35 : decode cX2_painted 35 = .ok (.ireturn, 1) := by decide +kernel
theorem dX2_wash_0 : decode cX2_wash 0 = .ok (.iconst 0, 1) := by decide +kernel
theorem dX2_wash_1 : decode cX2_wash 1 = .ok (.istore_n 1, 1) := by decide +kernel
theorem dX2_wash_2 : decode cX2_wash 2 = .ok (.iload_n 1, 1) := by decide +kernel
theorem dX2_wash_3 : decode cX2_wash 3 = .ok (.sipush 256, 3) := by decide +kernel
theorem dX2_wash_6 : decode cX2_wash 6 = .ok (.if_icmp .ge 16, 3) := by decide +kernel
theorem dX2_wash_9 : decode cX2_wash 9 = .ok (.aload_n 0, 1) := by decide +kernel
theorem dX2_wash_10 : decode cX2_wash 10 = .ok (.getfield 9, 3) := by decide +kernel
theorem dX2_wash_13 : decode cX2_wash 13 = .ok (.iload_n 1, 1) := by decide +kernel
theorem dX2_wash_14 : decode cX2_wash 14 = .ok (.iconst 0, 1) := by decide +kernel
theorem dX2_wash_15 : decode cX2_wash 15 = .ok (.iastore, 1) := by decide +kernel
theorem dX2_wash_16 : decode cX2_wash 16 = .ok (.iinc 1 1, 3) := by decide +kernel
theorem dX2_wash_19 : decode cX2_wash 19 = .ok (.goto (-17), 3) := by decide +kernel
theorem dX2_wash_22 : decode cX2_wash 22 = .ok (.return_, 1) := by decide +kernel
theorem dX2_findCut_0 : decode cX2_findCut 0 = .ok (.aload_n 0, 1) := by decide +kernel
theorem dX2_findCut_1 : decode cX2_findCut 1 = .ok (.aload_n 1, 1) := by decide +kernel
theorem dX2_findCut_2 : decode cX2_findCut 2 = .ok (.iload_n 2, 1) := by decide +kernel
theorem dX2_findCut_3 : decode cX2_findCut 3 = .ok (.invokevirtual 49, 3) := by decide +kernel
theorem dX2_findCut_6 : decode cX2_findCut 6 = .ok (.aload_n 0, 1) := by decide +kernel
theorem dX2_findCut_7 : decode cX2_findCut 7 = .ok (.getfield 53, 3) := by decide +kernel
theorem dX2_findCut_10 : decode cX2_findCut 10 = .ok (.ifCond .ne 5, 3) := by decide +kernel
theorem dX2_findCut_13 : decode cX2_findCut 13 = .ok (.iconst 0, 1) := by decide +kernel
theorem dX2_findCut_14 : decode cX2_findCut 14 = .ok (.ireturn, 1) := by decide +kernel
theorem dX2_findCut_15 : decode cX2_findCut 15 = .ok (.aload_n 1, 1) := by decide +kernel
theorem dX2_findCut_16 : decode cX2_findCut 16 = .ok (.invokevirtual 22, 3) := by decide +kernel
theorem dX2_findCut_19 : decode cX2_findCut 19 = .ok (.istore_n 3, 1) := by decide +kernel
theorem dX2_findCut_20 : decode cX2_findCut 20 = .ok (.iconst 0, 1) := by decide +kernel
theorem dX2_findCut_21 : decode cX2_findCut 21 = .ok (.istore 4, 2) := by decide +kernel
theorem dX2_findCut_23 : decode cX2_findCut 23 = .ok (.aload_n 0, 1) := by decide +kernel
theorem dX2_findCut_24 : decode cX2_findCut 24 = .ok (.iconst 0, 1) := by decide +kernel
theorem dX2_findCut_25 : decode cX2_findCut 25 = .ok (.putfield 57, 3) := by decide +kernel
theorem dX2_findCut_28 : decode cX2_findCut 28 = .ok (.aload_n 0, 1) := by decide +kernel
theorem dX2_findCut_29 : decode cX2_findCut 29 = .ok (.iload_n 3, 1) := by decide +kernel
theorem dX2_findCut_30 : decode cX2_findCut 30 = .ok (.putfield 60, 3) := by decide +kernel
theorem dX2_findCut_33 : decode cX2_findCut 33 = .ok (.iconst 0, 1) := by decide +kernel
theorem dX2_findCut_34 : decode cX2_findCut 34 = .ok (.istore 5, 2) := by decide +kernel
theorem dX2_findCut_36 : decode cX2_findCut 36 = .ok (.iload 5, 2) := by decide +kernel
theorem dX2_findCut_38 : decode cX2_findCut 38 = .ok (.iload_n 3, 1) := by decide +kernel
theorem dX2_findCut_39 : decode cX2_findCut 39 = .ok (.if_icmp .ge 84, 3) := by decide +kernel
theorem dX2_findCut_42 : decode cX2_findCut 42 = .ok (.aload_n 0, 1) := by decide +kernel
theorem dX2_findCut_43 : decode cX2_findCut 43 = .ok (.getfield 53, 3) := by decide +kernel
theorem dX2_findCut_46 : decode cX2_findCut 46 = .ok (.ifCond .le 23, 3) := by decide +kernel
theorem dX2_findCut_49 : decode cX2_findCut 49 = .ok (.iload 4, 2) := by decide +kernel
theorem dX2_findCut_51 : decode cX2_findCut 51 = .ok (.iload_n 3, 1) := by decide +kernel
theorem dX2_findCut_52 : decode cX2_findCut 52 = .ok (.if_icmp .ge 17, 3) := by decide +kernel
theorem dX2_findCut_55 : decode cX2_findCut 55 = .ok (.aload_n 0, 1) := by decide +kernel
theorem dX2_findCut_56 : decode cX2_findCut 56 = .ok (.aload_n 1, 1) := by decide +kernel
theorem dX2_findCut_57 : decode cX2_findCut 57 = .ok (.iload 4, 2) := by decide +kernel
theorem dX2_findCut_59 : decode cX2_findCut 59 = .ok (.iconst 1, 1) := by decide +kernel
theorem dX2_findCut_60 : decode cX2_findCut 60 = .ok (.invokevirtual 63, 3) := by decide +kernel
theorem dX2_findCut_63 : decode cX2_findCut 63 = .ok (.iinc 4 1, 3) := by decide +kernel
theorem dX2_findCut_66 : decode cX2_findCut 66 = .ok (.goto (-24), 3) := by decide +kernel
theorem dX2_findCut_69 : decode cX2_findCut 69 = .ok (.aload_n 0, 1) := by decide +kernel
theorem dX2_findCut_70 : decode cX2_findCut 70 = .ok (.getfield 53, 3) := by decide +kernel
theorem dX2_findCut_73 : decode cX2_findCut 73 = .ok (.ifCond .ne 36, 3) := by decide +kernel
theorem dX2_findCut_76 : decode cX2_findCut 76 = .ok (.iload 4, 2) := by decide +kernel
theorem dX2_findCut_78 : decode cX2_findCut 78 = .ok (.iconst 1, 1) := by decide +kernel
theorem dX2_findCut_79 : decode cX2_findCut 79 = .ok (.isub, 1) := by decide +kernel
theorem dX2_findCut_80 : decode cX2_findCut 80 = .ok (.iload 5, 2) := by decide +kernel
theorem dX2_findCut_82 : decode cX2_findCut 82 = .ok (.isub, 1) := by decide +kernel
theorem dX2_findCut_83 : decode cX2_findCut 83 = .ok (.aload_n 0, 1) := by decide +kernel
theorem dX2_findCut_84 : decode cX2_findCut 84 = .ok (.getfield 60, 3) := by decide +kernel
theorem dX2_findCut_87 : decode cX2_findCut 87 = .ok (.aload_n 0, 1) := by decide +kernel
theorem dX2_findCut_88 : decode cX2_findCut 88 = .ok (.getfield 57, 3) := by decide +kernel
theorem dX2_findCut_91 : decode cX2_findCut 91 = .ok (.isub, 1) := by decide +kernel
theorem dX2_findCut_92 : decode cX2_findCut 92 = .ok (.if_icmp .ge 17, 3) := by decide +kernel
theorem dX2_findCut_95 : decode cX2_findCut 95 = .ok (.aload_n 0, 1) := by decide +kernel
theorem dX2_findCut_96 : decode cX2_findCut 96 = .ok (.iload 5, 2) := by decide +kernel
theorem dX2_findCut_98 : decode cX2_findCut 98 = .ok (.putfield 57, 3) := by decide +kernel
theorem dX2_findCut_101 : decode cX2_findCut 101 = .ok (.aload_n 0, 1) := by decide +kernel
theorem dX2_findCut_102 : decode cX2_findCut 102 = .ok (.iload 4, 2) := by decide +kernel
theorem dX2_findCut_104 : decode cX2_findCut 104 = .ok (.iconst 1, 1) := by decide +kernel
theorem dX2_findCut_105 : decode cX2_findCut 105 = .ok (.isub, 1) := by decide +kernel
theorem dX2_findCut_106 : decode cX2_findCut 106 = .ok (.putfield 60, 3) := by decide +kernel
theorem dX2_findCut_109 : decode cX2_findCut 109 = .ok (.aload_n 0, 1) := by decide +kernel
theorem dX2_findCut_110 : decode cX2_findCut 110 = .ok (.aload_n 1, 1) := by decide +kernel
theorem dX2_findCut_111 : decode cX2_findCut 111 = .ok (.iload 5, 2) := by decide +kernel
theorem dX2_findCut_113 : decode cX2_findCut 113 = .ok (.iconst (-1), 1) := by decide +kernel
theorem dX2_findCut_114 : decode cX2_findCut 114 = .ok (.invokevirtual 63, 3) := by decide +kernel
theorem dX2_findCut_117 : decode cX2_findCut 117 = .ok (.iinc 5 1, 3) := by decide +kernel
theorem dX2_findCut_120 : decode cX2_findCut 120 = .ok (.goto (-84), 3) := by decide +kernel
theorem dX2_findCut_123 : decode cX2_findCut 123 = .ok (.iconst 1, 1) := by decide +kernel
theorem dX2_findCut_124 : decode cX2_findCut 124 = .ok (.ireturn, 1) := by decide +kernel
theorem dX2_seekLacks_0 : decode cX2_seekLacks 0 = .ok (.iconst 0, 1) := by decide +kernel
theorem dX2_seekLacks_1 : decode cX2_seekLacks 1 = .ok (.istore_n 3, 1) := by decide +kernel
theorem dX2_seekLacks_2 : decode cX2_seekLacks 2 = .ok (.iload_n 3, 1) := by decide +kernel
theorem dX2_seekLacks_3 : decode cX2_seekLacks 3 = .ok (.sipush 256, 3) := by decide +kernel
theorem dX2_seekLacks_6 : decode cX2_seekLacks 6 = .ok (.if_icmp .ge 16, 3) := by decide +kernel
theorem dX2_seekLacks_9 : decode cX2_seekLacks 9 = .ok (.aload_n 0, 1) := by decide +kernel
theorem dX2_seekLacks_10 : decode cX2_seekLacks 10 = .ok (.getfield 15, 3) := by decide +kernel
theorem dX2_seekLacks_13 : decode cX2_seekLacks 13 = .ok (.iload_n 3, 1) := by decide +kernel
theorem dX2_seekLacks_14 : decode cX2_seekLacks 14 = .ok (.iconst 0, 1) := by decide +kernel
theorem dX2_seekLacks_15 : decode cX2_seekLacks 15 = .ok (.iastore, 1) := by decide +kernel
theorem dX2_seekLacks_16 : decode cX2_seekLacks 16 = .ok (.iinc 3 1, 3) := by decide +kernel
theorem dX2_seekLacks_19 : decode cX2_seekLacks 19 = .ok (.goto (-17), 3) := by decide +kernel
theorem dX2_seekLacks_22 : decode cX2_seekLacks 22 = .ok (.iconst 0, 1) := by decide +kernel
theorem dX2_seekLacks_23 : decode cX2_seekLacks 23 = .ok (.istore_n 3, 1) := by decide +kernel
theorem dX2_seekLacks_24 : decode cX2_seekLacks 24 = .ok (.iload_n 3, 1) := by decide +kernel
theorem dX2_seekLacks_25 : decode cX2_seekLacks 25 = .ok (.aload_n 1, 1) := by decide +kernel
theorem dX2_seekLacks_26 : decode cX2_seekLacks 26 = .ok (.invokevirtual 22, 3) := by decide +kernel
theorem dX2_seekLacks_29 : decode cX2_seekLacks 29 = .ok (.if_icmp .ge 44, 3) := by decide +kernel
theorem dX2_seekLacks_32 : decode cX2_seekLacks 32 = .ok (.aload_n 1, 1) := by decide +kernel
theorem dX2_seekLacks_33 : decode cX2_seekLacks 33 = .ok (.iload_n 3, 1) := by decide +kernel
theorem dX2_seekLacks_34 : decode cX2_seekLacks 34 = .ok (.invokevirtual 28, 3) := by decide +kernel
theorem dX2_seekLacks_37 : decode cX2_seekLacks 37 = .ok (.istore 4, 2) := by decide +kernel
theorem dX2_seekLacks_39 : decode cX2_seekLacks 39 = .ok (.iload 4, 2) := by decide +kernel
theorem dX2_seekLacks_41 : decode cX2_seekLacks 41 = .ok (.ifCond .lt 26, 3) := by decide +kernel
theorem dX2_seekLacks_44 : decode cX2_seekLacks 44 = .ok (.iload 4, 2) := by decide +kernel
theorem dX2_seekLacks_46 : decode cX2_seekLacks 46 = .ok (.sipush 256, 3) := by decide +kernel
theorem dX2_seekLacks_49 : decode cX2_seekLacks 49 = .ok (.if_icmp .ge 18, 3) := by decide +kernel
theorem dX2_seekLacks_52 : decode cX2_seekLacks 52 = .ok (.aload_n 0, 1) := by decide +kernel
theorem dX2_seekLacks_53 : decode cX2_seekLacks 53 = .ok (.getfield 15, 3) := by decide +kernel
theorem dX2_seekLacks_56 : decode cX2_seekLacks 56 = .ok (.iload 4, 2) := by decide +kernel
theorem dX2_seekLacks_58 : decode cX2_seekLacks 58 = .ok (.dup2, 1) := by decide +kernel
theorem dX2_seekLacks_59 : decode cX2_seekLacks 59 = .ok (.iaload, 1) := by decide +kernel
theorem dX2_seekLacks_60 : decode cX2_seekLacks 60 = .ok (.aload_n 1, 1) := by decide +kernel
theorem dX2_seekLacks_61 : decode cX2_seekLacks 61 = .ok (.iload_n 3, 1) := by decide +kernel
theorem dX2_seekLacks_62 : decode cX2_seekLacks 62 = .ok (.invokevirtual 32, 3) := by decide +kernel
theorem dX2_seekLacks_65 : decode cX2_seekLacks 65 = .ok (.iadd, 1) := by decide +kernel
theorem dX2_seekLacks_66 : decode cX2_seekLacks 66 = .ok (.iastore, 1) := by decide +kernel
theorem dX2_seekLacks_67 : decode cX2_seekLacks 67 = .ok (.iinc 3 1, 3) := by decide +kernel
theorem dX2_seekLacks_70 : decode cX2_seekLacks 70 = .ok (.goto (-46), 3) := by decide +kernel
theorem dX2_seekLacks_73 : decode cX2_seekLacks 73 = .ok (.aload_n 0, 1) := by decide +kernel
theorem dX2_seekLacks_74 : decode cX2_seekLacks 74 = .ok (.iconst 0, 1) := by decide +kernel
theorem dX2_seekLacks_75 : decode cX2_seekLacks 75 = .ok (.putfield 53, 3) := by decide +kernel
theorem dX2_seekLacks_78 : decode cX2_seekLacks 78 = .ok (.iconst 0, 1) := by decide +kernel
theorem dX2_seekLacks_79 : decode cX2_seekLacks 79 = .ok (.istore_n 3, 1) := by decide +kernel
theorem dX2_seekLacks_80 : decode cX2_seekLacks 80 = .ok (.iload_n 3, 1) := by decide +kernel
theorem dX2_seekLacks_81 : decode cX2_seekLacks 81 = .ok (.sipush 256, 3) := by decide +kernel
theorem dX2_seekLacks_84 : decode cX2_seekLacks 84 = .ok (.if_icmp .ge 78, 3) := by decide +kernel
theorem dX2_seekLacks_87 : decode cX2_seekLacks 87 = .ok (.aload_n 0, 1) := by decide +kernel
theorem dX2_seekLacks_88 : decode cX2_seekLacks 88 = .ok (.getfield 9, 3) := by decide +kernel
theorem dX2_seekLacks_91 : decode cX2_seekLacks 91 = .ok (.iload_n 3, 1) := by decide +kernel
theorem dX2_seekLacks_92 : decode cX2_seekLacks 92 = .ok (.iaload, 1) := by decide +kernel
theorem dX2_seekLacks_93 : decode cX2_seekLacks 93 = .ok (.iload_n 2, 1) := by decide +kernel
theorem dX2_seekLacks_94 : decode cX2_seekLacks 94 = .ok (.if_icmp .ge 17, 3) := by decide +kernel
theorem dX2_seekLacks_97 : decode cX2_seekLacks 97 = .ok (.aload_n 0, 1) := by decide +kernel
theorem dX2_seekLacks_98 : decode cX2_seekLacks 98 = .ok (.getfield 15, 3) := by decide +kernel
theorem dX2_seekLacks_101 : decode cX2_seekLacks 101 = .ok (.iload_n 3, 1) := by decide +kernel
theorem dX2_seekLacks_102 : decode cX2_seekLacks 102 = .ok (.iaload, 1) := by decide +kernel
theorem dX2_seekLacks_103 : decode cX2_seekLacks 103 = .ok (.iload_n 2, 1) := by decide +kernel
theorem dX2_seekLacks_104 : decode cX2_seekLacks 104 = .ok (.if_icmp .lt 7, 3) := by decide +kernel
theorem dX2_seekLacks_107 : decode cX2_seekLacks 107 = .ok (.iconst 1, 1) := by decide +kernel
theorem dX2_seekLacks_108 : decode cX2_seekLacks 108 = .ok (.goto 4, 3) := by decide +kernel
theorem dX2_seekLacks_111 : decode cX2_seekLacks 111 = .ok (.iconst 0, 1) := by decide +kernel
theorem dX2_seekLacks_112 : decode cX2_seekLacks 112 = .ok (.istore 4, 2) := by decide +kernel
theorem dX2_seekLacks_114 : decode cX2_seekLacks 114 = .ok (.aload_n 0, 1) := by decide +kernel
theorem dX2_seekLacks_115 : decode cX2_seekLacks 115 = .ok (.getfield 15, 3) := by decide +kernel
theorem dX2_seekLacks_118 : decode cX2_seekLacks 118 = .ok (.iload_n 3, 1) := by decide +kernel
theorem dX2_seekLacks_119 : decode cX2_seekLacks 119 = .ok (.iload 4, 2) := by decide +kernel
theorem dX2_seekLacks_121 : decode cX2_seekLacks 121 = .ok (.ifCond .eq 14, 3) := by decide +kernel
theorem dX2_seekLacks_124 : decode cX2_seekLacks 124 = .ok (.iload_n 2, 1) := by decide +kernel
theorem dX2_seekLacks_125 : decode cX2_seekLacks 125 = .ok (.aload_n 0, 1) := by decide +kernel
theorem dX2_seekLacks_126 : decode cX2_seekLacks 126 = .ok (.getfield 9, 3) := by decide +kernel
theorem dX2_seekLacks_129 : decode cX2_seekLacks 129 = .ok (.iload_n 3, 1) := by decide +kernel
theorem dX2_seekLacks_130 : decode cX2_seekLacks 130 = .ok (.iaload, 1) := by decide +kernel
theorem dX2_seekLacks_131 : decode cX2_seekLacks 131 = .ok (.isub, 1) := by decide +kernel
theorem dX2_seekLacks_132 : decode cX2_seekLacks 132 = .ok (.goto 4, 3) := by decide +kernel
theorem dX2_seekLacks_135 : decode cX2_seekLacks 135 = .ok (.iconst 0, 1) := by decide +kernel
theorem dX2_seekLacks_136 : decode cX2_seekLacks 136 = .ok (.iastore, 1) := by decide +kernel
theorem dX2_seekLacks_137 : decode cX2_seekLacks 137 = .ok (.aload_n 0, 1) := by decide +kernel
theorem dX2_seekLacks_138 : decode cX2_seekLacks 138 = .ok (.dup, 1) := by decide +kernel
theorem dX2_seekLacks_139 : decode cX2_seekLacks 139 = .ok (.getfield 53, 3) := by decide +kernel
theorem dX2_seekLacks_142 : decode cX2_seekLacks 142 = .ok (.iload 4, 2) := by decide +kernel
theorem dX2_seekLacks_144 : decode cX2_seekLacks 144 = .ok (.ifCond .eq 7, 3) := by decide +kernel
theorem dX2_seekLacks_147 : decode cX2_seekLacks 147 = .ok (.iconst 1, 1) := by decide +kernel
theorem dX2_seekLacks_148 : decode cX2_seekLacks 148 = .ok (.goto 4, 3) := by decide +kernel
theorem dX2_seekLacks_151 : decode cX2_seekLacks 151 = .ok (.iconst 0, 1) := by decide +kernel
theorem dX2_seekLacks_152 : decode cX2_seekLacks 152 = .ok (.iadd, 1) := by decide +kernel
theorem dX2_seekLacks_153 : decode cX2_seekLacks 153 = .ok (.putfield 53, 3) := by decide +kernel
theorem dX2_seekLacks_156 : decode cX2_seekLacks 156 = .ok (.iinc 3 1, 3) := by decide +kernel
theorem dX2_seekLacks_159 : decode cX2_seekLacks 159 = .ok (.goto (-79), 3) := by decide +kernel
theorem dX2_seekLacks_162 : decode cX2_seekLacks 162 = .ok (.return_, 1) := by decide +kernel
theorem dX2_change_0 : decode cX2_change 0 = .ok (.aload_n 1, 1) := by decide +kernel
theorem dX2_change_1 : decode cX2_change 1 = .ok (.iload_n 2, 1) := by decide +kernel
theorem dX2_change_2 : decode cX2_change 2 = .ok (.invokevirtual 28, 3) := by decide +kernel
theorem dX2_change_5 : decode cX2_change 5 = .ok (.istore 4, 2) := by decide +kernel
theorem dX2_change_7 : decode cX2_change 7 = .ok (.iload 4, 2) := by decide +kernel
theorem dX2_change_9 : decode cX2_change 9 = .ok (.ifCond .lt 11, 3) := by decide +kernel
theorem dX2_change_12 : decode cX2_change 12 = .ok (.iload 4, 2) := by decide +kernel
theorem dX2_change_14 : decode cX2_change 14 = .ok (.sipush 256, 3) := by decide +kernel
theorem dX2_change_17 : decode cX2_change 17 = .ok (.if_icmp .lt 4, 3) := by decide +kernel
theorem dX2_change_20 : decode cX2_change 20 = .ok (.return_, 1) := by decide +kernel
theorem dX2_change_21 : decode cX2_change 21 = .ok (.aload_n 0, 1) := by decide +kernel
theorem dX2_change_22 : decode cX2_change 22 = .ok (.getfield 15, 3) := by decide +kernel
theorem dX2_change_25 : decode cX2_change 25 = .ok (.iload 4, 2) := by decide +kernel
theorem dX2_change_27 : decode cX2_change 27 = .ok (.iaload, 1) := by decide +kernel
theorem dX2_change_28 : decode cX2_change 28 = .ok (.ifCond .le 7, 3) := by decide +kernel
theorem dX2_change_31 : decode cX2_change 31 = .ok (.iconst 1, 1) := by decide +kernel
theorem dX2_change_32 : decode cX2_change 32 = .ok (.goto 4, 3) := by decide +kernel
theorem dX2_change_35 : decode cX2_change 35 = .ok (.iconst 0, 1) := by decide +kernel
theorem dX2_change_36 : decode cX2_change 36 = .ok (.istore 5, 2) := by decide +kernel
theorem dX2_change_38 : decode cX2_change 38 = .ok (.aload_n 0, 1) := by decide +kernel
theorem dX2_change_39 : decode cX2_change 39 = .ok (.getfield 15, 3) := by decide +kernel
theorem dX2_change_42 : decode cX2_change 42 = .ok (.iload 4, 2) := by decide +kernel
theorem dX2_change_44 : decode cX2_change 44 = .ok (.dup2, 1) := by decide +kernel
theorem dX2_change_45 : decode cX2_change 45 = .ok (.iaload, 1) := by decide +kernel
theorem dX2_change_46 : decode cX2_change 46 = .ok (.iload_n 3, 1) := by decide +kernel
theorem dX2_change_47 : decode cX2_change 47 = .ok (.aload_n 1, 1) := by decide +kernel
theorem dX2_change_48 : decode cX2_change 48 = .ok (.iload_n 2, 1) := by decide +kernel
theorem dX2_change_49 : decode cX2_change 49 = .ok (.invokevirtual 32, 3) := by decide +kernel
theorem dX2_change_52 : decode cX2_change 52 = .ok (.imul, 1) := by decide +kernel
theorem dX2_change_53 : decode cX2_change 53 = .ok (.isub, 1) := by decide +kernel
theorem dX2_change_54 : decode cX2_change 54 = .ok (.iastore, 1) := by decide +kernel
theorem dX2_change_55 : decode cX2_change 55 = .ok (.aload_n 0, 1) := by decide +kernel
theorem dX2_change_56 : decode cX2_change 56 = .ok (.getfield 15, 3) := by decide +kernel
theorem dX2_change_59 : decode cX2_change 59 = .ok (.iload 4, 2) := by decide +kernel
theorem dX2_change_61 : decode cX2_change 61 = .ok (.iaload, 1) := by decide +kernel
theorem dX2_change_62 : decode cX2_change 62 = .ok (.ifCond .le 7, 3) := by decide +kernel
theorem dX2_change_65 : decode cX2_change 65 = .ok (.iconst 1, 1) := by decide +kernel
theorem dX2_change_66 : decode cX2_change 66 = .ok (.goto 4, 3) := by decide +kernel
theorem dX2_change_69 : decode cX2_change 69 = .ok (.iconst 0, 1) := by decide +kernel
theorem dX2_change_70 : decode cX2_change 70 = .ok (.istore 6, 2) := by decide +kernel
theorem dX2_change_72 : decode cX2_change 72 = .ok (.aload_n 0, 1) := by decide +kernel
theorem dX2_change_73 : decode cX2_change 73 = .ok (.dup, 1) := by decide +kernel
theorem dX2_change_74 : decode cX2_change 74 = .ok (.getfield 53, 3) := by decide +kernel
theorem dX2_change_77 : decode cX2_change 77 = .ok (.iload 6, 2) := by decide +kernel
theorem dX2_change_79 : decode cX2_change 79 = .ok (.iload 5, 2) := by decide +kernel
theorem dX2_change_81 : decode cX2_change 81 = .ok (.isub, 1) := by decide +kernel
theorem dX2_change_82 : decode cX2_change 82 = .ok (.iadd, 1) := by decide +kernel
theorem dX2_change_83 : decode cX2_change 83 = .ok (.putfield 53, 3) := by decide +kernel
theorem dX2_change_86 : decode cX2_change 86 = .ok (.return_, 1) := by decide +kernel
theorem dX3_init_0 : decode cX3_init 0 = .ok (.aload_n 0, 1) := by decide +kernel
theorem dX3_init_1 : decode cX3_init 1 = .ok (.invokespecial 3, 3) := by decide +kernel
theorem dX3_init_4 : decode cX3_init 4 = .ok (.aload_n 0, 1) := by decide +kernel
theorem dX3_init_5 : decode cX3_init 5 = .ok (.ldc 9, 2) := by decide +kernel
theorem dX3_init_7 : decode cX3_init 7 = .ok (.newarray .int, 2) := by decide +kernel
theorem dX3_init_9 : decode cX3_init 9 = .ok (.putfield 10, 3) := by decide +kernel
theorem dX3_init_12 : decode cX3_init 12 = .ok (.aload_n 0, 1) := by decide +kernel
theorem dX3_init_13 : decode cX3_init 13 = .ok (.sipush 4096, 3) := by decide +kernel
theorem dX3_init_16 : decode cX3_init 16 = .ok (.newarray .int, 2) := by decide +kernel
theorem dX3_init_18 : decode cX3_init 18 = .ok (.putfield 16, 3) := by decide +kernel
theorem dX3_init_21 : decode cX3_init 21 = .ok (.aload_n 0, 1) := by decide +kernel
theorem dX3_init_22 : decode cX3_init 22 = .ok (.sipush 4096, 3) := by decide +kernel
theorem dX3_init_25 : decode cX3_init 25 = .ok (.newarray .int, 2) := by decide +kernel
theorem dX3_init_27 : decode cX3_init 27 = .ok (.putfield 19, 3) := by decide +kernel
theorem dX3_init_30 : decode cX3_init 30 = .ok (.aload_n 0, 1) := by decide +kernel
theorem dX3_init_31 : decode cX3_init 31 = .ok (.sipush 4096, 3) := by decide +kernel
theorem dX3_init_34 : decode cX3_init 34 = .ok (.newarray .int, 2) := by decide +kernel
theorem dX3_init_36 : decode cX3_init 36 = .ok (.putfield 22, 3) := by decide +kernel
theorem dX3_init_39 : decode cX3_init 39 = .ok (.aload_n 0, 1) := by decide +kernel
theorem dX3_init_40 : decode cX3_init 40 = .ok (.sipush 4096, 3) := by decide +kernel
theorem dX3_init_43 : decode cX3_init 43 = .ok (.newarray .int, 2) := by decide +kernel
theorem dX3_init_45 : decode cX3_init 45 = .ok (.putfield 25, 3) := by decide +kernel
theorem dX3_init_48 : decode cX3_init 48 = .ok (.aload_n 0, 1) := by decide +kernel
theorem dX3_init_49 : decode cX3_init 49 = .ok (.sipush 4096, 3) := by decide +kernel
theorem dX3_init_52 : decode cX3_init 52 = .ok (.newarray .int, 2) := by decide +kernel
theorem dX3_init_54 : decode cX3_init 54 = .ok (.putfield 28, 3) := by decide +kernel
theorem dX3_init_57 : decode cX3_init 57 = .ok (.aload_n 0, 1) := by decide +kernel
theorem dX3_init_58 : decode cX3_init 58 = .ok (.sipush 4096, 3) := by decide +kernel
theorem dX3_init_61 : decode cX3_init 61 = .ok (.newarray .int, 2) := by decide +kernel
theorem dX3_init_63 : decode cX3_init 63 = .ok (.putfield 31, 3) := by decide +kernel
theorem dX3_init_66 : decode cX3_init 66 = .ok (.aload_n 0, 1) := by decide +kernel
theorem dX3_init_67 : decode cX3_init 67 = .ok (.bipush 40, 2) := by decide +kernel
theorem dX3_init_69 : decode cX3_init 69 = .ok (.newarray .int, 2) := by decide +kernel
theorem dX3_init_71 : decode cX3_init 71 = .ok (.putfield 34, 3) := by decide +kernel
theorem dX3_init_74 : decode cX3_init 74 = .ok (.aload_n 0, 1) := by decide +kernel
theorem dX3_init_75 : decode cX3_init 75 = .ok (.bipush 40, 2) := by decide +kernel
theorem dX3_init_77 : decode cX3_init 77 = .ok (.newarray .int, 2) := by decide +kernel
theorem dX3_init_79 : decode cX3_init 79 = .ok (.putfield 37, 3) := by decide +kernel
theorem dX3_init_82 : decode cX3_init 82 = .ok (.aload_n 0, 1) := by decide +kernel
theorem dX3_init_83 : decode cX3_init 83 = .ok (.bipush 40, 2) := by decide +kernel
theorem dX3_init_85 : decode cX3_init 85 = .ok (.newarray .int, 2) := by decide +kernel
theorem dX3_init_87 : decode cX3_init 87 = .ok (.putfield 40, 3) := by decide +kernel
theorem dX3_init_90 : decode cX3_init 90 = .ok (.aload_n 0, 1) := by decide +kernel
theorem dX3_init_91 : decode cX3_init 91 = .ok (.new 43, 3) := by decide +kernel
theorem dX3_init_94 : decode cX3_init 94 = .ok (.dup, 1) := by decide +kernel
theorem dX3_init_95 : decode cX3_init 95 = .ok (.invokespecial 45, 3) := by decide +kernel
theorem dX3_init_98 : decode cX3_init 98 = .ok (.putfield 46, 3) := by decide +kernel
theorem dX3_init_101 : decode cX3_init 101 = .ok (.return_, 1) := by decide +kernel
theorem dX3_poseAt_0 : decode cX3_poseAt 0 = .ok (.iload_n 1, 1) := by decide +kernel
theorem dX3_poseAt_1 : decode cX3_poseAt 1 = .ok (.ifCond .lt 18, 3) := by decide +kernel
theorem dX3_poseAt_4 : decode cX3_poseAt 4 = .ok (.iload_n 1, 1) := by decide +kernel
theorem dX3_poseAt_5 : decode cX3_poseAt 5 = .ok (.bipush 40, 2) := by decide +kernel
theorem dX3_poseAt_7 : decode cX3_poseAt 7 = .ok (.if_icmp .ge 12, 3) := by decide +kernel
theorem dX3_poseAt_10 : decode cX3_poseAt 10 = .ok (.aload_n 0, 1) := by decide +kernel
theorem dX3_poseAt_11 : decode cX3_poseAt 11 = .ok (.getfield 40, 3) := by decide +kernel
theorem dX3_poseAt_14 : decode cX3_poseAt 14 = .ok (.iload_n 1, 1) := by decide +kernel
theorem dX3_poseAt_15 : decode cX3_poseAt 15 = .ok (.iaload, 1) := by decide +kernel
theorem dX3_poseAt_16 : decode cX3_poseAt 16 = .ok (.goto 4, 3) := by decide +kernel
theorem dX3_poseAt_19 : decode cX3_poseAt 19 = .ok (.iconst 0, 1) := by decide +kernel
theorem dX3_poseAt_20 : decode cX3_poseAt 20 = .ok (.ireturn, 1) := by decide +kernel
theorem dX3_search_0 : decode cX3_search 0 = .ok (.aload_n 0, 1) := by decide +kernel
theorem dX3_search_1 : decode cX3_search 1 = .ok (.aload_n 3, 1) := by decide +kernel
theorem dX3_search_2 : decode cX3_search 2 = .ok (.putfield 46, 3) := by decide +kernel
theorem dX3_search_5 : decode cX3_search 5 = .ok (.aload_n 0, 1) := by decide +kernel
theorem dX3_search_6 : decode cX3_search 6 = .ok (.iload 5, 2) := by decide +kernel
theorem dX3_search_8 : decode cX3_search 8 = .ok (.putfield 50, 3) := by decide +kernel
theorem dX3_search_11 : decode cX3_search 11 = .ok (.aload_n 0, 1) := by decide +kernel
theorem dX3_search_12 : decode cX3_search 12 = .ok (.aload_n 1, 1) := by decide +kernel
theorem dX3_search_13 : decode cX3_search 13 = .ok (.aload_n 2, 1) := by decide +kernel
theorem dX3_search_14 : decode cX3_search 14 = .ok (.iload 4, 2) := by decide +kernel
theorem dX3_search_16 : decode cX3_search 16 = .ok (.invokevirtual 54, 3) := by decide +kernel
theorem dX3_search_19 : decode cX3_search 19 = .ok (.aload_n 0, 1) := by decide +kernel
theorem dX3_search_20 : decode cX3_search 20 = .ok (.invokevirtual 58, 3) := by decide +kernel
theorem dX3_search_23 : decode cX3_search 23 = .ok (.iconst 1, 1) := by decide +kernel
theorem dX3_search_24 : decode cX3_search 24 = .ok (.istore 6, 2) := by decide +kernel
theorem dX3_search_26 : decode cX3_search 26 = .ok (.aload_n 0, 1) := by decide +kernel
theorem dX3_search_27 : decode cX3_search 27 = .ok (.getfield 61, 3) := by decide +kernel
theorem dX3_search_30 : decode cX3_search 30 = .ok (.iconst 1, 1) := by decide +kernel
theorem dX3_search_31 : decode cX3_search 31 = .ok (.isub, 1) := by decide +kernel
theorem dX3_search_32 : decode cX3_search 32 = .ok (.istore 7, 2) := by decide +kernel
theorem dX3_search_34 : decode cX3_search 34 = .ok (.iload 7, 2) := by decide +kernel
theorem dX3_search_36 : decode cX3_search 36 = .ok (.ifCond .lt 41, 3) := by decide +kernel
theorem dX3_search_39 : decode cX3_search 39 = .ok (.iload 6, 2) := by decide +kernel
theorem dX3_search_41 : decode cX3_search 41 = .ok (.ifCond .eq 36, 3) := by decide +kernel
theorem dX3_search_44 : decode cX3_search 44 = .ok (.aload_n 0, 1) := by decide +kernel
theorem dX3_search_45 : decode cX3_search 45 = .ok (.iload 7, 2) := by decide +kernel
theorem dX3_search_47 : decode cX3_search 47 = .ok (.iload 7, 2) := by decide +kernel
theorem dX3_search_49 : decode cX3_search 49 = .ok (.aload_n 0, 1) := by decide +kernel
theorem dX3_search_50 : decode cX3_search 50 = .ok (.getfield 61, 3) := by decide +kernel
theorem dX3_search_53 : decode cX3_search 53 = .ok (.iconst 1, 1) := by decide +kernel
theorem dX3_search_54 : decode cX3_search 54 = .ok (.isub, 1) := by decide +kernel
theorem dX3_search_55 : decode cX3_search 55 = .ok (.if_icmp .ne 7, 3) := by decide +kernel
theorem dX3_search_58 : decode cX3_search 58 = .ok (.iconst (-1), 1) := by decide +kernel
theorem dX3_search_59 : decode cX3_search 59 = .ok (.goto 7, 3) := by decide +kernel
theorem dX3_search_62 : decode cX3_search 62 = .ok (.iload 7, 2) := by decide +kernel
theorem dX3_search_64 : decode cX3_search 64 = .ok (.iconst 1, 1) := by decide +kernel
theorem dX3_search_65 : decode cX3_search 65 = .ok (.iadd, 1) := by decide +kernel
theorem dX3_search_66 : decode cX3_search 66 = .ok (.invokevirtual 64, 3) := by decide +kernel
theorem dX3_search_69 : decode cX3_search 69 = .ok (.istore 6, 2) := by decide +kernel
theorem dX3_search_71 : decode cX3_search 71 = .ok (.iinc 7 (-1), 3) := by decide +kernel
theorem dX3_search_74 : decode cX3_search 74 = .ok (.goto (-40), 3) := by decide +kernel
theorem dX3_search_77 : decode cX3_search 77 = .ok (.iload 6, 2) := by decide +kernel
theorem dX3_search_79 : decode cX3_search 79 = .ok (.ifCond .eq 9, 3) := by decide +kernel
theorem dX3_search_82 : decode cX3_search 82 = .ok (.aload_n 0, 1) := by decide +kernel
theorem dX3_search_83 : decode cX3_search 83 = .ok (.invokevirtual 68, 3) := by decide +kernel
theorem dX3_search_86 : decode cX3_search 86 = .ok (.iconst 1, 1) := by decide +kernel
theorem dX3_search_87 : decode cX3_search 87 = .ok (.ireturn, 1) := by decide +kernel
theorem dX3_search_88 : decode cX3_search 88 = .ok (.iconst 1, 1) := by decide +kernel
theorem dX3_search_89 : decode cX3_search 89 = .ok (.istore 7, 2) := by decide +kernel
theorem dX3_search_91 : decode cX3_search 91 = .ok (.iconst 0, 1) := by decide +kernel
theorem dX3_search_92 : decode cX3_search 92 = .ok (.istore 8, 2) := by decide +kernel
theorem dX3_search_94 : decode cX3_search 94 = .ok (.iload 8, 2) := by decide +kernel
theorem dX3_search_96 : decode cX3_search 96 = .ok (.aload_n 0, 1) := by decide +kernel
theorem dX3_search_97 : decode cX3_search 97 = .ok (.getfield 61, 3) := by decide +kernel
theorem dX3_search_100 : decode cX3_search 100 = .ok (.if_icmp .ge 41, 3) := by decide +kernel
theorem dX3_search_103 : decode cX3_search 103 = .ok (.iload 7, 2) := by decide +kernel
theorem dX3_search_105 : decode cX3_search 105 = .ok (.ifCond .eq 36, 3) := by decide +kernel
theorem dX3_search_108 : decode cX3_search 108 = .ok (.aload_n 0, 1) := by decide +kernel
theorem dX3_search_109 : decode cX3_search 109 = .ok (.iload 8, 2) := by decide +kernel
theorem dX3_search_111 : decode cX3_search 111 = .ok (.iload 8, 2) := by decide +kernel
theorem dX3_search_113 : decode cX3_search 113 = .ok (.ifCond .ne 7, 3) := by decide +kernel
theorem dX3_search_116 : decode cX3_search 116 = .ok (.iconst (-1), 1) := by decide +kernel
theorem dX3_search_117 : decode cX3_search 117 = .ok (.goto 7, 3) := by decide +kernel
theorem dX3_search_120 : decode cX3_search 120 = .ok (.iload 8, 2) := by decide +kernel
theorem dX3_search_122 : decode cX3_search 122 = .ok (.iconst 1, 1) := by decide +kernel
theorem dX3_search_123 : decode cX3_search 123 = .ok (.isub, 1) := by decide +kernel
theorem dX3_search_124 : decode cX3_search 124 = .ok (.invokevirtual 64, 3) := by decide +kernel
theorem dX3_search_127 : decode cX3_search 127 = .ok (.istore 7, 2) := by decide +kernel
theorem dX3_search_129 : decode cX3_search 129 = .ok (.aload_n 0, 1) := by decide +kernel
theorem dX3_search_130 : decode cX3_search 130 = .ok (.iload 8, 2) := by decide +kernel
theorem dX3_search_132 : decode cX3_search 132 = .ok (.putfield 71, 3) := by decide +kernel
theorem dX3_search_135 : decode cX3_search 135 = .ok (.iinc 8 1, 3) := by decide +kernel
theorem dX3_search_138 : decode cX3_search 138 = .ok (.goto (-44), 3) := by decide +kernel
theorem dX3_search_141 : decode cX3_search 141 = .ok (.iconst 0, 1) := by decide +kernel
theorem dX3_search_142 : decode cX3_search 142 = .ok (.ireturn, 1) := by decide +kernel
theorem dX3_aim_0 : decode cX3_aim 0 = .ok (.aload_n 0, 1) := by decide +kernel
theorem dX3_aim_1 : decode cX3_aim 1 = .ok (.aload_n 1, 1) := by decide +kernel
theorem dX3_aim_2 : decode cX3_aim 2 = .ok (.getfield 74, 3) := by decide +kernel
theorem dX3_aim_5 : decode cX3_aim 5 = .ok (.bipush 40, 2) := by decide +kernel
theorem dX3_aim_7 : decode cX3_aim 7 = .ok (.invokestatic 77, 3) := by decide +kernel
theorem dX3_aim_10 : decode cX3_aim 10 = .ok (.putfield 61, 3) := by decide +kernel
theorem dX3_aim_13 : decode cX3_aim 13 = .ok (.iconst 0, 1) := by decide +kernel
theorem dX3_aim_14 : decode cX3_aim 14 = .ok (.istore 4, 2) := by decide +kernel
theorem dX3_aim_16 : decode cX3_aim 16 = .ok (.iload 4, 2) := by decide +kernel
theorem dX3_aim_18 : decode cX3_aim 18 = .ok (.aload_n 0, 1) := by decide +kernel
theorem dX3_aim_19 : decode cX3_aim 19 = .ok (.getfield 61, 3) := by decide +kernel
theorem dX3_aim_22 : decode cX3_aim 22 = .ok (.if_icmp .ge 55, 3) := by decide +kernel
theorem dX3_aim_25 : decode cX3_aim 25 = .ok (.iload 4, 2) := by decide +kernel
theorem dX3_aim_27 : decode cX3_aim 27 = .ok (.bipush 40, 2) := by decide +kernel
theorem dX3_aim_29 : decode cX3_aim 29 = .ok (.if_icmp .ge 48, 3) := by decide +kernel
theorem dX3_aim_32 : decode cX3_aim 32 = .ok (.aload_n 1, 1) := by decide +kernel
theorem dX3_aim_33 : decode cX3_aim 33 = .ok (.iload 4, 2) := by decide +kernel
theorem dX3_aim_35 : decode cX3_aim 35 = .ok (.invokevirtual 83, 3) := by decide +kernel
theorem dX3_aim_38 : decode cX3_aim 38 = .ok (.istore 5, 2) := by decide +kernel
theorem dX3_aim_40 : decode cX3_aim 40 = .ok (.aload_n 0, 1) := by decide +kernel
theorem dX3_aim_41 : decode cX3_aim 41 = .ok (.getfield 34, 3) := by decide +kernel
theorem dX3_aim_44 : decode cX3_aim 44 = .ok (.iload 4, 2) := by decide +kernel
theorem dX3_aim_46 : decode cX3_aim 46 = .ok (.aload_n 2, 1) := by decide +kernel
theorem dX3_aim_47 : decode cX3_aim 47 = .ok (.iload 5, 2) := by decide +kernel
theorem dX3_aim_49 : decode cX3_aim 49 = .ok (.invokevirtual 87, 3) := by decide +kernel
theorem dX3_aim_52 : decode cX3_aim 52 = .ok (.iload_n 3, 1) := by decide +kernel
theorem dX3_aim_53 : decode cX3_aim 53 = .ok (.iload 4, 2) := by decide +kernel
theorem dX3_aim_55 : decode cX3_aim 55 = .ok (.imul, 1) := by decide +kernel
theorem dX3_aim_56 : decode cX3_aim 56 = .ok (.iadd, 1) := by decide +kernel
theorem dX3_aim_57 : decode cX3_aim 57 = .ok (.iastore, 1) := by decide +kernel
theorem dX3_aim_58 : decode cX3_aim 58 = .ok (.aload_n 0, 1) := by decide +kernel
theorem dX3_aim_59 : decode cX3_aim 59 = .ok (.getfield 37, 3) := by decide +kernel
theorem dX3_aim_62 : decode cX3_aim 62 = .ok (.iload 4, 2) := by decide +kernel
theorem dX3_aim_64 : decode cX3_aim 64 = .ok (.aload_n 2, 1) := by decide +kernel
theorem dX3_aim_65 : decode cX3_aim 65 = .ok (.iload 5, 2) := by decide +kernel
theorem dX3_aim_67 : decode cX3_aim 67 = .ok (.invokevirtual 90, 3) := by decide +kernel
theorem dX3_aim_70 : decode cX3_aim 70 = .ok (.iastore, 1) := by decide +kernel
theorem dX3_aim_71 : decode cX3_aim 71 = .ok (.iinc 4 1, 3) := by decide +kernel
theorem dX3_aim_74 : decode cX3_aim 74 = .ok (.goto (-58), 3) := by decide +kernel
theorem dX3_aim_77 : decode cX3_aim 77 = .ok (.return_, 1) := by decide +kernel
theorem dX3_trace_0 : decode cX3_trace 0 = .ok (.iconst 0, 1) := by decide +kernel
theorem dX3_trace_1 : decode cX3_trace 1 = .ok (.istore_n 1, 1) := by decide +kernel
theorem dX3_trace_2 : decode cX3_trace 2 = .ok (.iconst 0, 1) := by decide +kernel
theorem dX3_trace_3 : decode cX3_trace 3 = .ok (.istore_n 2, 1) := by decide +kernel
theorem dX3_trace_4 : decode cX3_trace 4 = .ok (.iload_n 2, 1) := by decide +kernel
theorem dX3_trace_5 : decode cX3_trace 5 = .ok (.aload_n 0, 1) := by decide +kernel
theorem dX3_trace_6 : decode cX3_trace 6 = .ok (.getfield 61, 3) := by decide +kernel
theorem dX3_trace_9 : decode cX3_trace 9 = .ok (.if_icmp .ge 52, 3) := by decide +kernel
theorem dX3_trace_12 : decode cX3_trace 12 = .ok (.iload_n 2, 1) := by decide +kernel
theorem dX3_trace_13 : decode cX3_trace 13 = .ok (.bipush 40, 2) := by decide +kernel
theorem dX3_trace_15 : decode cX3_trace 15 = .ok (.if_icmp .ge 46, 3) := by decide +kernel
theorem dX3_trace_18 : decode cX3_trace 18 = .ok (.iload_n 2, 1) := by decide +kernel
theorem dX3_trace_19 : decode cX3_trace 19 = .ok (.ifCond .ne 18, 3) := by decide +kernel
theorem dX3_trace_22 : decode cX3_trace 22 = .ok (.aload_n 0, 1) := by decide +kernel
theorem dX3_trace_23 : decode cX3_trace 23 = .ok (.invokevirtual 93, 3) := by decide +kernel
theorem dX3_trace_26 : decode cX3_trace 26 = .ok (.aload_n 0, 1) := by decide +kernel
theorem dX3_trace_27 : decode cX3_trace 27 = .ok (.aload_n 0, 1) := by decide +kernel
theorem dX3_trace_28 : decode cX3_trace 28 = .ok (.getfield 96, 3) := by decide +kernel
theorem dX3_trace_31 : decode cX3_trace 31 = .ok (.putfield 99, 3) := by decide +kernel
theorem dX3_trace_34 : decode cX3_trace 34 = .ok (.goto 9, 3) := by decide +kernel
theorem dX3_trace_37 : decode cX3_trace 37 = .ok (.aload_n 0, 1) := by decide +kernel
theorem dX3_trace_38 : decode cX3_trace 38 = .ok (.iload_n 2, 1) := by decide +kernel
theorem dX3_trace_39 : decode cX3_trace 39 = .ok (.iload_n 1, 1) := by decide +kernel
theorem dX3_trace_40 : decode cX3_trace 40 = .ok (.invokevirtual 102, 3) := by decide +kernel
theorem dX3_trace_43 : decode cX3_trace 43 = .ok (.aload_n 0, 1) := by decide +kernel
theorem dX3_trace_44 : decode cX3_trace 44 = .ok (.getfield 106, 3) := by decide +kernel
theorem dX3_trace_47 : decode cX3_trace 47 = .ok (.istore_n 1, 1) := by decide +kernel
theorem dX3_trace_48 : decode cX3_trace 48 = .ok (.aload_n 0, 1) := by decide +kernel
theorem dX3_trace_49 : decode cX3_trace 49 = .ok (.getfield 40, 3) := by decide +kernel
theorem dX3_trace_52 : decode cX3_trace 52 = .ok (.iload_n 2, 1) := by decide +kernel
theorem dX3_trace_53 : decode cX3_trace 53 = .ok (.iload_n 1, 1) := by decide +kernel
theorem dX3_trace_54 : decode cX3_trace 54 = .ok (.iastore, 1) := by decide +kernel
theorem dX3_trace_55 : decode cX3_trace 55 = .ok (.iinc 2 1, 3) := by decide +kernel
theorem dX3_trace_58 : decode cX3_trace 58 = .ok (.goto (-54), 3) := by decide +kernel
theorem dX3_trace_61 : decode cX3_trace 61 = .ok (.return_, 1) := by decide +kernel
theorem dX3_gatherPoses_0 : decode cX3_gatherPoses 0 = .ok (.aload_n 0, 1) := by decide +kernel
theorem dX3_gatherPoses_1 : decode cX3_gatherPoses 1 = .ok (.iconst 0, 1) := by decide +kernel
theorem dX3_gatherPoses_2 : decode cX3_gatherPoses 2 = .ok (.putfield 109, 3) := by decide +kernel
theorem dX3_gatherPoses_5 : decode cX3_gatherPoses 5 = .ok (.iconst 0, 1) := by decide +kernel
theorem dX3_gatherPoses_6 : decode cX3_gatherPoses 6 = .ok (.istore_n 1, 1) := by decide +kernel
theorem dX3_gatherPoses_7 : decode cX3_gatherPoses 7 = .ok (.iload_n 1, 1) := by decide +kernel
theorem dX3_gatherPoses_8 : decode cX3_gatherPoses 8 = .ok (.sipush 4096, 3) := by decide +kernel
theorem dX3_gatherPoses_11 : decode cX3_gatherPoses 11 = .ok (.if_icmp .ge 84, 3) := by decide +kernel
theorem dX3_gatherPoses_14 : decode cX3_gatherPoses 14 = .ok (.aload_n 0, 1) := by decide +kernel
theorem dX3_gatherPoses_15 : decode cX3_gatherPoses 15 = .ok (.getfield 46, 3) := by decide +kernel
theorem dX3_gatherPoses_18 : decode cX3_gatherPoses 18 = .ok (.iload_n 1, 1) := by decide +kernel
theorem dX3_gatherPoses_19 : decode cX3_gatherPoses 19 = .ok (.invokevirtual 112, 3) := by decide +kernel
theorem dX3_gatherPoses_22 : decode cX3_gatherPoses 22 = .ok (.ifCond .eq 67, 3) := by decide +kernel
theorem dX3_gatherPoses_25 : decode cX3_gatherPoses 25 = .ok (.aload_n 0, 1) := by decide +kernel
theorem dX3_gatherPoses_26 : decode cX3_gatherPoses 26 = .ok (.getfield 109, 3) := by decide +kernel
theorem dX3_gatherPoses_29 : decode cX3_gatherPoses 29 = .ok (.sipush 4096, 3) := by decide +kernel
theorem dX3_gatherPoses_32 : decode cX3_gatherPoses 32 = .ok (.if_icmp .ge 57, 3) := by decide +kernel
theorem dX3_gatherPoses_35 : decode cX3_gatherPoses 35 = .ok (.aload_n 0, 1) := by decide +kernel
theorem dX3_gatherPoses_36 : decode cX3_gatherPoses 36 = .ok (.getfield 16, 3) := by decide +kernel
theorem dX3_gatherPoses_39 : decode cX3_gatherPoses 39 = .ok (.aload_n 0, 1) := by decide +kernel
theorem dX3_gatherPoses_40 : decode cX3_gatherPoses 40 = .ok (.getfield 109, 3) := by decide +kernel
theorem dX3_gatherPoses_43 : decode cX3_gatherPoses 43 = .ok (.iload_n 1, 1) := by decide +kernel
theorem dX3_gatherPoses_44 : decode cX3_gatherPoses 44 = .ok (.iastore, 1) := by decide +kernel
theorem dX3_gatherPoses_45 : decode cX3_gatherPoses 45 = .ok (.aload_n 0, 1) := by decide +kernel
theorem dX3_gatherPoses_46 : decode cX3_gatherPoses 46 = .ok (.getfield 19, 3) := by decide +kernel
theorem dX3_gatherPoses_49 : decode cX3_gatherPoses 49 = .ok (.aload_n 0, 1) := by decide +kernel
theorem dX3_gatherPoses_50 : decode cX3_gatherPoses 50 = .ok (.getfield 109, 3) := by decide +kernel
theorem dX3_gatherPoses_53 : decode cX3_gatherPoses 53 = .ok (.aload_n 0, 1) := by decide +kernel
theorem dX3_gatherPoses_54 : decode cX3_gatherPoses 54 = .ok (.getfield 46, 3) := by decide +kernel
theorem dX3_gatherPoses_57 : decode cX3_gatherPoses 57 = .ok (.iload_n 1, 1) := by decide +kernel
theorem dX3_gatherPoses_58 : decode cX3_gatherPoses 58 = .ok (.invokevirtual 87, 3) := by decide +kernel
theorem dX3_gatherPoses_61 : decode cX3_gatherPoses 61 = .ok (.iastore, 1) := by decide +kernel
theorem dX3_gatherPoses_62 : decode cX3_gatherPoses 62 = .ok (.aload_n 0, 1) := by decide +kernel
theorem dX3_gatherPoses_63 : decode cX3_gatherPoses 63 = .ok (.getfield 22, 3) := by decide +kernel
theorem dX3_gatherPoses_66 : decode cX3_gatherPoses 66 = .ok (.aload_n 0, 1) := by decide +kernel
theorem dX3_gatherPoses_67 : decode cX3_gatherPoses 67 = .ok (.getfield 109, 3) := by decide +kernel
theorem dX3_gatherPoses_70 : decode cX3_gatherPoses 70 = .ok (.aload_n 0, 1) := by decide +kernel
theorem dX3_gatherPoses_71 : decode cX3_gatherPoses 71 = .ok (.getfield 46, 3) := by decide +kernel
theorem dX3_gatherPoses_74 : decode cX3_gatherPoses 74 = .ok (.iload_n 1, 1) := by decide +kernel
theorem dX3_gatherPoses_75 : decode cX3_gatherPoses 75 = .ok (.invokevirtual 90, 3) := by decide +kernel
theorem dX3_gatherPoses_78 : decode cX3_gatherPoses 78 = .ok (.iastore, 1) := by decide +kernel
theorem dX3_gatherPoses_79 : decode cX3_gatherPoses 79 = .ok (.aload_n 0, 1) := by decide +kernel
theorem dX3_gatherPoses_80 : decode cX3_gatherPoses 80 = .ok (.dup, 1) := by decide +kernel
theorem dX3_gatherPoses_81 : decode cX3_gatherPoses 81 = .ok (.getfield 109, 3) := by decide +kernel
theorem dX3_gatherPoses_84 : decode cX3_gatherPoses 84 = .ok (.iconst 1, 1) := by decide +kernel
theorem dX3_gatherPoses_85 : decode cX3_gatherPoses 85 = .ok (.iadd, 1) := by decide +kernel
theorem dX3_gatherPoses_86 : decode cX3_gatherPoses 86 = .ok (.putfield 109, 3) := by decide +kernel
theorem dX3_gatherPoses_89 : decode cX3_gatherPoses 89 = .ok (.iinc 1 1, 3) := by decide +kernel
theorem dX3_gatherPoses_92 : decode cX3_gatherPoses 92 = .ok (.goto (-85), 3) := by decide +kernel
theorem dX3_gatherPoses_95 : decode cX3_gatherPoses 95 = .ok (.return_, 1) := by decide +kernel
theorem dX3_fillTick_0 : decode cX3_fillTick 0 = .ok (.aload_n 0, 1) := by decide +kernel
theorem dX3_fillTick_1 : decode cX3_fillTick 1 = .ok (.iload_n 1, 1) := by decide +kernel
theorem dX3_fillTick_2 : decode cX3_fillTick 2 = .ok (.invokevirtual 116, 3) := by decide +kernel
theorem dX3_fillTick_5 : decode cX3_fillTick 5 = .ok (.iconst 0, 1) := by decide +kernel
theorem dX3_fillTick_6 : decode cX3_fillTick 6 = .ok (.istore_n 3, 1) := by decide +kernel
theorem dX3_fillTick_7 : decode cX3_fillTick 7 = .ok (.iload_n 2, 1) := by decide +kernel
theorem dX3_fillTick_8 : decode cX3_fillTick 8 = .ok (.iconst (-1), 1) := by decide +kernel
theorem dX3_fillTick_9 : decode cX3_fillTick 9 = .ok (.if_icmp .eq 14, 3) := by decide +kernel
theorem dX3_fillTick_12 : decode cX3_fillTick 12 = .ok (.aload_n 0, 1) := by decide +kernel
theorem dX3_fillTick_13 : decode cX3_fillTick 13 = .ok (.invokevirtual 120, 3) := by decide +kernel
theorem dX3_fillTick_16 : decode cX3_fillTick 16 = .ok (.ifCond .eq 7, 3) := by decide +kernel
theorem dX3_fillTick_19 : decode cX3_fillTick 19 = .ok (.iconst 1, 1) := by decide +kernel
theorem dX3_fillTick_20 : decode cX3_fillTick 20 = .ok (.goto 4, 3) := by decide +kernel
theorem dX3_fillTick_23 : decode cX3_fillTick 23 = .ok (.iconst 0, 1) := by decide +kernel
theorem dX3_fillTick_24 : decode cX3_fillTick 24 = .ok (.istore 4, 2) := by decide +kernel
theorem dX3_fillTick_26 : decode cX3_fillTick 26 = .ok (.iload 4, 2) := by decide +kernel
theorem dX3_fillTick_28 : decode cX3_fillTick 28 = .ok (.ifCond .eq 8, 3) := by decide +kernel
theorem dX3_fillTick_31 : decode cX3_fillTick 31 = .ok (.aload_n 0, 1) := by decide +kernel
theorem dX3_fillTick_32 : decode cX3_fillTick 32 = .ok (.iload_n 2, 1) := by decide +kernel
theorem dX3_fillTick_33 : decode cX3_fillTick 33 = .ok (.invokevirtual 124, 3) := by decide +kernel
theorem dX3_fillTick_36 : decode cX3_fillTick 36 = .ok (.iconst 0, 1) := by decide +kernel
theorem dX3_fillTick_37 : decode cX3_fillTick 37 = .ok (.istore 5, 2) := by decide +kernel
theorem dX3_fillTick_39 : decode cX3_fillTick 39 = .ok (.iload 5, 2) := by decide +kernel
theorem dX3_fillTick_41 : decode cX3_fillTick 41 = .ok (.aload_n 0, 1) := by decide +kernel
theorem dX3_fillTick_42 : decode cX3_fillTick 42 = .ok (.getfield 127, 3) := by decide +kernel
theorem dX3_fillTick_45 : decode cX3_fillTick 45 = .ok (.if_icmp .ge 94, 3) := by decide +kernel
theorem dX3_fillTick_48 : decode cX3_fillTick 48 = .ok (.iload 5, 2) := by decide +kernel
theorem dX3_fillTick_50 : decode cX3_fillTick 50 = .ok (.sipush 4096, 3) := by decide +kernel
theorem dX3_fillTick_53 : decode cX3_fillTick 53 = .ok (.if_icmp .ge 86, 3) := by decide +kernel
theorem dX3_fillTick_56 : decode cX3_fillTick 56 = .ok (.aload_n 0, 1) := by decide +kernel
theorem dX3_fillTick_57 : decode cX3_fillTick 57 = .ok (.getfield 25, 3) := by decide +kernel
theorem dX3_fillTick_60 : decode cX3_fillTick 60 = .ok (.iload 5, 2) := by decide +kernel
theorem dX3_fillTick_62 : decode cX3_fillTick 62 = .ok (.iaload, 1) := by decide +kernel
theorem dX3_fillTick_63 : decode cX3_fillTick 63 = .ok (.sipush 4095, 3) := by decide +kernel
theorem dX3_fillTick_66 : decode cX3_fillTick 66 = .ok (.iand, 1) := by decide +kernel
theorem dX3_fillTick_67 : decode cX3_fillTick 67 = .ok (.istore 6, 2) := by decide +kernel
theorem dX3_fillTick_69 : decode cX3_fillTick 69 = .ok (.iconst 0, 1) := by decide +kernel
theorem dX3_fillTick_70 : decode cX3_fillTick 70 = .ok (.istore 7, 2) := by decide +kernel
theorem dX3_fillTick_72 : decode cX3_fillTick 72 = .ok (.iload 4, 2) := by decide +kernel
theorem dX3_fillTick_74 : decode cX3_fillTick 74 = .ok (.ifCond .eq 15, 3) := by decide +kernel
theorem dX3_fillTick_77 : decode cX3_fillTick 77 = .ok (.aload_n 0, 1) := by decide +kernel
theorem dX3_fillTick_78 : decode cX3_fillTick 78 = .ok (.getfield 28, 3) := by decide +kernel
theorem dX3_fillTick_81 : decode cX3_fillTick 81 = .ok (.iload 6, 2) := by decide +kernel
theorem dX3_fillTick_83 : decode cX3_fillTick 83 = .ok (.iaload, 1) := by decide +kernel
theorem dX3_fillTick_84 : decode cX3_fillTick 84 = .ok (.istore 7, 2) := by decide +kernel
theorem dX3_fillTick_86 : decode cX3_fillTick 86 = .ok (.goto 21, 3) := by decide +kernel
theorem dX3_fillTick_89 : decode cX3_fillTick 89 = .ok (.iload_n 2, 1) := by decide +kernel
theorem dX3_fillTick_90 : decode cX3_fillTick 90 = .ok (.iconst (-1), 1) := by decide +kernel
theorem dX3_fillTick_91 : decode cX3_fillTick 91 = .ok (.if_icmp .eq 16, 3) := by decide +kernel
theorem dX3_fillTick_94 : decode cX3_fillTick 94 = .ok (.aload_n 0, 1) := by decide +kernel
theorem dX3_fillTick_95 : decode cX3_fillTick 95 = .ok (.iload_n 2, 1) := by decide +kernel
theorem dX3_fillTick_96 : decode cX3_fillTick 96 = .ok (.iload 6, 2) := by decide +kernel
theorem dX3_fillTick_98 : decode cX3_fillTick 98 = .ok (.invokevirtual 102, 3) := by decide +kernel
theorem dX3_fillTick_101 : decode cX3_fillTick 101 = .ok (.aload_n 0, 1) := by decide +kernel
theorem dX3_fillTick_102 : decode cX3_fillTick 102 = .ok (.getfield 96, 3) := by decide +kernel
theorem dX3_fillTick_105 : decode cX3_fillTick 105 = .ok (.istore 7, 2) := by decide +kernel
theorem dX3_fillTick_107 : decode cX3_fillTick 107 = .ok (.aload_n 0, 1) := by decide +kernel
theorem dX3_fillTick_108 : decode cX3_fillTick 108 = .ok (.iload_n 1, 1) := by decide +kernel
theorem dX3_fillTick_109 : decode cX3_fillTick 109 = .ok (.iload 6, 2) := by decide +kernel
theorem dX3_fillTick_111 : decode cX3_fillTick 111 = .ok (.iload 7, 2) := by decide +kernel
theorem dX3_fillTick_113 : decode cX3_fillTick 113 = .ok (.invokevirtual 130, 3) := by decide +kernel
theorem dX3_fillTick_116 : decode cX3_fillTick 116 = .ok (.iload_n 3, 1) := by decide +kernel
theorem dX3_fillTick_117 : decode cX3_fillTick 117 = .ok (.ifCond .ne 10, 3) := by decide +kernel
theorem dX3_fillTick_120 : decode cX3_fillTick 120 = .ok (.iload 7, 2) := by decide +kernel
theorem dX3_fillTick_122 : decode cX3_fillTick 122 = .ok (.ldc 134, 2) := by decide +kernel
theorem dX3_fillTick_124 : decode cX3_fillTick 124 = .ok (.if_icmp .ge 7, 3) := by decide +kernel
theorem dX3_fillTick_127 : decode cX3_fillTick 127 = .ok (.iconst 1, 1) := by decide +kernel
theorem dX3_fillTick_128 : decode cX3_fillTick 128 = .ok (.goto 4, 3) := by decide +kernel
theorem dX3_fillTick_131 : decode cX3_fillTick 131 = .ok (.iconst 0, 1) := by decide +kernel
theorem dX3_fillTick_132 : decode cX3_fillTick 132 = .ok (.istore_n 3, 1) := by decide +kernel
theorem dX3_fillTick_133 : decode cX3_fillTick 133 = .ok (.iinc 5 1, 3) := by decide +kernel
theorem dX3_fillTick_136 : decode cX3_fillTick 136 = .ok (.goto (-97), 3) := by decide +kernel
theorem dX3_fillTick_139 : decode cX3_fillTick 139 = .ok (.iload_n 3, 1) := by decide +kernel
theorem dX3_fillTick_140 : decode cX3_fillTick 140 = .ok (.ireturn, 1) := by decide +kernel
theorem dX3_wayAt_0 : decode cX3_wayAt 0 = .ok (.iload_n 1, 1) := by decide +kernel
theorem dX3_wayAt_1 : decode cX3_wayAt 1 = .ok (.ifCond .lt 28, 3) := by decide +kernel
theorem dX3_wayAt_4 : decode cX3_wayAt 4 = .ok (.iload_n 1, 1) := by decide +kernel
theorem dX3_wayAt_5 : decode cX3_wayAt 5 = .ok (.bipush 40, 2) := by decide +kernel
theorem dX3_wayAt_7 : decode cX3_wayAt 7 = .ok (.if_icmp .ge 22, 3) := by decide +kernel
theorem dX3_wayAt_10 : decode cX3_wayAt 10 = .ok (.aload_n 0, 1) := by decide +kernel
theorem dX3_wayAt_11 : decode cX3_wayAt 11 = .ok (.getfield 10, 3) := by decide +kernel
theorem dX3_wayAt_14 : decode cX3_wayAt 14 = .ok (.iload_n 1, 1) := by decide +kernel
theorem dX3_wayAt_15 : decode cX3_wayAt 15 = .ok (.sipush 4096, 3) := by decide +kernel
theorem dX3_wayAt_18 : decode cX3_wayAt 18 = .ok (.imul, 1) := by decide +kernel
