theorem dX11_init_0 : decode cX11_init 0 = .ok (.aload_n 0, 1) := by decide +kernel
theorem dX11_init_1 : decode cX11_init 1 = .ok (.invokespecial 1, 3) := by decide +kernel
theorem dX11_init_4 : decode cX11_init 4 = .ok (.aload_n 0, 1) := by decide +kernel
theorem dX11_init_5 : decode cX11_init 5 = .ok (.new 7, 3) := by decide +kernel
theorem dX11_init_8 : decode cX11_init 8 = .ok (.dup, 1) := by decide +kernel
theorem dX11_init_9 : decode cX11_init 9 = .ok (.invokespecial 9, 3) := by decide +kernel
theorem dX11_init_12 : decode cX11_init 12 = .ok (.putfield 10, 3) := by decide +kernel
theorem dX11_init_15 : decode cX11_init 15 = .ok (.aload_n 0, 1) := by decide +kernel
theorem dX11_init_16 : decode cX11_init 16 = .ok (.aload_n 0, 1) := by decide +kernel
theorem dX11_init_17 : decode cX11_init 17 = .ok (.getfield 10, 3) := by decide +kernel
theorem dX11_init_20 : decode cX11_init 20 = .ok (.getfield 16, 3) := by decide +kernel
theorem dX11_init_23 : decode cX11_init 23 = .ok (.putfield 20, 3) := by decide +kernel
theorem dX11_init_26 : decode cX11_init 26 = .ok (.aload_n 0, 1) := by decide +kernel
theorem dX11_init_27 : decode cX11_init 27 = .ok (.aload_n 0, 1) := by decide +kernel
theorem dX11_init_28 : decode cX11_init 28 = .ok (.getfield 10, 3) := by decide +kernel
theorem dX11_init_31 : decode cX11_init 31 = .ok (.getfield 21, 3) := by decide +kernel
theorem dX11_init_34 : decode cX11_init 34 = .ok (.putfield 25, 3) := by decide +kernel
theorem dX11_init_37 : decode cX11_init 37 = .ok (.aload_n 0, 1) := by decide +kernel
theorem dX11_init_38 : decode cX11_init 38 = .ok (.new 26, 3) := by decide +kernel
theorem dX11_init_41 : decode cX11_init 41 = .ok (.dup, 1) := by decide +kernel
theorem dX11_init_42 : decode cX11_init 42 = .ok (.invokespecial 28, 3) := by decide +kernel
theorem dX11_init_45 : decode cX11_init 45 = .ok (.putfield 29, 3) := by decide +kernel
theorem dX11_init_48 : decode cX11_init 48 = .ok (.aload_n 0, 1) := by decide +kernel
theorem dX11_init_49 : decode cX11_init 49 = .ok (.new 33, 3) := by decide +kernel
theorem dX11_init_52 : decode cX11_init 52 = .ok (.dup, 1) := by decide +kernel
theorem dX11_init_53 : decode cX11_init 53 = .ok (.invokespecial 35, 3) := by decide +kernel
theorem dX11_init_56 : decode cX11_init 56 = .ok (.putfield 36, 3) := by decide +kernel
theorem dX11_init_59 : decode cX11_init 59 = .ok (.aload_n 0, 1) := by decide +kernel
theorem dX11_init_60 : decode cX11_init 60 = .ok (.new 40, 3) := by decide +kernel
theorem dX11_init_63 : decode cX11_init 63 = .ok (.dup, 1) := by decide +kernel
theorem dX11_init_64 : decode cX11_init 64 = .ok (.invokespecial 42, 3) := by decide +kernel
theorem dX11_init_67 : decode cX11_init 67 = .ok (.putfield 43, 3) := by decide +kernel
theorem dX11_init_70 : decode cX11_init 70 = .ok (.aload_n 0, 1) := by decide +kernel
theorem dX11_init_71 : decode cX11_init 71 = .ok (.new 47, 3) := by decide +kernel
theorem dX11_init_74 : decode cX11_init 74 = .ok (.dup, 1) := by decide +kernel
theorem dX11_init_75 : decode cX11_init 75 = .ok (.invokespecial 49, 3) := by decide +kernel
theorem dX11_init_78 : decode cX11_init 78 = .ok (.putfield 50, 3) := by decide +kernel
theorem dX11_init_81 : decode cX11_init 81 = .ok (.aload_n 0, 1) := by decide +kernel
theorem dX11_init_82 : decode cX11_init 82 = .ok (.new 54, 3) := by decide +kernel
theorem dX11_init_85 : decode cX11_init 85 = .ok (.dup, 1) := by decide +kernel
theorem dX11_init_86 : decode cX11_init 86 = .ok (.invokespecial 56, 3) := by decide +kernel
theorem dX11_init_89 : decode cX11_init 89 = .ok (.putfield 57, 3) := by decide +kernel
theorem dX11_init_92 : decode cX11_init 92 = .ok (.aload_n 0, 1) := by decide +kernel
theorem dX11_init_93 : decode cX11_init 93 = .ok (.bipush 10, 2) := by decide +kernel
theorem dX11_init_95 : decode cX11_init 95 = .ok (.putfield 61, 3) := by decide +kernel
theorem dX11_init_98 : decode cX11_init 98 = .ok (.aload_n 0, 1) := by decide +kernel
theorem dX11_init_99 : decode cX11_init 99 = .ok (.iconst (-1), 1) := by decide +kernel
theorem dX11_init_100 : decode cX11_init 100 = .ok (.putfield 65, 3) := by decide +kernel
theorem dX11_init_103 : decode cX11_init 103 = .ok (.aload_n 0, 1) := by decide +kernel
theorem dX11_init_104 : decode cX11_init 104 = .ok (.iconst (-1), 1) := by decide +kernel
theorem dX11_init_105 : decode cX11_init 105 = .ok (.putfield 68, 3) := by decide +kernel
theorem dX11_init_108 : decode cX11_init 108 = .ok (.return_, 1) := by decide +kernel
theorem dX11_feed_0 : decode cX11_feed 0 = .ok (.aload_n 0, 1) := by decide +kernel
theorem dX11_feed_1 : decode cX11_feed 1 = .ok (.getfield 25, 3) := by decide +kernel
theorem dX11_feed_4 : decode cX11_feed 4 = .ok (.invokevirtual 71, 3) := by decide +kernel
theorem dX11_feed_7 : decode cX11_feed 7 = .ok (.ifCond .ne 5, 3) := by decide +kernel
theorem dX11_feed_10 : decode cX11_feed 10 = .ok (.iconst (-1), 1) := by decide +kernel
theorem dX11_feed_11 : decode cX11_feed 11 = .ok (.ireturn, 1) := by decide +kernel
theorem dX11_feed_12 : decode cX11_feed 12 = .ok (.aload_n 0, 1) := by decide +kernel
theorem dX11_feed_13 : decode cX11_feed 13 = .ok (.getfield 25, 3) := by decide +kernel
theorem dX11_feed_16 : decode cX11_feed 16 = .ok (.iload_n 1, 1) := by decide +kernel
theorem dX11_feed_17 : decode cX11_feed 17 = .ok (.invokevirtual 77, 3) := by decide +kernel
theorem dX11_feed_20 : decode cX11_feed 20 = .ok (.aload_n 0, 1) := by decide +kernel
theorem dX11_feed_21 : decode cX11_feed 21 = .ok (.getfield 25, 3) := by decide +kernel
theorem dX11_feed_24 : decode cX11_feed 24 = .ok (.iload_n 2, 1) := by decide +kernel
theorem dX11_feed_25 : decode cX11_feed 25 = .ok (.invokevirtual 77, 3) := by decide +kernel
theorem dX11_feed_28 : decode cX11_feed 28 = .ok (.aload_n 0, 1) := by decide +kernel
theorem dX11_feed_29 : decode cX11_feed 29 = .ok (.getfield 25, 3) := by decide +kernel
theorem dX11_feed_32 : decode cX11_feed 32 = .ok (.iload_n 3, 1) := by decide +kernel
theorem dX11_feed_33 : decode cX11_feed 33 = .ok (.invokevirtual 77, 3) := by decide +kernel
theorem dX11_feed_36 : decode cX11_feed 36 = .ok (.aload_n 0, 1) := by decide +kernel
theorem dX11_feed_37 : decode cX11_feed 37 = .ok (.getfield 25, 3) := by decide +kernel
theorem dX11_feed_40 : decode cX11_feed 40 = .ok (.iload 4, 2) := by decide +kernel
theorem dX11_feed_42 : decode cX11_feed 42 = .ok (.invokevirtual 77, 3) := by decide +kernel
theorem dX11_feed_45 : decode cX11_feed 45 = .ok (.aload_n 0, 1) := by decide +kernel
theorem dX11_feed_46 : decode cX11_feed 46 = .ok (.getfield 25, 3) := by decide +kernel
theorem dX11_feed_49 : decode cX11_feed 49 = .ok (.iload 5, 2) := by decide +kernel
theorem dX11_feed_51 : decode cX11_feed 51 = .ok (.invokevirtual 77, 3) := by decide +kernel
theorem dX11_feed_54 : decode cX11_feed 54 = .ok (.aload_n 0, 1) := by decide +kernel
theorem dX11_feed_55 : decode cX11_feed 55 = .ok (.getfield 25, 3) := by decide +kernel
theorem dX11_feed_58 : decode cX11_feed 58 = .ok (.getfield 81, 3) := by decide +kernel
theorem dX11_feed_61 : decode cX11_feed 61 = .ok (.ireturn, 1) := by decide +kernel
theorem dX11_make_0 : decode cX11_make 0 = .ok (.iload_n 1, 1) := by decide +kernel
theorem dX11_make_1 : decode cX11_make 1 = .ok (.ifCond .lt 14, 3) := by decide +kernel
theorem dX11_make_4 : decode cX11_make 4 = .ok (.iload_n 1, 1) := by decide +kernel
theorem dX11_make_5 : decode cX11_make 5 = .ok (.aload_n 0, 1) := by decide +kernel
theorem dX11_make_6 : decode cX11_make 6 = .ok (.getfield 25, 3) := by decide +kernel
theorem dX11_make_9 : decode cX11_make 9 = .ok (.getfield 81, 3) := by decide +kernel
theorem dX11_make_12 : decode cX11_make 12 = .ok (.if_icmp .le 6, 3) := by decide +kernel
theorem dX11_make_15 : decode cX11_make 15 = .ok (.bipush (-2), 2) := by decide +kernel
theorem dX11_make_17 : decode cX11_make 17 = .ok (.ireturn, 1) := by decide +kernel
theorem dX11_make_18 : decode cX11_make 18 = .ok (.aload_n 0, 1) := by decide +kernel
theorem dX11_make_19 : decode cX11_make 19 = .ok (.getfield 10, 3) := by decide +kernel
theorem dX11_make_22 : decode cX11_make 22 = .ok (.iload_n 1, 1) := by decide +kernel
theorem dX11_make_23 : decode cX11_make 23 = .ok (.invokevirtual 84, 3) := by decide +kernel
theorem dX11_make_26 : decode cX11_make 26 = .ok (.ireturn, 1) := by decide +kernel
theorem dX11_fault_0 : decode cX11_fault 0 = .ok (.iload_n 1, 1) := by decide +kernel
theorem dX11_fault_1 : decode cX11_fault 1 = .ok (.ifCond .ne 11, 3) := by decide +kernel
theorem dX11_fault_4 : decode cX11_fault 4 = .ok (.aload_n 0, 1) := by decide +kernel
theorem dX11_fault_5 : decode cX11_fault 5 = .ok (.getfield 10, 3) := by decide +kernel
theorem dX11_fault_8 : decode cX11_fault 8 = .ok (.getfield 88, 3) := by decide +kernel
theorem dX11_fault_11 : decode cX11_fault 11 = .ok (.ireturn, 1) := by decide +kernel
theorem dX11_fault_12 : decode cX11_fault 12 = .ok (.iload_n 1, 1) := by decide +kernel
theorem dX11_fault_13 : decode cX11_fault 13 = .ok (.iconst 1, 1) := by decide +kernel
theorem dX11_fault_14 : decode cX11_fault 14 = .ok (.if_icmp .ne 13, 3) := by decide +kernel
theorem dX11_fault_17 : decode cX11_fault 17 = .ok (.aload_n 0, 1) := by decide +kernel
theorem dX11_fault_18 : decode cX11_fault 18 = .ok (.getfield 10, 3) := by decide +kernel
theorem dX11_fault_21 : decode cX11_fault 21 = .ok (.getfield 91, 3) := by decide +kernel
theorem dX11_fault_24 : decode cX11_fault 24 = .ok (.goto 4, 3) := by decide +kernel
theorem dX11_fault_27 : decode cX11_fault 27 = .ok (.iconst (-1), 1) := by decide +kernel
theorem dX11_fault_28 : decode cX11_fault 28 = .ok (.ireturn, 1) := by decide +kernel
theorem dX11_arm_0 : decode cX11_arm 0 = .ok (.iload_n 1, 1) := by decide +kernel
theorem dX11_arm_1 : decode cX11_arm 1 = .ok (.iconst 0, 1) := by decide +kernel
theorem dX11_arm_2 : decode cX11_arm 2 = .ok (.bipush 20, 2) := by decide +kernel
theorem dX11_arm_4 : decode cX11_arm 4 = .ok (.invokestatic 94, 3) := by decide +kernel
theorem dX11_arm_7 : decode cX11_arm 7 = .ok (.ifCond .eq 13, 3) := by decide +kernel
theorem dX11_arm_10 : decode cX11_arm 10 = .ok (.iload_n 2, 1) := by decide +kernel
theorem dX11_arm_11 : decode cX11_arm 11 = .ok (.iconst 0, 1) := by decide +kernel
theorem dX11_arm_12 : decode cX11_arm 12 = .ok (.bipush 20, 2) := by decide +kernel
theorem dX11_arm_14 : decode cX11_arm 14 = .ok (.invokestatic 94, 3) := by decide +kernel
theorem dX11_arm_17 : decode cX11_arm 17 = .ok (.ifCond .ne 5, 3) := by decide +kernel
theorem dX11_arm_20 : decode cX11_arm 20 = .ok (.iconst (-1), 1) := by decide +kernel
theorem dX11_arm_21 : decode cX11_arm 21 = .ok (.ireturn, 1) := by decide +kernel
theorem dX11_arm_22 : decode cX11_arm 22 = .ok (.aload_n 0, 1) := by decide +kernel
theorem dX11_arm_23 : decode cX11_arm 23 = .ok (.getfield 20, 3) := by decide +kernel
theorem dX11_arm_26 : decode cX11_arm 26 = .ok (.iload_n 1, 1) := by decide +kernel
theorem dX11_arm_27 : decode cX11_arm 27 = .ok (.iload_n 2, 1) := by decide +kernel
theorem dX11_arm_28 : decode cX11_arm 28 = .ok (.invokevirtual 98, 3) := by decide +kernel
theorem dX11_arm_31 : decode cX11_arm 31 = .ok (.ireturn, 1) := by decide +kernel
theorem dX11_joint_0 : decode cX11_joint 0 = .ok (.aload_n 0, 1) := by decide +kernel
theorem dX11_joint_1 : decode cX11_joint 1 = .ok (.getfield 20, 3) := by decide +kernel
theorem dX11_joint_4 : decode cX11_joint 4 = .ok (.iload_n 1, 1) := by decide +kernel
theorem dX11_joint_5 : decode cX11_joint 5 = .ok (.invokevirtual 104, 3) := by decide +kernel
theorem dX11_joint_8 : decode cX11_joint 8 = .ok (.astore 6, 2) := by decide +kernel
theorem dX11_joint_10 : decode cX11_joint 10 = .ok (.aload 6, 2) := by decide +kernel
theorem dX11_joint_12 : decode cX11_joint 12 = .ok (.ifnull 34, 3) := by decide +kernel
theorem dX11_joint_15 : decode cX11_joint 15 = .ok (.aload_n 0, 1) := by decide +kernel
theorem dX11_joint_16 : decode cX11_joint 16 = .ok (.getfield 20, 3) := by decide +kernel
theorem dX11_joint_19 : decode cX11_joint 19 = .ok (.iload_n 1, 1) := by decide +kernel
theorem dX11_joint_20 : decode cX11_joint 20 = .ok (.invokevirtual 108, 3) := by decide +kernel
theorem dX11_joint_23 : decode cX11_joint 23 = .ok (.ifCond .ne 23, 3) := by decide +kernel
theorem dX11_joint_26 : decode cX11_joint 26 = .ok (.iload_n 2, 1) := by decide +kernel
theorem dX11_joint_27 : decode cX11_joint 27 = .ok (.iconst 1, 1) := by decide +kernel
theorem dX11_joint_28 : decode cX11_joint 28 = .ok (.bipush 6, 2) := by decide +kernel
theorem dX11_joint_30 : decode cX11_joint 30 = .ok (.invokestatic 94, 3) := by decide +kernel
theorem dX11_joint_33 : decode cX11_joint 33 = .ok (.ifCond .eq 13, 3) := by decide +kernel
theorem dX11_joint_36 : decode cX11_joint 36 = .ok (.iload 5, 2) := by decide +kernel
theorem dX11_joint_38 : decode cX11_joint 38 = .ok (.iconst 1, 1) := by decide +kernel
theorem dX11_joint_39 : decode cX11_joint 39 = .ok (.iconst 3, 1) := by decide +kernel
theorem dX11_joint_40 : decode cX11_joint 40 = .ok (.invokestatic 94, 3) := by decide +kernel
theorem dX11_joint_43 : decode cX11_joint 43 = .ok (.ifCond .ne 5, 3) := by decide +kernel
theorem dX11_joint_46 : decode cX11_joint 46 = .ok (.iconst (-1), 1) := by decide +kernel
theorem dX11_joint_47 : decode cX11_joint 47 = .ok (.ireturn, 1) := by decide +kernel
theorem dX11_joint_48 : decode cX11_joint 48 = .ok (.iload_n 3, 1) := by decide +kernel
theorem dX11_joint_49 : decode cX11_joint 49 = .ok (.iconst 0, 1) := by decide +kernel
theorem dX11_joint_50 : decode cX11_joint 50 = .ok (.bipush 15, 2) := by decide +kernel
theorem dX11_joint_52 : decode cX11_joint 52 = .ok (.invokestatic 94, 3) := by decide +kernel
theorem dX11_joint_55 : decode cX11_joint 55 = .ok (.ifCond .eq 14, 3) := by decide +kernel
theorem dX11_joint_58 : decode cX11_joint 58 = .ok (.iload 4, 2) := by decide +kernel
theorem dX11_joint_60 : decode cX11_joint 60 = .ok (.iload_n 3, 1) := by decide +kernel
theorem dX11_joint_61 : decode cX11_joint 61 = .ok (.bipush 15, 2) := by decide +kernel
theorem dX11_joint_63 : decode cX11_joint 63 = .ok (.invokestatic 94, 3) := by decide +kernel
theorem dX11_joint_66 : decode cX11_joint 66 = .ok (.ifCond .ne 5, 3) := by decide +kernel
theorem dX11_joint_69 : decode cX11_joint 69 = .ok (.iconst (-1), 1) := by decide +kernel
theorem dX11_joint_70 : decode cX11_joint 70 = .ok (.ireturn, 1) := by decide +kernel
theorem dX11_joint_71 : decode cX11_joint 71 = .ok (.aload 6, 2) := by decide +kernel
theorem dX11_joint_73 : decode cX11_joint 73 = .ok (.iload_n 2, 1) := by decide +kernel
theorem dX11_joint_74 : decode cX11_joint 74 = .ok (.iload_n 3, 1) := by decide +kernel
theorem dX11_joint_75 : decode cX11_joint 75 = .ok (.iload 4, 2) := by decide +kernel
theorem dX11_joint_77 : decode cX11_joint 77 = .ok (.iload 5, 2) := by decide +kernel
theorem dX11_joint_79 : decode cX11_joint 79 = .ok (.invokevirtual 112, 3) := by decide +kernel
theorem dX11_joint_82 : decode cX11_joint 82 = .ok (.ireturn, 1) := by decide +kernel
theorem dX11_point_0 : decode cX11_point 0 = .ok (.aload_n 0, 1) := by decide +kernel
theorem dX11_point_1 : decode cX11_point 1 = .ok (.getfield 20, 3) := by decide +kernel
theorem dX11_point_4 : decode cX11_point 4 = .ok (.iload_n 1, 1) := by decide +kernel
theorem dX11_point_5 : decode cX11_point 5 = .ok (.invokevirtual 104, 3) := by decide +kernel
theorem dX11_point_8 : decode cX11_point 8 = .ok (.astore 5, 2) := by decide +kernel
theorem dX11_point_10 : decode cX11_point 10 = .ok (.aload 5, 2) := by decide +kernel
theorem dX11_point_12 : decode cX11_point 12 = .ok (.ifnull 35, 3) := by decide +kernel
theorem dX11_point_15 : decode cX11_point 15 = .ok (.aload 5, 2) := by decide +kernel
theorem dX11_point_17 : decode cX11_point 17 = .ok (.iload_n 2, 1) := by decide +kernel
theorem dX11_point_18 : decode cX11_point 18 = .ok (.invokevirtual 118, 3) := by decide +kernel
theorem dX11_point_21 : decode cX11_point 21 = .ok (.ifCond .eq 26, 3) := by decide +kernel
theorem dX11_point_24 : decode cX11_point 24 = .ok (.iload_n 3, 1) := by decide +kernel
theorem dX11_point_25 : decode cX11_point 25 = .ok (.iconst 0, 1) := by decide +kernel
theorem dX11_point_26 : decode cX11_point 26 = .ok (.aload 5, 2) := by decide +kernel
theorem dX11_point_28 : decode cX11_point 28 = .ok (.getfield 121, 3) := by decide +kernel
theorem dX11_point_31 : decode cX11_point 31 = .ok (.invokestatic 94, 3) := by decide +kernel
theorem dX11_point_34 : decode cX11_point 34 = .ok (.ifCond .eq 13, 3) := by decide +kernel
theorem dX11_point_37 : decode cX11_point 37 = .ok (.iload 4, 2) := by decide +kernel
theorem dX11_point_39 : decode cX11_point 39 = .ok (.iconst 0, 1) := by decide +kernel
theorem dX11_point_40 : decode cX11_point 40 = .ok (.iconst 1, 1) := by decide +kernel
theorem dX11_point_41 : decode cX11_point 41 = .ok (.invokestatic 94, 3) := by decide +kernel
theorem dX11_point_44 : decode cX11_point 44 = .ok (.ifCond .ne 6, 3) := by decide +kernel
theorem dX11_point_47 : decode cX11_point 47 = .ok (.ldc 126, 2) := by decide +kernel
theorem dX11_point_49 : decode cX11_point 49 = .ok (.ireturn, 1) := by decide +kernel
theorem dX11_point_50 : decode cX11_point 50 = .ok (.iload 4, 2) := by decide +kernel
theorem dX11_point_52 : decode cX11_point 52 = .ok (.ifCond .ne 13, 3) := by decide +kernel
theorem dX11_point_55 : decode cX11_point 55 = .ok (.aload 5, 2) := by decide +kernel
theorem dX11_point_57 : decode cX11_point 57 = .ok (.iload_n 2, 1) := by decide +kernel
theorem dX11_point_58 : decode cX11_point 58 = .ok (.iload_n 3, 1) := by decide +kernel
theorem dX11_point_59 : decode cX11_point 59 = .ok (.invokevirtual 127, 3) := by decide +kernel
theorem dX11_point_62 : decode cX11_point 62 = .ok (.goto 10, 3) := by decide +kernel
theorem dX11_point_65 : decode cX11_point 65 = .ok (.aload 5, 2) := by decide +kernel
theorem dX11_point_67 : decode cX11_point 67 = .ok (.iload_n 2, 1) := by decide +kernel
theorem dX11_point_68 : decode cX11_point 68 = .ok (.iload_n 3, 1) := by decide +kernel
theorem dX11_point_69 : decode cX11_point 69 = .ok (.invokevirtual 130, 3) := by decide +kernel
theorem dX11_point_72 : decode cX11_point 72 = .ok (.ireturn, 1) := by decide +kernel
theorem dX11_hop_0 : decode cX11_hop 0 = .ok (.aload_n 0, 1) := by decide +kernel
theorem dX11_hop_1 : decode cX11_hop 1 = .ok (.getfield 20, 3) := by decide +kernel
theorem dX11_hop_4 : decode cX11_hop 4 = .ok (.iload_n 1, 1) := by decide +kernel
theorem dX11_hop_5 : decode cX11_hop 5 = .ok (.invokevirtual 104, 3) := by decide +kernel
theorem dX11_hop_8 : decode cX11_hop 8 = .ok (.astore 4, 2) := by decide +kernel
theorem dX11_hop_10 : decode cX11_hop 10 = .ok (.aload 4, 2) := by decide +kernel
theorem dX11_hop_12 : decode cX11_hop 12 = .ok (.ifnull 21, 3) := by decide +kernel
theorem dX11_hop_15 : decode cX11_hop 15 = .ok (.aload 4, 2) := by decide +kernel
theorem dX11_hop_17 : decode cX11_hop 17 = .ok (.iload_n 2, 1) := by decide +kernel
theorem dX11_hop_18 : decode cX11_hop 18 = .ok (.invokevirtual 118, 3) := by decide +kernel
theorem dX11_hop_21 : decode cX11_hop 21 = .ok (.ifCond .eq 12, 3) := by decide +kernel
theorem dX11_hop_24 : decode cX11_hop 24 = .ok (.aload 4, 2) := by decide +kernel
theorem dX11_hop_26 : decode cX11_hop 26 = .ok (.iload_n 3, 1) := by decide +kernel
theorem dX11_hop_27 : decode cX11_hop 27 = .ok (.invokevirtual 118, 3) := by decide +kernel
theorem dX11_hop_30 : decode cX11_hop 30 = .ok (.ifCond .ne 5, 3) := by decide +kernel
theorem dX11_hop_33 : decode cX11_hop 33 = .ok (.iconst (-1), 1) := by decide +kernel
theorem dX11_hop_34 : decode cX11_hop 34 = .ok (.ireturn, 1) := by decide +kernel
theorem dX11_hop_35 : decode cX11_hop 35 = .ok (.aload 4, 2) := by decide +kernel
theorem dX11_hop_37 : decode cX11_hop 37 = .ok (.iload_n 2, 1) := by decide +kernel
theorem dX11_hop_38 : decode cX11_hop 38 = .ok (.iload_n 3, 1) := by decide +kernel
theorem dX11_hop_39 : decode cX11_hop 39 = .ok (.invokevirtual 133, 3) := by decide +kernel
theorem dX11_hop_42 : decode cX11_hop 42 = .ok (.ireturn, 1) := by decide +kernel
theorem dX11_tape_0 : decode cX11_tape 0 = .ok (.aload_n 0, 1) := by decide +kernel
theorem dX11_tape_1 : decode cX11_tape 1 = .ok (.getfield 20, 3) := by decide +kernel
theorem dX11_tape_4 : decode cX11_tape 4 = .ok (.iload_n 1, 1) := by decide +kernel
theorem dX11_tape_5 : decode cX11_tape 5 = .ok (.invokevirtual 104, 3) := by decide +kernel
theorem dX11_tape_8 : decode cX11_tape 8 = .ok (.astore_n 2, 1) := by decide +kernel
theorem dX11_tape_9 : decode cX11_tape 9 = .ok (.aload_n 2, 1) := by decide +kernel
theorem dX11_tape_10 : decode cX11_tape 10 = .ok (.ifnull 10, 3) := by decide +kernel
theorem dX11_tape_13 : decode cX11_tape 13 = .ok (.aload_n 2, 1) := by decide +kernel
theorem dX11_tape_14 : decode cX11_tape 14 = .ok (.getfield 121, 3) := by decide +kernel
theorem dX11_tape_17 : decode cX11_tape 17 = .ok (.ifCond .ne 5, 3) := by decide +kernel
theorem dX11_tape_20 : decode cX11_tape 20 = .ok (.iconst (-1), 1) := by decide +kernel
theorem dX11_tape_21 : decode cX11_tape 21 = .ok (.ireturn, 1) := by decide +kernel
theorem dX11_tape_22 : decode cX11_tape 22 = .ok (.aload_n 0, 1) := by decide +kernel
theorem dX11_tape_23 : decode cX11_tape 23 = .ok (.getfield 20, 3) := by decide +kernel
theorem dX11_tape_26 : decode cX11_tape 26 = .ok (.iload_n 1, 1) := by decide +kernel
theorem dX11_tape_27 : decode cX11_tape 27 = .ok (.invokevirtual 136, 3) := by decide +kernel
theorem dX11_tape_30 : decode cX11_tape 30 = .ok (.ireturn, 1) := by decide +kernel
theorem dX11_lead_0 : decode cX11_lead 0 = .ok (.aload_n 0, 1) := by decide +kernel
theorem dX11_lead_1 : decode cX11_lead 1 = .ok (.getfield 20, 3) := by decide +kernel
theorem dX11_lead_4 : decode cX11_lead 4 = .ok (.iload_n 1, 1) := by decide +kernel
theorem dX11_lead_5 : decode cX11_lead 5 = .ok (.invokevirtual 139, 3) := by decide +kernel
theorem dX11_lead_8 : decode cX11_lead 8 = .ok (.astore 4, 2) := by decide +kernel
theorem dX11_lead_10 : decode cX11_lead 10 = .ok (.aload_n 0, 1) := by decide +kernel
theorem dX11_lead_11 : decode cX11_lead 11 = .ok (.getfield 20, 3) := by decide +kernel
theorem dX11_lead_14 : decode cX11_lead 14 = .ok (.aload 4, 2) := by decide +kernel
theorem dX11_lead_16 : decode cX11_lead 16 = .ok (.invokevirtual 143, 3) := by decide +kernel
theorem dX11_lead_19 : decode cX11_lead 19 = .ok (.astore 5, 2) := by decide +kernel
theorem dX11_lead_21 : decode cX11_lead 21 = .ok (.aload 4, 2) := by decide +kernel
theorem dX11_lead_23 : decode cX11_lead 23 = .ok (.ifnull 27, 3) := by decide +kernel
theorem dX11_lead_26 : decode cX11_lead 26 = .ok (.aload 5, 2) := by decide +kernel
theorem dX11_lead_28 : decode cX11_lead 28 = .ok (.ifnull 22, 3) := by decide +kernel
theorem dX11_lead_31 : decode cX11_lead 31 = .ok (.aload 5, 2) := by decide +kernel
theorem dX11_lead_33 : decode cX11_lead 33 = .ok (.iload_n 2, 1) := by decide +kernel
theorem dX11_lead_34 : decode cX11_lead 34 = .ok (.invokevirtual 118, 3) := by decide +kernel
theorem dX11_lead_37 : decode cX11_lead 37 = .ok (.ifCond .eq 13, 3) := by decide +kernel
theorem dX11_lead_40 : decode cX11_lead 40 = .ok (.iload_n 3, 1) := by decide +kernel
theorem dX11_lead_41 : decode cX11_lead 41 = .ok (.iconst 0, 1) := by decide +kernel
theorem dX11_lead_42 : decode cX11_lead 42 = .ok (.bipush 9, 2) := by decide +kernel
theorem dX11_lead_44 : decode cX11_lead 44 = .ok (.invokestatic 94, 3) := by decide +kernel
theorem dX11_lead_47 : decode cX11_lead 47 = .ok (.ifCond .ne 5, 3) := by decide +kernel
theorem dX11_lead_50 : decode cX11_lead 50 = .ok (.iconst (-1), 1) := by decide +kernel
theorem dX11_lead_51 : decode cX11_lead 51 = .ok (.ireturn, 1) := by decide +kernel
theorem dX11_lead_52 : decode cX11_lead 52 = .ok (.aload 4, 2) := by decide +kernel
theorem dX11_lead_54 : decode cX11_lead 54 = .ok (.getfield 147, 3) := by decide +kernel
theorem dX11_lead_57 : decode cX11_lead 57 = .ok (.ifCond .le 20, 3) := by decide +kernel
theorem dX11_lead_60 : decode cX11_lead 60 = .ok (.aload 5, 2) := by decide +kernel
theorem dX11_lead_62 : decode cX11_lead 62 = .ok (.aload 4, 2) := by decide +kernel
theorem dX11_lead_64 : decode cX11_lead 64 = .ok (.invokevirtual 152, 3) := by decide +kernel
theorem dX11_lead_67 : decode cX11_lead 67 = .ok (.iload_n 2, 1) := by decide +kernel
theorem dX11_lead_68 : decode cX11_lead 68 = .ok (.invokevirtual 133, 3) := by decide +kernel
theorem dX11_lead_71 : decode cX11_lead 71 = .ok (.iconst 1, 1) := by decide +kernel
theorem dX11_lead_72 : decode cX11_lead 72 = .ok (.if_icmp .le 5, 3) := by decide +kernel
theorem dX11_lead_75 : decode cX11_lead 75 = .ok (.iconst (-1), 1) := by decide +kernel
theorem dX11_lead_76 : decode cX11_lead 76 = .ok (.ireturn, 1) := by decide +kernel
theorem dX11_lead_77 : decode cX11_lead 77 = .ok (.aload 4, 2) := by decide +kernel
theorem dX11_lead_79 : decode cX11_lead 79 = .ok (.iload_n 2, 1) := by decide +kernel
theorem dX11_lead_80 : decode cX11_lead 80 = .ok (.iload_n 3, 1) := by decide +kernel
theorem dX11_lead_81 : decode cX11_lead 81 = .ok (.invokevirtual 156, 3) := by decide +kernel
theorem dX11_lead_84 : decode cX11_lead 84 = .ok (.ifCond .eq 11, 3) := by decide +kernel
theorem dX11_lead_87 : decode cX11_lead 87 = .ok (.aload 4, 2) := by decide +kernel
theorem dX11_lead_89 : decode cX11_lead 89 = .ok (.getfield 147, 3) := by decide +kernel
theorem dX11_lead_92 : decode cX11_lead 92 = .ok (.goto 4, 3) := by decide +kernel
theorem dX11_lead_95 : decode cX11_lead 95 = .ok (.iconst (-1), 1) := by decide +kernel
theorem dX11_lead_96 : decode cX11_lead 96 = .ok (.ireturn, 1) := by decide +kernel
theorem dX11_look_0 : decode cX11_look 0 = .ok (.aload_n 0, 1) := by decide +kernel
theorem dX11_look_1 : decode cX11_look 1 = .ok (.getfield 20, 3) := by decide +kernel
theorem dX11_look_4 : decode cX11_look 4 = .ok (.iload_n 1, 1) := by decide +kernel
theorem dX11_look_5 : decode cX11_look 5 = .ok (.invokevirtual 139, 3) := by decide +kernel
theorem dX11_look_8 : decode cX11_look 8 = .ok (.astore 4, 2) := by decide +kernel
theorem dX11_look_10 : decode cX11_look 10 = .ok (.aload_n 0, 1) := by decide +kernel
theorem dX11_look_11 : decode cX11_look 11 = .ok (.getfield 20, 3) := by decide +kernel
theorem dX11_look_14 : decode cX11_look 14 = .ok (.aload 4, 2) := by decide +kernel
theorem dX11_look_16 : decode cX11_look 16 = .ok (.invokevirtual 143, 3) := by decide +kernel
theorem dX11_look_19 : decode cX11_look 19 = .ok (.astore 5, 2) := by decide +kernel
theorem dX11_look_21 : decode cX11_look 21 = .ok (.aload 4, 2) := by decide +kernel
theorem dX11_look_23 : decode cX11_look 23 = .ok (.ifnull 23, 3) := by decide +kernel
theorem dX11_look_26 : decode cX11_look 26 = .ok (.aload 5, 2) := by decide +kernel
theorem dX11_look_28 : decode cX11_look 28 = .ok (.ifnull 18, 3) := by decide +kernel
theorem dX11_look_31 : decode cX11_look 31 = .ok (.iload_n 2, 1) := by decide +kernel
theorem dX11_look_32 : decode cX11_look 32 = .ok (.iconst 0, 1) := by decide +kernel
theorem dX11_look_33 : decode cX11_look 33 = .ok (.aload 4, 2) := by decide +kernel
theorem dX11_look_35 : decode cX11_look 35 = .ok (.getfield 147, 3) := by decide +kernel
theorem dX11_look_38 : decode cX11_look 38 = .ok (.iconst 1, 1) := by decide +kernel
theorem dX11_look_39 : decode cX11_look 39 = .ok (.isub, 1) := by decide +kernel
theorem dX11_look_40 : decode cX11_look 40 = .ok (.invokestatic 94, 3) := by decide +kernel
theorem dX11_look_43 : decode cX11_look 43 = .ok (.ifCond .ne 13, 3) := by decide +kernel
theorem dX11_look_46 : decode cX11_look 46 = .ok (.new 160, 3) := by decide +kernel
theorem dX11_look_49 : decode cX11_look 49 = .ok (.dup, 1) := by decide +kernel
theorem dX11_look_50 : decode cX11_look 50 = .ok (.ldc 162, 2) := by decide +kernel
theorem dX11_look_52 : decode cX11_look 52 = .ok (.invokespecial 164, 3) := by decide +kernel
theorem dX11_look_55 : decode cX11_look 55 = .ok (.athrow, 1) := by decide +kernel
theorem dX11_look_56 : decode cX11_look 56 = .ok (.iload_n 3, 1) := by decide +kernel
theorem dX11_look_57 : decode cX11_look 57 = .ok (.iconst 0, 1) := by decide +kernel
theorem dX11_look_58 : decode cX11_look 58 = .ok (.iconst 3, 1) := by decide +kernel
theorem dX11_look_59 : decode cX11_look 59 = .ok (.invokestatic 94, 3) := by decide +kernel
theorem dX11_look_62 : decode cX11_look 62 = .ok (.ifCond .ne 13, 3) := by decide +kernel
theorem dX11_look_65 : decode cX11_look 65 = .ok (.new 167, 3) := by decide +kernel
theorem dX11_look_68 : decode cX11_look 68 = .ok (.dup, 1) := by decide +kernel
theorem dX11_look_69 : decode cX11_look 69 = .ok (.ldc 169, 2) := by decide +kernel
theorem dX11_look_71 : decode cX11_look 71 = .ok (.invokespecial 171, 3) := by decide +kernel
theorem dX11_look_74 : decode cX11_look 74 = .ok (.athrow, 1) := by decide +kernel
theorem dX11_look_75 : decode cX11_look 75 = .ok (.iload_n 3, 1) := by decide +kernel
theorem dX11_look_76 : decode cX11_look 76 = .ok (.iconst 1, 1) := by decide +kernel
theorem dX11_look_77 : decode cX11_look 77 = .ok (.if_icmp .ne 10, 3) := by decide +kernel
theorem dX11_look_80 : decode cX11_look 80 = .ok (.aload 4, 2) := by decide +kernel
theorem dX11_look_82 : decode cX11_look 82 = .ok (.iload_n 2, 1) := by decide +kernel
theorem dX11_look_83 : decode cX11_look 83 = .ok (.invokevirtual 172, 3) := by decide +kernel
theorem dX11_look_86 : decode cX11_look 86 = .ok (.ireturn, 1) := by decide +kernel
theorem dX11_look_87 : decode cX11_look 87 = .ok (.aload 4, 2) := by decide +kernel
theorem dX11_look_89 : decode cX11_look 89 = .ok (.iload_n 2, 1) := by decide +kernel
theorem dX11_look_90 : decode cX11_look 90 = .ok (.invokevirtual 175, 3) := by decide +kernel
theorem dX11_look_93 : decode cX11_look 93 = .ok (.istore 6, 2) := by decide +kernel
theorem dX11_look_95 : decode cX11_look 95 = .ok (.iload_n 3, 1) := by decide +kernel
theorem dX11_look_96 : decode cX11_look 96 = .ok (.ifCond .ne 6, 3) := by decide +kernel
theorem dX11_look_99 : decode cX11_look 99 = .ok (.iload 6, 2) := by decide +kernel
theorem dX11_look_101 : decode cX11_look 101 = .ok (.ireturn, 1) := by decide +kernel
theorem dX11_look_102 : decode cX11_look 102 = .ok (.iload_n 3, 1) := by decide +kernel
theorem dX11_look_103 : decode cX11_look 103 = .ok (.iconst 2, 1) := by decide +kernel
theorem dX11_look_104 : decode cX11_look 104 = .ok (.if_icmp .ne 13, 3) := by decide +kernel
theorem dX11_look_107 : decode cX11_look 107 = .ok (.aload 5, 2) := by decide +kernel
theorem dX11_look_109 : decode cX11_look 109 = .ok (.iload 6, 2) := by decide +kernel
theorem dX11_look_111 : decode cX11_look 111 = .ok (.invokevirtual 178, 3) := by decide +kernel
theorem dX11_look_114 : decode cX11_look 114 = .ok (.goto 10, 3) := by decide +kernel
theorem dX11_look_117 : decode cX11_look 117 = .ok (.aload 5, 2) := by decide +kernel
theorem dX11_look_119 : decode cX11_look 119 = .ok (.iload 6, 2) := by decide +kernel
theorem dX11_look_121 : decode cX11_look 121 = .ok (.invokevirtual 181, 3) := by decide +kernel
theorem dX11_look_124 : decode cX11_look 124 = .ok (.ireturn, 1) := by decide +kernel
theorem dX11_about_0 : decode cX11_about 0 = .ok (.aload_n 0, 1) := by decide +kernel
theorem dX11_about_1 : decode cX11_about 1 = .ok (.getfield 20, 3) := by decide +kernel
theorem dX11_about_4 : decode cX11_about 4 = .ok (.iload_n 1, 1) := by decide +kernel
theorem dX11_about_5 : decode cX11_about 5 = .ok (.invokevirtual 139, 3) := by decide +kernel
theorem dX11_about_8 : decode cX11_about 8 = .ok (.astore_n 3, 1) := by decide +kernel
theorem dX11_about_9 : decode cX11_about 9 = .ok (.aload_n 3, 1) := by decide +kernel
theorem dX11_about_10 : decode cX11_about 10 = .ok (.ifnull 12, 3) := by decide +kernel
theorem dX11_about_13 : decode cX11_about 13 = .ok (.iload_n 2, 1) := by decide +kernel
theorem dX11_about_14 : decode cX11_about 14 = .ok (.iconst 0, 1) := by decide +kernel
theorem dX11_about_15 : decode cX11_about 15 = .ok (.iconst 1, 1) := by decide +kernel
theorem dX11_about_16 : decode cX11_about 16 = .ok (.invokestatic 94, 3) := by decide +kernel
theorem dX11_about_19 : decode cX11_about 19 = .ok (.ifCond .ne 5, 3) := by decide +kernel
theorem dX11_about_22 : decode cX11_about 22 = .ok (.iconst (-1), 1) := by decide +kernel
theorem dX11_about_23 : decode cX11_about 23 = .ok (.ireturn, 1) := by decide +kernel
theorem dX11_about_24 : decode cX11_about 24 = .ok (.iload_n 2, 1) := by decide +kernel
theorem dX11_about_25 : decode cX11_about 25 = .ok (.ifCond .ne 10, 3) := by decide +kernel
theorem dX11_about_28 : decode cX11_about 28 = .ok (.aload_n 3, 1) := by decide +kernel
theorem dX11_about_29 : decode cX11_about 29 = .ok (.getfield 184, 3) := by decide +kernel
theorem dX11_about_32 : decode cX11_about 32 = .ok (.goto 7, 3) := by decide +kernel
theorem dX11_about_35 : decode cX11_about 35 = .ok (.aload_n 3, 1) := by decide +kernel
theorem dX11_about_36 : decode cX11_about 36 = .ok (.getfield 147, 3) := by decide +kernel
theorem dX11_about_39 : decode cX11_about 39 = .ok (.ireturn, 1) := by decide +kernel
theorem dX11_play_0 : decode cX11_play 0 = .ok (.aload_n 0, 1) := by decide +kernel
theorem dX11_play_1 : decode cX11_play 1 = .ok (.iload_n 1, 1) := by decide +kernel
theorem dX11_play_2 : decode cX11_play 2 = .ok (.iload_n 2, 1) := by decide +kernel
theorem dX11_play_3 : decode cX11_play 3 = .ok (.iload_n 3, 1) := by decide +kernel
theorem dX11_play_4 : decode cX11_play 4 = .ok (.invokevirtual 187, 3) := by decide +kernel
theorem dX11_play_7 : decode cX11_play 7 = .ok (.astore 4, 2) := by decide +kernel
theorem dX11_play_9 : decode cX11_play 9 = .ok (.aload 4, 2) := by decide +kernel
theorem dX11_play_11 : decode cX11_play 11 = .ok (.ifnonnull 5, 3) := by decide +kernel
theorem dX11_play_14 : decode cX11_play 14 = .ok (.iconst (-1), 1) := by decide +kernel
theorem dX11_play_15 : decode cX11_play 15 = .ok (.ireturn, 1) := by decide +kernel
theorem dX11_play_16 : decode cX11_play 16 = .ok (.aload_n 0, 1) := by decide +kernel
theorem dX11_play_17 : decode cX11_play 17 = .ok (.getfield 36, 3) := by decide +kernel
theorem dX11_play_20 : decode cX11_play 20 = .ok (.aload 4, 2) := by decide +kernel
theorem dX11_play_22 : decode cX11_play 22 = .ok (.getfield 191, 3) := by decide +kernel
theorem dX11_play_25 : decode cX11_play 25 = .ok (.aload 4, 2) := by decide +kernel
theorem dX11_play_27 : decode cX11_play 27 = .ok (.getfield 194, 3) := by decide +kernel
theorem dX11_play_30 : decode cX11_play 30 = .ok (.aload 4, 2) := by decide +kernel
theorem dX11_play_32 : decode cX11_play 32 = .ok (.getfield 197, 3) := by decide +kernel
theorem dX11_play_35 : decode cX11_play 35 = .ok (.aload 4, 2) := by decide +kernel
theorem dX11_play_37 : decode cX11_play 37 = .ok (.getfield 200, 3) := by decide +kernel
theorem dX11_play_40 : decode cX11_play 40 = .ok (.invokevirtual 203, 3) := by decide +kernel
theorem dX11_play_43 : decode cX11_play 43 = .ok (.aload_n 0, 1) := by decide +kernel
theorem dX11_play_44 : decode cX11_play 44 = .ok (.getfield 29, 3) := by decide +kernel
theorem dX11_play_47 : decode cX11_play 47 = .ok (.aload_n 0, 1) := by decide +kernel
theorem dX11_play_48 : decode cX11_play 48 = .ok (.getfield 36, 3) := by decide +kernel
theorem dX11_play_51 : decode cX11_play 51 = .ok (.invokevirtual 207, 3) := by decide +kernel
theorem dX11_play_54 : decode cX11_play 54 = .ok (.ireturn, 1) := by decide +kernel
theorem dX11_nozzle_0 : decode cX11_nozzle 0 = .ok (.iload_n 1, 1) := by decide +kernel
theorem dX11_nozzle_1 : decode cX11_nozzle 1 = .ok (.iconst 0, 1) := by decide +kernel
theorem dX11_nozzle_2 : decode cX11_nozzle 2 = .ok (.bipush 30, 2) := by decide +kernel
theorem dX11_nozzle_4 : decode cX11_nozzle 4 = .ok (.invokestatic 94, 3) := by decide +kernel
theorem dX11_nozzle_7 : decode cX11_nozzle 7 = .ok (.ifCond .ne 5, 3) := by decide +kernel
theorem dX11_nozzle_10 : decode cX11_nozzle 10 = .ok (.iconst 0, 1) := by decide +kernel
theorem dX11_nozzle_11 : decode cX11_nozzle 11 = .ok (.ireturn, 1) := by decide +kernel
theorem dX11_nozzle_12 : decode cX11_nozzle 12 = .ok (.aload_n 0, 1) := by decide +kernel
theorem dX11_nozzle_13 : decode cX11_nozzle 13 = .ok (.iload_n 1, 1) := by decide +kernel
theorem dX11_nozzle_14 : decode cX11_nozzle 14 = .ok (.putfield 61, 3) := by decide +kernel
theorem dX11_nozzle_17 : decode cX11_nozzle 17 = .ok (.iconst 1, 1) := by decide +kernel
theorem dX11_nozzle_18 : decode cX11_nozzle 18 = .ok (.ireturn, 1) := by decide +kernel
theorem dX11_thick_0 : decode cX11_thick 0 = .ok (.iload_n 1, 1) := by decide +kernel
theorem dX11_thick_1 : decode cX11_thick 1 = .ok (.iconst 0, 1) := by decide +kernel
theorem dX11_thick_2 : decode cX11_thick 2 = .ok (.bipush 15, 2) := by decide +kernel
theorem dX11_thick_4 : decode cX11_thick 4 = .ok (.invokestatic 94, 3) := by decide +kernel
theorem dX11_thick_7 : decode cX11_thick 7 = .ok (.ifCond .eq 23, 3) := by decide +kernel
theorem dX11_thick_10 : decode cX11_thick 10 = .ok (.iload_n 2, 1) := by decide +kernel
theorem dX11_thick_11 : decode cX11_thick 11 = .ok (.iconst 0, 1) := by decide +kernel
theorem dX11_thick_12 : decode cX11_thick 12 = .ok (.bipush 15, 2) := by decide +kernel
theorem dX11_thick_14 : decode cX11_thick 14 = .ok (.invokestatic 94, 3) := by decide +kernel
theorem dX11_thick_17 : decode cX11_thick 17 = .ok (.ifCond .eq 13, 3) := by decide +kernel
theorem dX11_thick_20 : decode cX11_thick 20 = .ok (.iload 5, 2) := by decide +kernel
theorem dX11_thick_22 : decode cX11_thick 22 = .ok (.iconst 0, 1) := by decide +kernel
theorem dX11_thick_23 : decode cX11_thick 23 = .ok (.iconst 3, 1) := by decide +kernel
theorem dX11_thick_24 : decode cX11_thick 24 = .ok (.invokestatic 94, 3) := by decide +kernel
theorem dX11_thick_27 : decode cX11_thick 27 = .ok (.ifCond .ne 5, 3) := by decide +kernel
theorem dX11_thick_30 : decode cX11_thick 30 = .ok (.iconst (-1), 1) := by decide +kernel
theorem dX11_thick_31 : decode cX11_thick 31 = .ok (.ireturn, 1) := by decide +kernel
theorem dX11_thick_32 : decode cX11_thick 32 = .ok (.iload_n 3, 1) := by decide +kernel
theorem dX11_thick_33 : decode cX11_thick 33 = .ok (.iload_n 1, 1) := by decide +kernel
theorem dX11_thick_34 : decode cX11_thick 34 = .ok (.bipush 15, 2) := by decide +kernel
theorem dX11_thick_36 : decode cX11_thick 36 = .ok (.invokestatic 94, 3) := by decide +kernel
theorem dX11_thick_39 : decode cX11_thick 39 = .ok (.ifCond .eq 14, 3) := by decide +kernel
theorem dX11_thick_42 : decode cX11_thick 42 = .ok (.iload 4, 2) := by decide +kernel
theorem dX11_thick_44 : decode cX11_thick 44 = .ok (.iload_n 2, 1) := by decide +kernel
theorem dX11_thick_45 : decode cX11_thick 45 = .ok (.bipush 15, 2) := by decide +kernel
theorem dX11_thick_47 : decode cX11_thick 47 = .ok (.invokestatic 94, 3) := by decide +kernel
theorem dX11_thick_50 : decode cX11_thick 50 = .ok (.ifCond .ne 5, 3) := by decide +kernel
theorem dX11_thick_53 : decode cX11_thick 53 = .ok (.iconst (-1), 1) := by decide +kernel
theorem dX11_thick_54 : decode cX11_thick 54 = .ok (.ireturn, 1) := by decide +kernel
theorem dX11_thick_55 : decode cX11_thick 55 = .ok (.aload_n 0, 1) := by decide +kernel
theorem dX11_thick_56 : decode cX11_thick 56 = .ok (.getfield 29, 3) := by decide +kernel
theorem dX11_thick_59 : decode cX11_thick 59 = .ok (.iload_n 1, 1) := by decide +kernel
theorem dX11_thick_60 : decode cX11_thick 60 = .ok (.iload_n 2, 1) := by decide +kernel
theorem dX11_thick_61 : decode cX11_thick 61 = .ok (.iload_n 3, 1) := by decide +kernel
theorem dX11_thick_62 : decode cX11_thick 62 = .ok (.iload 4, 2) := by decide +kernel
theorem dX11_thick_64 : decode cX11_thick 64 = .ok (.iload 5, 2) := by decide +kernel
theorem dX11_thick_66 : decode cX11_thick 66 = .ok (.invokevirtual 211, 3) := by decide +kernel
theorem dX11_thick_69 : decode cX11_thick 69 = .ok (.ireturn, 1) := by decide +kernel
theorem dX11_paint_0 : decode cX11_paint 0 = .ok (.aload_n 0, 1) := by decide +kernel
theorem dX11_paint_1 : decode cX11_paint 1 = .ok (.getfield 29, 3) := by decide +kernel
theorem dX11_paint_4 : decode cX11_paint 4 = .ok (.iload_n 1, 1) := by decide +kernel
theorem dX11_paint_5 : decode cX11_paint 5 = .ok (.iload_n 2, 1) := by decide +kernel
theorem dX11_paint_6 : decode cX11_paint 6 = .ok (.invokestatic 215, 3) := by decide +kernel
theorem dX11_paint_9 : decode cX11_paint 9 = .ok (.invokevirtual 218, 3) := by decide +kernel
theorem dX11_paint_12 : decode cX11_paint 12 = .ok (.ireturn, 1) := by decide +kernel
theorem dX11_clean_0 : decode cX11_clean 0 = .ok (.aload_n 0, 1) := by decide +kernel
theorem dX11_clean_1 : decode cX11_clean 1 = .ok (.getfield 29, 3) := by decide +kernel
theorem dX11_clean_4 : decode cX11_clean 4 = .ok (.invokevirtual 221, 3) := by decide +kernel
theorem dX11_clean_7 : decode cX11_clean 7 = .ok (.istore_n 1, 1) := by decide +kernel
theorem dX11_clean_8 : decode cX11_clean 8 = .ok (.aload_n 0, 1) := by decide +kernel
theorem dX11_clean_9 : decode cX11_clean 9 = .ok (.getfield 29, 3) := by decide +kernel
theorem dX11_clean_12 : decode cX11_clean 12 = .ok (.invokevirtual 224, 3) := by decide +kernel
theorem dX11_clean_15 : decode cX11_clean 15 = .ok (.iload_n 1, 1) := by decide +kernel
theorem dX11_clean_16 : decode cX11_clean 16 = .ok (.ireturn, 1) := by decide +kernel
theorem dX11_follow_0 : decode cX11_follow 0 = .ok (.aload_n 0, 1) := by decide +kernel
theorem dX11_follow_1 : decode cX11_follow 1 = .ok (.getfield 20, 3) := by decide +kernel
theorem dX11_follow_4 : decode cX11_follow 4 = .ok (.iload_n 1, 1) := by decide +kernel
theorem dX11_follow_5 : decode cX11_follow 5 = .ok (.invokevirtual 139, 3) := by decide +kernel
theorem dX11_follow_8 : decode cX11_follow 8 = .ok (.astore 5, 2) := by decide +kernel
theorem dX11_follow_10 : decode cX11_follow 10 = .ok (.aload_n 0, 1) := by decide +kernel
theorem dX11_follow_11 : decode cX11_follow 11 = .ok (.getfield 20, 3) := by decide +kernel
theorem dX11_follow_14 : decode cX11_follow 14 = .ok (.aload 5, 2) := by decide +kernel
theorem dX11_follow_16 : decode cX11_follow 16 = .ok (.invokevirtual 143, 3) := by decide +kernel
theorem dX11_follow_19 : decode cX11_follow 19 = .ok (.astore 6, 2) := by decide +kernel
theorem dX11_follow_21 : decode cX11_follow 21 = .ok (.aload_n 0, 1) := by decide +kernel
theorem dX11_follow_22 : decode cX11_follow 22 = .ok (.getfield 20, 3) := by decide +kernel
theorem dX11_follow_25 : decode cX11_follow 25 = .ok (.iload_n 2, 1) := by decide +kernel
theorem dX11_follow_26 : decode cX11_follow 26 = .ok (.invokevirtual 104, 3) := by decide +kernel
theorem dX11_follow_29 : decode cX11_follow 29 = .ok (.astore 7, 2) := by decide +kernel
theorem dX11_follow_31 : decode cX11_follow 31 = .ok (.aload 5, 2) := by decide +kernel
theorem dX11_follow_33 : decode cX11_follow 33 = .ok (.ifnull 29, 3) := by decide +kernel
theorem dX11_follow_36 : decode cX11_follow 36 = .ok (.aload 6, 2) := by decide +kernel
theorem dX11_follow_38 : decode cX11_follow 38 = .ok (.ifnull 24, 3) := by decide +kernel
theorem dX11_follow_41 : decode cX11_follow 41 = .ok (.aload 7, 2) := by decide +kernel
theorem dX11_follow_43 : decode cX11_follow 43 = .ok (.ifnull 19, 3) := by decide +kernel
theorem dX11_follow_46 : decode cX11_follow 46 = .ok (.aload 5, 2) := by decide +kernel
theorem dX11_follow_48 : decode cX11_follow 48 = .ok (.getfield 147, 3) := by decide +kernel
theorem dX11_follow_51 : decode cX11_follow 51 = .ok (.ifCond .eq 11, 3) := by decide +kernel
theorem dX11_follow_54 : decode cX11_follow 54 = .ok (.aload 7, 2) := by decide +kernel
theorem dX11_follow_56 : decode cX11_follow 56 = .ok (.getfield 121, 3) := by decide +kernel
theorem dX11_follow_59 : decode cX11_follow 59 = .ok (.ifCond .ne 5, 3) := by decide +kernel
theorem dX11_follow_62 : decode cX11_follow 62 = .ok (.iconst (-1), 1) := by decide +kernel
theorem dX11_follow_63 : decode cX11_follow 63 = .ok (.ireturn, 1) := by decide +kernel
theorem dX11_follow_64 : decode cX11_follow 64 = .ok (.iload_n 3, 1) := by decide +kernel
theorem dX11_follow_65 : decode cX11_follow 65 = .ok (.invokestatic 227, 3) := by decide +kernel
theorem dX11_follow_68 : decode cX11_follow 68 = .ok (.ifCond .eq 21, 3) := by decide +kernel
theorem dX11_follow_71 : decode cX11_follow 71 = .ok (.iload 4, 2) := by decide +kernel
theorem dX11_follow_73 : decode cX11_follow 73 = .ok (.invokestatic 230, 3) := by decide +kernel
theorem dX11_follow_76 : decode cX11_follow 76 = .ok (.ifCond .eq 13, 3) := by decide +kernel
theorem dX11_follow_79 : decode cX11_follow 79 = .ok (.aload_n 0, 1) := by decide +kernel
theorem dX11_follow_80 : decode cX11_follow 80 = .ok (.getfield 20, 3) := by decide +kernel
theorem dX11_follow_83 : decode cX11_follow 83 = .ok (.invokevirtual 233, 3) := by decide +kernel
theorem dX11_follow_86 : decode cX11_follow 86 = .ok (.ifCond .ne 5, 3) := by decide +kernel
theorem dX11_follow_89 : decode cX11_follow 89 = .ok (.iconst (-1), 1) := by decide +kernel
theorem dX11_follow_90 : decode cX11_follow 90 = .ok (.ireturn, 1) := by decide +kernel
theorem dX11_follow_91 : decode cX11_follow 91 = .ok (.aload_n 0, 1) := by decide +kernel
theorem dX11_follow_92 : decode cX11_follow 92 = .ok (.invokevirtual 234, 3) := by decide +kernel
theorem dX11_follow_95 : decode cX11_follow 95 = .ok (.astore 8, 2) := by decide +kernel
theorem dX11_follow_97 : decode cX11_follow 97 = .ok (.aload 8, 2) := by decide +kernel
theorem dX11_follow_99 : decode cX11_follow 99 = .ok (.aload 5, 2) := by decide +kernel
theorem dX11_follow_101 : decode cX11_follow 101 = .ok (.aload 6, 2) := by decide +kernel
theorem dX11_follow_103 : decode cX11_follow 103 = .ok (.aload 7, 2) := by decide +kernel
theorem dX11_follow_105 : decode cX11_follow 105 = .ok (.iload_n 3, 1) := by decide +kernel
theorem dX11_follow_106 : decode cX11_follow 106 = .ok (.iload 4, 2) := by decide +kernel
theorem dX11_follow_108 : decode cX11_follow 108 = .ok (.invokevirtual 238, 3) := by decide +kernel
theorem dX11_follow_111 : decode cX11_follow 111 = .ok (.ifCond .ne 15, 3) := by decide +kernel
theorem dX11_follow_114 : decode cX11_follow 114 = .ok (.aload_n 0, 1) := by decide +kernel
theorem dX11_follow_115 : decode cX11_follow 115 = .ok (.aload 8, 2) := by decide +kernel
theorem dX11_follow_117 : decode cX11_follow 117 = .ok (.getfield 244, 3) := by decide +kernel
theorem dX11_follow_120 : decode cX11_follow 120 = .ok (.putfield 65, 3) := by decide +kernel
theorem dX11_follow_123 : decode cX11_follow 123 = .ok (.bipush (-2), 2) := by decide +kernel
theorem dX11_follow_125 : decode cX11_follow 125 = .ok (.ireturn, 1) := by decide +kernel
theorem dX11_follow_126 : decode cX11_follow 126 = .ok (.aload_n 0, 1) := by decide +kernel
theorem dX11_follow_127 : decode cX11_follow 127 = .ok (.iconst (-1), 1) := by decide +kernel
theorem dX11_follow_128 : decode cX11_follow 128 = .ok (.putfield 65, 3) := by decide +kernel
theorem dX11_follow_131 : decode cX11_follow 131 = .ok (.aload_n 0, 1) := by decide +kernel
theorem dX11_follow_132 : decode cX11_follow 132 = .ok (.aload 8, 2) := by decide +kernel
theorem dX11_follow_134 : decode cX11_follow 134 = .ok (.getfield 247, 3) := by decide +kernel
theorem dX11_follow_137 : decode cX11_follow 137 = .ok (.putfield 68, 3) := by decide +kernel
theorem dX11_follow_140 : decode cX11_follow 140 = .ok (.aload_n 0, 1) := by decide +kernel
theorem dX11_follow_141 : decode cX11_follow 141 = .ok (.getfield 20, 3) := by decide +kernel
theorem dX11_follow_144 : decode cX11_follow 144 = .ok (.iload_n 2, 1) := by decide +kernel
theorem dX11_follow_145 : decode cX11_follow 145 = .ok (.invokevirtual 136, 3) := by decide +kernel
theorem dX11_follow_148 : decode cX11_follow 148 = .ok (.istore 9, 2) := by decide +kernel
theorem dX11_follow_150 : decode cX11_follow 150 = .ok (.aload_n 0, 1) := by decide +kernel
theorem dX11_follow_151 : decode cX11_follow 151 = .ok (.getfield 20, 3) := by decide +kernel
theorem dX11_follow_154 : decode cX11_follow 154 = .ok (.iload 9, 2) := by decide +kernel
theorem dX11_follow_156 : decode cX11_follow 156 = .ok (.invokevirtual 139, 3) := by decide +kernel
theorem dX11_follow_159 : decode cX11_follow 159 = .ok (.astore 10, 2) := by decide +kernel
theorem dX11_follow_161 : decode cX11_follow 161 = .ok (.iconst 0, 1) := by decide +kernel
theorem dX11_follow_162 : decode cX11_follow 162 = .ok (.istore 11, 2) := by decide +kernel
theorem dX11_follow_164 : decode cX11_follow 164 = .ok (.aload 10, 2) := by decide +kernel
theorem dX11_follow_166 : decode cX11_follow 166 = .ok (.ifnull 39, 3) := by decide +kernel
theorem dX11_follow_169 : decode cX11_follow 169 = .ok (.iload 11, 2) := by decide +kernel
theorem dX11_follow_171 : decode cX11_follow 171 = .ok (.aload 5, 2) := by decide +kernel
theorem dX11_follow_173 : decode cX11_follow 173 = .ok (.getfield 147, 3) := by decide +kernel
theorem dX11_follow_176 : decode cX11_follow 176 = .ok (.if_icmp .ge 29, 3) := by decide +kernel
theorem dX11_follow_179 : decode cX11_follow 179 = .ok (.aload 10, 2) := by decide +kernel
theorem dX11_follow_181 : decode cX11_follow 181 = .ok (.aload 8, 2) := by decide +kernel
theorem dX11_follow_183 : decode cX11_follow 183 = .ok (.iload 11, 2) := by decide +kernel
theorem dX11_follow_185 : decode cX11_follow 185 = .ok (.invokevirtual 250, 3) := by decide +kernel
theorem dX11_follow_188 : decode cX11_follow 188 = .ok (.aload 5, 2) := by decide +kernel
theorem dX11_follow_190 : decode cX11_follow 190 = .ok (.iload 11, 2) := by decide +kernel
theorem dX11_follow_192 : decode cX11_follow 192 = .ok (.invokevirtual 172, 3) := by decide +kernel
theorem dX11_follow_195 : decode cX11_follow 195 = .ok (.invokevirtual 156, 3) := by decide +kernel
theorem dX11_follow_198 : decode cX11_follow 198 = .ok (.pop, 1) := by decide +kernel
theorem dX11_follow_199 : decode cX11_follow 199 = .ok (.iinc 11 1, 3) := by decide +kernel
theorem dX11_follow_202 : decode cX11_follow 202 = .ok (.goto (-38), 3) := by decide +kernel
theorem dX11_follow_205 : decode cX11_follow 205 = .ok (.iload 9, 2) := by decide +kernel
theorem dX11_follow_207 : decode cX11_follow 207 = .ok (.ireturn, 1) := by decide +kernel
theorem dX11_stop_0 : decode cX11_stop 0 = .ok (.aload_n 0, 1) := by decide +kernel
theorem dX11_stop_1 : decode cX11_stop 1 = .ok (.getfield 65, 3) := by decide +kernel
theorem dX11_stop_4 : decode cX11_stop 4 = .ok (.ireturn, 1) := by decide +kernel
theorem dX11_way_0 : decode cX11_way 0 = .ok (.aload_n 0, 1) := by decide +kernel
theorem dX11_way_1 : decode cX11_way 1 = .ok (.getfield 68, 3) := by decide +kernel
theorem dX11_way_4 : decode cX11_way 4 = .ok (.ireturn, 1) := by decide +kernel
theorem dX11_meet_0 : decode cX11_meet 0 = .ok (.aload_n 0, 1) := by decide +kernel
theorem dX11_meet_1 : decode cX11_meet 1 = .ok (.getfield 20, 3) := by decide +kernel
theorem dX11_meet_4 : decode cX11_meet 4 = .ok (.iload_n 1, 1) := by decide +kernel
theorem dX11_meet_5 : decode cX11_meet 5 = .ok (.invokevirtual 139, 3) := by decide +kernel
theorem dX11_meet_8 : decode cX11_meet 8 = .ok (.astore_n 3, 1) := by decide +kernel
theorem dX11_meet_9 : decode cX11_meet 9 = .ok (.aload_n 0, 1) := by decide +kernel
theorem dX11_meet_10 : decode cX11_meet 10 = .ok (.getfield 20, 3) := by decide +kernel
theorem dX11_meet_13 : decode cX11_meet 13 = .ok (.iload_n 2, 1) := by decide +kernel
theorem dX11_meet_14 : decode cX11_meet 14 = .ok (.invokevirtual 139, 3) := by decide +kernel
theorem dX11_meet_17 : decode cX11_meet 17 = .ok (.astore 4, 2) := by decide +kernel
theorem dX11_meet_19 : decode cX11_meet 19 = .ok (.aload_n 0, 1) := by decide +kernel
theorem dX11_meet_20 : decode cX11_meet 20 = .ok (.getfield 20, 3) := by decide +kernel
theorem dX11_meet_23 : decode cX11_meet 23 = .ok (.aload_n 3, 1) := by decide +kernel
theorem dX11_meet_24 : decode cX11_meet 24 = .ok (.invokevirtual 143, 3) := by decide +kernel
theorem dX11_meet_27 : decode cX11_meet 27 = .ok (.astore 5, 2) := by decide +kernel
theorem dX11_meet_29 : decode cX11_meet 29 = .ok (.aload_n 0, 1) := by decide +kernel
theorem dX11_meet_30 : decode cX11_meet 30 = .ok (.getfield 20, 3) := by decide +kernel
theorem dX11_meet_33 : decode cX11_meet 33 = .ok (.aload 4, 2) := by decide +kernel
theorem dX11_meet_35 : decode cX11_meet 35 = .ok (.invokevirtual 143, 3) := by decide +kernel
theorem dX11_meet_38 : decode cX11_meet 38 = .ok (.astore 6, 2) := by decide +kernel
theorem dX11_meet_40 : decode cX11_meet 40 = .ok (.aload_n 3, 1) := by decide +kernel
theorem dX11_meet_41 : decode cX11_meet 41 = .ok (.ifnull 18, 3) := by decide +kernel
theorem dX11_meet_44 : decode cX11_meet 44 = .ok (.aload 4, 2) := by decide +kernel
theorem dX11_meet_46 : decode cX11_meet 46 = .ok (.ifnull 13, 3) := by decide +kernel
theorem dX11_meet_49 : decode cX11_meet 49 = .ok (.aload 5, 2) := by decide +kernel
theorem dX11_meet_51 : decode cX11_meet 51 = .ok (.ifnull 8, 3) := by decide +kernel
theorem dX11_meet_54 : decode cX11_meet 54 = .ok (.aload 6, 2) := by decide +kernel
theorem dX11_meet_56 : decode cX11_meet 56 = .ok (.ifnonnull 5, 3) := by decide +kernel
theorem dX11_meet_59 : decode cX11_meet 59 = .ok (.iconst (-1), 1) := by decide +kernel
theorem dX11_meet_60 : decode cX11_meet 60 = .ok (.ireturn, 1) := by decide +kernel
theorem dX11_meet_61 : decode cX11_meet 61 = .ok (.aload_n 3, 1) := by decide +kernel
theorem dX11_meet_62 : decode cX11_meet 62 = .ok (.getfield 184, 3) := by decide +kernel
theorem dX11_meet_65 : decode cX11_meet 65 = .ok (.ifCond .ne 27, 3) := by decide +kernel
theorem dX11_meet_68 : decode cX11_meet 68 = .ok (.aload 4, 2) := by decide +kernel
theorem dX11_meet_70 : decode cX11_meet 70 = .ok (.getfield 184, 3) := by decide +kernel
theorem dX11_meet_73 : decode cX11_meet 73 = .ok (.iconst 1, 1) := by decide +kernel
theorem dX11_meet_74 : decode cX11_meet 74 = .ok (.if_icmp .ne 18, 3) := by decide +kernel
theorem dX11_meet_77 : decode cX11_meet 77 = .ok (.aload_n 3, 1) := by decide +kernel
theorem dX11_meet_78 : decode cX11_meet 78 = .ok (.getfield 147, 3) := by decide +kernel
theorem dX11_meet_81 : decode cX11_meet 81 = .ok (.ifCond .eq 11, 3) := by decide +kernel
theorem dX11_meet_84 : decode cX11_meet 84 = .ok (.aload 4, 2) := by decide +kernel
theorem dX11_meet_86 : decode cX11_meet 86 = .ok (.getfield 147, 3) := by decide +kernel
theorem dX11_meet_89 : decode cX11_meet 89 = .ok (.ifCond .ne 5, 3) := by decide +kernel
theorem dX11_meet_92 : decode cX11_meet 92 = .ok (.iconst (-1), 1) := by decide +kernel
theorem dX11_meet_93 : decode cX11_meet 93 = .ok (.ireturn, 1) := by decide +kernel
theorem dX11_meet_94 : decode cX11_meet 94 = .ok (.aload_n 0, 1) := by decide +kernel
theorem dX11_meet_95 : decode cX11_meet 95 = .ok (.getfield 50, 3) := by decide +kernel
theorem dX11_meet_98 : decode cX11_meet 98 = .ok (.aload_n 3, 1) := by decide +kernel
theorem dX11_meet_99 : decode cX11_meet 99 = .ok (.aload 5, 2) := by decide +kernel
theorem dX11_meet_101 : decode cX11_meet 101 = .ok (.aload 4, 2) := by decide +kernel
theorem dX11_meet_103 : decode cX11_meet 103 = .ok (.aload 6, 2) := by decide +kernel
theorem dX11_meet_105 : decode cX11_meet 105 = .ok (.invokevirtual 251, 3) := by decide +kernel
theorem dX11_meet_108 : decode cX11_meet 108 = .ok (.ireturn, 1) := by decide +kernel
theorem dX11_met_0 : decode cX11_met 0 = .ok (.aload_n 0, 1) := by decide +kernel
theorem dX11_met_1 : decode cX11_met 1 = .ok (.getfield 50, 3) := by decide +kernel
theorem dX11_met_4 : decode cX11_met 4 = .ok (.iload_n 1, 1) := by decide +kernel
theorem dX11_met_5 : decode cX11_met 5 = .ok (.invokevirtual 254, 3) := by decide +kernel
theorem dX11_met_8 : decode cX11_met 8 = .ok (.ireturn, 1) := by decide +kernel
theorem dX11_share_0 : decode cX11_share 0 = .ok (.iload_n 2, 1) := by decide +kernel
theorem dX11_share_1 : decode cX11_share 1 = .ok (.invokestatic 230, 3) := by decide +kernel
theorem dX11_share_4 : decode cX11_share 4 = .ok (.ifCond .eq 23, 3) := by decide +kernel
theorem dX11_share_7 : decode cX11_share 7 = .ok (.iload_n 3, 1) := by decide +kernel
theorem dX11_share_8 : decode cX11_share 8 = .ok (.iconst 0, 1) := by decide +kernel
theorem dX11_share_9 : decode cX11_share 9 = .ok (.iconst 1, 1) := by decide +kernel
theorem dX11_share_10 : decode cX11_share 10 = .ok (.invokestatic 94, 3) := by decide +kernel
theorem dX11_share_13 : decode cX11_share 13 = .ok (.ifCond .eq 14, 3) := by decide +kernel
theorem dX11_share_16 : decode cX11_share 16 = .ok (.aload_n 0, 1) := by decide +kernel
theorem dX11_share_17 : decode cX11_share 17 = .ok (.getfield 20, 3) := by decide +kernel
theorem dX11_share_20 : decode cX11_share 20 = .ok (.iload_n 1, 1) := by decide +kernel
theorem dX11_share_21 : decode cX11_share 21 = .ok (.invokevirtual 257, 3) := by decide +kernel
theorem dX11_share_24 : decode cX11_share 24 = .ok (.ifCond .ne 5, 3) := by decide +kernel
theorem dX11_share_27 : decode cX11_share 27 = .ok (.iconst (-1), 1) := by decide +kernel
theorem dX11_share_28 : decode cX11_share 28 = .ok (.ireturn, 1) := by decide +kernel
theorem dX11_share_29 : decode cX11_share 29 = .ok (.aload_n 0, 1) := by decide +kernel
theorem dX11_share_30 : decode cX11_share 30 = .ok (.getfield 57, 3) := by decide +kernel
theorem dX11_share_33 : decode cX11_share 33 = .ok (.aload_n 0, 1) := by decide +kernel
theorem dX11_share_34 : decode cX11_share 34 = .ok (.getfield 20, 3) := by decide +kernel
theorem dX11_share_37 : decode cX11_share 37 = .ok (.aload_n 0, 1) := by decide +kernel
theorem dX11_share_38 : decode cX11_share 38 = .ok (.invokevirtual 234, 3) := by decide +kernel
theorem dX11_share_41 : decode cX11_share 41 = .ok (.iload_n 1, 1) := by decide +kernel
theorem dX11_share_42 : decode cX11_share 42 = .ok (.iload_n 2, 1) := by decide +kernel
theorem dX11_share_43 : decode cX11_share 43 = .ok (.invokevirtual 260, 3) := by decide +kernel
theorem dX11_share_46 : decode cX11_share 46 = .ok (.iload_n 3, 1) := by decide +kernel
theorem dX11_share_47 : decode cX11_share 47 = .ok (.ifCond .ne 13, 3) := by decide +kernel
theorem dX11_share_50 : decode cX11_share 50 = .ok (.aload_n 0, 1) := by decide +kernel
theorem dX11_share_51 : decode cX11_share 51 = .ok (.getfield 57, 3) := by decide +kernel
theorem dX11_share_54 : decode cX11_share 54 = .ok (.getfield 263, 3) := by decide +kernel
theorem dX11_share_57 : decode cX11_share 57 = .ok (.goto 10, 3) := by decide +kernel
theorem dX11_share_60 : decode cX11_share 60 = .ok (.aload_n 0, 1) := by decide +kernel
theorem dX11_share_61 : decode cX11_share 61 = .ok (.getfield 57, 3) := by decide +kernel
theorem dX11_share_64 : decode cX11_share 64 = .ok (.getfield 266, 3) := by decide +kernel
theorem dX11_share_67 : decode cX11_share 67 = .ok (.ireturn, 1) := by decide +kernel
theorem dX11_wear_0 : decode cX11_wear 0 = .ok (.aload_n 0, 1) := by decide +kernel
theorem dX11_wear_1 : decode cX11_wear 1 = .ok (.getfield 20, 3) := by decide +kernel
theorem dX11_wear_4 : decode cX11_wear 4 = .ok (.iload_n 1, 1) := by decide +kernel
theorem dX11_wear_5 : decode cX11_wear 5 = .ok (.invokevirtual 104, 3) := by decide +kernel
theorem dX11_wear_8 : decode cX11_wear 8 = .ok (.astore 6, 2) := by decide +kernel
theorem dX11_wear_10 : decode cX11_wear 10 = .ok (.aload 6, 2) := by decide +kernel
theorem dX11_wear_12 : decode cX11_wear 12 = .ok (.ifnull 27, 3) := by decide +kernel
theorem dX11_wear_15 : decode cX11_wear 15 = .ok (.iload_n 2, 1) := by decide +kernel
theorem dX11_wear_16 : decode cX11_wear 16 = .ok (.iconst 0, 1) := by decide +kernel
theorem dX11_wear_17 : decode cX11_wear 17 = .ok (.aload 6, 2) := by decide +kernel
theorem dX11_wear_19 : decode cX11_wear 19 = .ok (.getfield 121, 3) := by decide +kernel
theorem dX11_wear_22 : decode cX11_wear 22 = .ok (.iconst 1, 1) := by decide +kernel
theorem dX11_wear_23 : decode cX11_wear 23 = .ok (.isub, 1) := by decide +kernel
theorem dX11_wear_24 : decode cX11_wear 24 = .ok (.invokestatic 94, 3) := by decide +kernel
theorem dX11_wear_27 : decode cX11_wear 27 = .ok (.ifCond .eq 12, 3) := by decide +kernel
theorem dX11_wear_30 : decode cX11_wear 30 = .ok (.iload_n 3, 1) := by decide +kernel
theorem dX11_wear_31 : decode cX11_wear 31 = .ok (.iconst 0, 1) := by decide +kernel
theorem dX11_wear_32 : decode cX11_wear 32 = .ok (.iconst 1, 1) := by decide +kernel
theorem dX11_wear_33 : decode cX11_wear 33 = .ok (.invokestatic 94, 3) := by decide +kernel
theorem dX11_wear_36 : decode cX11_wear 36 = .ok (.ifCond .ne 5, 3) := by decide +kernel
theorem dX11_wear_39 : decode cX11_wear 39 = .ok (.iconst 0, 1) := by decide +kernel
theorem dX11_wear_40 : decode cX11_wear 40 = .ok (.ireturn, 1) := by decide +kernel
theorem dX11_wear_41 : decode cX11_wear 41 = .ok (.iload 4, 2) := by decide +kernel
theorem dX11_wear_43 : decode cX11_wear 43 = .ok (.iconst 0, 1) := by decide +kernel
theorem dX11_wear_44 : decode cX11_wear 44 = .ok (.iconst 3, 1) := by decide +kernel
theorem dX11_wear_45 : decode cX11_wear 45 = .ok (.invokestatic 94, 3) := by decide +kernel
theorem dX11_wear_48 : decode cX11_wear 48 = .ok (.ifCond .eq 14, 3) := by decide +kernel
theorem dX11_wear_51 : decode cX11_wear 51 = .ok (.iload 5, 2) := by decide +kernel
theorem dX11_wear_53 : decode cX11_wear 53 = .ok (.iconst 0, 1) := by decide +kernel
theorem dX11_wear_54 : decode cX11_wear 54 = .ok (.bipush 39, 2) := by decide +kernel
theorem dX11_wear_56 : decode cX11_wear 56 = .ok (.invokestatic 94, 3) := by decide +kernel
theorem dX11_wear_59 : decode cX11_wear 59 = .ok (.ifCond .ne 5, 3) := by decide +kernel
theorem dX11_wear_62 : decode cX11_wear 62 = .ok (.iconst 0, 1) := by decide +kernel
theorem dX11_wear_63 : decode cX11_wear 63 = .ok (.ireturn, 1) := by decide +kernel
theorem dX11_wear_64 : decode cX11_wear 64 = .ok (.aload 6, 2) := by decide +kernel
theorem dX11_wear_66 : decode cX11_wear 66 = .ok (.iload_n 2, 1) := by decide +kernel
theorem dX11_wear_67 : decode cX11_wear 67 = .ok (.iload_n 3, 1) := by decide +kernel
theorem dX11_wear_68 : decode cX11_wear 68 = .ok (.iload 4, 2) := by decide +kernel
theorem dX11_wear_70 : decode cX11_wear 70 = .ok (.iload 5, 2) := by decide +kernel
theorem dX11_wear_72 : decode cX11_wear 72 = .ok (.invokevirtual 269, 3) := by decide +kernel
theorem dX11_wear_75 : decode cX11_wear 75 = .ok (.iconst 1, 1) := by decide +kernel
theorem dX11_wear_76 : decode cX11_wear 76 = .ok (.ireturn, 1) := by decide +kernel
theorem dX11_suspects_0 : decode cX11_suspects 0 = .ok (.iload 4, 2) := by decide +kernel
theorem dX11_suspects_2 : decode cX11_suspects 2 = .ok (.iconst 0, 1) := by decide +kernel
theorem dX11_suspects_3 : decode cX11_suspects 3 = .ok (.iconst 5, 1) := by decide +kernel
theorem dX11_suspects_4 : decode cX11_suspects 4 = .ok (.invokestatic 94, 3) := by decide +kernel
theorem dX11_suspects_7 : decode cX11_suspects 7 = .ok (.ifCond .eq 13, 3) := by decide +kernel
theorem dX11_suspects_10 : decode cX11_suspects 10 = .ok (.aload_n 0, 1) := by decide +kernel
theorem dX11_suspects_11 : decode cX11_suspects 11 = .ok (.iload_n 1, 1) := by decide +kernel
theorem dX11_suspects_12 : decode cX11_suspects 12 = .ok (.iload_n 2, 1) := by decide +kernel
theorem dX11_suspects_13 : decode cX11_suspects 13 = .ok (.iload_n 3, 1) := by decide +kernel
theorem dX11_suspects_14 : decode cX11_suspects 14 = .ok (.invokevirtual 187, 3) := by decide +kernel
theorem dX11_suspects_17 : decode cX11_suspects 17 = .ok (.goto 4, 3) := by decide +kernel
theorem dX11_suspects_20 : decode cX11_suspects 20 = .ok (.aconst_null, 1) := by decide +kernel
theorem dX11_suspects_21 : decode cX11_suspects 21 = .ok (.astore 5, 2) := by decide +kernel
theorem dX11_suspects_23 : decode cX11_suspects 23 = .ok (.aload 5, 2) := by decide +kernel
theorem dX11_suspects_25 : decode cX11_suspects 25 = .ok (.ifnonnull 6, 3) := by decide +kernel
theorem dX11_suspects_28 : decode cX11_suspects 28 = .ok (.bipush (-2), 2) := by decide +kernel
theorem dX11_suspects_30 : decode cX11_suspects 30 = .ok (.ireturn, 1) := by decide +kernel
theorem dX11_suspects_31 : decode cX11_suspects 31 = .ok (.aload_n 0, 1) := by decide +kernel
theorem dX11_suspects_32 : decode cX11_suspects 32 = .ok (.getfield 43, 3) := by decide +kernel
theorem dX11_suspects_35 : decode cX11_suspects 35 = .ok (.aload_n 0, 1) := by decide +kernel
theorem dX11_suspects_36 : decode cX11_suspects 36 = .ok (.getfield 36, 3) := by decide +kernel
theorem dX11_suspects_39 : decode cX11_suspects 39 = .ok (.aload 5, 2) := by decide +kernel
theorem dX11_suspects_41 : decode cX11_suspects 41 = .ok (.invokevirtual 272, 3) := by decide +kernel
theorem dX11_suspects_44 : decode cX11_suspects 44 = .ok (.aload_n 0, 1) := by decide +kernel
theorem dX11_suspects_45 : decode cX11_suspects 45 = .ok (.getfield 43, 3) := by decide +kernel
theorem dX11_suspects_48 : decode cX11_suspects 48 = .ok (.iload 4, 2) := by decide +kernel
theorem dX11_suspects_50 : decode cX11_suspects 50 = .ok (.invokevirtual 275, 3) := by decide +kernel
theorem dX11_suspects_53 : decode cX11_suspects 53 = .ok (.ireturn, 1) := by decide +kernel
theorem dX11_anew_0 : decode cX11_anew 0 = .ok (.iload 4, 2) := by decide +kernel
theorem dX11_anew_2 : decode cX11_anew 2 = .ok (.iconst 1, 1) := by decide +kernel
theorem dX11_anew_3 : decode cX11_anew 3 = .ok (.bipush 99, 2) := by decide +kernel
theorem dX11_anew_5 : decode cX11_anew 5 = .ok (.invokestatic 94, 3) := by decide +kernel
theorem dX11_anew_8 : decode cX11_anew 8 = .ok (.ifCond .eq 23, 3) := by decide +kernel
theorem dX11_anew_11 : decode cX11_anew 11 = .ok (.iload 5, 2) := by decide +kernel
theorem dX11_anew_13 : decode cX11_anew 13 = .ok (.iconst 0, 1) := by decide +kernel
theorem dX11_anew_14 : decode cX11_anew 14 = .ok (.iconst 1, 1) := by decide +kernel
theorem dX11_anew_15 : decode cX11_anew 15 = .ok (.invokestatic 94, 3) := by decide +kernel
theorem dX11_anew_18 : decode cX11_anew 18 = .ok (.ifCond .eq 13, 3) := by decide +kernel
theorem dX11_anew_21 : decode cX11_anew 21 = .ok (.aload_n 0, 1) := by decide +kernel
theorem dX11_anew_22 : decode cX11_anew 22 = .ok (.iload_n 1, 1) := by decide +kernel
theorem dX11_anew_23 : decode cX11_anew 23 = .ok (.iload_n 2, 1) := by decide +kernel
theorem dX11_anew_24 : decode cX11_anew 24 = .ok (.iload_n 3, 1) := by decide +kernel
theorem dX11_anew_25 : decode cX11_anew 25 = .ok (.invokevirtual 187, 3) := by decide +kernel
theorem dX11_anew_28 : decode cX11_anew 28 = .ok (.ifnonnull 5, 3) := by decide +kernel
theorem dX11_anew_31 : decode cX11_anew 31 = .ok (.iconst (-1), 1) := by decide +kernel
theorem dX11_anew_32 : decode cX11_anew 32 = .ok (.ireturn, 1) := by decide +kernel
theorem dX11_anew_33 : decode cX11_anew 33 = .ok (.aload_n 0, 1) := by decide +kernel
theorem dX11_anew_34 : decode cX11_anew 34 = .ok (.getfield 36, 3) := by decide +kernel
theorem dX11_anew_37 : decode cX11_anew 37 = .ok (.invokevirtual 278, 3) := by decide +kernel
theorem dX11_anew_40 : decode cX11_anew 40 = .ok (.aload_n 0, 1) := by decide +kernel
theorem dX11_anew_41 : decode cX11_anew 41 = .ok (.getfield 29, 3) := by decide +kernel
theorem dX11_anew_44 : decode cX11_anew 44 = .ok (.aload_n 0, 1) := by decide +kernel
theorem dX11_anew_45 : decode cX11_anew 45 = .ok (.getfield 36, 3) := by decide +kernel
theorem dX11_anew_48 : decode cX11_anew 48 = .ok (.iload 4, 2) := by decide +kernel
theorem dX11_anew_50 : decode cX11_anew 50 = .ok (.invokevirtual 281, 3) := by decide +kernel
theorem dX11_anew_53 : decode cX11_anew 53 = .ok (.ifCond .ne 6, 3) := by decide +kernel
theorem dX11_anew_56 : decode cX11_anew 56 = .ok (.bipush (-2), 2) := by decide +kernel
theorem dX11_anew_58 : decode cX11_anew 58 = .ok (.ireturn, 1) := by decide +kernel
theorem dX11_anew_59 : decode cX11_anew 59 = .ok (.iload 5, 2) := by decide +kernel
theorem dX11_anew_61 : decode cX11_anew 61 = .ok (.ifCond .ne 13, 3) := by decide +kernel
theorem dX11_anew_64 : decode cX11_anew 64 = .ok (.aload_n 0, 1) := by decide +kernel
theorem dX11_anew_65 : decode cX11_anew 65 = .ok (.getfield 29, 3) := by decide +kernel
theorem dX11_anew_68 : decode cX11_anew 68 = .ok (.getfield 285, 3) := by decide +kernel
theorem dX11_anew_71 : decode cX11_anew 71 = .ok (.goto 10, 3) := by decide +kernel
theorem dX11_anew_74 : decode cX11_anew 74 = .ok (.aload_n 0, 1) := by decide +kernel
theorem dX11_anew_75 : decode cX11_anew 75 = .ok (.getfield 29, 3) := by decide +kernel
theorem dX11_anew_78 : decode cX11_anew 78 = .ok (.getfield 288, 3) := by decide +kernel
theorem dX11_anew_81 : decode cX11_anew 81 = .ok (.ireturn, 1) := by decide +kernel
theorem dX11_apart_0 : decode cX11_apart 0 = .ok (.aload_n 0, 1) := by decide +kernel
theorem dX11_apart_1 : decode cX11_apart 1 = .ok (.getfield 20, 3) := by decide +kernel
theorem dX11_apart_4 : decode cX11_apart 4 = .ok (.iload_n 1, 1) := by decide +kernel
theorem dX11_apart_5 : decode cX11_apart 5 = .ok (.invokevirtual 139, 3) := by decide +kernel
theorem dX11_apart_8 : decode cX11_apart 8 = .ok (.astore 4, 2) := by decide +kernel
theorem dX11_apart_10 : decode cX11_apart 10 = .ok (.aload_n 0, 1) := by decide +kernel
theorem dX11_apart_11 : decode cX11_apart 11 = .ok (.getfield 20, 3) := by decide +kernel
theorem dX11_apart_14 : decode cX11_apart 14 = .ok (.iload_n 2, 1) := by decide +kernel
theorem dX11_apart_15 : decode cX11_apart 15 = .ok (.invokevirtual 139, 3) := by decide +kernel
theorem dX11_apart_18 : decode cX11_apart 18 = .ok (.astore 5, 2) := by decide +kernel
theorem dX11_apart_20 : decode cX11_apart 20 = .ok (.aload 4, 2) := by decide +kernel
theorem dX11_apart_22 : decode cX11_apart 22 = .ok (.ifnull 17, 3) := by decide +kernel
theorem dX11_apart_25 : decode cX11_apart 25 = .ok (.aload 5, 2) := by decide +kernel
theorem dX11_apart_27 : decode cX11_apart 27 = .ok (.ifnull 12, 3) := by decide +kernel
theorem dX11_apart_30 : decode cX11_apart 30 = .ok (.iload_n 3, 1) := by decide +kernel
theorem dX11_apart_31 : decode cX11_apart 31 = .ok (.iconst 0, 1) := by decide +kernel
theorem dX11_apart_32 : decode cX11_apart 32 = .ok (.iconst 1, 1) := by decide +kernel
theorem dX11_apart_33 : decode cX11_apart 33 = .ok (.invokestatic 94, 3) := by decide +kernel
theorem dX11_apart_36 : decode cX11_apart 36 = .ok (.ifCond .ne 5, 3) := by decide +kernel
theorem dX11_apart_39 : decode cX11_apart 39 = .ok (.iconst (-1), 1) := by decide +kernel
theorem dX11_apart_40 : decode cX11_apart 40 = .ok (.ireturn, 1) := by decide +kernel
theorem dX11_apart_41 : decode cX11_apart 41 = .ok (.iconst (-1), 1) := by decide +kernel
theorem dX11_apart_42 : decode cX11_apart 42 = .ok (.istore 6, 2) := by decide +kernel
theorem dX11_apart_44 : decode cX11_apart 44 = .ok (.iconst (-1), 1) := by decide +kernel
theorem dX11_apart_45 : decode cX11_apart 45 = .ok (.istore 7, 2) := by decide +kernel
theorem dX11_apart_47 : decode cX11_apart 47 = .ok (.iconst 0, 1) := by decide +kernel
theorem dX11_apart_48 : decode cX11_apart 48 = .ok (.istore 8, 2) := by decide +kernel
theorem dX11_apart_50 : decode cX11_apart 50 = .ok (.iload 8, 2) := by decide +kernel
theorem dX11_apart_52 : decode cX11_apart 52 = .ok (.aload 4, 2) := by decide +kernel
theorem dX11_apart_54 : decode cX11_apart 54 = .ok (.getfield 147, 3) := by decide +kernel
theorem dX11_apart_57 : decode cX11_apart 57 = .ok (.if_icmp .ge 46, 3) := by decide +kernel
theorem dX11_apart_60 : decode cX11_apart 60 = .ok (.iload 8, 2) := by decide +kernel
theorem dX11_apart_62 : decode cX11_apart 62 = .ok (.aload 5, 2) := by decide +kernel
theorem dX11_apart_64 : decode cX11_apart 64 = .ok (.getfield 147, 3) := by decide +kernel
theorem dX11_apart_67 : decode cX11_apart 67 = .ok (.if_icmp .ge 36, 3) := by decide +kernel
theorem dX11_apart_70 : decode cX11_apart 70 = .ok (.aload_n 0, 1) := by decide +kernel
theorem dX11_apart_71 : decode cX11_apart 71 = .ok (.aload 4, 2) := by decide +kernel
theorem dX11_apart_73 : decode cX11_apart 73 = .ok (.aload 5, 2) := by decide +kernel
theorem dX11_apart_75 : decode cX11_apart 75 = .ok (.iload 8, 2) := by decide +kernel
theorem dX11_apart_77 : decode cX11_apart 77 = .ok (.invokevirtual 291, 3) := by decide +kernel
theorem dX11_apart_80 : decode cX11_apart 80 = .ok (.istore 9, 2) := by decide +kernel
theorem dX11_apart_82 : decode cX11_apart 82 = .ok (.iload 9, 2) := by decide +kernel
theorem dX11_apart_84 : decode cX11_apart 84 = .ok (.iload 6, 2) := by decide +kernel
theorem dX11_apart_86 : decode cX11_apart 86 = .ok (.if_icmp .le 11, 3) := by decide +kernel
theorem dX11_apart_89 : decode cX11_apart 89 = .ok (.iload 9, 2) := by decide +kernel
theorem dX11_apart_91 : decode cX11_apart 91 = .ok (.istore 6, 2) := by decide +kernel
theorem dX11_apart_93 : decode cX11_apart 93 = .ok (.iload 8, 2) := by decide +kernel
theorem dX11_apart_95 : decode cX11_apart 95 = .ok (.istore 7, 2) := by decide +kernel
theorem dX11_apart_97 : decode cX11_apart 97 = .ok (.iinc 8 1, 3) := by decide +kernel
theorem dX11_apart_100 : decode cX11_apart 100 = .ok (.goto (-50), 3) := by decide +kernel
theorem dX11_apart_103 : decode cX11_apart 103 = .ok (.iload_n 3, 1) := by decide +kernel
theorem dX11_apart_104 : decode cX11_apart 104 = .ok (.ifCond .ne 8, 3) := by decide +kernel
theorem dX11_apart_107 : decode cX11_apart 107 = .ok (.iload 6, 2) := by decide +kernel
theorem dX11_apart_109 : decode cX11_apart 109 = .ok (.goto 5, 3) := by decide +kernel
theorem dX11_apart_112 : decode cX11_apart 112 = .ok (.iload 7, 2) := by decide +kernel
theorem dX11_apart_114 : decode cX11_apart 114 = .ok (.ireturn, 1) := by decide +kernel
theorem dX11_count_0 : decode cX11_count 0 = .ok (.iload_n 1, 1) := by decide +kernel
theorem dX11_count_1 : decode cX11_count 1 = .ok (.tableswitch 91 0 5 #[39, 47, 55, 63, 78, 86], 39) := by decide +kernel
theorem dX11_count_40 : decode cX11_count 40 = .ok (.aload_n 0, 1) := by decide +kernel
theorem dX11_count_41 : decode cX11_count 41 = .ok (.getfield 20, 3) := by decide +kernel
theorem dX11_count_44 : decode cX11_count 44 = .ok (.getfield 295, 3) := by decide +kernel
theorem dX11_count_47 : decode cX11_count 47 = .ok (.ireturn, 1) := by decide +kernel
theorem dX11_count_48 : decode cX11_count 48 = .ok (.aload_n 0, 1) := by decide +kernel
theorem dX11_count_49 : decode cX11_count 49 = .ok (.getfield 20, 3) := by decide +kernel
theorem dX11_count_52 : decode cX11_count 52 = .ok (.getfield 298, 3) := by decide +kernel
theorem dX11_count_55 : decode cX11_count 55 = .ok (.ireturn, 1) := by decide +kernel
theorem dX11_count_56 : decode cX11_count 56 = .ok (.aload_n 0, 1) := by decide +kernel
theorem dX11_count_57 : decode cX11_count 57 = .ok (.getfield 20, 3) := by decide +kernel
theorem dX11_count_60 : decode cX11_count 60 = .ok (.invokevirtual 301, 3) := by decide +kernel
theorem dX11_count_63 : decode cX11_count 63 = .ok (.ireturn, 1) := by decide +kernel
theorem dX11_count_64 : decode cX11_count 64 = .ok (.aload_n 0, 1) := by decide +kernel
theorem dX11_count_65 : decode cX11_count 65 = .ok (.getfield 29, 3) := by decide +kernel
theorem dX11_count_68 : decode cX11_count 68 = .ok (.iconst 0, 1) := by decide +kernel
theorem dX11_count_69 : decode cX11_count 69 = .ok (.iconst 0, 1) := by decide +kernel
theorem dX11_count_70 : decode cX11_count 70 = .ok (.bipush 15, 2) := by decide +kernel
theorem dX11_count_72 : decode cX11_count 72 = .ok (.bipush 15, 2) := by decide +kernel
theorem dX11_count_74 : decode cX11_count 74 = .ok (.iconst 2, 1) := by decide +kernel
theorem dX11_count_75 : decode cX11_count 75 = .ok (.invokevirtual 211, 3) := by decide +kernel
theorem dX11_count_78 : decode cX11_count 78 = .ok (.ireturn, 1) := by decide +kernel
theorem dX11_count_79 : decode cX11_count 79 = .ok (.aload_n 0, 1) := by decide +kernel
theorem dX11_count_80 : decode cX11_count 80 = .ok (.getfield 29, 3) := by decide +kernel
theorem dX11_count_83 : decode cX11_count 83 = .ok (.invokevirtual 221, 3) := by decide +kernel
theorem dX11_count_86 : decode cX11_count 86 = .ok (.ireturn, 1) := by decide +kernel
theorem dX11_count_87 : decode cX11_count 87 = .ok (.aload_n 0, 1) := by decide +kernel
theorem dX11_count_88 : decode cX11_count 88 = .ok (.getfield 61, 3) := by decide +kernel
theorem dX11_count_91 : decode cX11_count 91 = .ok (.ireturn, 1) := by decide +kernel
theorem dX11_count_92 : decode cX11_count 92 = .ok (.iconst (-1), 1) := by decide +kernel
theorem dX11_count_93 : decode cX11_count 93 = .ok (.ireturn, 1) := by decide +kernel
theorem dX11_aimed_0 : decode cX11_aimed 0 = .ok (.aload_n 0, 1) := by decide +kernel
theorem dX11_aimed_1 : decode cX11_aimed 1 = .ok (.getfield 20, 3) := by decide +kernel
theorem dX11_aimed_4 : decode cX11_aimed 4 = .ok (.iload_n 1, 1) := by decide +kernel
theorem dX11_aimed_5 : decode cX11_aimed 5 = .ok (.invokevirtual 139, 3) := by decide +kernel
theorem dX11_aimed_8 : decode cX11_aimed 8 = .ok (.astore 4, 2) := by decide +kernel
theorem dX11_aimed_10 : decode cX11_aimed 10 = .ok (.aload_n 0, 1) := by decide +kernel
theorem dX11_aimed_11 : decode cX11_aimed 11 = .ok (.getfield 20, 3) := by decide +kernel
theorem dX11_aimed_14 : decode cX11_aimed 14 = .ok (.aload 4, 2) := by decide +kernel
theorem dX11_aimed_16 : decode cX11_aimed 16 = .ok (.invokevirtual 143, 3) := by decide +kernel
theorem dX11_aimed_19 : decode cX11_aimed 19 = .ok (.astore 5, 2) := by decide +kernel
theorem dX11_aimed_21 : decode cX11_aimed 21 = .ok (.aload 4, 2) := by decide +kernel
theorem dX11_aimed_23 : decode cX11_aimed 23 = .ok (.ifnull 28, 3) := by decide +kernel
theorem dX11_aimed_26 : decode cX11_aimed 26 = .ok (.aload 5, 2) := by decide +kernel
theorem dX11_aimed_28 : decode cX11_aimed 28 = .ok (.ifnull 23, 3) := by decide +kernel
theorem dX11_aimed_31 : decode cX11_aimed 31 = .ok (.iload_n 2, 1) := by decide +kernel
theorem dX11_aimed_32 : decode cX11_aimed 32 = .ok (.invokestatic 227, 3) := by decide +kernel
theorem dX11_aimed_35 : decode cX11_aimed 35 = .ok (.ifCond .eq 16, 3) := by decide +kernel
theorem dX11_aimed_38 : decode cX11_aimed 38 = .ok (.iload_n 3, 1) := by decide +kernel
theorem dX11_aimed_39 : decode cX11_aimed 39 = .ok (.sipush (-20000), 3) := by decide +kernel
theorem dX11_aimed_42 : decode cX11_aimed 42 = .ok (.sipush 20000, 3) := by decide +kernel
theorem dX11_aimed_45 : decode cX11_aimed 45 = .ok (.invokestatic 94, 3) := by decide +kernel
theorem dX11_aimed_48 : decode cX11_aimed 48 = .ok (.ifCond .ne 5, 3) := by decide +kernel
theorem dX11_aimed_51 : decode cX11_aimed 51 = .ok (.aconst_null, 1) := by decide +kernel
theorem dX11_aimed_52 : decode cX11_aimed 52 = .ok (.areturn, 1) := by decide +kernel
theorem dX11_aimed_53 : decode cX11_aimed 53 = .ok (.aload_n 0, 1) := by decide +kernel
theorem dX11_aimed_54 : decode cX11_aimed 54 = .ok (.getfield 36, 3) := by decide +kernel
theorem dX11_aimed_57 : decode cX11_aimed 57 = .ok (.aload 5, 2) := by decide +kernel
theorem dX11_aimed_59 : decode cX11_aimed 59 = .ok (.aload 4, 2) := by decide +kernel
theorem dX11_aimed_61 : decode cX11_aimed 61 = .ok (.iload_n 2, 1) := by decide +kernel
theorem dX11_aimed_62 : decode cX11_aimed 62 = .ok (.iload_n 3, 1) := by decide +kernel
theorem dX11_aimed_63 : decode cX11_aimed 63 = .ok (.aload_n 0, 1) := by decide +kernel
theorem dX11_aimed_64 : decode cX11_aimed 64 = .ok (.getfield 61, 3) := by decide +kernel
theorem dX11_aimed_67 : decode cX11_aimed 67 = .ok (.invokevirtual 304, 3) := by decide +kernel
theorem dX11_aimed_70 : decode cX11_aimed 70 = .ok (.aload 5, 2) := by decide +kernel
theorem dX11_aimed_72 : decode cX11_aimed 72 = .ok (.areturn, 1) := by decide +kernel
theorem dX11_readyFollower_0 : decode cX11_readyFollower 0 = .ok (.aload_n 0, 1) := by decide +kernel
theorem dX11_readyFollower_1 : decode cX11_readyFollower 1 = .ok (.getfield 308, 3) := by decide +kernel
theorem dX11_readyFollower_4 : decode cX11_readyFollower 4 = .ok (.ifnonnull 14, 3) := by decide +kernel
theorem dX11_readyFollower_7 : decode cX11_readyFollower 7 = .ok (.aload_n 0, 1) := by decide +kernel
theorem dX11_readyFollower_8 : decode cX11_readyFollower 8 = .ok (.new 239, 3) := by decide +kernel
theorem dX11_readyFollower_11 : decode cX11_readyFollower 11 = .ok (.dup, 1) := by decide +kernel
theorem dX11_readyFollower_12 : decode cX11_readyFollower 12 = .ok (.invokespecial 312, 3) := by decide +kernel
theorem dX11_readyFollower_15 : decode cX11_readyFollower 15 = .ok (.putfield 308, 3) := by decide +kernel
theorem dX11_readyFollower_18 : decode cX11_readyFollower 18 = .ok (.aload_n 0, 1) := by decide +kernel
theorem dX11_readyFollower_19 : decode cX11_readyFollower 19 = .ok (.getfield 308, 3) := by decide +kernel
theorem dX11_readyFollower_22 : decode cX11_readyFollower 22 = .ok (.areturn, 1) := by decide +kernel
theorem dX11_tipsApart_0 : decode cX11_tipsApart 0 = .ok (.aload_n 0, 1) := by decide +kernel
theorem dX11_tipsApart_1 : decode cX11_tipsApart 1 = .ok (.getfield 20, 3) := by decide +kernel
theorem dX11_tipsApart_4 : decode cX11_tipsApart 4 = .ok (.aload_n 1, 1) := by decide +kernel
theorem dX11_tipsApart_5 : decode cX11_tipsApart 5 = .ok (.invokevirtual 143, 3) := by decide +kernel
theorem dX11_tipsApart_8 : decode cX11_tipsApart 8 = .ok (.astore 4, 2) := by decide +kernel
theorem dX11_tipsApart_10 : decode cX11_tipsApart 10 = .ok (.aload_n 0, 1) := by decide +kernel
theorem dX11_tipsApart_11 : decode cX11_tipsApart 11 = .ok (.getfield 20, 3) := by decide +kernel
theorem dX11_tipsApart_14 : decode cX11_tipsApart 14 = .ok (.aload_n 2, 1) := by decide +kernel
theorem dX11_tipsApart_15 : decode cX11_tipsApart 15 = .ok (.invokevirtual 143, 3) := by decide +kernel
theorem dX11_tipsApart_18 : decode cX11_tipsApart 18 = .ok (.astore 5, 2) := by decide +kernel
theorem dX11_tipsApart_20 : decode cX11_tipsApart 20 = .ok (.aload 4, 2) := by decide +kernel
theorem dX11_tipsApart_22 : decode cX11_tipsApart 22 = .ok (.ifnull 8, 3) := by decide +kernel
theorem dX11_tipsApart_25 : decode cX11_tipsApart 25 = .ok (.aload 5, 2) := by decide +kernel
theorem dX11_tipsApart_27 : decode cX11_tipsApart 27 = .ok (.ifnonnull 5, 3) := by decide +kernel
theorem dX11_tipsApart_30 : decode cX11_tipsApart 30 = .ok (.iconst 0, 1) := by decide +kernel
theorem dX11_tipsApart_31 : decode cX11_tipsApart 31 = .ok (.ireturn, 1) := by decide +kernel
theorem dX11_tipsApart_32 : decode cX11_tipsApart 32 = .ok (.aload_n 1, 1) := by decide +kernel
theorem dX11_tipsApart_33 : decode cX11_tipsApart 33 = .ok (.iload_n 3, 1) := by decide +kernel
theorem dX11_tipsApart_34 : decode cX11_tipsApart 34 = .ok (.invokevirtual 175, 3) := by decide +kernel
theorem dX11_tipsApart_37 : decode cX11_tipsApart 37 = .ok (.istore 6, 2) := by decide +kernel
theorem dX11_tipsApart_39 : decode cX11_tipsApart 39 = .ok (.aload_n 2, 1) := by decide +kernel
theorem dX11_tipsApart_40 : decode cX11_tipsApart 40 = .ok (.iload_n 3, 1) := by decide +kernel
theorem dX11_tipsApart_41 : decode cX11_tipsApart 41 = .ok (.invokevirtual 175, 3) := by decide +kernel
theorem dX11_tipsApart_44 : decode cX11_tipsApart 44 = .ok (.istore 7, 2) := by decide +kernel
theorem dX11_tipsApart_46 : decode cX11_tipsApart 46 = .ok (.aload 4, 2) := by decide +kernel
theorem dX11_tipsApart_48 : decode cX11_tipsApart 48 = .ok (.iload 6, 2) := by decide +kernel
theorem dX11_tipsApart_50 : decode cX11_tipsApart 50 = .ok (.invokevirtual 178, 3) := by decide +kernel
theorem dX11_tipsApart_53 : decode cX11_tipsApart 53 = .ok (.aload 5, 2) := by decide +kernel
theorem dX11_tipsApart_55 : decode cX11_tipsApart 55 = .ok (.iload 7, 2) := by decide +kernel
theorem dX11_tipsApart_57 : decode cX11_tipsApart 57 = .ok (.invokevirtual 178, 3) := by decide +kernel
theorem dX11_tipsApart_60 : decode cX11_tipsApart 60 = .ok (.isub, 1) := by decide +kernel
theorem dX11_tipsApart_61 : decode cX11_tipsApart 61 = .ok (.invokestatic 313, 3) := by decide +kernel
theorem dX11_tipsApart_64 : decode cX11_tipsApart 64 = .ok (.aload 4, 2) := by decide +kernel
theorem dX11_tipsApart_66 : decode cX11_tipsApart 66 = .ok (.iload 6, 2) := by decide +kernel
theorem dX11_tipsApart_68 : decode cX11_tipsApart 68 = .ok (.invokevirtual 181, 3) := by decide +kernel
theorem dX11_tipsApart_71 : decode cX11_tipsApart 71 = .ok (.aload 5, 2) := by decide +kernel
theorem dX11_tipsApart_73 : decode cX11_tipsApart 73 = .ok (.iload 7, 2) := by decide +kernel
theorem dX11_tipsApart_75 : decode cX11_tipsApart 75 = .ok (.invokevirtual 181, 3) := by decide +kernel
theorem dX11_tipsApart_78 : decode cX11_tipsApart 78 = .ok (.isub, 1) := by decide +kernel
theorem dX11_tipsApart_79 : decode cX11_tipsApart 79 = .ok (.invokestatic 313, 3) := by decide +kernel
theorem dX11_tipsApart_82 : decode cX11_tipsApart 82 = .ok (.invokestatic 318, 3) := by decide +kernel
theorem dX11_tipsApart_85 : decode cX11_tipsApart 85 = .ok (.ireturn, 1) := by decide +kernel
theorem dX11_within_0 : decode cX11_within 0 = .ok (.iload_n 0, 1) := by decide +kernel
theorem dX11_within_1 : decode cX11_within 1 = .ok (.iload_n 1, 1) := by decide +kernel
theorem dX11_within_2 : decode cX11_within 2 = .ok (.if_icmp .lt 12, 3) := by decide +kernel
theorem dX11_within_5 : decode cX11_within 5 = .ok (.iload_n 0, 1) := by decide +kernel
theorem dX11_within_6 : decode cX11_within 6 = .ok (.iload_n 2, 1) := by decide +kernel
theorem dX11_within_7 : decode cX11_within 7 = .ok (.if_icmp .gt 7, 3) := by decide +kernel
theorem dX11_within_10 : decode cX11_within 10 = .ok (.iconst 1, 1) := by decide +kernel
theorem dX11_within_11 : decode cX11_within 11 = .ok (.goto 4, 3) := by decide +kernel
theorem dX11_within_14 : decode cX11_within 14 = .ok (.iconst 0, 1) := by decide +kernel
theorem dX11_within_15 : decode cX11_within 15 = .ok (.ireturn, 1) := by decide +kernel
theorem dX11_isDrift_0 : decode cX11_isDrift 0 = .ok (.iload_n 0, 1) := by decide +kernel
theorem dX11_isDrift_1 : decode cX11_isDrift 1 = .ok (.sipush (-2000), 3) := by decide +kernel
theorem dX11_isDrift_4 : decode cX11_isDrift 4 = .ok (.sipush 2000, 3) := by decide +kernel
theorem dX11_isDrift_7 : decode cX11_isDrift 7 = .ok (.invokestatic 94, 3) := by decide +kernel
theorem dX11_isDrift_10 : decode cX11_isDrift 10 = .ok (.ireturn, 1) := by decide +kernel
theorem dX11_isError_0 : decode cX11_isError 0 = .ok (.iload_n 0, 1) := by decide +kernel
theorem dX11_isError_1 : decode cX11_isError 1 = .ok (.iconst 0, 1) := by decide +kernel
theorem dX11_isError_2 : decode cX11_isError 2 = .ok (.sipush 2000, 3) := by decide +kernel
theorem dX11_isError_5 : decode cX11_isError 5 = .ok (.invokestatic 94, 3) := by decide +kernel
theorem dX11_isError_8 : decode cX11_isError 8 = .ok (.ireturn, 1) := by decide +kernel
theorem dX11_placeOf_0 : decode cX11_placeOf 0 = .ok (.iload_n 0, 1) := by decide +kernel
theorem dX11_placeOf_1 : decode cX11_placeOf 1 = .ok (.iconst 4, 1) := by decide +kernel
theorem dX11_placeOf_2 : decode cX11_placeOf 2 = .ok (.iload_n 1, 1) := by decide +kernel
theorem dX11_placeOf_3 : decode cX11_placeOf 3 = .ok (.imul, 1) := by decide +kernel
theorem dX11_placeOf_4 : decode cX11_placeOf 4 = .ok (.ishr, 1) := by decide +kernel
theorem dX11_placeOf_5 : decode cX11_placeOf 5 = .ok (.bipush 15, 2) := by decide +kernel
theorem dX11_placeOf_7 : decode cX11_placeOf 7 = .ok (.iand, 1) := by decide +kernel
theorem dX11_placeOf_8 : decode cX11_placeOf 8 = .ok (.ireturn, 1) := by decide +kernel
theorem dX11_withPlace_0 : decode cX11_withPlace 0 = .ok (.iconst 4, 1) := by decide +kernel
theorem dX11_withPlace_1 : decode cX11_withPlace 1 = .ok (.iload_n 1, 1) := by decide +kernel
theorem dX11_withPlace_2 : decode cX11_withPlace 2 = .ok (.imul, 1) := by decide +kernel
theorem dX11_withPlace_3 : decode cX11_withPlace 3 = .ok (.istore_n 3, 1) := by decide +kernel
theorem dX11_withPlace_4 : decode cX11_withPlace 4 = .ok (.iload_n 0, 1) := by decide +kernel
theorem dX11_withPlace_5 : decode cX11_withPlace 5 = .ok (.bipush 15, 2) := by decide +kernel
theorem dX11_withPlace_7 : decode cX11_withPlace 7 = .ok (.iload_n 3, 1) := by decide +kernel
theorem dX11_withPlace_8 : decode cX11_withPlace 8 = .ok (.ishl, 1) := by decide +kernel
theorem dX11_withPlace_9 : decode cX11_withPlace 9 = .ok (.iconst (-1), 1) := by decide +kernel
theorem dX11_withPlace_10 : decode cX11_withPlace 10 = .ok (.ixor, 1) := by decide +kernel
theorem dX11_withPlace_11 : decode cX11_withPlace 11 = .ok (.iand, 1) := by decide +kernel
theorem dX11_withPlace_12 : decode cX11_withPlace 12 = .ok (.iload_n 2, 1) := by decide +kernel
theorem dX11_withPlace_13 : decode cX11_withPlace 13 = .ok (.iload_n 3, 1) := by decide +kernel
theorem dX11_withPlace_14 : decode cX11_withPlace 14 = .ok (.ishl, 1) := by decide +kernel
theorem dX11_withPlace_15 : decode cX11_withPlace 15 = .ok (.ior, 1) := by decide +kernel
theorem dX11_withPlace_16 : decode cX11_withPlace 16 = .ok (.ireturn, 1) := by decide +kernel
