theorem dX9_init_0 : decode cX9_init 0 = .ok (.aload_n 0, 1) := by decide +kernel
theorem dX9_init_1 : decode cX9_init 1 = .ok (.invokespecial 3, 3) := by decide +kernel
theorem dX9_init_4 : decode cX9_init 4 = .ok (.aload_n 0, 1) := by decide +kernel
theorem dX9_init_5 : decode cX9_init 5 = .ok (.new 9, 3) := by decide +kernel
theorem dX9_init_8 : decode cX9_init 8 = .ok (.dup, 1) := by decide +kernel
theorem dX9_init_9 : decode cX9_init 9 = .ok (.iload_n 1, 1) := by decide +kernel
theorem dX9_init_10 : decode cX9_init 10 = .ok (.invokestatic 11, 3) := by decide +kernel
theorem dX9_init_13 : decode cX9_init 13 = .ok (.iload_n 2, 1) := by decide +kernel
theorem dX9_init_14 : decode cX9_init 14 = .ok (.invokestatic 11, 3) := by decide +kernel
theorem dX9_init_17 : decode cX9_init 17 = .ok (.invokespecial 15, 3) := by decide +kernel
theorem dX9_init_20 : decode cX9_init 20 = .ok (.putfield 18, 3) := by decide +kernel
theorem dX9_init_23 : decode cX9_init 23 = .ok (.aload_n 0, 1) := by decide +kernel
theorem dX9_init_24 : decode cX9_init 24 = .ok (.new 22, 3) := by decide +kernel
theorem dX9_init_27 : decode cX9_init 27 = .ok (.dup, 1) := by decide +kernel
theorem dX9_init_28 : decode cX9_init 28 = .ok (.aload_n 0, 1) := by decide +kernel
theorem dX9_init_29 : decode cX9_init 29 = .ok (.getfield 18, 3) := by decide +kernel
theorem dX9_init_32 : decode cX9_init 32 = .ok (.invokespecial 24, 3) := by decide +kernel
theorem dX9_init_35 : decode cX9_init 35 = .ok (.putfield 27, 3) := by decide +kernel
theorem dX9_init_38 : decode cX9_init 38 = .ok (.aload_n 0, 1) := by decide +kernel
theorem dX9_init_39 : decode cX9_init 39 = .ok (.new 31, 3) := by decide +kernel
theorem dX9_init_42 : decode cX9_init 42 = .ok (.dup, 1) := by decide +kernel
theorem dX9_init_43 : decode cX9_init 43 = .ok (.aload_n 0, 1) := by decide +kernel
theorem dX9_init_44 : decode cX9_init 44 = .ok (.getfield 18, 3) := by decide +kernel
theorem dX9_init_47 : decode cX9_init 47 = .ok (.invokespecial 33, 3) := by decide +kernel
theorem dX9_init_50 : decode cX9_init 50 = .ok (.putfield 34, 3) := by decide +kernel
theorem dX9_init_53 : decode cX9_init 53 = .ok (.aload_n 0, 1) := by decide +kernel
theorem dX9_init_54 : decode cX9_init 54 = .ok (.new 38, 3) := by decide +kernel
theorem dX9_init_57 : decode cX9_init 57 = .ok (.dup, 1) := by decide +kernel
theorem dX9_init_58 : decode cX9_init 58 = .ok (.invokespecial 40, 3) := by decide +kernel
theorem dX9_init_61 : decode cX9_init 61 = .ok (.putfield 41, 3) := by decide +kernel
theorem dX9_init_64 : decode cX9_init 64 = .ok (.aload_n 0, 1) := by decide +kernel
theorem dX9_init_65 : decode cX9_init 65 = .ok (.new 45, 3) := by decide +kernel
theorem dX9_init_68 : decode cX9_init 68 = .ok (.dup, 1) := by decide +kernel
theorem dX9_init_69 : decode cX9_init 69 = .ok (.invokespecial 47, 3) := by decide +kernel
theorem dX9_init_72 : decode cX9_init 72 = .ok (.putfield 48, 3) := by decide +kernel
theorem dX9_init_75 : decode cX9_init 75 = .ok (.aload_n 0, 1) := by decide +kernel
theorem dX9_init_76 : decode cX9_init 76 = .ok (.new 52, 3) := by decide +kernel
theorem dX9_init_79 : decode cX9_init 79 = .ok (.dup, 1) := by decide +kernel
theorem dX9_init_80 : decode cX9_init 80 = .ok (.aload_n 0, 1) := by decide +kernel
theorem dX9_init_81 : decode cX9_init 81 = .ok (.getfield 34, 3) := by decide +kernel
theorem dX9_init_84 : decode cX9_init 84 = .ok (.aload_n 0, 1) := by decide +kernel
theorem dX9_init_85 : decode cX9_init 85 = .ok (.getfield 41, 3) := by decide +kernel
theorem dX9_init_88 : decode cX9_init 88 = .ok (.aload_n 0, 1) := by decide +kernel
theorem dX9_init_89 : decode cX9_init 89 = .ok (.getfield 48, 3) := by decide +kernel
theorem dX9_init_92 : decode cX9_init 92 = .ok (.invokespecial 54, 3) := by decide +kernel
theorem dX9_init_95 : decode cX9_init 95 = .ok (.putfield 57, 3) := by decide +kernel
theorem dX9_init_98 : decode cX9_init 98 = .ok (.aload_n 0, 1) := by decide +kernel
theorem dX9_init_99 : decode cX9_init 99 = .ok (.new 61, 3) := by decide +kernel
theorem dX9_init_102 : decode cX9_init 102 = .ok (.dup, 1) := by decide +kernel
theorem dX9_init_103 : decode cX9_init 103 = .ok (.invokespecial 63, 3) := by decide +kernel
theorem dX9_init_106 : decode cX9_init 106 = .ok (.putfield 64, 3) := by decide +kernel
theorem dX9_init_109 : decode cX9_init 109 = .ok (.aload_n 0, 1) := by decide +kernel
theorem dX9_init_110 : decode cX9_init 110 = .ok (.new 68, 3) := by decide +kernel
theorem dX9_init_113 : decode cX9_init 113 = .ok (.dup, 1) := by decide +kernel
theorem dX9_init_114 : decode cX9_init 114 = .ok (.aload_n 0, 1) := by decide +kernel
theorem dX9_init_115 : decode cX9_init 115 = .ok (.getfield 41, 3) := by decide +kernel
theorem dX9_init_118 : decode cX9_init 118 = .ok (.aload_n 0, 1) := by decide +kernel
theorem dX9_init_119 : decode cX9_init 119 = .ok (.getfield 48, 3) := by decide +kernel
theorem dX9_init_122 : decode cX9_init 122 = .ok (.aload_n 0, 1) := by decide +kernel
theorem dX9_init_123 : decode cX9_init 123 = .ok (.getfield 64, 3) := by decide +kernel
theorem dX9_init_126 : decode cX9_init 126 = .ok (.invokespecial 70, 3) := by decide +kernel
theorem dX9_init_129 : decode cX9_init 129 = .ok (.putfield 73, 3) := by decide +kernel
theorem dX9_init_132 : decode cX9_init 132 = .ok (.return_, 1) := by decide +kernel
theorem dX9_sideWithinLimits_0 : decode cX9_sideWithinLimits 0 = .ok (.iconst 2, 1) := by decide +kernel
theorem dX9_sideWithinLimits_1 : decode cX9_sideWithinLimits 1 = .ok (.bipush 12, 2) := by decide +kernel
theorem dX9_sideWithinLimits_3 : decode cX9_sideWithinLimits 3 = .ok (.iload_n 0, 1) := by decide +kernel
theorem dX9_sideWithinLimits_4 : decode cX9_sideWithinLimits 4 = .ok (.invokestatic 77, 3) := by decide +kernel
theorem dX9_sideWithinLimits_7 : decode cX9_sideWithinLimits 7 = .ok (.invokestatic 83, 3) := by decide +kernel
theorem dX9_sideWithinLimits_10 : decode cX9_sideWithinLimits 10 = .ok (.ireturn, 1) := by decide +kernel
theorem dX9_setHeight_0 : decode cX9_setHeight 0 = .ok (.aload_n 0, 1) := by decide +kernel
theorem dX9_setHeight_1 : decode cX9_setHeight 1 = .ok (.iload_n 1, 1) := by decide +kernel
theorem dX9_setHeight_2 : decode cX9_setHeight 2 = .ok (.iload_n 2, 1) := by decide +kernel
theorem dX9_setHeight_3 : decode cX9_setHeight 3 = .ok (.invokevirtual 86, 3) := by decide +kernel
theorem dX9_setHeight_6 : decode cX9_setHeight 6 = .ok (.iload_n 3, 1) := by decide +kernel
theorem dX9_setHeight_7 : decode cX9_setHeight 7 = .ok (.iconst 0, 1) := by decide +kernel
theorem dX9_setHeight_8 : decode cX9_setHeight 8 = .ok (.sipush 255, 3) := by decide +kernel
theorem dX9_setHeight_11 : decode cX9_setHeight 11 = .ok (.invokestatic 89, 3) := by decide +kernel
theorem dX9_setHeight_14 : decode cX9_setHeight 14 = .ok (.aload_n 0, 1) := by decide +kernel
theorem dX9_setHeight_15 : decode cX9_setHeight 15 = .ok (.getfield 18, 3) := by decide +kernel
theorem dX9_setHeight_18 : decode cX9_setHeight 18 = .ok (.iload_n 1, 1) := by decide +kernel
theorem dX9_setHeight_19 : decode cX9_setHeight 19 = .ok (.iload_n 2, 1) := by decide +kernel
theorem dX9_setHeight_20 : decode cX9_setHeight 20 = .ok (.invokestatic 93, 3) := by decide +kernel
theorem dX9_setHeight_23 : decode cX9_setHeight 23 = .ok (.iload_n 3, 1) := by decide +kernel
theorem dX9_setHeight_24 : decode cX9_setHeight 24 = .ok (.invokevirtual 96, 3) := by decide +kernel
theorem dX9_setHeight_27 : decode cX9_setHeight 27 = .ok (.ireturn, 1) := by decide +kernel
theorem dX9_hill_0 : decode cX9_hill 0 = .ok (.aload_n 0, 1) := by decide +kernel
theorem dX9_hill_1 : decode cX9_hill 1 = .ok (.iload_n 1, 1) := by decide +kernel
theorem dX9_hill_2 : decode cX9_hill 2 = .ok (.iload_n 2, 1) := by decide +kernel
theorem dX9_hill_3 : decode cX9_hill 3 = .ok (.invokevirtual 86, 3) := by decide +kernel
theorem dX9_hill_6 : decode cX9_hill 6 = .ok (.iload_n 3, 1) := by decide +kernel
theorem dX9_hill_7 : decode cX9_hill 7 = .ok (.iconst 0, 1) := by decide +kernel
theorem dX9_hill_8 : decode cX9_hill 8 = .ok (.sipush 255, 3) := by decide +kernel
theorem dX9_hill_11 : decode cX9_hill 11 = .ok (.invokestatic 89, 3) := by decide +kernel
theorem dX9_hill_14 : decode cX9_hill 14 = .ok (.iload 4, 2) := by decide +kernel
theorem dX9_hill_16 : decode cX9_hill 16 = .ok (.iconst 1, 1) := by decide +kernel
theorem dX9_hill_17 : decode cX9_hill 17 = .ok (.sipush 255, 3) := by decide +kernel
theorem dX9_hill_20 : decode cX9_hill 20 = .ok (.invokestatic 89, 3) := by decide +kernel
theorem dX9_hill_23 : decode cX9_hill 23 = .ok (.aload_n 0, 1) := by decide +kernel
theorem dX9_hill_24 : decode cX9_hill 24 = .ok (.getfield 18, 3) := by decide +kernel
theorem dX9_hill_27 : decode cX9_hill 27 = .ok (.iload_n 1, 1) := by decide +kernel
theorem dX9_hill_28 : decode cX9_hill 28 = .ok (.iload_n 2, 1) := by decide +kernel
theorem dX9_hill_29 : decode cX9_hill 29 = .ok (.iload_n 3, 1) := by decide +kernel
theorem dX9_hill_30 : decode cX9_hill 30 = .ok (.iload 4, 2) := by decide +kernel
theorem dX9_hill_32 : decode cX9_hill 32 = .ok (.invokevirtual 99, 3) := by decide +kernel
theorem dX9_hill_35 : decode cX9_hill 35 = .ok (.ireturn, 1) := by decide +kernel
theorem dX9_setGround_0 : decode cX9_setGround 0 = .ok (.aload_n 0, 1) := by decide +kernel
theorem dX9_setGround_1 : decode cX9_setGround 1 = .ok (.iload_n 1, 1) := by decide +kernel
theorem dX9_setGround_2 : decode cX9_setGround 2 = .ok (.iload_n 2, 1) := by decide +kernel
theorem dX9_setGround_3 : decode cX9_setGround 3 = .ok (.invokevirtual 86, 3) := by decide +kernel
theorem dX9_setGround_6 : decode cX9_setGround 6 = .ok (.aload_n 0, 1) := by decide +kernel
theorem dX9_setGround_7 : decode cX9_setGround 7 = .ok (.iload_n 3, 1) := by decide +kernel
theorem dX9_setGround_8 : decode cX9_setGround 8 = .ok (.iload 4, 2) := by decide +kernel
theorem dX9_setGround_10 : decode cX9_setGround 10 = .ok (.invokevirtual 86, 3) := by decide +kernel
theorem dX9_setGround_13 : decode cX9_setGround 13 = .ok (.iload_n 3, 1) := by decide +kernel
theorem dX9_setGround_14 : decode cX9_setGround 14 = .ok (.iload_n 1, 1) := by decide +kernel
theorem dX9_setGround_15 : decode cX9_setGround 15 = .ok (.bipush 12, 2) := by decide +kernel
theorem dX9_setGround_17 : decode cX9_setGround 17 = .ok (.invokestatic 89, 3) := by decide +kernel
theorem dX9_setGround_20 : decode cX9_setGround 20 = .ok (.iload 4, 2) := by decide +kernel
theorem dX9_setGround_22 : decode cX9_setGround 22 = .ok (.iload_n 2, 1) := by decide +kernel
theorem dX9_setGround_23 : decode cX9_setGround 23 = .ok (.bipush 12, 2) := by decide +kernel
theorem dX9_setGround_25 : decode cX9_setGround 25 = .ok (.invokestatic 89, 3) := by decide +kernel
theorem dX9_setGround_28 : decode cX9_setGround 28 = .ok (.iload 5, 2) := by decide +kernel
theorem dX9_setGround_30 : decode cX9_setGround 30 = .ok (.iconst 0, 1) := by decide +kernel
theorem dX9_setGround_31 : decode cX9_setGround 31 = .ok (.iconst 4, 1) := by decide +kernel
theorem dX9_setGround_32 : decode cX9_setGround 32 = .ok (.invokestatic 89, 3) := by decide +kernel
theorem dX9_setGround_35 : decode cX9_setGround 35 = .ok (.aload_n 0, 1) := by decide +kernel
theorem dX9_setGround_36 : decode cX9_setGround 36 = .ok (.getfield 18, 3) := by decide +kernel
theorem dX9_setGround_39 : decode cX9_setGround 39 = .ok (.iload_n 1, 1) := by decide +kernel
theorem dX9_setGround_40 : decode cX9_setGround 40 = .ok (.iload_n 2, 1) := by decide +kernel
theorem dX9_setGround_41 : decode cX9_setGround 41 = .ok (.iload_n 3, 1) := by decide +kernel
theorem dX9_setGround_42 : decode cX9_setGround 42 = .ok (.iload 4, 2) := by decide +kernel
theorem dX9_setGround_44 : decode cX9_setGround 44 = .ok (.iload 5, 2) := by decide +kernel
theorem dX9_setGround_46 : decode cX9_setGround 46 = .ok (.invokevirtual 103, 3) := by decide +kernel
theorem dX9_setGround_49 : decode cX9_setGround 49 = .ok (.ireturn, 1) := by decide +kernel
theorem dX9_control_0 : decode cX9_control 0 = .ok (.aload_n 0, 1) := by decide +kernel
theorem dX9_control_1 : decode cX9_control 1 = .ok (.iload_n 1, 1) := by decide +kernel
theorem dX9_control_2 : decode cX9_control 2 = .ok (.iload_n 2, 1) := by decide +kernel
theorem dX9_control_3 : decode cX9_control 3 = .ok (.invokevirtual 86, 3) := by decide +kernel
theorem dX9_control_6 : decode cX9_control 6 = .ok (.iload_n 1, 1) := by decide +kernel
theorem dX9_control_7 : decode cX9_control 7 = .ok (.iload_n 2, 1) := by decide +kernel
theorem dX9_control_8 : decode cX9_control 8 = .ok (.invokestatic 93, 3) := by decide +kernel
theorem dX9_control_11 : decode cX9_control 11 = .ok (.istore_n 3, 1) := by decide +kernel
theorem dX9_control_12 : decode cX9_control 12 = .ok (.aload_n 0, 1) := by decide +kernel
theorem dX9_control_13 : decode cX9_control 13 = .ok (.getfield 41, 3) := by decide +kernel
theorem dX9_control_16 : decode cX9_control 16 = .ok (.invokevirtual 107, 3) := by decide +kernel
theorem dX9_control_19 : decode cX9_control 19 = .ok (.bipush 12, 2) := by decide +kernel
theorem dX9_control_21 : decode cX9_control 21 = .ok (.if_icmp .ge 7, 3) := by decide +kernel
theorem dX9_control_24 : decode cX9_control 24 = .ok (.iconst 1, 1) := by decide +kernel
theorem dX9_control_25 : decode cX9_control 25 = .ok (.goto 4, 3) := by decide +kernel
theorem dX9_control_28 : decode cX9_control 28 = .ok (.iconst 0, 1) := by decide +kernel
theorem dX9_control_29 : decode cX9_control 29 = .ok (.invokestatic 111, 3) := by decide +kernel
theorem dX9_control_32 : decode cX9_control 32 = .ok (.aload_n 0, 1) := by decide +kernel
theorem dX9_control_33 : decode cX9_control 33 = .ok (.getfield 41, 3) := by decide +kernel
theorem dX9_control_36 : decode cX9_control 36 = .ok (.iload_n 3, 1) := by decide +kernel
theorem dX9_control_37 : decode cX9_control 37 = .ok (.invokevirtual 115, 3) := by decide +kernel
theorem dX9_control_40 : decode cX9_control 40 = .ok (.ifCond .ne 18, 3) := by decide +kernel
theorem dX9_control_43 : decode cX9_control 43 = .ok (.aload_n 0, 1) := by decide +kernel
theorem dX9_control_44 : decode cX9_control 44 = .ok (.getfield 18, 3) := by decide +kernel
theorem dX9_control_47 : decode cX9_control 47 = .ok (.iload_n 3, 1) := by decide +kernel
theorem dX9_control_48 : decode cX9_control 48 = .ok (.invokevirtual 119, 3) := by decide +kernel
theorem dX9_control_51 : decode cX9_control 51 = .ok (.ifCond .ne 7, 3) := by decide +kernel
theorem dX9_control_54 : decode cX9_control 54 = .ok (.iconst 1, 1) := by decide +kernel
theorem dX9_control_55 : decode cX9_control 55 = .ok (.goto 4, 3) := by decide +kernel
theorem dX9_control_58 : decode cX9_control 58 = .ok (.iconst 0, 1) := by decide +kernel
theorem dX9_control_59 : decode cX9_control 59 = .ok (.invokestatic 111, 3) := by decide +kernel
theorem dX9_control_62 : decode cX9_control 62 = .ok (.aload_n 0, 1) := by decide +kernel
theorem dX9_control_63 : decode cX9_control 63 = .ok (.getfield 41, 3) := by decide +kernel
theorem dX9_control_66 : decode cX9_control 66 = .ok (.iload_n 3, 1) := by decide +kernel
theorem dX9_control_67 : decode cX9_control 67 = .ok (.invokevirtual 122, 3) := by decide +kernel
theorem dX9_control_70 : decode cX9_control 70 = .ok (.ireturn, 1) := by decide +kernel
theorem dX9_visit_0 : decode cX9_visit 0 = .ok (.iload_n 1, 1) := by decide +kernel
theorem dX9_visit_1 : decode cX9_visit 1 = .ok (.invokestatic 125, 3) := by decide +kernel
theorem dX9_visit_4 : decode cX9_visit 4 = .ok (.aload_n 0, 1) := by decide +kernel
theorem dX9_visit_5 : decode cX9_visit 5 = .ok (.iload_n 2, 1) := by decide +kernel
theorem dX9_visit_6 : decode cX9_visit 6 = .ok (.invokevirtual 129, 3) := by decide +kernel
theorem dX9_visit_9 : decode cX9_visit 9 = .ok (.aload_n 0, 1) := by decide +kernel
theorem dX9_visit_10 : decode cX9_visit 10 = .ok (.getfield 48, 3) := by decide +kernel
theorem dX9_visit_13 : decode cX9_visit 13 = .ok (.iload_n 1, 1) := by decide +kernel
theorem dX9_visit_14 : decode cX9_visit 14 = .ok (.invokevirtual 132, 3) := by decide +kernel
theorem dX9_visit_17 : decode cX9_visit 17 = .ok (.bipush 6, 2) := by decide +kernel
theorem dX9_visit_19 : decode cX9_visit 19 = .ok (.if_icmp .ge 19, 3) := by decide +kernel
theorem dX9_visit_22 : decode cX9_visit 22 = .ok (.aload_n 0, 1) := by decide +kernel
theorem dX9_visit_23 : decode cX9_visit 23 = .ok (.getfield 48, 3) := by decide +kernel
theorem dX9_visit_26 : decode cX9_visit 26 = .ok (.iload_n 1, 1) := by decide +kernel
theorem dX9_visit_27 : decode cX9_visit 27 = .ok (.iload_n 2, 1) := by decide +kernel
theorem dX9_visit_28 : decode cX9_visit 28 = .ok (.invokevirtual 135, 3) := by decide +kernel
theorem dX9_visit_31 : decode cX9_visit 31 = .ok (.ifCond .ne 7, 3) := by decide +kernel
theorem dX9_visit_34 : decode cX9_visit 34 = .ok (.iconst 1, 1) := by decide +kernel
theorem dX9_visit_35 : decode cX9_visit 35 = .ok (.goto 4, 3) := by decide +kernel
theorem dX9_visit_38 : decode cX9_visit 38 = .ok (.iconst 0, 1) := by decide +kernel
theorem dX9_visit_39 : decode cX9_visit 39 = .ok (.invokestatic 111, 3) := by decide +kernel
theorem dX9_visit_42 : decode cX9_visit 42 = .ok (.aload_n 0, 1) := by decide +kernel
theorem dX9_visit_43 : decode cX9_visit 43 = .ok (.getfield 64, 3) := by decide +kernel
theorem dX9_visit_46 : decode cX9_visit 46 = .ok (.invokevirtual 139, 3) := by decide +kernel
theorem dX9_visit_49 : decode cX9_visit 49 = .ok (.ifCond .ne 7, 3) := by decide +kernel
theorem dX9_visit_52 : decode cX9_visit 52 = .ok (.iconst 1, 1) := by decide +kernel
theorem dX9_visit_53 : decode cX9_visit 53 = .ok (.goto 4, 3) := by decide +kernel
theorem dX9_visit_56 : decode cX9_visit 56 = .ok (.iconst 0, 1) := by decide +kernel
theorem dX9_visit_57 : decode cX9_visit 57 = .ok (.invokestatic 111, 3) := by decide +kernel
theorem dX9_visit_60 : decode cX9_visit 60 = .ok (.aload_n 0, 1) := by decide +kernel
theorem dX9_visit_61 : decode cX9_visit 61 = .ok (.getfield 48, 3) := by decide +kernel
theorem dX9_visit_64 : decode cX9_visit 64 = .ok (.iload_n 1, 1) := by decide +kernel
theorem dX9_visit_65 : decode cX9_visit 65 = .ok (.iload_n 2, 1) := by decide +kernel
theorem dX9_visit_66 : decode cX9_visit 66 = .ok (.invokevirtual 143, 3) := by decide +kernel
theorem dX9_visit_69 : decode cX9_visit 69 = .ok (.ireturn, 1) := by decide +kernel
theorem dX9_arrange_0 : decode cX9_arrange 0 = .ok (.iload_n 1, 1) := by decide +kernel
theorem dX9_arrange_1 : decode cX9_arrange 1 = .ok (.invokestatic 125, 3) := by decide +kernel
theorem dX9_arrange_4 : decode cX9_arrange 4 = .ok (.iload_n 2, 1) := by decide +kernel
theorem dX9_arrange_5 : decode cX9_arrange 5 = .ok (.iconst 0, 1) := by decide +kernel
theorem dX9_arrange_6 : decode cX9_arrange 6 = .ok (.sipush 9999, 3) := by decide +kernel
theorem dX9_arrange_9 : decode cX9_arrange 9 = .ok (.invokestatic 89, 3) := by decide +kernel
theorem dX9_arrange_12 : decode cX9_arrange 12 = .ok (.aload_n 0, 1) := by decide +kernel
theorem dX9_arrange_13 : decode cX9_arrange 13 = .ok (.getfield 64, 3) := by decide +kernel
theorem dX9_arrange_16 : decode cX9_arrange 16 = .ok (.invokevirtual 139, 3) := by decide +kernel
theorem dX9_arrange_19 : decode cX9_arrange 19 = .ok (.ifCond .ne 7, 3) := by decide +kernel
theorem dX9_arrange_22 : decode cX9_arrange 22 = .ok (.iconst 1, 1) := by decide +kernel
theorem dX9_arrange_23 : decode cX9_arrange 23 = .ok (.goto 4, 3) := by decide +kernel
theorem dX9_arrange_26 : decode cX9_arrange 26 = .ok (.iconst 0, 1) := by decide +kernel
theorem dX9_arrange_27 : decode cX9_arrange 27 = .ok (.invokestatic 111, 3) := by decide +kernel
theorem dX9_arrange_30 : decode cX9_arrange 30 = .ok (.aload_n 0, 1) := by decide +kernel
theorem dX9_arrange_31 : decode cX9_arrange 31 = .ok (.getfield 57, 3) := by decide +kernel
theorem dX9_arrange_34 : decode cX9_arrange 34 = .ok (.iload_n 1, 1) := by decide +kernel
theorem dX9_arrange_35 : decode cX9_arrange 35 = .ok (.iload_n 2, 1) := by decide +kernel
theorem dX9_arrange_36 : decode cX9_arrange 36 = .ok (.invokevirtual 146, 3) := by decide +kernel
theorem dX9_arrange_39 : decode cX9_arrange 39 = .ok (.aload_n 0, 1) := by decide +kernel
theorem dX9_arrange_40 : decode cX9_arrange 40 = .ok (.getfield 57, 3) := by decide +kernel
theorem dX9_arrange_43 : decode cX9_arrange 43 = .ok (.iload_n 1, 1) := by decide +kernel
theorem dX9_arrange_44 : decode cX9_arrange 44 = .ok (.invokevirtual 149, 3) := by decide +kernel
theorem dX9_arrange_47 : decode cX9_arrange 47 = .ok (.aload_n 0, 1) := by decide +kernel
theorem dX9_arrange_48 : decode cX9_arrange 48 = .ok (.getfield 57, 3) := by decide +kernel
theorem dX9_arrange_51 : decode cX9_arrange 51 = .ok (.invokevirtual 152, 3) := by decide +kernel
theorem dX9_arrange_54 : decode cX9_arrange 54 = .ok (.ireturn, 1) := by decide +kernel
theorem dX9_enter_0 : decode cX9_enter 0 = .ok (.iload_n 1, 1) := by decide +kernel
theorem dX9_enter_1 : decode cX9_enter 1 = .ok (.invokestatic 125, 3) := by decide +kernel
theorem dX9_enter_4 : decode cX9_enter 4 = .ok (.iload_n 2, 1) := by decide +kernel
theorem dX9_enter_5 : decode cX9_enter 5 = .ok (.iconst 0, 1) := by decide +kernel
theorem dX9_enter_6 : decode cX9_enter 6 = .ok (.bipush 7, 2) := by decide +kernel
theorem dX9_enter_8 : decode cX9_enter 8 = .ok (.invokestatic 89, 3) := by decide +kernel
theorem dX9_enter_11 : decode cX9_enter 11 = .ok (.aload_n 0, 1) := by decide +kernel
theorem dX9_enter_12 : decode cX9_enter 12 = .ok (.getfield 64, 3) := by decide +kernel
theorem dX9_enter_15 : decode cX9_enter 15 = .ok (.invokevirtual 155, 3) := by decide +kernel
theorem dX9_enter_18 : decode cX9_enter 18 = .ok (.bipush 24, 2) := by decide +kernel
theorem dX9_enter_20 : decode cX9_enter 20 = .ok (.if_icmp .ge 17, 3) := by decide +kernel
theorem dX9_enter_23 : decode cX9_enter 23 = .ok (.aload_n 0, 1) := by decide +kernel
theorem dX9_enter_24 : decode cX9_enter 24 = .ok (.getfield 64, 3) := by decide +kernel
theorem dX9_enter_27 : decode cX9_enter 27 = .ok (.invokevirtual 139, 3) := by decide +kernel
theorem dX9_enter_30 : decode cX9_enter 30 = .ok (.ifCond .ne 7, 3) := by decide +kernel
theorem dX9_enter_33 : decode cX9_enter 33 = .ok (.iconst 1, 1) := by decide +kernel
theorem dX9_enter_34 : decode cX9_enter 34 = .ok (.goto 4, 3) := by decide +kernel
theorem dX9_enter_37 : decode cX9_enter 37 = .ok (.iconst 0, 1) := by decide +kernel
theorem dX9_enter_38 : decode cX9_enter 38 = .ok (.invokestatic 111, 3) := by decide +kernel
theorem dX9_enter_41 : decode cX9_enter 41 = .ok (.aload_n 0, 1) := by decide +kernel
theorem dX9_enter_42 : decode cX9_enter 42 = .ok (.getfield 48, 3) := by decide +kernel
theorem dX9_enter_45 : decode cX9_enter 45 = .ok (.iload_n 1, 1) := by decide +kernel
theorem dX9_enter_46 : decode cX9_enter 46 = .ok (.invokevirtual 132, 3) := by decide +kernel
theorem dX9_enter_49 : decode cX9_enter 49 = .ok (.iconst 2, 1) := by decide +kernel
theorem dX9_enter_50 : decode cX9_enter 50 = .ok (.if_icmp .lt 7, 3) := by decide +kernel
theorem dX9_enter_53 : decode cX9_enter 53 = .ok (.iconst 1, 1) := by decide +kernel
theorem dX9_enter_54 : decode cX9_enter 54 = .ok (.goto 4, 3) := by decide +kernel
theorem dX9_enter_57 : decode cX9_enter 57 = .ok (.iconst 0, 1) := by decide +kernel
theorem dX9_enter_58 : decode cX9_enter 58 = .ok (.invokestatic 111, 3) := by decide +kernel
theorem dX9_enter_61 : decode cX9_enter 61 = .ok (.aload_n 0, 1) := by decide +kernel
theorem dX9_enter_62 : decode cX9_enter 62 = .ok (.getfield 64, 3) := by decide +kernel
theorem dX9_enter_65 : decode cX9_enter 65 = .ok (.iload_n 1, 1) := by decide +kernel
theorem dX9_enter_66 : decode cX9_enter 66 = .ok (.iload_n 2, 1) := by decide +kernel
theorem dX9_enter_67 : decode cX9_enter 67 = .ok (.invokevirtual 156, 3) := by decide +kernel
theorem dX9_enter_70 : decode cX9_enter 70 = .ok (.ireturn, 1) := by decide +kernel
theorem dX9_draw_0 : decode cX9_draw 0 = .ok (.iload_n 1, 1) := by decide +kernel
theorem dX9_draw_1 : decode cX9_draw 1 = .ok (.iconst 0, 1) := by decide +kernel
theorem dX9_draw_2 : decode cX9_draw 2 = .ok (.sipush 7874, 3) := by decide +kernel
theorem dX9_draw_5 : decode cX9_draw 5 = .ok (.invokestatic 89, 3) := by decide +kernel
theorem dX9_draw_8 : decode cX9_draw 8 = .ok (.iload_n 2, 1) := by decide +kernel
theorem dX9_draw_9 : decode cX9_draw 9 = .ok (.iconst 1, 1) := by decide +kernel
theorem dX9_draw_10 : decode cX9_draw 10 = .ok (.bipush 10, 2) := by decide +kernel
theorem dX9_draw_12 : decode cX9_draw 12 = .ok (.invokestatic 89, 3) := by decide +kernel
theorem dX9_draw_15 : decode cX9_draw 15 = .ok (.aload_n 0, 1) := by decide +kernel
theorem dX9_draw_16 : decode cX9_draw 16 = .ok (.getfield 64, 3) := by decide +kernel
theorem dX9_draw_19 : decode cX9_draw 19 = .ok (.invokevirtual 155, 3) := by decide +kernel
theorem dX9_draw_22 : decode cX9_draw 22 = .ok (.ifCond .le 17, 3) := by decide +kernel
theorem dX9_draw_25 : decode cX9_draw 25 = .ok (.aload_n 0, 1) := by decide +kernel
theorem dX9_draw_26 : decode cX9_draw 26 = .ok (.getfield 64, 3) := by decide +kernel
theorem dX9_draw_29 : decode cX9_draw 29 = .ok (.invokevirtual 139, 3) := by decide +kernel
theorem dX9_draw_32 : decode cX9_draw 32 = .ok (.ifCond .ne 7, 3) := by decide +kernel
theorem dX9_draw_35 : decode cX9_draw 35 = .ok (.iconst 1, 1) := by decide +kernel
theorem dX9_draw_36 : decode cX9_draw 36 = .ok (.goto 4, 3) := by decide +kernel
theorem dX9_draw_39 : decode cX9_draw 39 = .ok (.iconst 0, 1) := by decide +kernel
theorem dX9_draw_40 : decode cX9_draw 40 = .ok (.invokestatic 111, 3) := by decide +kernel
theorem dX9_draw_43 : decode cX9_draw 43 = .ok (.aload_n 0, 1) := by decide +kernel
theorem dX9_draw_44 : decode cX9_draw 44 = .ok (.getfield 64, 3) := by decide +kernel
theorem dX9_draw_47 : decode cX9_draw 47 = .ok (.iload_n 1, 1) := by decide +kernel
theorem dX9_draw_48 : decode cX9_draw 48 = .ok (.iload_n 2, 1) := by decide +kernel
theorem dX9_draw_49 : decode cX9_draw 49 = .ok (.invokevirtual 158, 3) := by decide +kernel
theorem dX9_draw_52 : decode cX9_draw 52 = .ok (.ireturn, 1) := by decide +kernel
theorem dX9_punch_0 : decode cX9_punch 0 = .ok (.aload_n 0, 1) := by decide +kernel
theorem dX9_punch_1 : decode cX9_punch 1 = .ok (.iload_n 1, 1) := by decide +kernel
theorem dX9_punch_2 : decode cX9_punch 2 = .ok (.invokevirtual 161, 3) := by decide +kernel
theorem dX9_punch_5 : decode cX9_punch 5 = .ok (.aload_n 0, 1) := by decide +kernel
theorem dX9_punch_6 : decode cX9_punch 6 = .ok (.iload_n 2, 1) := by decide +kernel
theorem dX9_punch_7 : decode cX9_punch 7 = .ok (.invokevirtual 129, 3) := by decide +kernel
theorem dX9_punch_10 : decode cX9_punch 10 = .ok (.aload_n 0, 1) := by decide +kernel
theorem dX9_punch_11 : decode cX9_punch 11 = .ok (.getfield 64, 3) := by decide +kernel
theorem dX9_punch_14 : decode cX9_punch 14 = .ok (.invokevirtual 139, 3) := by decide +kernel
theorem dX9_punch_17 : decode cX9_punch 17 = .ok (.ifCond .eq 20, 3) := by decide +kernel
theorem dX9_punch_20 : decode cX9_punch 20 = .ok (.aload_n 0, 1) := by decide +kernel
theorem dX9_punch_21 : decode cX9_punch 21 = .ok (.getfield 64, 3) := by decide +kernel
theorem dX9_punch_24 : decode cX9_punch 24 = .ok (.iload_n 1, 1) := by decide +kernel
theorem dX9_punch_25 : decode cX9_punch 25 = .ok (.invokevirtual 164, 3) := by decide +kernel
theorem dX9_punch_28 : decode cX9_punch 28 = .ok (.bipush 20, 2) := by decide +kernel
theorem dX9_punch_30 : decode cX9_punch 30 = .ok (.if_icmp .ge 7, 3) := by decide +kernel
theorem dX9_punch_33 : decode cX9_punch 33 = .ok (.iconst 1, 1) := by decide +kernel
theorem dX9_punch_34 : decode cX9_punch 34 = .ok (.goto 4, 3) := by decide +kernel
theorem dX9_punch_37 : decode cX9_punch 37 = .ok (.iconst 0, 1) := by decide +kernel
theorem dX9_punch_38 : decode cX9_punch 38 = .ok (.invokestatic 111, 3) := by decide +kernel
theorem dX9_punch_41 : decode cX9_punch 41 = .ok (.iload_n 3, 1) := by decide +kernel
theorem dX9_punch_42 : decode cX9_punch 42 = .ok (.aload_n 0, 1) := by decide +kernel
theorem dX9_punch_43 : decode cX9_punch 43 = .ok (.getfield 64, 3) := by decide +kernel
theorem dX9_punch_46 : decode cX9_punch 46 = .ok (.iload_n 1, 1) := by decide +kernel
theorem dX9_punch_47 : decode cX9_punch 47 = .ok (.invokevirtual 167, 3) := by decide +kernel
theorem dX9_punch_50 : decode cX9_punch 50 = .ok (.sipush 9999, 3) := by decide +kernel
theorem dX9_punch_53 : decode cX9_punch 53 = .ok (.invokestatic 89, 3) := by decide +kernel
theorem dX9_punch_56 : decode cX9_punch 56 = .ok (.aload_n 0, 1) := by decide +kernel
theorem dX9_punch_57 : decode cX9_punch 57 = .ok (.getfield 64, 3) := by decide +kernel
theorem dX9_punch_60 : decode cX9_punch 60 = .ok (.iload_n 1, 1) := by decide +kernel
theorem dX9_punch_61 : decode cX9_punch 61 = .ok (.iload_n 2, 1) := by decide +kernel
theorem dX9_punch_62 : decode cX9_punch 62 = .ok (.iload_n 3, 1) := by decide +kernel
theorem dX9_punch_63 : decode cX9_punch 63 = .ok (.invokevirtual 170, 3) := by decide +kernel
theorem dX9_punch_66 : decode cX9_punch 66 = .ok (.aload_n 0, 1) := by decide +kernel
theorem dX9_punch_67 : decode cX9_punch 67 = .ok (.getfield 73, 3) := by decide +kernel
theorem dX9_punch_70 : decode cX9_punch 70 = .ok (.invokevirtual 173, 3) := by decide +kernel
theorem dX9_punch_73 : decode cX9_punch 73 = .ok (.aload_n 0, 1) := by decide +kernel
theorem dX9_punch_74 : decode cX9_punch 74 = .ok (.getfield 73, 3) := by decide +kernel
theorem dX9_punch_77 : decode cX9_punch 77 = .ok (.iload_n 1, 1) := by decide +kernel
theorem dX9_punch_78 : decode cX9_punch 78 = .ok (.invokevirtual 176, 3) := by decide +kernel
theorem dX9_punch_81 : decode cX9_punch 81 = .ok (.ireturn, 1) := by decide +kernel
theorem dX9_fail_0 : decode cX9_fail 0 = .ok (.aload_n 0, 1) := by decide +kernel
theorem dX9_fail_1 : decode cX9_fail 1 = .ok (.iload_n 1, 1) := by decide +kernel
theorem dX9_fail_2 : decode cX9_fail 2 = .ok (.invokevirtual 129, 3) := by decide +kernel
theorem dX9_fail_5 : decode cX9_fail 5 = .ok (.aload_n 0, 1) := by decide +kernel
theorem dX9_fail_6 : decode cX9_fail 6 = .ok (.getfield 48, 3) := by decide +kernel
theorem dX9_fail_9 : decode cX9_fail 9 = .ok (.iload_n 1, 1) := by decide +kernel
theorem dX9_fail_10 : decode cX9_fail 10 = .ok (.invokevirtual 179, 3) := by decide +kernel
theorem dX9_fail_13 : decode cX9_fail 13 = .ok (.ifCond .ne 7, 3) := by decide +kernel
theorem dX9_fail_16 : decode cX9_fail 16 = .ok (.iconst 1, 1) := by decide +kernel
theorem dX9_fail_17 : decode cX9_fail 17 = .ok (.goto 4, 3) := by decide +kernel
theorem dX9_fail_20 : decode cX9_fail 20 = .ok (.iconst 0, 1) := by decide +kernel
theorem dX9_fail_21 : decode cX9_fail 21 = .ok (.invokestatic 111, 3) := by decide +kernel
theorem dX9_fail_24 : decode cX9_fail 24 = .ok (.aload_n 0, 1) := by decide +kernel
theorem dX9_fail_25 : decode cX9_fail 25 = .ok (.getfield 41, 3) := by decide +kernel
theorem dX9_fail_28 : decode cX9_fail 28 = .ok (.iload_n 1, 1) := by decide +kernel
theorem dX9_fail_29 : decode cX9_fail 29 = .ok (.iload_n 2, 1) := by decide +kernel
theorem dX9_fail_30 : decode cX9_fail 30 = .ok (.invokevirtual 182, 3) := by decide +kernel
theorem dX9_fail_33 : decode cX9_fail 33 = .ok (.ireturn, 1) := by decide +kernel
theorem dX9_cell_0 : decode cX9_cell 0 = .ok (.aload_n 0, 1) := by decide +kernel
theorem dX9_cell_1 : decode cX9_cell 1 = .ok (.iload_n 1, 1) := by decide +kernel
theorem dX9_cell_2 : decode cX9_cell 2 = .ok (.iload_n 2, 1) := by decide +kernel
theorem dX9_cell_3 : decode cX9_cell 3 = .ok (.invokevirtual 86, 3) := by decide +kernel
theorem dX9_cell_6 : decode cX9_cell 6 = .ok (.iload_n 1, 1) := by decide +kernel
theorem dX9_cell_7 : decode cX9_cell 7 = .ok (.iload_n 2, 1) := by decide +kernel
theorem dX9_cell_8 : decode cX9_cell 8 = .ok (.invokestatic 93, 3) := by decide +kernel
theorem dX9_cell_11 : decode cX9_cell 11 = .ok (.istore_n 3, 1) := by decide +kernel
theorem dX9_cell_12 : decode cX9_cell 12 = .ok (.bipush 10, 2) := by decide +kernel
theorem dX9_cell_14 : decode cX9_cell 14 = .ok (.aload_n 0, 1) := by decide +kernel
theorem dX9_cell_15 : decode cX9_cell 15 = .ok (.getfield 18, 3) := by decide +kernel
theorem dX9_cell_18 : decode cX9_cell 18 = .ok (.iload_n 3, 1) := by decide +kernel
theorem dX9_cell_19 : decode cX9_cell 19 = .ok (.invokevirtual 186, 3) := by decide +kernel
theorem dX9_cell_22 : decode cX9_cell 22 = .ok (.imul, 1) := by decide +kernel
theorem dX9_cell_23 : decode cX9_cell 23 = .ok (.aload_n 0, 1) := by decide +kernel
theorem dX9_cell_24 : decode cX9_cell 24 = .ok (.getfield 18, 3) := by decide +kernel
theorem dX9_cell_27 : decode cX9_cell 27 = .ok (.iload_n 3, 1) := by decide +kernel
theorem dX9_cell_28 : decode cX9_cell 28 = .ok (.invokevirtual 189, 3) := by decide +kernel
theorem dX9_cell_31 : decode cX9_cell 31 = .ok (.iadd, 1) := by decide +kernel
theorem dX9_cell_32 : decode cX9_cell 32 = .ok (.ireturn, 1) := by decide +kernel
theorem dX9_lines_0 : decode cX9_lines 0 = .ok (.iload_n 1, 1) := by decide +kernel
theorem dX9_lines_1 : decode cX9_lines 1 = .ok (.iconst 1, 1) := by decide +kernel
theorem dX9_lines_2 : decode cX9_lines 2 = .ok (.sipush 255, 3) := by decide +kernel
theorem dX9_lines_5 : decode cX9_lines 5 = .ok (.invokestatic 89, 3) := by decide +kernel
theorem dX9_lines_8 : decode cX9_lines 8 = .ok (.aload_n 0, 1) := by decide +kernel
theorem dX9_lines_9 : decode cX9_lines 9 = .ok (.getfield 27, 3) := by decide +kernel
theorem dX9_lines_12 : decode cX9_lines 12 = .ok (.iload_n 1, 1) := by decide +kernel
theorem dX9_lines_13 : decode cX9_lines 13 = .ok (.invokevirtual 192, 3) := by decide +kernel
theorem dX9_lines_16 : decode cX9_lines 16 = .ok (.aload_n 0, 1) := by decide +kernel
theorem dX9_lines_17 : decode cX9_lines 17 = .ok (.getfield 27, 3) := by decide +kernel
theorem dX9_lines_20 : decode cX9_lines 20 = .ok (.invokevirtual 195, 3) := by decide +kernel
theorem dX9_lines_23 : decode cX9_lines 23 = .ok (.ireturn, 1) := by decide +kernel
theorem dX9_rings_0 : decode cX9_rings 0 = .ok (.iload_n 1, 1) := by decide +kernel
theorem dX9_rings_1 : decode cX9_rings 1 = .ok (.iconst 1, 1) := by decide +kernel
theorem dX9_rings_2 : decode cX9_rings 2 = .ok (.sipush 255, 3) := by decide +kernel
theorem dX9_rings_5 : decode cX9_rings 5 = .ok (.invokestatic 89, 3) := by decide +kernel
theorem dX9_rings_8 : decode cX9_rings 8 = .ok (.aload_n 0, 1) := by decide +kernel
theorem dX9_rings_9 : decode cX9_rings 9 = .ok (.getfield 27, 3) := by decide +kernel
theorem dX9_rings_12 : decode cX9_rings 12 = .ok (.iload_n 1, 1) := by decide +kernel
theorem dX9_rings_13 : decode cX9_rings 13 = .ok (.invokevirtual 192, 3) := by decide +kernel
theorem dX9_rings_16 : decode cX9_rings 16 = .ok (.aload_n 0, 1) := by decide +kernel
theorem dX9_rings_17 : decode cX9_rings 17 = .ok (.getfield 27, 3) := by decide +kernel
theorem dX9_rings_20 : decode cX9_rings 20 = .ok (.invokevirtual 198, 3) := by decide +kernel
theorem dX9_rings_23 : decode cX9_rings 23 = .ok (.ireturn, 1) := by decide +kernel
theorem dX9_longest_0 : decode cX9_longest 0 = .ok (.iload_n 1, 1) := by decide +kernel
theorem dX9_longest_1 : decode cX9_longest 1 = .ok (.iconst 1, 1) := by decide +kernel
theorem dX9_longest_2 : decode cX9_longest 2 = .ok (.sipush 255, 3) := by decide +kernel
theorem dX9_longest_5 : decode cX9_longest 5 = .ok (.invokestatic 89, 3) := by decide +kernel
theorem dX9_longest_8 : decode cX9_longest 8 = .ok (.aload_n 0, 1) := by decide +kernel
theorem dX9_longest_9 : decode cX9_longest 9 = .ok (.getfield 27, 3) := by decide +kernel
theorem dX9_longest_12 : decode cX9_longest 12 = .ok (.iload_n 1, 1) := by decide +kernel
theorem dX9_longest_13 : decode cX9_longest 13 = .ok (.invokevirtual 192, 3) := by decide +kernel
theorem dX9_longest_16 : decode cX9_longest 16 = .ok (.aload_n 0, 1) := by decide +kernel
theorem dX9_longest_17 : decode cX9_longest 17 = .ok (.getfield 27, 3) := by decide +kernel
theorem dX9_longest_20 : decode cX9_longest 20 = .ok (.invokevirtual 201, 3) := by decide +kernel
theorem dX9_longest_23 : decode cX9_longest 23 = .ok (.ireturn, 1) := by decide +kernel
theorem dX9_cost_0 : decode cX9_cost 0 = .ok (.aload_n 0, 1) := by decide +kernel
theorem dX9_cost_1 : decode cX9_cost 1 = .ok (.iload_n 1, 1) := by decide +kernel
theorem dX9_cost_2 : decode cX9_cost 2 = .ok (.invokevirtual 129, 3) := by decide +kernel
theorem dX9_cost_5 : decode cX9_cost 5 = .ok (.aload_n 0, 1) := by decide +kernel
theorem dX9_cost_6 : decode cX9_cost 6 = .ok (.iload_n 2, 1) := by decide +kernel
theorem dX9_cost_7 : decode cX9_cost 7 = .ok (.invokevirtual 129, 3) := by decide +kernel
theorem dX9_cost_10 : decode cX9_cost 10 = .ok (.aload_n 0, 1) := by decide +kernel
theorem dX9_cost_11 : decode cX9_cost 11 = .ok (.getfield 34, 3) := by decide +kernel
theorem dX9_cost_14 : decode cX9_cost 14 = .ok (.aload_n 0, 1) := by decide +kernel
theorem dX9_cost_15 : decode cX9_cost 15 = .ok (.getfield 41, 3) := by decide +kernel
theorem dX9_cost_18 : decode cX9_cost 18 = .ok (.iload_n 1, 1) := by decide +kernel
theorem dX9_cost_19 : decode cX9_cost 19 = .ok (.invokevirtual 204, 3) := by decide +kernel
theorem dX9_cost_22 : decode cX9_cost 22 = .ok (.iconst 0, 1) := by decide +kernel
theorem dX9_cost_23 : decode cX9_cost 23 = .ok (.invokevirtual 207, 3) := by decide +kernel
theorem dX9_cost_26 : decode cX9_cost 26 = .ok (.aload_n 0, 1) := by decide +kernel
theorem dX9_cost_27 : decode cX9_cost 27 = .ok (.getfield 34, 3) := by decide +kernel
theorem dX9_cost_30 : decode cX9_cost 30 = .ok (.aload_n 0, 1) := by decide +kernel
theorem dX9_cost_31 : decode cX9_cost 31 = .ok (.getfield 41, 3) := by decide +kernel
theorem dX9_cost_34 : decode cX9_cost 34 = .ok (.iload_n 2, 1) := by decide +kernel
theorem dX9_cost_35 : decode cX9_cost 35 = .ok (.invokevirtual 204, 3) := by decide +kernel
theorem dX9_cost_38 : decode cX9_cost 38 = .ok (.invokevirtual 211, 3) := by decide +kernel
theorem dX9_cost_41 : decode cX9_cost 41 = .ok (.ireturn, 1) := by decide +kernel
theorem dX9_costByCells_0 : decode cX9_costByCells 0 = .ok (.aload_n 0, 1) := by decide +kernel
theorem dX9_costByCells_1 : decode cX9_costByCells 1 = .ok (.iload_n 1, 1) := by decide +kernel
theorem dX9_costByCells_2 : decode cX9_costByCells 2 = .ok (.invokevirtual 129, 3) := by decide +kernel
theorem dX9_costByCells_5 : decode cX9_costByCells 5 = .ok (.aload_n 0, 1) := by decide +kernel
theorem dX9_costByCells_6 : decode cX9_costByCells 6 = .ok (.iload_n 2, 1) := by decide +kernel
theorem dX9_costByCells_7 : decode cX9_costByCells 7 = .ok (.invokevirtual 129, 3) := by decide +kernel
theorem dX9_costByCells_10 : decode cX9_costByCells 10 = .ok (.aload_n 0, 1) := by decide +kernel
theorem dX9_costByCells_11 : decode cX9_costByCells 11 = .ok (.getfield 34, 3) := by decide +kernel
theorem dX9_costByCells_14 : decode cX9_costByCells 14 = .ok (.aload_n 0, 1) := by decide +kernel
theorem dX9_costByCells_15 : decode cX9_costByCells 15 = .ok (.getfield 41, 3) := by decide +kernel
theorem dX9_costByCells_18 : decode cX9_costByCells 18 = .ok (.iload_n 1, 1) := by decide +kernel
theorem dX9_costByCells_19 : decode cX9_costByCells 19 = .ok (.invokevirtual 204, 3) := by decide +kernel
theorem dX9_costByCells_22 : decode cX9_costByCells 22 = .ok (.invokevirtual 214, 3) := by decide +kernel
theorem dX9_costByCells_25 : decode cX9_costByCells 25 = .ok (.aload_n 0, 1) := by decide +kernel
theorem dX9_costByCells_26 : decode cX9_costByCells 26 = .ok (.getfield 34, 3) := by decide +kernel
theorem dX9_costByCells_29 : decode cX9_costByCells 29 = .ok (.aload_n 0, 1) := by decide +kernel
theorem dX9_costByCells_30 : decode cX9_costByCells 30 = .ok (.getfield 41, 3) := by decide +kernel
theorem dX9_costByCells_33 : decode cX9_costByCells 33 = .ok (.iload_n 2, 1) := by decide +kernel
theorem dX9_costByCells_34 : decode cX9_costByCells 34 = .ok (.invokevirtual 204, 3) := by decide +kernel
theorem dX9_costByCells_37 : decode cX9_costByCells 37 = .ok (.invokevirtual 211, 3) := by decide +kernel
theorem dX9_costByCells_40 : decode cX9_costByCells 40 = .ok (.ireturn, 1) := by decide +kernel
theorem dX9_climb_0 : decode cX9_climb 0 = .ok (.aload_n 0, 1) := by decide +kernel
theorem dX9_climb_1 : decode cX9_climb 1 = .ok (.iload_n 1, 1) := by decide +kernel
theorem dX9_climb_2 : decode cX9_climb 2 = .ok (.invokevirtual 129, 3) := by decide +kernel
theorem dX9_climb_5 : decode cX9_climb 5 = .ok (.aload_n 0, 1) := by decide +kernel
theorem dX9_climb_6 : decode cX9_climb 6 = .ok (.iload_n 2, 1) := by decide +kernel
theorem dX9_climb_7 : decode cX9_climb 7 = .ok (.invokevirtual 129, 3) := by decide +kernel
theorem dX9_climb_10 : decode cX9_climb 10 = .ok (.aload_n 0, 1) := by decide +kernel
theorem dX9_climb_11 : decode cX9_climb 11 = .ok (.getfield 34, 3) := by decide +kernel
theorem dX9_climb_14 : decode cX9_climb 14 = .ok (.aload_n 0, 1) := by decide +kernel
theorem dX9_climb_15 : decode cX9_climb 15 = .ok (.getfield 41, 3) := by decide +kernel
theorem dX9_climb_18 : decode cX9_climb 18 = .ok (.iload_n 1, 1) := by decide +kernel
theorem dX9_climb_19 : decode cX9_climb 19 = .ok (.invokevirtual 204, 3) := by decide +kernel
theorem dX9_climb_22 : decode cX9_climb 22 = .ok (.iconst 0, 1) := by decide +kernel
theorem dX9_climb_23 : decode cX9_climb 23 = .ok (.invokevirtual 207, 3) := by decide +kernel
theorem dX9_climb_26 : decode cX9_climb 26 = .ok (.aload_n 0, 1) := by decide +kernel
theorem dX9_climb_27 : decode cX9_climb 27 = .ok (.getfield 34, 3) := by decide +kernel
theorem dX9_climb_30 : decode cX9_climb 30 = .ok (.aload_n 0, 1) := by decide +kernel
theorem dX9_climb_31 : decode cX9_climb 31 = .ok (.getfield 41, 3) := by decide +kernel
theorem dX9_climb_34 : decode cX9_climb 34 = .ok (.iload_n 2, 1) := by decide +kernel
theorem dX9_climb_35 : decode cX9_climb 35 = .ok (.invokevirtual 204, 3) := by decide +kernel
theorem dX9_climb_38 : decode cX9_climb 38 = .ok (.invokevirtual 217, 3) := by decide +kernel
theorem dX9_climb_41 : decode cX9_climb 41 = .ok (.ireturn, 1) := by decide +kernel
theorem dX9_tempts_0 : decode cX9_tempts 0 = .ok (.aload_n 0, 1) := by decide +kernel
theorem dX9_tempts_1 : decode cX9_tempts 1 = .ok (.iload_n 1, 1) := by decide +kernel
theorem dX9_tempts_2 : decode cX9_tempts 2 = .ok (.invokevirtual 129, 3) := by decide +kernel
theorem dX9_tempts_5 : decode cX9_tempts 5 = .ok (.aload_n 0, 1) := by decide +kernel
theorem dX9_tempts_6 : decode cX9_tempts 6 = .ok (.iload_n 2, 1) := by decide +kernel
theorem dX9_tempts_7 : decode cX9_tempts 7 = .ok (.invokevirtual 129, 3) := by decide +kernel
theorem dX9_tempts_10 : decode cX9_tempts 10 = .ok (.aload_n 0, 1) := by decide +kernel
theorem dX9_tempts_11 : decode cX9_tempts 11 = .ok (.getfield 41, 3) := by decide +kernel
theorem dX9_tempts_14 : decode cX9_tempts 14 = .ok (.iload_n 2, 1) := by decide +kernel
theorem dX9_tempts_15 : decode cX9_tempts 15 = .ok (.invokevirtual 204, 3) := by decide +kernel
theorem dX9_tempts_18 : decode cX9_tempts 18 = .ok (.istore_n 3, 1) := by decide +kernel
theorem dX9_tempts_19 : decode cX9_tempts 19 = .ok (.aload_n 0, 1) := by decide +kernel
theorem dX9_tempts_20 : decode cX9_tempts 20 = .ok (.getfield 34, 3) := by decide +kernel
theorem dX9_tempts_23 : decode cX9_tempts 23 = .ok (.aload_n 0, 1) := by decide +kernel
theorem dX9_tempts_24 : decode cX9_tempts 24 = .ok (.getfield 41, 3) := by decide +kernel
theorem dX9_tempts_27 : decode cX9_tempts 27 = .ok (.iload_n 1, 1) := by decide +kernel
theorem dX9_tempts_28 : decode cX9_tempts 28 = .ok (.invokevirtual 204, 3) := by decide +kernel
theorem dX9_tempts_31 : decode cX9_tempts 31 = .ok (.iconst 0, 1) := by decide +kernel
theorem dX9_tempts_32 : decode cX9_tempts 32 = .ok (.invokevirtual 207, 3) := by decide +kernel
theorem dX9_tempts_35 : decode cX9_tempts 35 = .ok (.aload_n 0, 1) := by decide +kernel
theorem dX9_tempts_36 : decode cX9_tempts 36 = .ok (.getfield 34, 3) := by decide +kernel
theorem dX9_tempts_39 : decode cX9_tempts 39 = .ok (.iload_n 3, 1) := by decide +kernel
theorem dX9_tempts_40 : decode cX9_tempts 40 = .ok (.invokevirtual 211, 3) := by decide +kernel
theorem dX9_tempts_43 : decode cX9_tempts 43 = .ok (.istore 4, 2) := by decide +kernel
theorem dX9_tempts_45 : decode cX9_tempts 45 = .ok (.aload_n 0, 1) := by decide +kernel
theorem dX9_tempts_46 : decode cX9_tempts 46 = .ok (.getfield 34, 3) := by decide +kernel
theorem dX9_tempts_49 : decode cX9_tempts 49 = .ok (.aload_n 0, 1) := by decide +kernel
theorem dX9_tempts_50 : decode cX9_tempts 50 = .ok (.getfield 41, 3) := by decide +kernel
theorem dX9_tempts_53 : decode cX9_tempts 53 = .ok (.iload_n 1, 1) := by decide +kernel
theorem dX9_tempts_54 : decode cX9_tempts 54 = .ok (.invokevirtual 204, 3) := by decide +kernel
theorem dX9_tempts_57 : decode cX9_tempts 57 = .ok (.iconst 1, 1) := by decide +kernel
theorem dX9_tempts_58 : decode cX9_tempts 58 = .ok (.invokevirtual 207, 3) := by decide +kernel
theorem dX9_tempts_61 : decode cX9_tempts 61 = .ok (.iload 4, 2) := by decide +kernel
theorem dX9_tempts_63 : decode cX9_tempts 63 = .ok (.iconst (-1), 1) := by decide +kernel
theorem dX9_tempts_64 : decode cX9_tempts 64 = .ok (.if_icmp .eq 16, 3) := by decide +kernel
theorem dX9_tempts_67 : decode cX9_tempts 67 = .ok (.aload_n 0, 1) := by decide +kernel
theorem dX9_tempts_68 : decode cX9_tempts 68 = .ok (.getfield 34, 3) := by decide +kernel
theorem dX9_tempts_71 : decode cX9_tempts 71 = .ok (.iload_n 3, 1) := by decide +kernel
theorem dX9_tempts_72 : decode cX9_tempts 72 = .ok (.invokevirtual 211, 3) := by decide +kernel
theorem dX9_tempts_75 : decode cX9_tempts 75 = .ok (.iload 4, 2) := by decide +kernel
theorem dX9_tempts_77 : decode cX9_tempts 77 = .ok (.if_icmp .ge 7, 3) := by decide +kernel
theorem dX9_tempts_80 : decode cX9_tempts 80 = .ok (.iconst 1, 1) := by decide +kernel
theorem dX9_tempts_81 : decode cX9_tempts 81 = .ok (.goto 4, 3) := by decide +kernel
theorem dX9_tempts_84 : decode cX9_tempts 84 = .ok (.iconst 0, 1) := by decide +kernel
theorem dX9_tempts_85 : decode cX9_tempts 85 = .ok (.ireturn, 1) := by decide +kernel
theorem dX9_courseAt_0 : decode cX9_courseAt 0 = .ok (.iload_n 1, 1) := by decide +kernel
theorem dX9_courseAt_1 : decode cX9_courseAt 1 = .ok (.invokestatic 125, 3) := by decide +kernel
theorem dX9_courseAt_4 : decode cX9_courseAt 4 = .ok (.iload_n 2, 1) := by decide +kernel
theorem dX9_courseAt_5 : decode cX9_courseAt 5 = .ok (.aload_n 0, 1) := by decide +kernel
theorem dX9_courseAt_6 : decode cX9_courseAt 6 = .ok (.getfield 48, 3) := by decide +kernel
theorem dX9_courseAt_9 : decode cX9_courseAt 9 = .ok (.iload_n 1, 1) := by decide +kernel
theorem dX9_courseAt_10 : decode cX9_courseAt 10 = .ok (.invokevirtual 132, 3) := by decide +kernel
theorem dX9_courseAt_13 : decode cX9_courseAt 13 = .ok (.invokestatic 220, 3) := by decide +kernel
theorem dX9_courseAt_16 : decode cX9_courseAt 16 = .ok (.aload_n 0, 1) := by decide +kernel
theorem dX9_courseAt_17 : decode cX9_courseAt 17 = .ok (.getfield 48, 3) := by decide +kernel
theorem dX9_courseAt_20 : decode cX9_courseAt 20 = .ok (.iload_n 1, 1) := by decide +kernel
theorem dX9_courseAt_21 : decode cX9_courseAt 21 = .ok (.iload_n 2, 1) := by decide +kernel
theorem dX9_courseAt_22 : decode cX9_courseAt 22 = .ok (.invokevirtual 223, 3) := by decide +kernel
theorem dX9_courseAt_25 : decode cX9_courseAt 25 = .ok (.ireturn, 1) := by decide +kernel
theorem dX9_courseClimb_0 : decode cX9_courseClimb 0 = .ok (.iload_n 1, 1) := by decide +kernel
theorem dX9_courseClimb_1 : decode cX9_courseClimb 1 = .ok (.invokestatic 125, 3) := by decide +kernel
theorem dX9_courseClimb_4 : decode cX9_courseClimb 4 = .ok (.aload_n 0, 1) := by decide +kernel
theorem dX9_courseClimb_5 : decode cX9_courseClimb 5 = .ok (.getfield 57, 3) := by decide +kernel
theorem dX9_courseClimb_8 : decode cX9_courseClimb 8 = .ok (.iload_n 1, 1) := by decide +kernel
theorem dX9_courseClimb_9 : decode cX9_courseClimb 9 = .ok (.invokevirtual 149, 3) := by decide +kernel
theorem dX9_courseClimb_12 : decode cX9_courseClimb 12 = .ok (.aload_n 0, 1) := by decide +kernel
theorem dX9_courseClimb_13 : decode cX9_courseClimb 13 = .ok (.getfield 57, 3) := by decide +kernel
theorem dX9_courseClimb_16 : decode cX9_courseClimb 16 = .ok (.invokevirtual 152, 3) := by decide +kernel
theorem dX9_courseClimb_19 : decode cX9_courseClimb 19 = .ok (.ireturn, 1) := by decide +kernel
theorem dX9_courseCost_0 : decode cX9_courseCost 0 = .ok (.iload_n 1, 1) := by decide +kernel
theorem dX9_courseCost_1 : decode cX9_courseCost 1 = .ok (.invokestatic 125, 3) := by decide +kernel
theorem dX9_courseCost_4 : decode cX9_courseCost 4 = .ok (.aload_n 0, 1) := by decide +kernel
theorem dX9_courseCost_5 : decode cX9_courseCost 5 = .ok (.getfield 57, 3) := by decide +kernel
theorem dX9_courseCost_8 : decode cX9_courseCost 8 = .ok (.iload_n 1, 1) := by decide +kernel
theorem dX9_courseCost_9 : decode cX9_courseCost 9 = .ok (.invokevirtual 149, 3) := by decide +kernel
theorem dX9_courseCost_12 : decode cX9_courseCost 12 = .ok (.aload_n 0, 1) := by decide +kernel
theorem dX9_courseCost_13 : decode cX9_courseCost 13 = .ok (.getfield 57, 3) := by decide +kernel
theorem dX9_courseCost_16 : decode cX9_courseCost 16 = .ok (.invokevirtual 226, 3) := by decide +kernel
theorem dX9_courseCost_19 : decode cX9_courseCost 19 = .ok (.ireturn, 1) := by decide +kernel
theorem dX9_spread_0 : decode cX9_spread 0 = .ok (.aload_n 0, 1) := by decide +kernel
theorem dX9_spread_1 : decode cX9_spread 1 = .ok (.getfield 57, 3) := by decide +kernel
theorem dX9_spread_4 : decode cX9_spread 4 = .ok (.invokevirtual 229, 3) := by decide +kernel
theorem dX9_spread_7 : decode cX9_spread 7 = .ok (.ireturn, 1) := by decide +kernel
theorem dX9_runners_0 : decode cX9_runners 0 = .ok (.aload_n 0, 1) := by decide +kernel
theorem dX9_runners_1 : decode cX9_runners 1 = .ok (.getfield 64, 3) := by decide +kernel
theorem dX9_runners_4 : decode cX9_runners 4 = .ok (.invokevirtual 155, 3) := by decide +kernel
theorem dX9_runners_7 : decode cX9_runners 7 = .ok (.ireturn, 1) := by decide +kernel
theorem dX9_startOf_0 : decode cX9_startOf 0 = .ok (.aload_n 0, 1) := by decide +kernel
theorem dX9_startOf_1 : decode cX9_startOf 1 = .ok (.iload_n 1, 1) := by decide +kernel
theorem dX9_startOf_2 : decode cX9_startOf 2 = .ok (.invokevirtual 161, 3) := by decide +kernel
theorem dX9_startOf_5 : decode cX9_startOf 5 = .ok (.aload_n 0, 1) := by decide +kernel
theorem dX9_startOf_6 : decode cX9_startOf 6 = .ok (.getfield 64, 3) := by decide +kernel
theorem dX9_startOf_9 : decode cX9_startOf 9 = .ok (.iload_n 1, 1) := by decide +kernel
theorem dX9_startOf_10 : decode cX9_startOf 10 = .ok (.invokevirtual 232, 3) := by decide +kernel
theorem dX9_startOf_13 : decode cX9_startOf 13 = .ok (.ireturn, 1) := by decide +kernel
theorem dX9_stateOf_0 : decode cX9_stateOf 0 = .ok (.aload_n 0, 1) := by decide +kernel
theorem dX9_stateOf_1 : decode cX9_stateOf 1 = .ok (.iload_n 1, 1) := by decide +kernel
theorem dX9_stateOf_2 : decode cX9_stateOf 2 = .ok (.invokevirtual 161, 3) := by decide +kernel
theorem dX9_stateOf_5 : decode cX9_stateOf 5 = .ok (.aload_n 0, 1) := by decide +kernel
theorem dX9_stateOf_6 : decode cX9_stateOf 6 = .ok (.getfield 73, 3) := by decide +kernel
theorem dX9_stateOf_9 : decode cX9_stateOf 9 = .ok (.invokevirtual 173, 3) := by decide +kernel
theorem dX9_stateOf_12 : decode cX9_stateOf 12 = .ok (.aload_n 0, 1) := by decide +kernel
theorem dX9_stateOf_13 : decode cX9_stateOf 13 = .ok (.getfield 73, 3) := by decide +kernel
theorem dX9_stateOf_16 : decode cX9_stateOf 16 = .ok (.iload_n 1, 1) := by decide +kernel
theorem dX9_stateOf_17 : decode cX9_stateOf 17 = .ok (.invokevirtual 235, 3) := by decide +kernel
theorem dX9_stateOf_20 : decode cX9_stateOf 20 = .ok (.ireturn, 1) := by decide +kernel
theorem dX9_split_0 : decode cX9_split 0 = .ok (.aload_n 0, 1) := by decide +kernel
theorem dX9_split_1 : decode cX9_split 1 = .ok (.iload_n 1, 1) := by decide +kernel
theorem dX9_split_2 : decode cX9_split 2 = .ok (.invokevirtual 161, 3) := by decide +kernel
theorem dX9_split_5 : decode cX9_split 5 = .ok (.aload_n 0, 1) := by decide +kernel
theorem dX9_split_6 : decode cX9_split 6 = .ok (.iload_n 1, 1) := by decide +kernel
theorem dX9_split_7 : decode cX9_split 7 = .ok (.iload_n 2, 1) := by decide +kernel
theorem dX9_split_8 : decode cX9_split 8 = .ok (.invokevirtual 238, 3) := by decide +kernel
theorem dX9_split_11 : decode cX9_split 11 = .ok (.aload_n 0, 1) := by decide +kernel
theorem dX9_split_12 : decode cX9_split 12 = .ok (.getfield 73, 3) := by decide +kernel
theorem dX9_split_15 : decode cX9_split 15 = .ok (.invokevirtual 173, 3) := by decide +kernel
theorem dX9_split_18 : decode cX9_split 18 = .ok (.aload_n 0, 1) := by decide +kernel
theorem dX9_split_19 : decode cX9_split 19 = .ok (.getfield 73, 3) := by decide +kernel
theorem dX9_split_22 : decode cX9_split 22 = .ok (.iload_n 1, 1) := by decide +kernel
theorem dX9_split_23 : decode cX9_split 23 = .ok (.iload_n 2, 1) := by decide +kernel
theorem dX9_split_24 : decode cX9_split 24 = .ok (.invokevirtual 241, 3) := by decide +kernel
theorem dX9_split_27 : decode cX9_split 27 = .ok (.ireturn, 1) := by decide +kernel
theorem dX9_total_0 : decode cX9_total 0 = .ok (.aload_n 0, 1) := by decide +kernel
theorem dX9_total_1 : decode cX9_total 1 = .ok (.iload_n 1, 1) := by decide +kernel
theorem dX9_total_2 : decode cX9_total 2 = .ok (.invokevirtual 161, 3) := by decide +kernel
theorem dX9_total_5 : decode cX9_total 5 = .ok (.aload_n 0, 1) := by decide +kernel
theorem dX9_total_6 : decode cX9_total 6 = .ok (.getfield 73, 3) := by decide +kernel
theorem dX9_total_9 : decode cX9_total 9 = .ok (.invokevirtual 173, 3) := by decide +kernel
theorem dX9_total_12 : decode cX9_total 12 = .ok (.aload_n 0, 1) := by decide +kernel
theorem dX9_total_13 : decode cX9_total 13 = .ok (.getfield 73, 3) := by decide +kernel
theorem dX9_total_16 : decode cX9_total 16 = .ok (.iload_n 1, 1) := by decide +kernel
theorem dX9_total_17 : decode cX9_total 17 = .ok (.invokevirtual 244, 3) := by decide +kernel
theorem dX9_total_20 : decode cX9_total 20 = .ok (.ireturn, 1) := by decide +kernel
theorem dX9_rank_0 : decode cX9_rank 0 = .ok (.aload_n 0, 1) := by decide +kernel
theorem dX9_rank_1 : decode cX9_rank 1 = .ok (.iload_n 1, 1) := by decide +kernel
theorem dX9_rank_2 : decode cX9_rank 2 = .ok (.invokevirtual 161, 3) := by decide +kernel
theorem dX9_rank_5 : decode cX9_rank 5 = .ok (.aload_n 0, 1) := by decide +kernel
theorem dX9_rank_6 : decode cX9_rank 6 = .ok (.getfield 73, 3) := by decide +kernel
theorem dX9_rank_9 : decode cX9_rank 9 = .ok (.invokevirtual 173, 3) := by decide +kernel
theorem dX9_rank_12 : decode cX9_rank 12 = .ok (.aload_n 0, 1) := by decide +kernel
theorem dX9_rank_13 : decode cX9_rank 13 = .ok (.getfield 73, 3) := by decide +kernel
theorem dX9_rank_16 : decode cX9_rank 16 = .ok (.iload_n 1, 1) := by decide +kernel
theorem dX9_rank_17 : decode cX9_rank 17 = .ok (.invokevirtual 247, 3) := by decide +kernel
theorem dX9_rank_20 : decode cX9_rank 20 = .ok (.ireturn, 1) := by decide +kernel
theorem dX9_lost_0 : decode cX9_lost 0 = .ok (.aload_n 0, 1) := by decide +kernel
theorem dX9_lost_1 : decode cX9_lost 1 = .ok (.iload_n 1, 1) := by decide +kernel
theorem dX9_lost_2 : decode cX9_lost 2 = .ok (.invokevirtual 161, 3) := by decide +kernel
theorem dX9_lost_5 : decode cX9_lost 5 = .ok (.aload_n 0, 1) := by decide +kernel
theorem dX9_lost_6 : decode cX9_lost 6 = .ok (.iload_n 1, 1) := by decide +kernel
theorem dX9_lost_7 : decode cX9_lost 7 = .ok (.iload_n 2, 1) := by decide +kernel
theorem dX9_lost_8 : decode cX9_lost 8 = .ok (.invokevirtual 238, 3) := by decide +kernel
theorem dX9_lost_11 : decode cX9_lost 11 = .ok (.aload_n 0, 1) := by decide +kernel
theorem dX9_lost_12 : decode cX9_lost 12 = .ok (.getfield 73, 3) := by decide +kernel
theorem dX9_lost_15 : decode cX9_lost 15 = .ok (.invokevirtual 173, 3) := by decide +kernel
theorem dX9_lost_18 : decode cX9_lost 18 = .ok (.aload_n 0, 1) := by decide +kernel
theorem dX9_lost_19 : decode cX9_lost 19 = .ok (.getfield 73, 3) := by decide +kernel
theorem dX9_lost_22 : decode cX9_lost 22 = .ok (.iload_n 1, 1) := by decide +kernel
theorem dX9_lost_23 : decode cX9_lost 23 = .ok (.iload_n 2, 1) := by decide +kernel
theorem dX9_lost_24 : decode cX9_lost 24 = .ok (.invokevirtual 250, 3) := by decide +kernel
theorem dX9_lost_27 : decode cX9_lost 27 = .ok (.ireturn, 1) := by decide +kernel
theorem dX9_needCell_0 : decode cX9_needCell 0 = .ok (.aload_n 0, 1) := by decide +kernel
theorem dX9_needCell_1 : decode cX9_needCell 1 = .ok (.getfield 18, 3) := by decide +kernel
theorem dX9_needCell_4 : decode cX9_needCell 4 = .ok (.iload_n 1, 1) := by decide +kernel
theorem dX9_needCell_5 : decode cX9_needCell 5 = .ok (.iload_n 2, 1) := by decide +kernel
theorem dX9_needCell_6 : decode cX9_needCell 6 = .ok (.invokevirtual 253, 3) := by decide +kernel
theorem dX9_needCell_9 : decode cX9_needCell 9 = .ok (.ifCond .ne 14, 3) := by decide +kernel
theorem dX9_needCell_12 : decode cX9_needCell 12 = .ok (.new 256, 3) := by decide +kernel
theorem dX9_needCell_15 : decode cX9_needCell 15 = .ok (.dup, 1) := by decide +kernel
theorem dX9_needCell_16 : decode cX9_needCell 16 = .ok (.ldc_w 258, 3) := by decide +kernel
theorem dX9_needCell_19 : decode cX9_needCell 19 = .ok (.invokespecial 260, 3) := by decide +kernel
theorem dX9_needCell_22 : decode cX9_needCell 22 = .ok (.athrow, 1) := by decide +kernel
theorem dX9_needCell_23 : decode cX9_needCell 23 = .ok (.return_, 1) := by decide +kernel
theorem dX9_needControl_0 : decode cX9_needControl 0 = .ok (.iload_n 1, 1) := by decide +kernel
theorem dX9_needControl_1 : decode cX9_needControl 1 = .ok (.aload_n 0, 1) := by decide +kernel
theorem dX9_needControl_2 : decode cX9_needControl 2 = .ok (.getfield 41, 3) := by decide +kernel
theorem dX9_needControl_5 : decode cX9_needControl 5 = .ok (.invokevirtual 107, 3) := by decide +kernel
theorem dX9_needControl_8 : decode cX9_needControl 8 = .ok (.invokestatic 220, 3) := by decide +kernel
theorem dX9_needControl_11 : decode cX9_needControl 11 = .ok (.return_, 1) := by decide +kernel
theorem dX9_needRunner_0 : decode cX9_needRunner 0 = .ok (.iload_n 1, 1) := by decide +kernel
theorem dX9_needRunner_1 : decode cX9_needRunner 1 = .ok (.aload_n 0, 1) := by decide +kernel
theorem dX9_needRunner_2 : decode cX9_needRunner 2 = .ok (.getfield 64, 3) := by decide +kernel
theorem dX9_needRunner_5 : decode cX9_needRunner 5 = .ok (.invokevirtual 155, 3) := by decide +kernel
theorem dX9_needRunner_8 : decode cX9_needRunner 8 = .ok (.invokestatic 220, 3) := by decide +kernel
theorem dX9_needRunner_11 : decode cX9_needRunner 11 = .ok (.return_, 1) := by decide +kernel
theorem dX9_needLeg_0 : decode cX9_needLeg 0 = .ok (.iload_n 2, 1) := by decide +kernel
theorem dX9_needLeg_1 : decode cX9_needLeg 1 = .ok (.aload_n 0, 1) := by decide +kernel
theorem dX9_needLeg_2 : decode cX9_needLeg 2 = .ok (.getfield 48, 3) := by decide +kernel
theorem dX9_needLeg_5 : decode cX9_needLeg 5 = .ok (.aload_n 0, 1) := by decide +kernel
theorem dX9_needLeg_6 : decode cX9_needLeg 6 = .ok (.getfield 64, 3) := by decide +kernel
theorem dX9_needLeg_9 : decode cX9_needLeg 9 = .ok (.iload_n 1, 1) := by decide +kernel
theorem dX9_needLeg_10 : decode cX9_needLeg 10 = .ok (.invokevirtual 263, 3) := by decide +kernel
theorem dX9_needLeg_13 : decode cX9_needLeg 13 = .ok (.invokevirtual 266, 3) := by decide +kernel
theorem dX9_needLeg_16 : decode cX9_needLeg 16 = .ok (.invokestatic 220, 3) := by decide +kernel
theorem dX9_needLeg_19 : decode cX9_needLeg 19 = .ok (.return_, 1) := by decide +kernel
theorem dX9_needKlass_0 : decode cX9_needKlass 0 = .ok (.iload_n 0, 1) := by decide +kernel
theorem dX9_needKlass_1 : decode cX9_needKlass 1 = .ok (.iconst 5, 1) := by decide +kernel
theorem dX9_needKlass_2 : decode cX9_needKlass 2 = .ok (.invokestatic 220, 3) := by decide +kernel
theorem dX9_needKlass_5 : decode cX9_needKlass 5 = .ok (.return_, 1) := by decide +kernel
theorem dX9_needIndex_0 : decode cX9_needIndex 0 = .ok (.iload_n 0, 1) := by decide +kernel
theorem dX9_needIndex_1 : decode cX9_needIndex 1 = .ok (.ifCond .lt 8, 3) := by decide +kernel
theorem dX9_needIndex_4 : decode cX9_needIndex 4 = .ok (.iload_n 0, 1) := by decide +kernel
theorem dX9_needIndex_5 : decode cX9_needIndex 5 = .ok (.iload_n 1, 1) := by decide +kernel
theorem dX9_needIndex_6 : decode cX9_needIndex 6 = .ok (.if_icmp .lt 14, 3) := by decide +kernel
theorem dX9_needIndex_9 : decode cX9_needIndex 9 = .ok (.new 256, 3) := by decide +kernel
theorem dX9_needIndex_12 : decode cX9_needIndex 12 = .ok (.dup, 1) := by decide +kernel
theorem dX9_needIndex_13 : decode cX9_needIndex 13 = .ok (.ldc_w 269, 3) := by decide +kernel
theorem dX9_needIndex_16 : decode cX9_needIndex 16 = .ok (.invokespecial 260, 3) := by decide +kernel
theorem dX9_needIndex_19 : decode cX9_needIndex 19 = .ok (.athrow, 1) := by decide +kernel
theorem dX9_needIndex_20 : decode cX9_needIndex 20 = .ok (.return_, 1) := by decide +kernel
theorem dX9_needRange_0 : decode cX9_needRange 0 = .ok (.iload_n 0, 1) := by decide +kernel
theorem dX9_needRange_1 : decode cX9_needRange 1 = .ok (.iload_n 1, 1) := by decide +kernel
theorem dX9_needRange_2 : decode cX9_needRange 2 = .ok (.if_icmp .lt 8, 3) := by decide +kernel
theorem dX9_needRange_5 : decode cX9_needRange 5 = .ok (.iload_n 0, 1) := by decide +kernel
theorem dX9_needRange_6 : decode cX9_needRange 6 = .ok (.iload_n 2, 1) := by decide +kernel
theorem dX9_needRange_7 : decode cX9_needRange 7 = .ok (.if_icmp .le 14, 3) := by decide +kernel
theorem dX9_needRange_10 : decode cX9_needRange 10 = .ok (.new 271, 3) := by decide +kernel
theorem dX9_needRange_13 : decode cX9_needRange 13 = .ok (.dup, 1) := by decide +kernel
theorem dX9_needRange_14 : decode cX9_needRange 14 = .ok (.ldc_w 273, 3) := by decide +kernel
theorem dX9_needRange_17 : decode cX9_needRange 17 = .ok (.invokespecial 275, 3) := by decide +kernel
theorem dX9_needRange_20 : decode cX9_needRange 20 = .ok (.athrow, 1) := by decide +kernel
theorem dX9_needRange_21 : decode cX9_needRange 21 = .ok (.return_, 1) := by decide +kernel
theorem dX9_needState_0 : decode cX9_needState 0 = .ok (.iload_n 0, 1) := by decide +kernel
theorem dX9_needState_1 : decode cX9_needState 1 = .ok (.ifCond .ne 14, 3) := by decide +kernel
theorem dX9_needState_4 : decode cX9_needState 4 = .ok (.new 276, 3) := by decide +kernel
theorem dX9_needState_7 : decode cX9_needState 7 = .ok (.dup, 1) := by decide +kernel
theorem dX9_needState_8 : decode cX9_needState 8 = .ok (.ldc_w 278, 3) := by decide +kernel
theorem dX9_needState_11 : decode cX9_needState 11 = .ok (.invokespecial 280, 3) := by decide +kernel
theorem dX9_needState_14 : decode cX9_needState 14 = .ok (.athrow, 1) := by decide +kernel
theorem dX9_needState_15 : decode cX9_needState 15 = .ok (.return_, 1) := by decide +kernel
