theorem dL_drawn_0 : decode cL_drawn 0 = .ok (.iload_n 1, 1) := by decide +kernel
theorem dL_drawn_1 : decode cL_drawn 1 = .ok (.aload_n 0, 1) := by decide +kernel
theorem dL_drawn_2 : decode cL_drawn 2 = .ok (.arraylength, 1) := by decide +kernel
theorem dL_drawn_3 : decode cL_drawn 3 = .ok (.if_icmp .ge 9, 3) := by decide +kernel
theorem dL_drawn_6 : decode cL_drawn 6 = .ok (.aload_n 0, 1) := by decide +kernel
theorem dL_drawn_7 : decode cL_drawn 7 = .ok (.iload_n 1, 1) := by decide +kernel
theorem dL_drawn_8 : decode cL_drawn 8 = .ok (.iaload, 1) := by decide +kernel
theorem dL_drawn_9 : decode cL_drawn 9 = .ok (.goto 12, 3) := by decide +kernel
theorem dL_drawn_12 : decode cL_drawn 12 = .ok (.sipush 12433, 3) := by decide +kernel
theorem dL_drawn_15 : decode cL_drawn 15 = .ok (.iload_n 1, 1) := by decide +kernel
theorem dL_drawn_16 : decode cL_drawn 16 = .ok (.imul, 1) := by decide +kernel
theorem dL_drawn_17 : decode cL_drawn 17 = .ok (.sipush 4013, 3) := by decide +kernel
theorem dL_drawn_20 : decode cL_drawn 20 = .ok (.iadd, 1) := by decide +kernel
theorem dL_drawn_21 : decode cL_drawn 21 = .ok (.istore_n 2, 1) := by decide +kernel
theorem dL_drawn_22 : decode cL_drawn 22 = .ok (.iload_n 2, 1) := by decide +kernel
theorem dL_drawn_23 : decode cL_drawn 23 = .ok (.ldc 7, 2) := by decide +kernel
theorem dL_drawn_25 : decode cL_drawn 25 = .ok (.iand, 1) := by decide +kernel
theorem dL_drawn_26 : decode cL_drawn 26 = .ok (.ireturn, 1) := by decide +kernel
theorem dL_does_0 : decode cL_does 0 = .ok (.iload_n 1, 1) := by decide +kernel
theorem dL_does_1 : decode cL_does 1 = .ok (.ifCond .ne 14, 3) := by decide +kernel
theorem dL_does_4 : decode cL_does 4 = .ok (.aload_n 0, 1) := by decide +kernel
theorem dL_does_5 : decode cL_does 5 = .ok (.iload_n 2, 1) := by decide +kernel
theorem dL_does_6 : decode cL_does 6 = .ok (.iload_n 3, 1) := by decide +kernel
theorem dL_does_7 : decode cL_does 7 = .ok (.iload 4, 2) := by decide +kernel
theorem dL_does_9 : decode cL_does 9 = .ok (.invokevirtual 8, 3) := by decide +kernel
theorem dL_does_12 : decode cL_does 12 = .ok (.goto 81, 3) := by decide +kernel
theorem dL_does_15 : decode cL_does 15 = .ok (.iload_n 1, 1) := by decide +kernel
theorem dL_does_16 : decode cL_does 16 = .ok (.iconst 1, 1) := by decide +kernel
theorem dL_does_17 : decode cL_does 17 = .ok (.if_icmp .ne 12, 3) := by decide +kernel
theorem dL_does_20 : decode cL_does 20 = .ok (.aload_n 0, 1) := by decide +kernel
theorem dL_does_21 : decode cL_does 21 = .ok (.iload_n 2, 1) := by decide +kernel
theorem dL_does_22 : decode cL_does 22 = .ok (.iload_n 3, 1) := by decide +kernel
theorem dL_does_23 : decode cL_does 23 = .ok (.invokevirtual 14, 3) := by decide +kernel
theorem dL_does_26 : decode cL_does 26 = .ok (.goto 67, 3) := by decide +kernel
theorem dL_does_29 : decode cL_does 29 = .ok (.iload_n 1, 1) := by decide +kernel
theorem dL_does_30 : decode cL_does 30 = .ok (.iconst 2, 1) := by decide +kernel
theorem dL_does_31 : decode cL_does 31 = .ok (.if_icmp .ne 12, 3) := by decide +kernel
theorem dL_does_34 : decode cL_does 34 = .ok (.aload_n 0, 1) := by decide +kernel
theorem dL_does_35 : decode cL_does 35 = .ok (.iload_n 2, 1) := by decide +kernel
theorem dL_does_36 : decode cL_does 36 = .ok (.iload_n 3, 1) := by decide +kernel
theorem dL_does_37 : decode cL_does 37 = .ok (.invokevirtual 18, 3) := by decide +kernel
theorem dL_does_40 : decode cL_does 40 = .ok (.goto 53, 3) := by decide +kernel
theorem dL_does_43 : decode cL_does 43 = .ok (.iload_n 1, 1) := by decide +kernel
theorem dL_does_44 : decode cL_does 44 = .ok (.iconst 3, 1) := by decide +kernel
theorem dL_does_45 : decode cL_does 45 = .ok (.if_icmp .ne 12, 3) := by decide +kernel
theorem dL_does_48 : decode cL_does 48 = .ok (.aload_n 0, 1) := by decide +kernel
theorem dL_does_49 : decode cL_does 49 = .ok (.iload_n 2, 1) := by decide +kernel
theorem dL_does_50 : decode cL_does 50 = .ok (.iload_n 3, 1) := by decide +kernel
theorem dL_does_51 : decode cL_does 51 = .ok (.invokevirtual 21, 3) := by decide +kernel
theorem dL_does_54 : decode cL_does 54 = .ok (.goto 39, 3) := by decide +kernel
theorem dL_does_57 : decode cL_does 57 = .ok (.iload_n 1, 1) := by decide +kernel
theorem dL_does_58 : decode cL_does 58 = .ok (.iconst 4, 1) := by decide +kernel
theorem dL_does_59 : decode cL_does 59 = .ok (.if_icmp .ne 12, 3) := by decide +kernel
theorem dL_does_62 : decode cL_does 62 = .ok (.aload_n 0, 1) := by decide +kernel
theorem dL_does_63 : decode cL_does 63 = .ok (.iload_n 2, 1) := by decide +kernel
theorem dL_does_64 : decode cL_does 64 = .ok (.iload_n 3, 1) := by decide +kernel
theorem dL_does_65 : decode cL_does 65 = .ok (.invokevirtual 24, 3) := by decide +kernel
theorem dL_does_68 : decode cL_does 68 = .ok (.goto 25, 3) := by decide +kernel
theorem dL_does_71 : decode cL_does 71 = .ok (.iload_n 1, 1) := by decide +kernel
theorem dL_does_72 : decode cL_does 72 = .ok (.iconst 5, 1) := by decide +kernel
theorem dL_does_73 : decode cL_does 73 = .ok (.if_icmp .ne 12, 3) := by decide +kernel
theorem dL_does_76 : decode cL_does 76 = .ok (.aload_n 0, 1) := by decide +kernel
theorem dL_does_77 : decode cL_does 77 = .ok (.iload_n 2, 1) := by decide +kernel
theorem dL_does_78 : decode cL_does 78 = .ok (.iload_n 3, 1) := by decide +kernel
theorem dL_does_79 : decode cL_does 79 = .ok (.invokevirtual 27, 3) := by decide +kernel
theorem dL_does_82 : decode cL_does 82 = .ok (.goto 11, 3) := by decide +kernel
theorem dL_does_85 : decode cL_does 85 = .ok (.aload_n 0, 1) := by decide +kernel
theorem dL_does_86 : decode cL_does 86 = .ok (.iload_n 2, 1) := by decide +kernel
theorem dL_does_87 : decode cL_does 87 = .ok (.iload_n 3, 1) := by decide +kernel
theorem dL_does_88 : decode cL_does 88 = .ok (.iload 4, 2) := by decide +kernel
theorem dL_does_90 : decode cL_does 90 = .ok (.invokevirtual 30, 3) := by decide +kernel
theorem dL_does_93 : decode cL_does 93 = .ok (.ireturn, 1) := by decide +kernel
theorem dL_does_94 : decode cL_does 94 = .ok (.astore 5, 2) := by decide +kernel
theorem dL_does_96 : decode cL_does 96 = .ok (.bipush (-8), 2) := by decide +kernel
theorem dL_does_98 : decode cL_does 98 = .ok (.ireturn, 1) := by decide +kernel
theorem dL_does_99 : decode cL_does 99 = .ok (.astore 5, 2) := by decide +kernel
theorem dL_does_101 : decode cL_does 101 = .ok (.bipush (-8), 2) := by decide +kernel
theorem dL_does_103 : decode cL_does 103 = .ok (.ireturn, 1) := by decide +kernel
theorem dL_does_104 : decode cL_does 104 = .ok (.astore 5, 2) := by decide +kernel
theorem dL_does_106 : decode cL_does 106 = .ok (.bipush (-8), 2) := by decide +kernel
theorem dL_does_108 : decode cL_does 108 = .ok (.ireturn, 1) := by decide +kernel
theorem dL_lay_0 : decode cL_lay 0 = .ok (.iload_n 1, 1) := by decide +kernel
theorem dL_lay_1 : decode cL_lay 1 = .ok (.ifCond .ne 16, 3) := by decide +kernel
theorem dL_lay_4 : decode cL_lay 4 = .ok (.aload_n 0, 1) := by decide +kernel
theorem dL_lay_5 : decode cL_lay 5 = .ok (.iload_n 2, 1) := by decide +kernel
theorem dL_lay_6 : decode cL_lay 6 = .ok (.iload_n 3, 1) := by decide +kernel
theorem dL_lay_7 : decode cL_lay 7 = .ok (.iload 4, 2) := by decide +kernel
theorem dL_lay_9 : decode cL_lay 9 = .ok (.iload 5, 2) := by decide +kernel
theorem dL_lay_11 : decode cL_lay 11 = .ok (.invokevirtual 39, 3) := by decide +kernel
theorem dL_lay_14 : decode cL_lay 14 = .ok (.goto 15, 3) := by decide +kernel
theorem dL_lay_17 : decode cL_lay 17 = .ok (.aload_n 0, 1) := by decide +kernel
theorem dL_lay_18 : decode cL_lay 18 = .ok (.iload_n 2, 1) := by decide +kernel
theorem dL_lay_19 : decode cL_lay 19 = .ok (.iload_n 3, 1) := by decide +kernel
theorem dL_lay_20 : decode cL_lay 20 = .ok (.iload 4, 2) := by decide +kernel
theorem dL_lay_22 : decode cL_lay 22 = .ok (.iload 5, 2) := by decide +kernel
theorem dL_lay_24 : decode cL_lay 24 = .ok (.iload 6, 2) := by decide +kernel
theorem dL_lay_26 : decode cL_lay 26 = .ok (.invokevirtual 43, 3) := by decide +kernel
theorem dL_lay_29 : decode cL_lay 29 = .ok (.ireturn, 1) := by decide +kernel
theorem dL_lay_30 : decode cL_lay 30 = .ok (.astore 7, 2) := by decide +kernel
theorem dL_lay_32 : decode cL_lay 32 = .ok (.bipush (-8), 2) := by decide +kernel
theorem dL_lay_34 : decode cL_lay 34 = .ok (.ireturn, 1) := by decide +kernel
theorem dL_lay_35 : decode cL_lay 35 = .ok (.astore 7, 2) := by decide +kernel
theorem dL_lay_37 : decode cL_lay 37 = .ok (.bipush (-8), 2) := by decide +kernel
theorem dL_lay_39 : decode cL_lay 39 = .ok (.ireturn, 1) := by decide +kernel
theorem dL_fail_0 : decode cL_fail 0 = .ok (.aload_n 0, 1) := by decide +kernel
theorem dL_fail_1 : decode cL_fail 1 = .ok (.iload_n 1, 1) := by decide +kernel
theorem dL_fail_2 : decode cL_fail 2 = .ok (.iload_n 2, 1) := by decide +kernel
theorem dL_fail_3 : decode cL_fail 3 = .ok (.invokevirtual 47, 3) := by decide +kernel
theorem dL_fail_6 : decode cL_fail 6 = .ok (.ifCond .eq 7, 3) := by decide +kernel
theorem dL_fail_9 : decode cL_fail 9 = .ok (.iconst 1, 1) := by decide +kernel
theorem dL_fail_10 : decode cL_fail 10 = .ok (.goto 4, 3) := by decide +kernel
theorem dL_fail_13 : decode cL_fail 13 = .ok (.iconst 0, 1) := by decide +kernel
theorem dL_fail_14 : decode cL_fail 14 = .ok (.ireturn, 1) := by decide +kernel
theorem dL_fail_15 : decode cL_fail 15 = .ok (.astore_n 3, 1) := by decide +kernel
theorem dL_fail_16 : decode cL_fail 16 = .ok (.bipush (-8), 2) := by decide +kernel
theorem dL_fail_18 : decode cL_fail 18 = .ok (.ireturn, 1) := by decide +kernel
theorem dL_fail_19 : decode cL_fail 19 = .ok (.astore_n 3, 1) := by decide +kernel
theorem dL_fail_20 : decode cL_fail 20 = .ok (.bipush (-8), 2) := by decide +kernel
theorem dL_fail_22 : decode cL_fail 22 = .ok (.ireturn, 1) := by decide +kernel
theorem dL_of_0 : decode cL_of 0 = .ok (.iload_n 1, 1) := by decide +kernel
theorem dL_of_1 : decode cL_of 1 = .ok (.ifCond .ne 11, 3) := by decide +kernel
theorem dL_of_4 : decode cL_of 4 = .ok (.aload_n 0, 1) := by decide +kernel
theorem dL_of_5 : decode cL_of 5 = .ok (.iload_n 2, 1) := by decide +kernel
theorem dL_of_6 : decode cL_of 6 = .ok (.invokevirtual 51, 3) := by decide +kernel
theorem dL_of_9 : decode cL_of 9 = .ok (.goto 101, 3) := by decide +kernel
theorem dL_of_12 : decode cL_of 12 = .ok (.iload_n 1, 1) := by decide +kernel
theorem dL_of_13 : decode cL_of 13 = .ok (.iconst 1, 1) := by decide +kernel
theorem dL_of_14 : decode cL_of 14 = .ok (.if_icmp .ne 11, 3) := by decide +kernel
theorem dL_of_17 : decode cL_of 17 = .ok (.aload_n 0, 1) := by decide +kernel
theorem dL_of_18 : decode cL_of 18 = .ok (.iload_n 2, 1) := by decide +kernel
theorem dL_of_19 : decode cL_of 19 = .ok (.invokevirtual 55, 3) := by decide +kernel
theorem dL_of_22 : decode cL_of 22 = .ok (.goto 88, 3) := by decide +kernel
theorem dL_of_25 : decode cL_of 25 = .ok (.iload_n 1, 1) := by decide +kernel
theorem dL_of_26 : decode cL_of 26 = .ok (.iconst 2, 1) := by decide +kernel
theorem dL_of_27 : decode cL_of 27 = .ok (.if_icmp .ne 11, 3) := by decide +kernel
theorem dL_of_30 : decode cL_of 30 = .ok (.aload_n 0, 1) := by decide +kernel
theorem dL_of_31 : decode cL_of 31 = .ok (.iload_n 2, 1) := by decide +kernel
theorem dL_of_32 : decode cL_of 32 = .ok (.invokevirtual 58, 3) := by decide +kernel
theorem dL_of_35 : decode cL_of 35 = .ok (.goto 75, 3) := by decide +kernel
theorem dL_of_38 : decode cL_of 38 = .ok (.iload_n 1, 1) := by decide +kernel
theorem dL_of_39 : decode cL_of 39 = .ok (.iconst 3, 1) := by decide +kernel
theorem dL_of_40 : decode cL_of 40 = .ok (.if_icmp .ne 11, 3) := by decide +kernel
theorem dL_of_43 : decode cL_of 43 = .ok (.aload_n 0, 1) := by decide +kernel
theorem dL_of_44 : decode cL_of 44 = .ok (.iload_n 2, 1) := by decide +kernel
theorem dL_of_45 : decode cL_of 45 = .ok (.invokevirtual 61, 3) := by decide +kernel
theorem dL_of_48 : decode cL_of 48 = .ok (.goto 62, 3) := by decide +kernel
theorem dL_of_51 : decode cL_of 51 = .ok (.iload_n 1, 1) := by decide +kernel
theorem dL_of_52 : decode cL_of 52 = .ok (.iconst 4, 1) := by decide +kernel
theorem dL_of_53 : decode cL_of 53 = .ok (.if_icmp .ne 11, 3) := by decide +kernel
theorem dL_of_56 : decode cL_of 56 = .ok (.aload_n 0, 1) := by decide +kernel
theorem dL_of_57 : decode cL_of 57 = .ok (.iload_n 2, 1) := by decide +kernel
theorem dL_of_58 : decode cL_of 58 = .ok (.invokevirtual 64, 3) := by decide +kernel
theorem dL_of_61 : decode cL_of 61 = .ok (.goto 49, 3) := by decide +kernel
theorem dL_of_64 : decode cL_of 64 = .ok (.iload_n 1, 1) := by decide +kernel
theorem dL_of_65 : decode cL_of 65 = .ok (.iconst 5, 1) := by decide +kernel
theorem dL_of_66 : decode cL_of 66 = .ok (.if_icmp .ne 11, 3) := by decide +kernel
theorem dL_of_69 : decode cL_of 69 = .ok (.aload_n 0, 1) := by decide +kernel
theorem dL_of_70 : decode cL_of 70 = .ok (.iload_n 2, 1) := by decide +kernel
theorem dL_of_71 : decode cL_of 71 = .ok (.invokevirtual 67, 3) := by decide +kernel
theorem dL_of_74 : decode cL_of 74 = .ok (.goto 36, 3) := by decide +kernel
theorem dL_of_77 : decode cL_of 77 = .ok (.iload_n 1, 1) := by decide +kernel
theorem dL_of_78 : decode cL_of 78 = .ok (.bipush 6, 2) := by decide +kernel
theorem dL_of_80 : decode cL_of 80 = .ok (.if_icmp .ne 11, 3) := by decide +kernel
theorem dL_of_83 : decode cL_of 83 = .ok (.aload_n 0, 1) := by decide +kernel
theorem dL_of_84 : decode cL_of 84 = .ok (.iload_n 2, 1) := by decide +kernel
theorem dL_of_85 : decode cL_of 85 = .ok (.invokevirtual 70, 3) := by decide +kernel
theorem dL_of_88 : decode cL_of 88 = .ok (.goto 22, 3) := by decide +kernel
theorem dL_of_91 : decode cL_of 91 = .ok (.iload_n 1, 1) := by decide +kernel
theorem dL_of_92 : decode cL_of 92 = .ok (.bipush 7, 2) := by decide +kernel
theorem dL_of_94 : decode cL_of 94 = .ok (.if_icmp .ne 11, 3) := by decide +kernel
theorem dL_of_97 : decode cL_of 97 = .ok (.aload_n 0, 1) := by decide +kernel
theorem dL_of_98 : decode cL_of 98 = .ok (.iload_n 2, 1) := by decide +kernel
theorem dL_of_99 : decode cL_of 99 = .ok (.invokevirtual 73, 3) := by decide +kernel
theorem dL_of_102 : decode cL_of 102 = .ok (.goto 8, 3) := by decide +kernel
theorem dL_of_105 : decode cL_of 105 = .ok (.aload_n 0, 1) := by decide +kernel
theorem dL_of_106 : decode cL_of 106 = .ok (.iload_n 2, 1) := by decide +kernel
theorem dL_of_107 : decode cL_of 107 = .ok (.invokevirtual 76, 3) := by decide +kernel
theorem dL_of_110 : decode cL_of 110 = .ok (.ireturn, 1) := by decide +kernel
theorem dL_of_111 : decode cL_of 111 = .ok (.astore_n 3, 1) := by decide +kernel
theorem dL_of_112 : decode cL_of 112 = .ok (.bipush (-8), 2) := by decide +kernel
theorem dL_of_114 : decode cL_of 114 = .ok (.ireturn, 1) := by decide +kernel
theorem dL_of_115 : decode cL_of 115 = .ok (.astore_n 3, 1) := by decide +kernel
theorem dL_of_116 : decode cL_of 116 = .ok (.bipush (-8), 2) := by decide +kernel
theorem dL_of_118 : decode cL_of 118 = .ok (.ireturn, 1) := by decide +kernel
theorem dL_at_0 : decode cL_at 0 = .ok (.iload_n 1, 1) := by decide +kernel
theorem dL_at_1 : decode cL_at 1 = .ok (.ifCond .ne 12, 3) := by decide +kernel
theorem dL_at_4 : decode cL_at 4 = .ok (.aload_n 0, 1) := by decide +kernel
theorem dL_at_5 : decode cL_at 5 = .ok (.iload_n 2, 1) := by decide +kernel
theorem dL_at_6 : decode cL_at 6 = .ok (.iload_n 3, 1) := by decide +kernel
theorem dL_at_7 : decode cL_at 7 = .ok (.invokevirtual 79, 3) := by decide +kernel
theorem dL_at_10 : decode cL_at 10 = .ok (.goto 102, 3) := by decide +kernel
theorem dL_at_13 : decode cL_at 13 = .ok (.iload_n 1, 1) := by decide +kernel
theorem dL_at_14 : decode cL_at 14 = .ok (.iconst 1, 1) := by decide +kernel
theorem dL_at_15 : decode cL_at 15 = .ok (.if_icmp .ne 12, 3) := by decide +kernel
theorem dL_at_18 : decode cL_at 18 = .ok (.aload_n 0, 1) := by decide +kernel
theorem dL_at_19 : decode cL_at 19 = .ok (.iload_n 2, 1) := by decide +kernel
theorem dL_at_20 : decode cL_at 20 = .ok (.iload_n 3, 1) := by decide +kernel
theorem dL_at_21 : decode cL_at 21 = .ok (.invokevirtual 82, 3) := by decide +kernel
theorem dL_at_24 : decode cL_at 24 = .ok (.goto 88, 3) := by decide +kernel
theorem dL_at_27 : decode cL_at 27 = .ok (.iload_n 1, 1) := by decide +kernel
theorem dL_at_28 : decode cL_at 28 = .ok (.iconst 2, 1) := by decide +kernel
theorem dL_at_29 : decode cL_at 29 = .ok (.if_icmp .ne 12, 3) := by decide +kernel
theorem dL_at_32 : decode cL_at 32 = .ok (.aload_n 0, 1) := by decide +kernel
theorem dL_at_33 : decode cL_at 33 = .ok (.iload_n 2, 1) := by decide +kernel
theorem dL_at_34 : decode cL_at 34 = .ok (.iload_n 3, 1) := by decide +kernel
theorem dL_at_35 : decode cL_at 35 = .ok (.invokevirtual 85, 3) := by decide +kernel
theorem dL_at_38 : decode cL_at 38 = .ok (.goto 74, 3) := by decide +kernel
theorem dL_at_41 : decode cL_at 41 = .ok (.iload_n 1, 1) := by decide +kernel
theorem dL_at_42 : decode cL_at 42 = .ok (.iconst 3, 1) := by decide +kernel
theorem dL_at_43 : decode cL_at 43 = .ok (.if_icmp .ne 12, 3) := by decide +kernel
theorem dL_at_46 : decode cL_at 46 = .ok (.aload_n 0, 1) := by decide +kernel
theorem dL_at_47 : decode cL_at 47 = .ok (.iload_n 2, 1) := by decide +kernel
theorem dL_at_48 : decode cL_at 48 = .ok (.iload_n 3, 1) := by decide +kernel
theorem dL_at_49 : decode cL_at 49 = .ok (.invokevirtual 88, 3) := by decide +kernel
theorem dL_at_52 : decode cL_at 52 = .ok (.goto 60, 3) := by decide +kernel
theorem dL_at_55 : decode cL_at 55 = .ok (.iload_n 1, 1) := by decide +kernel
theorem dL_at_56 : decode cL_at 56 = .ok (.iconst 4, 1) := by decide +kernel
theorem dL_at_57 : decode cL_at 57 = .ok (.if_icmp .ne 20, 3) := by decide +kernel
theorem dL_at_60 : decode cL_at 60 = .ok (.aload_n 0, 1) := by decide +kernel
theorem dL_at_61 : decode cL_at 61 = .ok (.iload_n 2, 1) := by decide +kernel
theorem dL_at_62 : decode cL_at 62 = .ok (.iload_n 3, 1) := by decide +kernel
theorem dL_at_63 : decode cL_at 63 = .ok (.invokevirtual 91, 3) := by decide +kernel
theorem dL_at_66 : decode cL_at 66 = .ok (.ifCond .eq 7, 3) := by decide +kernel
theorem dL_at_69 : decode cL_at 69 = .ok (.iconst 1, 1) := by decide +kernel
theorem dL_at_70 : decode cL_at 70 = .ok (.goto 42, 3) := by decide +kernel
theorem dL_at_73 : decode cL_at 73 = .ok (.iconst 0, 1) := by decide +kernel
theorem dL_at_74 : decode cL_at 74 = .ok (.goto 38, 3) := by decide +kernel
theorem dL_at_77 : decode cL_at 77 = .ok (.iload_n 1, 1) := by decide +kernel
theorem dL_at_78 : decode cL_at 78 = .ok (.iconst 5, 1) := by decide +kernel
theorem dL_at_79 : decode cL_at 79 = .ok (.if_icmp .ne 12, 3) := by decide +kernel
theorem dL_at_82 : decode cL_at 82 = .ok (.aload_n 0, 1) := by decide +kernel
theorem dL_at_83 : decode cL_at 83 = .ok (.iload_n 2, 1) := by decide +kernel
theorem dL_at_84 : decode cL_at 84 = .ok (.iload_n 3, 1) := by decide +kernel
theorem dL_at_85 : decode cL_at 85 = .ok (.invokevirtual 95, 3) := by decide +kernel
theorem dL_at_88 : decode cL_at 88 = .ok (.goto 24, 3) := by decide +kernel
theorem dL_at_91 : decode cL_at 91 = .ok (.iload_n 1, 1) := by decide +kernel
theorem dL_at_92 : decode cL_at 92 = .ok (.bipush 6, 2) := by decide +kernel
theorem dL_at_94 : decode cL_at 94 = .ok (.if_icmp .ne 12, 3) := by decide +kernel
theorem dL_at_97 : decode cL_at 97 = .ok (.aload_n 0, 1) := by decide +kernel
theorem dL_at_98 : decode cL_at 98 = .ok (.iload_n 2, 1) := by decide +kernel
theorem dL_at_99 : decode cL_at 99 = .ok (.iload_n 3, 1) := by decide +kernel
theorem dL_at_100 : decode cL_at 100 = .ok (.invokevirtual 98, 3) := by decide +kernel
theorem dL_at_103 : decode cL_at 103 = .ok (.goto 9, 3) := by decide +kernel
theorem dL_at_106 : decode cL_at 106 = .ok (.aload_n 0, 1) := by decide +kernel
theorem dL_at_107 : decode cL_at 107 = .ok (.iload_n 2, 1) := by decide +kernel
theorem dL_at_108 : decode cL_at 108 = .ok (.iload_n 3, 1) := by decide +kernel
theorem dL_at_109 : decode cL_at 109 = .ok (.invokevirtual 101, 3) := by decide +kernel
theorem dL_at_112 : decode cL_at 112 = .ok (.ireturn, 1) := by decide +kernel
theorem dL_at_113 : decode cL_at 113 = .ok (.astore 4, 2) := by decide +kernel
theorem dL_at_115 : decode cL_at 115 = .ok (.bipush (-8), 2) := by decide +kernel
theorem dL_at_117 : decode cL_at 117 = .ok (.ireturn, 1) := by decide +kernel
theorem dL_same_0 : decode cL_same 0 = .ok (.aload_n 0, 1) := by decide +kernel
theorem dL_same_1 : decode cL_same 1 = .ok (.invokevirtual 104, 3) := by decide +kernel
theorem dL_same_4 : decode cL_same 4 = .ok (.aload_n 1, 1) := by decide +kernel
theorem dL_same_5 : decode cL_same 5 = .ok (.invokevirtual 104, 3) := by decide +kernel
theorem dL_same_8 : decode cL_same 8 = .ok (.if_icmp .ne 53, 3) := by decide +kernel
theorem dL_same_11 : decode cL_same 11 = .ok (.aload_n 0, 1) := by decide +kernel
theorem dL_same_12 : decode cL_same 12 = .ok (.invokevirtual 108, 3) := by decide +kernel
theorem dL_same_15 : decode cL_same 15 = .ok (.aload_n 1, 1) := by decide +kernel
theorem dL_same_16 : decode cL_same 16 = .ok (.invokevirtual 108, 3) := by decide +kernel
theorem dL_same_19 : decode cL_same 19 = .ok (.if_icmp .ne 42, 3) := by decide +kernel
theorem dL_same_22 : decode cL_same 22 = .ok (.aload_n 0, 1) := by decide +kernel
theorem dL_same_23 : decode cL_same 23 = .ok (.iconst 0, 1) := by decide +kernel
theorem dL_same_24 : decode cL_same 24 = .ok (.iload_n 3, 1) := by decide +kernel
theorem dL_same_25 : decode cL_same 25 = .ok (.bipush 12, 2) := by decide +kernel
theorem dL_same_27 : decode cL_same 27 = .ok (.irem, 1) := by decide +kernel
theorem dL_same_28 : decode cL_same 28 = .ok (.iload_n 3, 1) := by decide +kernel
theorem dL_same_29 : decode cL_same 29 = .ok (.bipush 12, 2) := by decide +kernel
theorem dL_same_31 : decode cL_same 31 = .ok (.idiv, 1) := by decide +kernel
theorem dL_same_32 : decode cL_same 32 = .ok (.bipush 12, 2) := by decide +kernel
theorem dL_same_34 : decode cL_same 34 = .ok (.irem, 1) := by decide +kernel
theorem dL_same_35 : decode cL_same 35 = .ok (.invokestatic 111, 3) := by decide +kernel
theorem dL_same_38 : decode cL_same 38 = .ok (.aload_n 1, 1) := by decide +kernel
theorem dL_same_39 : decode cL_same 39 = .ok (.iconst 0, 1) := by decide +kernel
theorem dL_same_40 : decode cL_same 40 = .ok (.iload_n 3, 1) := by decide +kernel
theorem dL_same_41 : decode cL_same 41 = .ok (.bipush 12, 2) := by decide +kernel
theorem dL_same_43 : decode cL_same 43 = .ok (.idiv, 1) := by decide +kernel
theorem dL_same_44 : decode cL_same 44 = .ok (.bipush 12, 2) := by decide +kernel
theorem dL_same_46 : decode cL_same 46 = .ok (.irem, 1) := by decide +kernel
theorem dL_same_47 : decode cL_same 47 = .ok (.iload_n 3, 1) := by decide +kernel
theorem dL_same_48 : decode cL_same 48 = .ok (.bipush 12, 2) := by decide +kernel
theorem dL_same_50 : decode cL_same 50 = .ok (.irem, 1) := by decide +kernel
theorem dL_same_51 : decode cL_same 51 = .ok (.invokestatic 111, 3) := by decide +kernel
theorem dL_same_54 : decode cL_same 54 = .ok (.if_icmp .ne 7, 3) := by decide +kernel
theorem dL_same_57 : decode cL_same 57 = .ok (.iconst 1, 1) := by decide +kernel
theorem dL_same_58 : decode cL_same 58 = .ok (.goto 4, 3) := by decide +kernel
theorem dL_same_61 : decode cL_same 61 = .ok (.iconst 0, 1) := by decide +kernel
theorem dL_same_62 : decode cL_same 62 = .ok (.istore 4, 2) := by decide +kernel
theorem dL_same_64 : decode cL_same 64 = .ok (.aload_n 2, 1) := by decide +kernel
theorem dL_same_65 : decode cL_same 65 = .ok (.iconst 0, 1) := by decide +kernel
theorem dL_same_66 : decode cL_same 66 = .ok (.iaload, 1) := by decide +kernel
theorem dL_same_67 : decode cL_same 67 = .ok (.ifCond .ne 7, 3) := by decide +kernel
theorem dL_same_70 : decode cL_same 70 = .ok (.iconst 0, 1) := by decide +kernel
theorem dL_same_71 : decode cL_same 71 = .ok (.goto 8, 3) := by decide +kernel
theorem dL_same_74 : decode cL_same 74 = .ok (.iload_n 3, 1) := by decide +kernel
theorem dL_same_75 : decode cL_same 75 = .ok (.aload_n 2, 1) := by decide +kernel
theorem dL_same_76 : decode cL_same 76 = .ok (.iconst 0, 1) := by decide +kernel
theorem dL_same_77 : decode cL_same 77 = .ok (.iaload, 1) := by decide +kernel
theorem dL_same_78 : decode cL_same 78 = .ok (.irem, 1) := by decide +kernel
theorem dL_same_79 : decode cL_same 79 = .ok (.istore 5, 2) := by decide +kernel
theorem dL_same_81 : decode cL_same 81 = .ok (.iconst 0, 1) := by decide +kernel
theorem dL_same_82 : decode cL_same 82 = .ok (.istore 6, 2) := by decide +kernel
theorem dL_same_84 : decode cL_same 84 = .ok (.iload 6, 2) := by decide +kernel
theorem dL_same_86 : decode cL_same 86 = .ok (.bipush 9, 2) := by decide +kernel
theorem dL_same_88 : decode cL_same 88 = .ok (.if_icmp .ge 73, 3) := by decide +kernel
theorem dL_same_91 : decode cL_same 91 = .ok (.iload 4, 2) := by decide +kernel
theorem dL_same_93 : decode cL_same 93 = .ok (.ifCond .eq 68, 3) := by decide +kernel
theorem dL_same_96 : decode cL_same 96 = .ok (.iload 6, 2) := by decide +kernel
theorem dL_same_98 : decode cL_same 98 = .ok (.iconst 3, 1) := by decide +kernel
theorem dL_same_99 : decode cL_same 99 = .ok (.if_icmp .ge 14, 3) := by decide +kernel
theorem dL_same_102 : decode cL_same 102 = .ok (.iconst 1, 1) := by decide +kernel
theorem dL_same_103 : decode cL_same 103 = .ok (.iload_n 3, 1) := by decide +kernel
theorem dL_same_104 : decode cL_same 104 = .ok (.iconst 5, 1) := by decide +kernel
theorem dL_same_105 : decode cL_same 105 = .ok (.idiv, 1) := by decide +kernel
theorem dL_same_106 : decode cL_same 106 = .ok (.bipush 60, 2) := by decide +kernel
theorem dL_same_108 : decode cL_same 108 = .ok (.irem, 1) := by decide +kernel
theorem dL_same_109 : decode cL_same 109 = .ok (.iadd, 1) := by decide +kernel
theorem dL_same_110 : decode cL_same 110 = .ok (.goto 17, 3) := by decide +kernel
theorem dL_same_113 : decode cL_same 113 = .ok (.iload 6, 2) := by decide +kernel
theorem dL_same_115 : decode cL_same 115 = .ok (.iconst 5, 1) := by decide +kernel
theorem dL_same_116 : decode cL_same 116 = .ok (.if_icmp .ge 9, 3) := by decide +kernel
theorem dL_same_119 : decode cL_same 119 = .ok (.iload_n 3, 1) := by decide +kernel
theorem dL_same_120 : decode cL_same 120 = .ok (.iconst 5, 1) := by decide +kernel
theorem dL_same_121 : decode cL_same 121 = .ok (.irem, 1) := by decide +kernel
theorem dL_same_122 : decode cL_same 122 = .ok (.goto 5, 3) := by decide +kernel
theorem dL_same_125 : decode cL_same 125 = .ok (.iload 5, 2) := by decide +kernel
theorem dL_same_127 : decode cL_same 127 = .ok (.istore 7, 2) := by decide +kernel
theorem dL_same_129 : decode cL_same 129 = .ok (.aload_n 0, 1) := by decide +kernel
theorem dL_same_130 : decode cL_same 130 = .ok (.iload 6, 2) := by decide +kernel
theorem dL_same_132 : decode cL_same 132 = .ok (.iload 7, 2) := by decide +kernel
theorem dL_same_134 : decode cL_same 134 = .ok (.invokestatic 117, 3) := by decide +kernel
theorem dL_same_137 : decode cL_same 137 = .ok (.aload_n 1, 1) := by decide +kernel
theorem dL_same_138 : decode cL_same 138 = .ok (.iload 6, 2) := by decide +kernel
theorem dL_same_140 : decode cL_same 140 = .ok (.iload 7, 2) := by decide +kernel
theorem dL_same_142 : decode cL_same 142 = .ok (.invokestatic 117, 3) := by decide +kernel
theorem dL_same_145 : decode cL_same 145 = .ok (.if_icmp .ne 7, 3) := by decide +kernel
theorem dL_same_148 : decode cL_same 148 = .ok (.iconst 1, 1) := by decide +kernel
theorem dL_same_149 : decode cL_same 149 = .ok (.goto 4, 3) := by decide +kernel
theorem dL_same_152 : decode cL_same 152 = .ok (.iconst 0, 1) := by decide +kernel
theorem dL_same_153 : decode cL_same 153 = .ok (.istore 4, 2) := by decide +kernel
theorem dL_same_155 : decode cL_same 155 = .ok (.iinc 6 1, 3) := by decide +kernel
theorem dL_same_158 : decode cL_same 158 = .ok (.goto (-74), 3) := by decide +kernel
theorem dL_same_161 : decode cL_same 161 = .ok (.iconst 1, 1) := by decide +kernel
theorem dL_same_162 : decode cL_same 162 = .ok (.istore 6, 2) := by decide +kernel
theorem dL_same_164 : decode cL_same 164 = .ok (.iload 6, 2) := by decide +kernel
theorem dL_same_166 : decode cL_same 166 = .ok (.bipush 8, 2) := by decide +kernel
theorem dL_same_168 : decode cL_same 168 = .ok (.if_icmp .ge 86, 3) := by decide +kernel
theorem dL_same_171 : decode cL_same 171 = .ok (.iload 4, 2) := by decide +kernel
theorem dL_same_173 : decode cL_same 173 = .ok (.ifCond .eq 81, 3) := by decide +kernel
theorem dL_same_176 : decode cL_same 176 = .ok (.iload 6, 2) := by decide +kernel
theorem dL_same_178 : decode cL_same 178 = .ok (.iconst 5, 1) := by decide +kernel
theorem dL_same_179 : decode cL_same 179 = .ok (.if_icmp .ge 13, 3) := by decide +kernel
theorem dL_same_182 : decode cL_same 182 = .ok (.iload_n 3, 1) := by decide +kernel
theorem dL_same_183 : decode cL_same 183 = .ok (.bipush 7, 2) := by decide +kernel
theorem dL_same_185 : decode cL_same 185 = .ok (.idiv, 1) := by decide +kernel
theorem dL_same_186 : decode cL_same 186 = .ok (.bipush 6, 2) := by decide +kernel
theorem dL_same_188 : decode cL_same 188 = .ok (.irem, 1) := by decide +kernel
theorem dL_same_189 : decode cL_same 189 = .ok (.goto 17, 3) := by decide +kernel
theorem dL_same_192 : decode cL_same 192 = .ok (.iload 6, 2) := by decide +kernel
theorem dL_same_194 : decode cL_same 194 = .ok (.iconst 5, 1) := by decide +kernel
theorem dL_same_195 : decode cL_same 195 = .ok (.if_icmp .ne 9, 3) := by decide +kernel
theorem dL_same_198 : decode cL_same 198 = .ok (.iload_n 3, 1) := by decide +kernel
theorem dL_same_199 : decode cL_same 199 = .ok (.iconst 5, 1) := by decide +kernel
theorem dL_same_200 : decode cL_same 200 = .ok (.irem, 1) := by decide +kernel
theorem dL_same_201 : decode cL_same 201 = .ok (.goto 5, 3) := by decide +kernel
theorem dL_same_204 : decode cL_same 204 = .ok (.iload 5, 2) := by decide +kernel
theorem dL_same_206 : decode cL_same 206 = .ok (.istore 7, 2) := by decide +kernel
theorem dL_same_208 : decode cL_same 208 = .ok (.aload_n 0, 1) := by decide +kernel
theorem dL_same_209 : decode cL_same 209 = .ok (.iload 6, 2) := by decide +kernel
theorem dL_same_211 : decode cL_same 211 = .ok (.iload 7, 2) := by decide +kernel
theorem dL_same_213 : decode cL_same 213 = .ok (.iload_n 3, 1) := by decide +kernel
theorem dL_same_214 : decode cL_same 214 = .ok (.bipush 91, 2) := by decide +kernel
theorem dL_same_216 : decode cL_same 216 = .ok (.idiv, 1) := by decide +kernel
theorem dL_same_217 : decode cL_same 217 = .ok (.bipush 6, 2) := by decide +kernel
theorem dL_same_219 : decode cL_same 219 = .ok (.irem, 1) := by decide +kernel
theorem dL_same_220 : decode cL_same 220 = .ok (.invokestatic 111, 3) := by decide +kernel
theorem dL_same_223 : decode cL_same 223 = .ok (.aload_n 1, 1) := by decide +kernel
theorem dL_same_224 : decode cL_same 224 = .ok (.iload 6, 2) := by decide +kernel
theorem dL_same_226 : decode cL_same 226 = .ok (.iload 7, 2) := by decide +kernel
theorem dL_same_228 : decode cL_same 228 = .ok (.iload_n 3, 1) := by decide +kernel
theorem dL_same_229 : decode cL_same 229 = .ok (.bipush 91, 2) := by decide +kernel
theorem dL_same_231 : decode cL_same 231 = .ok (.idiv, 1) := by decide +kernel
theorem dL_same_232 : decode cL_same 232 = .ok (.bipush 6, 2) := by decide +kernel
theorem dL_same_234 : decode cL_same 234 = .ok (.irem, 1) := by decide +kernel
theorem dL_same_235 : decode cL_same 235 = .ok (.invokestatic 111, 3) := by decide +kernel
theorem dL_same_238 : decode cL_same 238 = .ok (.if_icmp .ne 7, 3) := by decide +kernel
theorem dL_same_241 : decode cL_same 241 = .ok (.iconst 1, 1) := by decide +kernel
theorem dL_same_242 : decode cL_same 242 = .ok (.goto 4, 3) := by decide +kernel
theorem dL_same_245 : decode cL_same 245 = .ok (.iconst 0, 1) := by decide +kernel
theorem dL_same_246 : decode cL_same 246 = .ok (.istore 4, 2) := by decide +kernel
theorem dL_same_248 : decode cL_same 248 = .ok (.iinc 6 1, 3) := by decide +kernel
theorem dL_same_251 : decode cL_same 251 = .ok (.goto (-87), 3) := by decide +kernel
theorem dL_same_254 : decode cL_same 254 = .ok (.iload 4, 2) := by decide +kernel
theorem dL_same_256 : decode cL_same 256 = .ok (.ireturn, 1) := by decide +kernel
theorem dL_law_0 : decode cL_law 0 = .ok (.iconst 2, 1) := by decide +kernel
theorem dL_law_1 : decode cL_law 1 = .ok (.aload_n 0, 1) := by decide +kernel
theorem dL_law_2 : decode cL_law 2 = .ok (.bipush 61, 2) := by decide +kernel
theorem dL_law_4 : decode cL_law 4 = .ok (.invokestatic 121, 3) := by decide +kernel
theorem dL_law_7 : decode cL_law 7 = .ok (.bipush 11, 2) := by decide +kernel
theorem dL_law_9 : decode cL_law 9 = .ok (.irem, 1) := by decide +kernel
theorem dL_law_10 : decode cL_law 10 = .ok (.iadd, 1) := by decide +kernel
theorem dL_law_11 : decode cL_law 11 = .ok (.istore_n 1, 1) := by decide +kernel
theorem dL_law_12 : decode cL_law 12 = .ok (.iconst 2, 1) := by decide +kernel
theorem dL_law_13 : decode cL_law 13 = .ok (.aload_n 0, 1) := by decide +kernel
theorem dL_law_14 : decode cL_law 14 = .ok (.bipush 62, 2) := by decide +kernel
theorem dL_law_16 : decode cL_law 16 = .ok (.invokestatic 121, 3) := by decide +kernel
theorem dL_law_19 : decode cL_law 19 = .ok (.bipush 11, 2) := by decide +kernel
theorem dL_law_21 : decode cL_law 21 = .ok (.irem, 1) := by decide +kernel
theorem dL_law_22 : decode cL_law 22 = .ok (.iadd, 1) := by decide +kernel
theorem dL_law_23 : decode cL_law 23 = .ok (.istore_n 2, 1) := by decide +kernel
theorem dL_law_24 : decode cL_law 24 = .ok (.new 9, 3) := by decide +kernel
theorem dL_law_27 : decode cL_law 27 = .ok (.dup, 1) := by decide +kernel
theorem dL_law_28 : decode cL_law 28 = .ok (.iload_n 1, 1) := by decide +kernel
theorem dL_law_29 : decode cL_law 29 = .ok (.iload_n 2, 1) := by decide +kernel
theorem dL_law_30 : decode cL_law 30 = .ok (.invokespecial 125, 3) := by decide +kernel
theorem dL_law_33 : decode cL_law 33 = .ok (.astore_n 3, 1) := by decide +kernel
theorem dL_law_34 : decode cL_law 34 = .ok (.new 9, 3) := by decide +kernel
theorem dL_law_37 : decode cL_law 37 = .ok (.dup, 1) := by decide +kernel
theorem dL_law_38 : decode cL_law 38 = .ok (.iload_n 2, 1) := by decide +kernel
theorem dL_law_39 : decode cL_law 39 = .ok (.iload_n 1, 1) := by decide +kernel
theorem dL_law_40 : decode cL_law 40 = .ok (.invokespecial 125, 3) := by decide +kernel
theorem dL_law_43 : decode cL_law 43 = .ok (.astore 4, 2) := by decide +kernel
theorem dL_law_45 : decode cL_law 45 = .ok (.iconst 1, 1) := by decide +kernel
theorem dL_law_46 : decode cL_law 46 = .ok (.newarray .int, 2) := by decide +kernel
theorem dL_law_48 : decode cL_law 48 = .ok (.astore 5, 2) := by decide +kernel
theorem dL_law_50 : decode cL_law 50 = .ok (.iconst 1, 1) := by decide +kernel
theorem dL_law_51 : decode cL_law 51 = .ok (.istore 6, 2) := by decide +kernel
theorem dL_law_53 : decode cL_law 53 = .ok (.iconst 0, 1) := by decide +kernel
theorem dL_law_54 : decode cL_law 54 = .ok (.istore 7, 2) := by decide +kernel
theorem dL_law_56 : decode cL_law 56 = .ok (.iload 7, 2) := by decide +kernel
theorem dL_law_58 : decode cL_law 58 = .ok (.bipush 120, 2) := by decide +kernel
theorem dL_law_60 : decode cL_law 60 = .ok (.if_icmp .ge 783, 3) := by decide +kernel
theorem dL_law_63 : decode cL_law 63 = .ok (.iload 6, 2) := by decide +kernel
theorem dL_law_65 : decode cL_law 65 = .ok (.ifCond .eq 778, 3) := by decide +kernel
theorem dL_law_68 : decode cL_law 68 = .ok (.aload_n 0, 1) := by decide +kernel
theorem dL_law_69 : decode cL_law 69 = .ok (.iload 7, 2) := by decide +kernel
theorem dL_law_71 : decode cL_law 71 = .ok (.bipush 60, 2) := by decide +kernel
theorem dL_law_73 : decode cL_law 73 = .ok (.irem, 1) := by decide +kernel
theorem dL_law_74 : decode cL_law 74 = .ok (.invokestatic 121, 3) := by decide +kernel
theorem dL_law_77 : decode cL_law 77 = .ok (.iconst 1, 1) := by decide +kernel
theorem dL_law_78 : decode cL_law 78 = .ok (.iload 7, 2) := by decide +kernel
theorem dL_law_80 : decode cL_law 80 = .ok (.bipush 60, 2) := by decide +kernel
theorem dL_law_82 : decode cL_law 82 = .ok (.idiv, 1) := by decide +kernel
theorem dL_law_83 : decode cL_law 83 = .ok (.iadd, 1) := by decide +kernel
theorem dL_law_84 : decode cL_law 84 = .ok (.idiv, 1) := by decide +kernel
theorem dL_law_85 : decode cL_law 85 = .ok (.bipush 7, 2) := by decide +kernel
theorem dL_law_87 : decode cL_law 87 = .ok (.iload 7, 2) := by decide +kernel
theorem dL_law_89 : decode cL_law 89 = .ok (.bipush 60, 2) := by decide +kernel
theorem dL_law_91 : decode cL_law 91 = .ok (.idiv, 1) := by decide +kernel
theorem dL_law_92 : decode cL_law 92 = .ok (.imul, 1) := by decide +kernel
theorem dL_law_93 : decode cL_law 93 = .ok (.iadd, 1) := by decide +kernel
theorem dL_law_94 : decode cL_law 94 = .ok (.istore 8, 2) := by decide +kernel
theorem dL_law_96 : decode cL_law 96 = .ok (.iload 7, 2) := by decide +kernel
theorem dL_law_98 : decode cL_law 98 = .ok (.iconst 5, 1) := by decide +kernel
theorem dL_law_99 : decode cL_law 99 = .ok (.if_icmp .ge 8, 3) := by decide +kernel
theorem dL_law_102 : decode cL_law 102 = .ok (.bipush 11, 2) := by decide +kernel
theorem dL_law_104 : decode cL_law 104 = .ok (.goto 8, 3) := by decide +kernel
theorem dL_law_107 : decode cL_law 107 = .ok (.iload 8, 2) := by decide +kernel
theorem dL_law_109 : decode cL_law 109 = .ok (.bipush 40, 2) := by decide +kernel
theorem dL_law_111 : decode cL_law 111 = .ok (.irem, 1) := by decide +kernel
theorem dL_law_112 : decode cL_law 112 = .ok (.istore 9, 2) := by decide +kernel
theorem dL_law_114 : decode cL_law 114 = .ok (.iload 8, 2) := by decide +kernel
theorem dL_law_116 : decode cL_law 116 = .ok (.bipush 40, 2) := by decide +kernel
theorem dL_law_118 : decode cL_law 118 = .ok (.idiv, 1) := by decide +kernel
theorem dL_law_119 : decode cL_law 119 = .ok (.istore 10, 2) := by decide +kernel
theorem dL_law_121 : decode cL_law 121 = .ok (.iload 10, 2) := by decide +kernel
theorem dL_law_123 : decode cL_law 123 = .ok (.iload_n 1, 1) := by decide +kernel
theorem dL_law_124 : decode cL_law 124 = .ok (.irem, 1) := by decide +kernel
theorem dL_law_125 : decode cL_law 125 = .ok (.istore 11, 2) := by decide +kernel
theorem dL_law_127 : decode cL_law 127 = .ok (.iload 10, 2) := by decide +kernel
theorem dL_law_129 : decode cL_law 129 = .ok (.bipush 12, 2) := by decide +kernel
theorem dL_law_131 : decode cL_law 131 = .ok (.idiv, 1) := by decide +kernel
theorem dL_law_132 : decode cL_law 132 = .ok (.iload_n 2, 1) := by decide +kernel
theorem dL_law_133 : decode cL_law 133 = .ok (.irem, 1) := by decide +kernel
theorem dL_law_134 : decode cL_law 134 = .ok (.istore 12, 2) := by decide +kernel
theorem dL_law_136 : decode cL_law 136 = .ok (.iload 9, 2) := by decide +kernel
theorem dL_law_138 : decode cL_law 138 = .ok (.iconst 4, 1) := by decide +kernel
theorem dL_law_139 : decode cL_law 139 = .ok (.if_icmp .ge 53, 3) := by decide +kernel
theorem dL_law_142 : decode cL_law 142 = .ok (.aload_n 3, 1) := by decide +kernel
theorem dL_law_143 : decode cL_law 143 = .ok (.iconst 0, 1) := by decide +kernel
theorem dL_law_144 : decode cL_law 144 = .ok (.iload 11, 2) := by decide +kernel
theorem dL_law_146 : decode cL_law 146 = .ok (.iload 12, 2) := by decide +kernel
theorem dL_law_148 : decode cL_law 148 = .ok (.iload 10, 2) := by decide +kernel
theorem dL_law_150 : decode cL_law 150 = .ok (.sipush 144, 3) := by decide +kernel
theorem dL_law_153 : decode cL_law 153 = .ok (.idiv, 1) := by decide +kernel
theorem dL_law_154 : decode cL_law 154 = .ok (.bipush 60, 2) := by decide +kernel
theorem dL_law_156 : decode cL_law 156 = .ok (.irem, 1) := by decide +kernel
theorem dL_law_157 : decode cL_law 157 = .ok (.invokestatic 128, 3) := by decide +kernel
theorem dL_law_160 : decode cL_law 160 = .ok (.aload 4, 2) := by decide +kernel
theorem dL_law_162 : decode cL_law 162 = .ok (.iconst 0, 1) := by decide +kernel
theorem dL_law_163 : decode cL_law 163 = .ok (.iload 12, 2) := by decide +kernel
theorem dL_law_165 : decode cL_law 165 = .ok (.iload 11, 2) := by decide +kernel
theorem dL_law_167 : decode cL_law 167 = .ok (.iload 10, 2) := by decide +kernel
theorem dL_law_169 : decode cL_law 169 = .ok (.sipush 144, 3) := by decide +kernel
theorem dL_law_172 : decode cL_law 172 = .ok (.idiv, 1) := by decide +kernel
theorem dL_law_173 : decode cL_law 173 = .ok (.bipush 60, 2) := by decide +kernel
theorem dL_law_175 : decode cL_law 175 = .ok (.irem, 1) := by decide +kernel
theorem dL_law_176 : decode cL_law 176 = .ok (.invokestatic 128, 3) := by decide +kernel
theorem dL_law_179 : decode cL_law 179 = .ok (.if_icmp .ne 7, 3) := by decide +kernel
theorem dL_law_182 : decode cL_law 182 = .ok (.iconst 1, 1) := by decide +kernel
theorem dL_law_183 : decode cL_law 183 = .ok (.goto 4, 3) := by decide +kernel
theorem dL_law_186 : decode cL_law 186 = .ok (.iconst 0, 1) := by decide +kernel
theorem dL_law_187 : decode cL_law 187 = .ok (.istore 6, 2) := by decide +kernel
theorem dL_law_189 : decode cL_law 189 = .ok (.goto 613, 3) := by decide +kernel
theorem dL_law_192 : decode cL_law 192 = .ok (.iload 9, 2) := by decide +kernel
theorem dL_law_194 : decode cL_law 194 = .ok (.bipush 7, 2) := by decide +kernel
theorem dL_law_196 : decode cL_law 196 = .ok (.if_icmp .ge 77, 3) := by decide +kernel
theorem dL_law_199 : decode cL_law 199 = .ok (.aload_n 3, 1) := by decide +kernel
theorem dL_law_200 : decode cL_law 200 = .ok (.iconst 0, 1) := by decide +kernel
theorem dL_law_201 : decode cL_law 201 = .ok (.iload 11, 2) := by decide +kernel
theorem dL_law_203 : decode cL_law 203 = .ok (.iload 12, 2) := by decide +kernel
theorem dL_law_205 : decode cL_law 205 = .ok (.iload 10, 2) := by decide +kernel
theorem dL_law_207 : decode cL_law 207 = .ok (.sipush 144, 3) := by decide +kernel
theorem dL_law_210 : decode cL_law 210 = .ok (.idiv, 1) := by decide +kernel
theorem dL_law_211 : decode cL_law 211 = .ok (.bipush 80, 2) := by decide +kernel
theorem dL_law_213 : decode cL_law 213 = .ok (.irem, 1) := by decide +kernel
theorem dL_law_214 : decode cL_law 214 = .ok (.iconst 1, 1) := by decide +kernel
theorem dL_law_215 : decode cL_law 215 = .ok (.iload 10, 2) := by decide +kernel
theorem dL_law_217 : decode cL_law 217 = .ok (.sipush 11520, 3) := by decide +kernel
theorem dL_law_220 : decode cL_law 220 = .ok (.idiv, 1) := by decide +kernel
theorem dL_law_221 : decode cL_law 221 = .ok (.bipush 20, 2) := by decide +kernel
theorem dL_law_223 : decode cL_law 223 = .ok (.irem, 1) := by decide +kernel
theorem dL_law_224 : decode cL_law 224 = .ok (.iadd, 1) := by decide +kernel
theorem dL_law_225 : decode cL_law 225 = .ok (.iconst 0, 1) := by decide +kernel
theorem dL_law_226 : decode cL_law 226 = .ok (.invokestatic 132, 3) := by decide +kernel
theorem dL_law_229 : decode cL_law 229 = .ok (.aload 4, 2) := by decide +kernel
theorem dL_law_231 : decode cL_law 231 = .ok (.iconst 0, 1) := by decide +kernel
theorem dL_law_232 : decode cL_law 232 = .ok (.iload 12, 2) := by decide +kernel
theorem dL_law_234 : decode cL_law 234 = .ok (.iload 11, 2) := by decide +kernel
theorem dL_law_236 : decode cL_law 236 = .ok (.iload 10, 2) := by decide +kernel
theorem dL_law_238 : decode cL_law 238 = .ok (.sipush 144, 3) := by decide +kernel
theorem dL_law_241 : decode cL_law 241 = .ok (.idiv, 1) := by decide +kernel
theorem dL_law_242 : decode cL_law 242 = .ok (.bipush 80, 2) := by decide +kernel
theorem dL_law_244 : decode cL_law 244 = .ok (.irem, 1) := by decide +kernel
theorem dL_law_245 : decode cL_law 245 = .ok (.iconst 1, 1) := by decide +kernel
theorem dL_law_246 : decode cL_law 246 = .ok (.iload 10, 2) := by decide +kernel
theorem dL_law_248 : decode cL_law 248 = .ok (.sipush 11520, 3) := by decide +kernel
theorem dL_law_251 : decode cL_law 251 = .ok (.idiv, 1) := by decide +kernel
theorem dL_law_252 : decode cL_law 252 = .ok (.bipush 20, 2) := by decide +kernel
theorem dL_law_254 : decode cL_law 254 = .ok (.irem, 1) := by decide +kernel
theorem dL_law_255 : decode cL_law 255 = .ok (.iadd, 1) := by decide +kernel
theorem dL_law_256 : decode cL_law 256 = .ok (.iconst 0, 1) := by decide +kernel
theorem dL_law_257 : decode cL_law 257 = .ok (.invokestatic 132, 3) := by decide +kernel
theorem dL_law_260 : decode cL_law 260 = .ok (.if_icmp .ne 7, 3) := by decide +kernel
theorem dL_law_263 : decode cL_law 263 = .ok (.iconst 1, 1) := by decide +kernel
theorem dL_law_264 : decode cL_law 264 = .ok (.goto 4, 3) := by decide +kernel
theorem dL_law_267 : decode cL_law 267 = .ok (.iconst 0, 1) := by decide +kernel
theorem dL_law_268 : decode cL_law 268 = .ok (.istore 6, 2) := by decide +kernel
theorem dL_law_270 : decode cL_law 270 = .ok (.goto 532, 3) := by decide +kernel
theorem dL_law_273 : decode cL_law 273 = .ok (.iload 9, 2) := by decide +kernel
theorem dL_law_275 : decode cL_law 275 = .ok (.bipush 11, 2) := by decide +kernel
theorem dL_law_277 : decode cL_law 277 = .ok (.if_icmp .ge 83, 3) := by decide +kernel
theorem dL_law_280 : decode cL_law 280 = .ok (.iload 11, 2) := by decide +kernel
theorem dL_law_282 : decode cL_law 282 = .ok (.iload 10, 2) := by decide +kernel
theorem dL_law_284 : decode cL_law 284 = .ok (.sipush 144, 3) := by decide +kernel
theorem dL_law_287 : decode cL_law 287 = .ok (.idiv, 1) := by decide +kernel
theorem dL_law_288 : decode cL_law 288 = .ok (.iconst 4, 1) := by decide +kernel
theorem dL_law_289 : decode cL_law 289 = .ok (.irem, 1) := by decide +kernel
theorem dL_law_290 : decode cL_law 290 = .ok (.iadd, 1) := by decide +kernel
theorem dL_law_291 : decode cL_law 291 = .ok (.istore 13, 2) := by decide +kernel
theorem dL_law_293 : decode cL_law 293 = .ok (.iload 12, 2) := by decide +kernel
theorem dL_law_295 : decode cL_law 295 = .ok (.iload 10, 2) := by decide +kernel
theorem dL_law_297 : decode cL_law 297 = .ok (.sipush 576, 3) := by decide +kernel
theorem dL_law_300 : decode cL_law 300 = .ok (.idiv, 1) := by decide +kernel
theorem dL_law_301 : decode cL_law 301 = .ok (.iconst 4, 1) := by decide +kernel
theorem dL_law_302 : decode cL_law 302 = .ok (.irem, 1) := by decide +kernel
theorem dL_law_303 : decode cL_law 303 = .ok (.iadd, 1) := by decide +kernel
theorem dL_law_304 : decode cL_law 304 = .ok (.istore 14, 2) := by decide +kernel
theorem dL_law_306 : decode cL_law 306 = .ok (.aload_n 3, 1) := by decide +kernel
theorem dL_law_307 : decode cL_law 307 = .ok (.iconst 1, 1) := by decide +kernel
theorem dL_law_308 : decode cL_law 308 = .ok (.iload 11, 2) := by decide +kernel
theorem dL_law_310 : decode cL_law 310 = .ok (.iload 12, 2) := by decide +kernel
theorem dL_law_312 : decode cL_law 312 = .ok (.iload 13, 2) := by decide +kernel
theorem dL_law_314 : decode cL_law 314 = .ok (.iload 14, 2) := by decide +kernel
theorem dL_law_316 : decode cL_law 316 = .ok (.iload 10, 2) := by decide +kernel
theorem dL_law_318 : decode cL_law 318 = .ok (.bipush 7, 2) := by decide +kernel
theorem dL_law_320 : decode cL_law 320 = .ok (.idiv, 1) := by decide +kernel
theorem dL_law_321 : decode cL_law 321 = .ok (.iconst 5, 1) := by decide +kernel
theorem dL_law_322 : decode cL_law 322 = .ok (.irem, 1) := by decide +kernel
theorem dL_law_323 : decode cL_law 323 = .ok (.invokestatic 132, 3) := by decide +kernel
theorem dL_law_326 : decode cL_law 326 = .ok (.aload 4, 2) := by decide +kernel
theorem dL_law_328 : decode cL_law 328 = .ok (.iconst 1, 1) := by decide +kernel
theorem dL_law_329 : decode cL_law 329 = .ok (.iload 12, 2) := by decide +kernel
theorem dL_law_331 : decode cL_law 331 = .ok (.iload 11, 2) := by decide +kernel
theorem dL_law_333 : decode cL_law 333 = .ok (.iload 14, 2) := by decide +kernel
theorem dL_law_335 : decode cL_law 335 = .ok (.iload 13, 2) := by decide +kernel
theorem dL_law_337 : decode cL_law 337 = .ok (.iload 10, 2) := by decide +kernel
theorem dL_law_339 : decode cL_law 339 = .ok (.bipush 7, 2) := by decide +kernel
theorem dL_law_341 : decode cL_law 341 = .ok (.idiv, 1) := by decide +kernel
theorem dL_law_342 : decode cL_law 342 = .ok (.iconst 5, 1) := by decide +kernel
theorem dL_law_343 : decode cL_law 343 = .ok (.irem, 1) := by decide +kernel
theorem dL_law_344 : decode cL_law 344 = .ok (.invokestatic 132, 3) := by decide +kernel
theorem dL_law_347 : decode cL_law 347 = .ok (.if_icmp .ne 7, 3) := by decide +kernel
theorem dL_law_350 : decode cL_law 350 = .ok (.iconst 1, 1) := by decide +kernel
theorem dL_law_351 : decode cL_law 351 = .ok (.goto 4, 3) := by decide +kernel
theorem dL_law_354 : decode cL_law 354 = .ok (.iconst 0, 1) := by decide +kernel
theorem dL_law_355 : decode cL_law 355 = .ok (.istore 6, 2) := by decide +kernel
theorem dL_law_357 : decode cL_law 357 = .ok (.goto 445, 3) := by decide +kernel
theorem dL_law_360 : decode cL_law 360 = .ok (.iload 9, 2) := by decide +kernel
theorem dL_law_362 : decode cL_law 362 = .ok (.bipush 14, 2) := by decide +kernel
theorem dL_law_364 : decode cL_law 364 = .ok (.if_icmp .ge 37, 3) := by decide +kernel
theorem dL_law_367 : decode cL_law 367 = .ok (.aload_n 3, 1) := by decide +kernel
theorem dL_law_368 : decode cL_law 368 = .ok (.iconst 5, 1) := by decide +kernel
theorem dL_law_369 : decode cL_law 369 = .ok (.iload 11, 2) := by decide +kernel
theorem dL_law_371 : decode cL_law 371 = .ok (.iload 12, 2) := by decide +kernel
theorem dL_law_373 : decode cL_law 373 = .ok (.iconst 0, 1) := by decide +kernel
theorem dL_law_374 : decode cL_law 374 = .ok (.invokestatic 128, 3) := by decide +kernel
theorem dL_law_377 : decode cL_law 377 = .ok (.aload 4, 2) := by decide +kernel
theorem dL_law_379 : decode cL_law 379 = .ok (.iconst 5, 1) := by decide +kernel
theorem dL_law_380 : decode cL_law 380 = .ok (.iload 12, 2) := by decide +kernel
theorem dL_law_382 : decode cL_law 382 = .ok (.iload 11, 2) := by decide +kernel
theorem dL_law_384 : decode cL_law 384 = .ok (.iconst 0, 1) := by decide +kernel
theorem dL_law_385 : decode cL_law 385 = .ok (.invokestatic 128, 3) := by decide +kernel
theorem dL_law_388 : decode cL_law 388 = .ok (.if_icmp .ne 7, 3) := by decide +kernel
theorem dL_law_391 : decode cL_law 391 = .ok (.iconst 1, 1) := by decide +kernel
theorem dL_law_392 : decode cL_law 392 = .ok (.goto 4, 3) := by decide +kernel
theorem dL_law_395 : decode cL_law 395 = .ok (.iconst 0, 1) := by decide +kernel
theorem dL_law_396 : decode cL_law 396 = .ok (.istore 6, 2) := by decide +kernel
theorem dL_law_398 : decode cL_law 398 = .ok (.goto 404, 3) := by decide +kernel
theorem dL_law_401 : decode cL_law 401 = .ok (.iload 9, 2) := by decide +kernel
theorem dL_law_403 : decode cL_law 403 = .ok (.bipush 19, 2) := by decide +kernel
theorem dL_law_405 : decode cL_law 405 = .ok (.if_icmp .ge 51, 3) := by decide +kernel
theorem dL_law_408 : decode cL_law 408 = .ok (.aload_n 3, 1) := by decide +kernel
theorem dL_law_409 : decode cL_law 409 = .ok (.iconst 1, 1) := by decide +kernel
theorem dL_law_410 : decode cL_law 410 = .ok (.iload 10, 2) := by decide +kernel
theorem dL_law_412 : decode cL_law 412 = .ok (.iconst 5, 1) := by decide +kernel
theorem dL_law_413 : decode cL_law 413 = .ok (.irem, 1) := by decide +kernel
theorem dL_law_414 : decode cL_law 414 = .ok (.iload 10, 2) := by decide +kernel
theorem dL_law_416 : decode cL_law 416 = .ok (.iconst 5, 1) := by decide +kernel
theorem dL_law_417 : decode cL_law 417 = .ok (.idiv, 1) := by decide +kernel
theorem dL_law_418 : decode cL_law 418 = .ok (.bipush 8, 2) := by decide +kernel
theorem dL_law_420 : decode cL_law 420 = .ok (.irem, 1) := by decide +kernel
theorem dL_law_421 : decode cL_law 421 = .ok (.iconst 0, 1) := by decide +kernel
theorem dL_law_422 : decode cL_law 422 = .ok (.invokestatic 128, 3) := by decide +kernel
theorem dL_law_425 : decode cL_law 425 = .ok (.aload 4, 2) := by decide +kernel
theorem dL_law_427 : decode cL_law 427 = .ok (.iconst 1, 1) := by decide +kernel
theorem dL_law_428 : decode cL_law 428 = .ok (.iload 10, 2) := by decide +kernel
theorem dL_law_430 : decode cL_law 430 = .ok (.iconst 5, 1) := by decide +kernel
theorem dL_law_431 : decode cL_law 431 = .ok (.irem, 1) := by decide +kernel
theorem dL_law_432 : decode cL_law 432 = .ok (.iload 10, 2) := by decide +kernel
theorem dL_law_434 : decode cL_law 434 = .ok (.iconst 5, 1) := by decide +kernel
theorem dL_law_435 : decode cL_law 435 = .ok (.idiv, 1) := by decide +kernel
theorem dL_law_436 : decode cL_law 436 = .ok (.bipush 8, 2) := by decide +kernel
theorem dL_law_438 : decode cL_law 438 = .ok (.irem, 1) := by decide +kernel
theorem dL_law_439 : decode cL_law 439 = .ok (.iconst 0, 1) := by decide +kernel
theorem dL_law_440 : decode cL_law 440 = .ok (.invokestatic 128, 3) := by decide +kernel
theorem dL_law_443 : decode cL_law 443 = .ok (.if_icmp .ne 7, 3) := by decide +kernel
theorem dL_law_446 : decode cL_law 446 = .ok (.iconst 1, 1) := by decide +kernel
theorem dL_law_447 : decode cL_law 447 = .ok (.goto 4, 3) := by decide +kernel
theorem dL_law_450 : decode cL_law 450 = .ok (.iconst 0, 1) := by decide +kernel
theorem dL_law_451 : decode cL_law 451 = .ok (.istore 6, 2) := by decide +kernel
theorem dL_law_453 : decode cL_law 453 = .ok (.goto 349, 3) := by decide +kernel
theorem dL_law_456 : decode cL_law 456 = .ok (.iload 9, 2) := by decide +kernel
theorem dL_law_458 : decode cL_law 458 = .ok (.bipush 19, 2) := by decide +kernel
theorem dL_law_460 : decode cL_law 460 = .ok (.if_icmp .ne 51, 3) := by decide +kernel
theorem dL_law_463 : decode cL_law 463 = .ok (.aload_n 3, 1) := by decide +kernel
theorem dL_law_464 : decode cL_law 464 = .ok (.iconst 2, 1) := by decide +kernel
theorem dL_law_465 : decode cL_law 465 = .ok (.iload 10, 2) := by decide +kernel
theorem dL_law_467 : decode cL_law 467 = .ok (.iconst 5, 1) := by decide +kernel
theorem dL_law_468 : decode cL_law 468 = .ok (.irem, 1) := by decide +kernel
theorem dL_law_469 : decode cL_law 469 = .ok (.iload 10, 2) := by decide +kernel
theorem dL_law_471 : decode cL_law 471 = .ok (.iconst 5, 1) := by decide +kernel
theorem dL_law_472 : decode cL_law 472 = .ok (.idiv, 1) := by decide +kernel
theorem dL_law_473 : decode cL_law 473 = .ok (.bipush 100, 2) := by decide +kernel
theorem dL_law_475 : decode cL_law 475 = .ok (.irem, 1) := by decide +kernel
theorem dL_law_476 : decode cL_law 476 = .ok (.iconst 0, 1) := by decide +kernel
theorem dL_law_477 : decode cL_law 477 = .ok (.invokestatic 128, 3) := by decide +kernel
theorem dL_law_480 : decode cL_law 480 = .ok (.aload 4, 2) := by decide +kernel
theorem dL_law_482 : decode cL_law 482 = .ok (.iconst 2, 1) := by decide +kernel
theorem dL_law_483 : decode cL_law 483 = .ok (.iload 10, 2) := by decide +kernel
theorem dL_law_485 : decode cL_law 485 = .ok (.iconst 5, 1) := by decide +kernel
theorem dL_law_486 : decode cL_law 486 = .ok (.irem, 1) := by decide +kernel
theorem dL_law_487 : decode cL_law 487 = .ok (.iload 10, 2) := by decide +kernel
theorem dL_law_489 : decode cL_law 489 = .ok (.iconst 5, 1) := by decide +kernel
theorem dL_law_490 : decode cL_law 490 = .ok (.idiv, 1) := by decide +kernel
theorem dL_law_491 : decode cL_law 491 = .ok (.bipush 100, 2) := by decide +kernel
theorem dL_law_493 : decode cL_law 493 = .ok (.irem, 1) := by decide +kernel
theorem dL_law_494 : decode cL_law 494 = .ok (.iconst 0, 1) := by decide +kernel
theorem dL_law_495 : decode cL_law 495 = .ok (.invokestatic 128, 3) := by decide +kernel
theorem dL_law_498 : decode cL_law 498 = .ok (.if_icmp .ne 7, 3) := by decide +kernel
theorem dL_law_501 : decode cL_law 501 = .ok (.iconst 1, 1) := by decide +kernel
theorem dL_law_502 : decode cL_law 502 = .ok (.goto 4, 3) := by decide +kernel
theorem dL_law_505 : decode cL_law 505 = .ok (.iconst 0, 1) := by decide +kernel
theorem dL_law_506 : decode cL_law 506 = .ok (.istore 6, 2) := by decide +kernel
theorem dL_law_508 : decode cL_law 508 = .ok (.goto 294, 3) := by decide +kernel
theorem dL_law_511 : decode cL_law 511 = .ok (.iload 9, 2) := by decide +kernel
theorem dL_law_513 : decode cL_law 513 = .ok (.bipush 24, 2) := by decide +kernel
theorem dL_law_515 : decode cL_law 515 = .ok (.if_icmp .ge 70, 3) := by decide +kernel
theorem dL_law_518 : decode cL_law 518 = .ok (.aload_n 3, 1) := by decide +kernel
theorem dL_law_519 : decode cL_law 519 = .ok (.iconst 3, 1) := by decide +kernel
theorem dL_law_520 : decode cL_law 520 = .ok (.iload 10, 2) := by decide +kernel
theorem dL_law_522 : decode cL_law 522 = .ok (.iconst 5, 1) := by decide +kernel
theorem dL_law_523 : decode cL_law 523 = .ok (.irem, 1) := by decide +kernel
theorem dL_law_524 : decode cL_law 524 = .ok (.iload 10, 2) := by decide +kernel
theorem dL_law_526 : decode cL_law 526 = .ok (.iconst 5, 1) := by decide +kernel
theorem dL_law_527 : decode cL_law 527 = .ok (.idiv, 1) := by decide +kernel
theorem dL_law_528 : decode cL_law 528 = .ok (.iconst 3, 1) := by decide +kernel
theorem dL_law_529 : decode cL_law 529 = .ok (.irem, 1) := by decide +kernel
theorem dL_law_530 : decode cL_law 530 = .ok (.iconst 0, 1) := by decide +kernel
theorem dL_law_531 : decode cL_law 531 = .ok (.invokestatic 128, 3) := by decide +kernel
theorem dL_law_534 : decode cL_law 534 = .ok (.istore 13, 2) := by decide +kernel
theorem dL_law_536 : decode cL_law 536 = .ok (.aload 5, 2) := by decide +kernel
theorem dL_law_538 : decode cL_law 538 = .ok (.iconst 0, 1) := by decide +kernel
theorem dL_law_539 : decode cL_law 539 = .ok (.dup2, 1) := by decide +kernel
theorem dL_law_540 : decode cL_law 540 = .ok (.iaload, 1) := by decide +kernel
theorem dL_law_541 : decode cL_law 541 = .ok (.iload 13, 2) := by decide +kernel
theorem dL_law_543 : decode cL_law 543 = .ok (.ifCond .lt 7, 3) := by decide +kernel
theorem dL_law_546 : decode cL_law 546 = .ok (.iconst 1, 1) := by decide +kernel
theorem dL_law_547 : decode cL_law 547 = .ok (.goto 4, 3) := by decide +kernel
theorem dL_law_550 : decode cL_law 550 = .ok (.iconst 0, 1) := by decide +kernel
theorem dL_law_551 : decode cL_law 551 = .ok (.iadd, 1) := by decide +kernel
theorem dL_law_552 : decode cL_law 552 = .ok (.iastore, 1) := by decide +kernel
theorem dL_law_553 : decode cL_law 553 = .ok (.aload 4, 2) := by decide +kernel
theorem dL_law_555 : decode cL_law 555 = .ok (.iconst 3, 1) := by decide +kernel
theorem dL_law_556 : decode cL_law 556 = .ok (.iload 10, 2) := by decide +kernel
theorem dL_law_558 : decode cL_law 558 = .ok (.iconst 5, 1) := by decide +kernel
theorem dL_law_559 : decode cL_law 559 = .ok (.irem, 1) := by decide +kernel
theorem dL_law_560 : decode cL_law 560 = .ok (.iload 10, 2) := by decide +kernel
theorem dL_law_562 : decode cL_law 562 = .ok (.iconst 5, 1) := by decide +kernel
theorem dL_law_563 : decode cL_law 563 = .ok (.idiv, 1) := by decide +kernel
theorem dL_law_564 : decode cL_law 564 = .ok (.iconst 3, 1) := by decide +kernel
theorem dL_law_565 : decode cL_law 565 = .ok (.irem, 1) := by decide +kernel
theorem dL_law_566 : decode cL_law 566 = .ok (.iconst 0, 1) := by decide +kernel
theorem dL_law_567 : decode cL_law 567 = .ok (.invokestatic 128, 3) := by decide +kernel
theorem dL_law_570 : decode cL_law 570 = .ok (.iload 13, 2) := by decide +kernel
theorem dL_law_572 : decode cL_law 572 = .ok (.if_icmp .ne 7, 3) := by decide +kernel
theorem dL_law_575 : decode cL_law 575 = .ok (.iconst 1, 1) := by decide +kernel
theorem dL_law_576 : decode cL_law 576 = .ok (.goto 4, 3) := by decide +kernel
theorem dL_law_579 : decode cL_law 579 = .ok (.iconst 0, 1) := by decide +kernel
theorem dL_law_580 : decode cL_law 580 = .ok (.istore 6, 2) := by decide +kernel
theorem dL_law_582 : decode cL_law 582 = .ok (.goto 220, 3) := by decide +kernel
theorem dL_law_585 : decode cL_law 585 = .ok (.iload 9, 2) := by decide +kernel
theorem dL_law_587 : decode cL_law 587 = .ok (.bipush 26, 2) := by decide +kernel
theorem dL_law_589 : decode cL_law 589 = .ok (.if_icmp .ge 61, 3) := by decide +kernel
theorem dL_law_592 : decode cL_law 592 = .ok (.aload_n 3, 1) := by decide +kernel
theorem dL_law_593 : decode cL_law 593 = .ok (.iconst 4, 1) := by decide +kernel
theorem dL_law_594 : decode cL_law 594 = .ok (.iload 10, 2) := by decide +kernel
theorem dL_law_596 : decode cL_law 596 = .ok (.bipush 10, 2) := by decide +kernel
theorem dL_law_598 : decode cL_law 598 = .ok (.idiv, 1) := by decide +kernel
theorem dL_law_599 : decode cL_law 599 = .ok (.sipush 7875, 3) := by decide +kernel
theorem dL_law_602 : decode cL_law 602 = .ok (.irem, 1) := by decide +kernel
theorem dL_law_603 : decode cL_law 603 = .ok (.iconst 1, 1) := by decide +kernel
theorem dL_law_604 : decode cL_law 604 = .ok (.iload 10, 2) := by decide +kernel
theorem dL_law_606 : decode cL_law 606 = .ok (.bipush 10, 2) := by decide +kernel
theorem dL_law_608 : decode cL_law 608 = .ok (.irem, 1) := by decide +kernel
theorem dL_law_609 : decode cL_law 609 = .ok (.iadd, 1) := by decide +kernel
theorem dL_law_610 : decode cL_law 610 = .ok (.iconst 0, 1) := by decide +kernel
theorem dL_law_611 : decode cL_law 611 = .ok (.invokestatic 128, 3) := by decide +kernel
theorem dL_law_614 : decode cL_law 614 = .ok (.aload 4, 2) := by decide +kernel
theorem dL_law_616 : decode cL_law 616 = .ok (.iconst 4, 1) := by decide +kernel
theorem dL_law_617 : decode cL_law 617 = .ok (.iload 10, 2) := by decide +kernel
theorem dL_law_619 : decode cL_law 619 = .ok (.bipush 10, 2) := by decide +kernel
theorem dL_law_621 : decode cL_law 621 = .ok (.idiv, 1) := by decide +kernel
theorem dL_law_622 : decode cL_law 622 = .ok (.sipush 7875, 3) := by decide +kernel
theorem dL_law_625 : decode cL_law 625 = .ok (.irem, 1) := by decide +kernel
theorem dL_law_626 : decode cL_law 626 = .ok (.iconst 1, 1) := by decide +kernel
theorem dL_law_627 : decode cL_law 627 = .ok (.iload 10, 2) := by decide +kernel
theorem dL_law_629 : decode cL_law 629 = .ok (.bipush 10, 2) := by decide +kernel
theorem dL_law_631 : decode cL_law 631 = .ok (.irem, 1) := by decide +kernel
theorem dL_law_632 : decode cL_law 632 = .ok (.iadd, 1) := by decide +kernel
theorem dL_law_633 : decode cL_law 633 = .ok (.iconst 0, 1) := by decide +kernel
theorem dL_law_634 : decode cL_law 634 = .ok (.invokestatic 128, 3) := by decide +kernel
theorem dL_law_637 : decode cL_law 637 = .ok (.if_icmp .ne 7, 3) := by decide +kernel
theorem dL_law_640 : decode cL_law 640 = .ok (.iconst 1, 1) := by decide +kernel
theorem dL_law_641 : decode cL_law 641 = .ok (.goto 4, 3) := by decide +kernel
theorem dL_law_644 : decode cL_law 644 = .ok (.iconst 0, 1) := by decide +kernel
theorem dL_law_645 : decode cL_law 645 = .ok (.istore 6, 2) := by decide +kernel
theorem dL_law_647 : decode cL_law 647 = .ok (.goto 155, 3) := by decide +kernel
theorem dL_law_650 : decode cL_law 650 = .ok (.iload 9, 2) := by decide +kernel
theorem dL_law_652 : decode cL_law 652 = .ok (.bipush 26, 2) := by decide +kernel
theorem dL_law_654 : decode cL_law 654 = .ok (.if_icmp .ne 65, 3) := by decide +kernel
theorem dL_law_657 : decode cL_law 657 = .ok (.aload_n 3, 1) := by decide +kernel
theorem dL_law_658 : decode cL_law 658 = .ok (.iload 10, 2) := by decide +kernel
theorem dL_law_660 : decode cL_law 660 = .ok (.bipush 8, 2) := by decide +kernel
theorem dL_law_662 : decode cL_law 662 = .ok (.irem, 1) := by decide +kernel
theorem dL_law_663 : decode cL_law 663 = .ok (.iload 10, 2) := by decide +kernel
theorem dL_law_665 : decode cL_law 665 = .ok (.bipush 8, 2) := by decide +kernel
theorem dL_law_667 : decode cL_law 667 = .ok (.idiv, 1) := by decide +kernel
theorem dL_law_668 : decode cL_law 668 = .ok (.iconst 2, 1) := by decide +kernel
theorem dL_law_669 : decode cL_law 669 = .ok (.irem, 1) := by decide +kernel
theorem dL_law_670 : decode cL_law 670 = .ok (.ifCond .ne 7, 3) := by decide +kernel
theorem dL_law_673 : decode cL_law 673 = .ok (.iconst 1, 1) := by decide +kernel
theorem dL_law_674 : decode cL_law 674 = .ok (.goto 4, 3) := by decide +kernel
theorem dL_law_677 : decode cL_law 677 = .ok (.iconst 0, 1) := by decide +kernel
theorem dL_law_678 : decode cL_law 678 = .ok (.invokestatic 136, 3) := by decide +kernel
theorem dL_law_681 : decode cL_law 681 = .ok (.aload 4, 2) := by decide +kernel
theorem dL_law_683 : decode cL_law 683 = .ok (.iload 10, 2) := by decide +kernel
theorem dL_law_685 : decode cL_law 685 = .ok (.bipush 8, 2) := by decide +kernel
theorem dL_law_687 : decode cL_law 687 = .ok (.irem, 1) := by decide +kernel
theorem dL_law_688 : decode cL_law 688 = .ok (.iload 10, 2) := by decide +kernel
theorem dL_law_690 : decode cL_law 690 = .ok (.bipush 8, 2) := by decide +kernel
theorem dL_law_692 : decode cL_law 692 = .ok (.idiv, 1) := by decide +kernel
theorem dL_law_693 : decode cL_law 693 = .ok (.iconst 2, 1) := by decide +kernel
theorem dL_law_694 : decode cL_law 694 = .ok (.irem, 1) := by decide +kernel
theorem dL_law_695 : decode cL_law 695 = .ok (.ifCond .ne 7, 3) := by decide +kernel
theorem dL_law_698 : decode cL_law 698 = .ok (.iconst 1, 1) := by decide +kernel
theorem dL_law_699 : decode cL_law 699 = .ok (.goto 4, 3) := by decide +kernel
theorem dL_law_702 : decode cL_law 702 = .ok (.iconst 0, 1) := by decide +kernel
theorem dL_law_703 : decode cL_law 703 = .ok (.invokestatic 136, 3) := by decide +kernel
theorem dL_law_706 : decode cL_law 706 = .ok (.if_icmp .ne 7, 3) := by decide +kernel
theorem dL_law_709 : decode cL_law 709 = .ok (.iconst 1, 1) := by decide +kernel
theorem dL_law_710 : decode cL_law 710 = .ok (.goto 4, 3) := by decide +kernel
theorem dL_law_713 : decode cL_law 713 = .ok (.iconst 0, 1) := by decide +kernel
theorem dL_law_714 : decode cL_law 714 = .ok (.istore 6, 2) := by decide +kernel
theorem dL_law_716 : decode cL_law 716 = .ok (.goto 86, 3) := by decide +kernel
theorem dL_law_719 : decode cL_law 719 = .ok (.aload 5, 2) := by decide +kernel
theorem dL_law_721 : decode cL_law 721 = .ok (.iconst 0, 1) := by decide +kernel
theorem dL_law_722 : decode cL_law 722 = .ok (.iaload, 1) := by decide +kernel
theorem dL_law_723 : decode cL_law 723 = .ok (.ifCond .ne 7, 3) := by decide +kernel
theorem dL_law_726 : decode cL_law 726 = .ok (.iconst 0, 1) := by decide +kernel
theorem dL_law_727 : decode cL_law 727 = .ok (.goto 10, 3) := by decide +kernel
theorem dL_law_730 : decode cL_law 730 = .ok (.iload 10, 2) := by decide +kernel
theorem dL_law_732 : decode cL_law 732 = .ok (.aload 5, 2) := by decide +kernel
theorem dL_law_734 : decode cL_law 734 = .ok (.iconst 0, 1) := by decide +kernel
theorem dL_law_735 : decode cL_law 735 = .ok (.iaload, 1) := by decide +kernel
theorem dL_law_736 : decode cL_law 736 = .ok (.irem, 1) := by decide +kernel
theorem dL_law_737 : decode cL_law 737 = .ok (.istore 13, 2) := by decide +kernel
theorem dL_law_739 : decode cL_law 739 = .ok (.aload_n 3, 1) := by decide +kernel
theorem dL_law_740 : decode cL_law 740 = .ok (.bipush 6, 2) := by decide +kernel
theorem dL_law_742 : decode cL_law 742 = .ok (.iload 13, 2) := by decide +kernel
theorem dL_law_744 : decode cL_law 744 = .ok (.iload 10, 2) := by decide +kernel
theorem dL_law_746 : decode cL_law 746 = .ok (.bipush 24, 2) := by decide +kernel
theorem dL_law_748 : decode cL_law 748 = .ok (.idiv, 1) := by decide +kernel
theorem dL_law_749 : decode cL_law 749 = .ok (.bipush 8, 2) := by decide +kernel
theorem dL_law_751 : decode cL_law 751 = .ok (.irem, 1) := by decide +kernel
theorem dL_law_752 : decode cL_law 752 = .ok (.iload 10, 2) := by decide +kernel
theorem dL_law_754 : decode cL_law 754 = .ok (.sipush 192, 3) := by decide +kernel
theorem dL_law_757 : decode cL_law 757 = .ok (.idiv, 1) := by decide +kernel
theorem dL_law_758 : decode cL_law 758 = .ok (.sipush 300, 3) := by decide +kernel
theorem dL_law_761 : decode cL_law 761 = .ok (.irem, 1) := by decide +kernel
theorem dL_law_762 : decode cL_law 762 = .ok (.invokestatic 128, 3) := by decide +kernel
theorem dL_law_765 : decode cL_law 765 = .ok (.aload 4, 2) := by decide +kernel
theorem dL_law_767 : decode cL_law 767 = .ok (.bipush 6, 2) := by decide +kernel
theorem dL_law_769 : decode cL_law 769 = .ok (.iload 13, 2) := by decide +kernel
theorem dL_law_771 : decode cL_law 771 = .ok (.iload 10, 2) := by decide +kernel
theorem dL_law_773 : decode cL_law 773 = .ok (.bipush 24, 2) := by decide +kernel
theorem dL_law_775 : decode cL_law 775 = .ok (.idiv, 1) := by decide +kernel
theorem dL_law_776 : decode cL_law 776 = .ok (.bipush 8, 2) := by decide +kernel
theorem dL_law_778 : decode cL_law 778 = .ok (.irem, 1) := by decide +kernel
theorem dL_law_779 : decode cL_law 779 = .ok (.iload 10, 2) := by decide +kernel
theorem dL_law_781 : decode cL_law 781 = .ok (.sipush 192, 3) := by decide +kernel
theorem dL_law_784 : decode cL_law 784 = .ok (.idiv, 1) := by decide +kernel
theorem dL_law_785 : decode cL_law 785 = .ok (.sipush 300, 3) := by decide +kernel
theorem dL_law_788 : decode cL_law 788 = .ok (.irem, 1) := by decide +kernel
theorem dL_law_789 : decode cL_law 789 = .ok (.invokestatic 128, 3) := by decide +kernel
theorem dL_law_792 : decode cL_law 792 = .ok (.if_icmp .ne 7, 3) := by decide +kernel
theorem dL_law_795 : decode cL_law 795 = .ok (.iconst 1, 1) := by decide +kernel
theorem dL_law_796 : decode cL_law 796 = .ok (.goto 4, 3) := by decide +kernel
theorem dL_law_799 : decode cL_law 799 = .ok (.iconst 0, 1) := by decide +kernel
theorem dL_law_800 : decode cL_law 800 = .ok (.istore 6, 2) := by decide +kernel
theorem dL_law_802 : decode cL_law 802 = .ok (.iload 6, 2) := by decide +kernel
theorem dL_law_804 : decode cL_law 804 = .ok (.ifCond .eq 30, 3) := by decide +kernel
theorem dL_law_807 : decode cL_law 807 = .ok (.iload 7, 2) := by decide +kernel
theorem dL_law_809 : decode cL_law 809 = .ok (.iconst 4, 1) := by decide +kernel
theorem dL_law_810 : decode cL_law 810 = .ok (.irem, 1) := by decide +kernel
theorem dL_law_811 : decode cL_law 811 = .ok (.iconst 3, 1) := by decide +kernel
theorem dL_law_812 : decode cL_law 812 = .ok (.if_icmp .lt 18, 3) := by decide +kernel
theorem dL_law_815 : decode cL_law 815 = .ok (.aload_n 3, 1) := by decide +kernel
theorem dL_law_816 : decode cL_law 816 = .ok (.aload 4, 2) := by decide +kernel
theorem dL_law_818 : decode cL_law 818 = .ok (.aload 5, 2) := by decide +kernel
theorem dL_law_820 : decode cL_law 820 = .ok (.iload 8, 2) := by decide +kernel
theorem dL_law_822 : decode cL_law 822 = .ok (.iconst 3, 1) := by decide +kernel
theorem dL_law_823 : decode cL_law 823 = .ok (.idiv, 1) := by decide +kernel
theorem dL_law_824 : decode cL_law 824 = .ok (.invokestatic 139, 3) := by decide +kernel
theorem dL_law_827 : decode cL_law 827 = .ok (.ifCond .eq 7, 3) := by decide +kernel
theorem dL_law_830 : decode cL_law 830 = .ok (.iconst 1, 1) := by decide +kernel
theorem dL_law_831 : decode cL_law 831 = .ok (.goto 4, 3) := by decide +kernel
theorem dL_law_834 : decode cL_law 834 = .ok (.iconst 0, 1) := by decide +kernel
theorem dL_law_835 : decode cL_law 835 = .ok (.istore 6, 2) := by decide +kernel
theorem dL_law_837 : decode cL_law 837 = .ok (.iinc 7 1, 3) := by decide +kernel
theorem dL_law_840 : decode cL_law 840 = .ok (.goto (-784), 3) := by decide +kernel
theorem dL_law_843 : decode cL_law 843 = .ok (.iload 6, 2) := by decide +kernel
theorem dL_law_845 : decode cL_law 845 = .ok (.ireturn, 1) := by decide +kernel
