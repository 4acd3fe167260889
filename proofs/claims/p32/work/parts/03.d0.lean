theorem dX0_init_0 : decode cX0_init 0 = .ok (.aload_n 0, 1) := by decide +kernel
theorem dX0_init_1 : decode cX0_init 1 = .ok (.invokespecial 3, 3) := by decide +kernel
theorem dX0_init_4 : decode cX0_init 4 = .ok (.aload_n 0, 1) := by decide +kernel
theorem dX0_init_5 : decode cX0_init 5 = .ok (.new 9, 3) := by decide +kernel
theorem dX0_init_8 : decode cX0_init 8 = .ok (.dup, 1) := by decide +kernel
theorem dX0_init_9 : decode cX0_init 9 = .ok (.sipush 288, 3) := by decide +kernel
theorem dX0_init_12 : decode cX0_init 12 = .ok (.invokespecial 13, 3) := by decide +kernel
theorem dX0_init_15 : decode cX0_init 15 = .ok (.putfield 16, 3) := by decide +kernel
theorem dX0_init_18 : decode cX0_init 18 = .ok (.aload_n 0, 1) := by decide +kernel
theorem dX0_init_19 : decode cX0_init 19 = .ok (.new 9, 3) := by decide +kernel
theorem dX0_init_22 : decode cX0_init 22 = .ok (.dup, 1) := by decide +kernel
theorem dX0_init_23 : decode cX0_init 23 = .ok (.sipush 288, 3) := by decide +kernel
theorem dX0_init_26 : decode cX0_init 26 = .ok (.invokespecial 13, 3) := by decide +kernel
theorem dX0_init_29 : decode cX0_init 29 = .ok (.putfield 20, 3) := by decide +kernel
theorem dX0_init_32 : decode cX0_init 32 = .ok (.aload_n 0, 1) := by decide +kernel
theorem dX0_init_33 : decode cX0_init 33 = .ok (.new 9, 3) := by decide +kernel
theorem dX0_init_36 : decode cX0_init 36 = .ok (.dup, 1) := by decide +kernel
theorem dX0_init_37 : decode cX0_init 37 = .ok (.sipush 288, 3) := by decide +kernel
theorem dX0_init_40 : decode cX0_init 40 = .ok (.invokespecial 13, 3) := by decide +kernel
theorem dX0_init_43 : decode cX0_init 43 = .ok (.putfield 23, 3) := by decide +kernel
theorem dX0_init_46 : decode cX0_init 46 = .ok (.aload_n 0, 1) := by decide +kernel
theorem dX0_init_47 : decode cX0_init 47 = .ok (.aload_n 1, 1) := by decide +kernel
theorem dX0_init_48 : decode cX0_init 48 = .ok (.putfield 26, 3) := by decide +kernel
theorem dX0_init_51 : decode cX0_init 51 = .ok (.return_, 1) := by decide +kernel
theorem dX0_trace_0 : decode cX0_trace 0 = .ok (.aload_n 0, 1) := by decide +kernel
theorem dX0_trace_1 : decode cX0_trace 1 = .ok (.iload_n 1, 1) := by decide +kernel
theorem dX0_trace_2 : decode cX0_trace 2 = .ok (.putfield 30, 3) := by decide +kernel
theorem dX0_trace_5 : decode cX0_trace 5 = .ok (.aload_n 0, 1) := by decide +kernel
theorem dX0_trace_6 : decode cX0_trace 6 = .ok (.getfield 16, 3) := by decide +kernel
theorem dX0_trace_9 : decode cX0_trace 9 = .ok (.iconst (-1), 1) := by decide +kernel
theorem dX0_trace_10 : decode cX0_trace 10 = .ok (.invokevirtual 34, 3) := by decide +kernel
theorem dX0_trace_13 : decode cX0_trace 13 = .ok (.aload_n 0, 1) := by decide +kernel
theorem dX0_trace_14 : decode cX0_trace 14 = .ok (.getfield 20, 3) := by decide +kernel
theorem dX0_trace_17 : decode cX0_trace 17 = .ok (.iconst 0, 1) := by decide +kernel
theorem dX0_trace_18 : decode cX0_trace 18 = .ok (.invokevirtual 34, 3) := by decide +kernel
theorem dX0_trace_21 : decode cX0_trace 21 = .ok (.aload_n 0, 1) := by decide +kernel
theorem dX0_trace_22 : decode cX0_trace 22 = .ok (.getfield 23, 3) := by decide +kernel
theorem dX0_trace_25 : decode cX0_trace 25 = .ok (.iconst 0, 1) := by decide +kernel
theorem dX0_trace_26 : decode cX0_trace 26 = .ok (.invokevirtual 34, 3) := by decide +kernel
theorem dX0_trace_29 : decode cX0_trace 29 = .ok (.aload_n 0, 1) := by decide +kernel
theorem dX0_trace_30 : decode cX0_trace 30 = .ok (.invokevirtual 37, 3) := by decide +kernel
theorem dX0_trace_33 : decode cX0_trace 33 = .ok (.aload_n 0, 1) := by decide +kernel
theorem dX0_trace_34 : decode cX0_trace 34 = .ok (.invokevirtual 40, 3) := by decide +kernel
theorem dX0_trace_37 : decode cX0_trace 37 = .ok (.aload_n 0, 1) := by decide +kernel
theorem dX0_trace_38 : decode cX0_trace 38 = .ok (.invokevirtual 43, 3) := by decide +kernel
theorem dX0_trace_41 : decode cX0_trace 41 = .ok (.return_, 1) := by decide +kernel
theorem dX0_lineCount_0 : decode cX0_lineCount 0 = .ok (.iconst 0, 1) := by decide +kernel
theorem dX0_lineCount_1 : decode cX0_lineCount 1 = .ok (.istore_n 1, 1) := by decide +kernel
theorem dX0_lineCount_2 : decode cX0_lineCount 2 = .ok (.iconst 0, 1) := by decide +kernel
theorem dX0_lineCount_3 : decode cX0_lineCount 3 = .ok (.istore_n 2, 1) := by decide +kernel
theorem dX0_lineCount_4 : decode cX0_lineCount 4 = .ok (.iload_n 2, 1) := by decide +kernel
theorem dX0_lineCount_5 : decode cX0_lineCount 5 = .ok (.sipush 288, 3) := by decide +kernel
theorem dX0_lineCount_8 : decode cX0_lineCount 8 = .ok (.if_icmp .ge 23, 3) := by decide +kernel
theorem dX0_lineCount_11 : decode cX0_lineCount 11 = .ok (.aload_n 0, 1) := by decide +kernel
theorem dX0_lineCount_12 : decode cX0_lineCount 12 = .ok (.getfield 20, 3) := by decide +kernel
theorem dX0_lineCount_15 : decode cX0_lineCount 15 = .ok (.iload_n 2, 1) := by decide +kernel
theorem dX0_lineCount_16 : decode cX0_lineCount 16 = .ok (.invokevirtual 46, 3) := by decide +kernel
theorem dX0_lineCount_19 : decode cX0_lineCount 19 = .ok (.ifCond .le 6, 3) := by decide +kernel
theorem dX0_lineCount_22 : decode cX0_lineCount 22 = .ok (.iinc 1 1, 3) := by decide +kernel
theorem dX0_lineCount_25 : decode cX0_lineCount 25 = .ok (.iinc 2 1, 3) := by decide +kernel
theorem dX0_lineCount_28 : decode cX0_lineCount 28 = .ok (.goto (-24), 3) := by decide +kernel
theorem dX0_lineCount_31 : decode cX0_lineCount 31 = .ok (.iload_n 1, 1) := by decide +kernel
theorem dX0_lineCount_32 : decode cX0_lineCount 32 = .ok (.ireturn, 1) := by decide +kernel
theorem dX0_ringCount_0 : decode cX0_ringCount 0 = .ok (.iconst 0, 1) := by decide +kernel
theorem dX0_ringCount_1 : decode cX0_ringCount 1 = .ok (.istore_n 1, 1) := by decide +kernel
theorem dX0_ringCount_2 : decode cX0_ringCount 2 = .ok (.iconst 0, 1) := by decide +kernel
theorem dX0_ringCount_3 : decode cX0_ringCount 3 = .ok (.istore_n 2, 1) := by decide +kernel
theorem dX0_ringCount_4 : decode cX0_ringCount 4 = .ok (.iload_n 2, 1) := by decide +kernel
theorem dX0_ringCount_5 : decode cX0_ringCount 5 = .ok (.sipush 288, 3) := by decide +kernel
theorem dX0_ringCount_8 : decode cX0_ringCount 8 = .ok (.if_icmp .ge 34, 3) := by decide +kernel
theorem dX0_ringCount_11 : decode cX0_ringCount 11 = .ok (.aload_n 0, 1) := by decide +kernel
theorem dX0_ringCount_12 : decode cX0_ringCount 12 = .ok (.getfield 20, 3) := by decide +kernel
theorem dX0_ringCount_15 : decode cX0_ringCount 15 = .ok (.iload_n 2, 1) := by decide +kernel
theorem dX0_ringCount_16 : decode cX0_ringCount 16 = .ok (.invokevirtual 46, 3) := by decide +kernel
theorem dX0_ringCount_19 : decode cX0_ringCount 19 = .ok (.ifCond .le 17, 3) := by decide +kernel
theorem dX0_ringCount_22 : decode cX0_ringCount 22 = .ok (.aload_n 0, 1) := by decide +kernel
theorem dX0_ringCount_23 : decode cX0_ringCount 23 = .ok (.getfield 23, 3) := by decide +kernel
theorem dX0_ringCount_26 : decode cX0_ringCount 26 = .ok (.iload_n 2, 1) := by decide +kernel
theorem dX0_ringCount_27 : decode cX0_ringCount 27 = .ok (.invokevirtual 46, 3) := by decide +kernel
theorem dX0_ringCount_30 : decode cX0_ringCount 30 = .ok (.ifCond .ne 6, 3) := by decide +kernel
theorem dX0_ringCount_33 : decode cX0_ringCount 33 = .ok (.iinc 1 1, 3) := by decide +kernel
theorem dX0_ringCount_36 : decode cX0_ringCount 36 = .ok (.iinc 2 1, 3) := by decide +kernel
theorem dX0_ringCount_39 : decode cX0_ringCount 39 = .ok (.goto (-35), 3) := by decide +kernel
theorem dX0_ringCount_42 : decode cX0_ringCount 42 = .ok (.iload_n 1, 1) := by decide +kernel
theorem dX0_ringCount_43 : decode cX0_ringCount 43 = .ok (.ireturn, 1) := by decide +kernel
theorem dX0_mostGaps_0 : decode cX0_mostGaps 0 = .ok (.iconst 0, 1) := by decide +kernel
theorem dX0_mostGaps_1 : decode cX0_mostGaps 1 = .ok (.istore_n 1, 1) := by decide +kernel
theorem dX0_mostGaps_2 : decode cX0_mostGaps 2 = .ok (.iconst 0, 1) := by decide +kernel
theorem dX0_mostGaps_3 : decode cX0_mostGaps 3 = .ok (.istore_n 2, 1) := by decide +kernel
theorem dX0_mostGaps_4 : decode cX0_mostGaps 4 = .ok (.iload_n 2, 1) := by decide +kernel
theorem dX0_mostGaps_5 : decode cX0_mostGaps 5 = .ok (.sipush 288, 3) := by decide +kernel
theorem dX0_mostGaps_8 : decode cX0_mostGaps 8 = .ok (.if_icmp .ge 22, 3) := by decide +kernel
theorem dX0_mostGaps_11 : decode cX0_mostGaps 11 = .ok (.iload_n 1, 1) := by decide +kernel
theorem dX0_mostGaps_12 : decode cX0_mostGaps 12 = .ok (.aload_n 0, 1) := by decide +kernel
theorem dX0_mostGaps_13 : decode cX0_mostGaps 13 = .ok (.getfield 20, 3) := by decide +kernel
theorem dX0_mostGaps_16 : decode cX0_mostGaps 16 = .ok (.iload_n 2, 1) := by decide +kernel
theorem dX0_mostGaps_17 : decode cX0_mostGaps 17 = .ok (.invokevirtual 46, 3) := by decide +kernel
theorem dX0_mostGaps_20 : decode cX0_mostGaps 20 = .ok (.invokestatic 50, 3) := by decide +kernel
theorem dX0_mostGaps_23 : decode cX0_mostGaps 23 = .ok (.istore_n 1, 1) := by decide +kernel
theorem dX0_mostGaps_24 : decode cX0_mostGaps 24 = .ok (.iinc 2 1, 3) := by decide +kernel
theorem dX0_mostGaps_27 : decode cX0_mostGaps 27 = .ok (.goto (-23), 3) := by decide +kernel
theorem dX0_mostGaps_30 : decode cX0_mostGaps 30 = .ok (.iload_n 1, 1) := by decide +kernel
theorem dX0_mostGaps_31 : decode cX0_mostGaps 31 = .ok (.ireturn, 1) := by decide +kernel
theorem dX0_gapToTheRight_0 : decode cX0_gapToTheRight 0 = .ok (.iload_n 0, 1) := by decide +kernel
theorem dX0_gapToTheRight_1 : decode cX0_gapToTheRight 1 = .ok (.iload_n 1, 1) := by decide +kernel
theorem dX0_gapToTheRight_2 : decode cX0_gapToTheRight 2 = .ok (.invokestatic 56, 3) := by decide +kernel
theorem dX0_gapToTheRight_5 : decode cX0_gapToTheRight 5 = .ok (.ireturn, 1) := by decide +kernel
theorem dX0_gapBelow_0 : decode cX0_gapBelow 0 = .ok (.sipush 144, 3) := by decide +kernel
theorem dX0_gapBelow_3 : decode cX0_gapBelow 3 = .ok (.iload_n 0, 1) := by decide +kernel
theorem dX0_gapBelow_4 : decode cX0_gapBelow 4 = .ok (.iload_n 1, 1) := by decide +kernel
theorem dX0_gapBelow_5 : decode cX0_gapBelow 5 = .ok (.invokestatic 56, 3) := by decide +kernel
theorem dX0_gapBelow_8 : decode cX0_gapBelow 8 = .ok (.iadd, 1) := by decide +kernel
theorem dX0_gapBelow_9 : decode cX0_gapBelow 9 = .ok (.ireturn, 1) := by decide +kernel
theorem dX0_isHigh_0 : decode cX0_isHigh 0 = .ok (.aload_n 0, 1) := by decide +kernel
theorem dX0_isHigh_1 : decode cX0_isHigh 1 = .ok (.getfield 26, 3) := by decide +kernel
theorem dX0_isHigh_4 : decode cX0_isHigh 4 = .ok (.iload_n 1, 1) := by decide +kernel
theorem dX0_isHigh_5 : decode cX0_isHigh 5 = .ok (.iload_n 2, 1) := by decide +kernel
theorem dX0_isHigh_6 : decode cX0_isHigh 6 = .ok (.invokestatic 56, 3) := by decide +kernel
theorem dX0_isHigh_9 : decode cX0_isHigh 9 = .ok (.invokevirtual 61, 3) := by decide +kernel
theorem dX0_isHigh_12 : decode cX0_isHigh 12 = .ok (.aload_n 0, 1) := by decide +kernel
theorem dX0_isHigh_13 : decode cX0_isHigh 13 = .ok (.getfield 30, 3) := by decide +kernel
theorem dX0_isHigh_16 : decode cX0_isHigh 16 = .ok (.if_icmp .lt 7, 3) := by decide +kernel
theorem dX0_isHigh_19 : decode cX0_isHigh 19 = .ok (.iconst 1, 1) := by decide +kernel
theorem dX0_isHigh_20 : decode cX0_isHigh 20 = .ok (.goto 4, 3) := by decide +kernel
theorem dX0_isHigh_23 : decode cX0_isHigh 23 = .ok (.iconst 0, 1) := by decide +kernel
theorem dX0_isHigh_24 : decode cX0_isHigh 24 = .ok (.ireturn, 1) := by decide +kernel
theorem dX0_isGap_0 : decode cX0_isGap 0 = .ok (.aload_n 0, 1) := by decide +kernel
theorem dX0_isGap_1 : decode cX0_isGap 1 = .ok (.getfield 16, 3) := by decide +kernel
theorem dX0_isGap_4 : decode cX0_isGap 4 = .ok (.iload_n 1, 1) := by decide +kernel
theorem dX0_isGap_5 : decode cX0_isGap 5 = .ok (.invokevirtual 46, 3) := by decide +kernel
theorem dX0_isGap_8 : decode cX0_isGap 8 = .ok (.iconst (-1), 1) := by decide +kernel
theorem dX0_isGap_9 : decode cX0_isGap 9 = .ok (.if_icmp .eq 7, 3) := by decide +kernel
theorem dX0_isGap_12 : decode cX0_isGap 12 = .ok (.iconst 1, 1) := by decide +kernel
theorem dX0_isGap_13 : decode cX0_isGap 13 = .ok (.goto 4, 3) := by decide +kernel
theorem dX0_isGap_16 : decode cX0_isGap 16 = .ok (.iconst 0, 1) := by decide +kernel
theorem dX0_isGap_17 : decode cX0_isGap 17 = .ok (.ireturn, 1) := by decide +kernel
theorem dX0_findGaps_0 : decode cX0_findGaps 0 = .ok (.iconst 0, 1) := by decide +kernel
theorem dX0_findGaps_1 : decode cX0_findGaps 1 = .ok (.istore_n 1, 1) := by decide +kernel
theorem dX0_findGaps_2 : decode cX0_findGaps 2 = .ok (.iload_n 1, 1) := by decide +kernel
theorem dX0_findGaps_3 : decode cX0_findGaps 3 = .ok (.aload_n 0, 1) := by decide +kernel
theorem dX0_findGaps_4 : decode cX0_findGaps 4 = .ok (.getfield 26, 3) := by decide +kernel
theorem dX0_findGaps_7 : decode cX0_findGaps 7 = .ok (.invokevirtual 64, 3) := by decide +kernel
theorem dX0_findGaps_10 : decode cX0_findGaps 10 = .ok (.if_icmp .ge 121, 3) := by decide +kernel
theorem dX0_findGaps_13 : decode cX0_findGaps 13 = .ok (.iconst 0, 1) := by decide +kernel
theorem dX0_findGaps_14 : decode cX0_findGaps 14 = .ok (.istore_n 2, 1) := by decide +kernel
theorem dX0_findGaps_15 : decode cX0_findGaps 15 = .ok (.iload_n 2, 1) := by decide +kernel
theorem dX0_findGaps_16 : decode cX0_findGaps 16 = .ok (.aload_n 0, 1) := by decide +kernel
theorem dX0_findGaps_17 : decode cX0_findGaps 17 = .ok (.getfield 26, 3) := by decide +kernel
theorem dX0_findGaps_20 : decode cX0_findGaps 20 = .ok (.invokevirtual 68, 3) := by decide +kernel
theorem dX0_findGaps_23 : decode cX0_findGaps 23 = .ok (.if_icmp .ge 102, 3) := by decide +kernel
theorem dX0_findGaps_26 : decode cX0_findGaps 26 = .ok (.aload_n 0, 1) := by decide +kernel
theorem dX0_findGaps_27 : decode cX0_findGaps 27 = .ok (.iload_n 2, 1) := by decide +kernel
theorem dX0_findGaps_28 : decode cX0_findGaps 28 = .ok (.iload_n 1, 1) := by decide +kernel
theorem dX0_findGaps_29 : decode cX0_findGaps 29 = .ok (.invokevirtual 71, 3) := by decide +kernel
theorem dX0_findGaps_32 : decode cX0_findGaps 32 = .ok (.istore_n 3, 1) := by decide +kernel
theorem dX0_findGaps_33 : decode cX0_findGaps 33 = .ok (.aload_n 0, 1) := by decide +kernel
theorem dX0_findGaps_34 : decode cX0_findGaps 34 = .ok (.getfield 26, 3) := by decide +kernel
theorem dX0_findGaps_37 : decode cX0_findGaps 37 = .ok (.iload_n 2, 1) := by decide +kernel
theorem dX0_findGaps_38 : decode cX0_findGaps 38 = .ok (.iconst 1, 1) := by decide +kernel
theorem dX0_findGaps_39 : decode cX0_findGaps 39 = .ok (.iadd, 1) := by decide +kernel
theorem dX0_findGaps_40 : decode cX0_findGaps 40 = .ok (.iload_n 1, 1) := by decide +kernel
theorem dX0_findGaps_41 : decode cX0_findGaps 41 = .ok (.invokevirtual 75, 3) := by decide +kernel
theorem dX0_findGaps_44 : decode cX0_findGaps 44 = .ok (.ifCond .eq 32, 3) := by decide +kernel
theorem dX0_findGaps_47 : decode cX0_findGaps 47 = .ok (.iload_n 3, 1) := by decide +kernel
theorem dX0_findGaps_48 : decode cX0_findGaps 48 = .ok (.aload_n 0, 1) := by decide +kernel
theorem dX0_findGaps_49 : decode cX0_findGaps 49 = .ok (.iload_n 2, 1) := by decide +kernel
theorem dX0_findGaps_50 : decode cX0_findGaps 50 = .ok (.iconst 1, 1) := by decide +kernel
theorem dX0_findGaps_51 : decode cX0_findGaps 51 = .ok (.iadd, 1) := by decide +kernel
theorem dX0_findGaps_52 : decode cX0_findGaps 52 = .ok (.iload_n 1, 1) := by decide +kernel
theorem dX0_findGaps_53 : decode cX0_findGaps 53 = .ok (.invokevirtual 71, 3) := by decide +kernel
theorem dX0_findGaps_56 : decode cX0_findGaps 56 = .ok (.if_icmp .eq 20, 3) := by decide +kernel
theorem dX0_findGaps_59 : decode cX0_findGaps 59 = .ok (.aload_n 0, 1) := by decide +kernel
theorem dX0_findGaps_60 : decode cX0_findGaps 60 = .ok (.getfield 16, 3) := by decide +kernel
theorem dX0_findGaps_63 : decode cX0_findGaps 63 = .ok (.iload_n 2, 1) := by decide +kernel
theorem dX0_findGaps_64 : decode cX0_findGaps 64 = .ok (.iload_n 1, 1) := by decide +kernel
theorem dX0_findGaps_65 : decode cX0_findGaps 65 = .ok (.invokestatic 78, 3) := by decide +kernel
theorem dX0_findGaps_68 : decode cX0_findGaps 68 = .ok (.iload_n 2, 1) := by decide +kernel
theorem dX0_findGaps_69 : decode cX0_findGaps 69 = .ok (.iload_n 1, 1) := by decide +kernel
theorem dX0_findGaps_70 : decode cX0_findGaps 70 = .ok (.invokestatic 78, 3) := by decide +kernel
theorem dX0_findGaps_73 : decode cX0_findGaps 73 = .ok (.invokevirtual 81, 3) := by decide +kernel
theorem dX0_findGaps_76 : decode cX0_findGaps 76 = .ok (.aload_n 0, 1) := by decide +kernel
theorem dX0_findGaps_77 : decode cX0_findGaps 77 = .ok (.getfield 26, 3) := by decide +kernel
theorem dX0_findGaps_80 : decode cX0_findGaps 80 = .ok (.iload_n 2, 1) := by decide +kernel
theorem dX0_findGaps_81 : decode cX0_findGaps 81 = .ok (.iload_n 1, 1) := by decide +kernel
theorem dX0_findGaps_82 : decode cX0_findGaps 82 = .ok (.iconst 1, 1) := by decide +kernel
theorem dX0_findGaps_83 : decode cX0_findGaps 83 = .ok (.iadd, 1) := by decide +kernel
theorem dX0_findGaps_84 : decode cX0_findGaps 84 = .ok (.invokevirtual 75, 3) := by decide +kernel
theorem dX0_findGaps_87 : decode cX0_findGaps 87 = .ok (.ifCond .eq 32, 3) := by decide +kernel
theorem dX0_findGaps_90 : decode cX0_findGaps 90 = .ok (.iload_n 3, 1) := by decide +kernel
theorem dX0_findGaps_91 : decode cX0_findGaps 91 = .ok (.aload_n 0, 1) := by decide +kernel
theorem dX0_findGaps_92 : decode cX0_findGaps 92 = .ok (.iload_n 2, 1) := by decide +kernel
theorem dX0_findGaps_93 : decode cX0_findGaps 93 = .ok (.iload_n 1, 1) := by decide +kernel
theorem dX0_findGaps_94 : decode cX0_findGaps 94 = .ok (.iconst 1, 1) := by decide +kernel
theorem dX0_findGaps_95 : decode cX0_findGaps 95 = .ok (.iadd, 1) := by decide +kernel
theorem dX0_findGaps_96 : decode cX0_findGaps 96 = .ok (.invokevirtual 71, 3) := by decide +kernel
theorem dX0_findGaps_99 : decode cX0_findGaps 99 = .ok (.if_icmp .eq 20, 3) := by decide +kernel
theorem dX0_findGaps_102 : decode cX0_findGaps 102 = .ok (.aload_n 0, 1) := by decide +kernel
theorem dX0_findGaps_103 : decode cX0_findGaps 103 = .ok (.getfield 16, 3) := by decide +kernel
theorem dX0_findGaps_106 : decode cX0_findGaps 106 = .ok (.iload_n 2, 1) := by decide +kernel
theorem dX0_findGaps_107 : decode cX0_findGaps 107 = .ok (.iload_n 1, 1) := by decide +kernel
theorem dX0_findGaps_108 : decode cX0_findGaps 108 = .ok (.invokestatic 85, 3) := by decide +kernel
theorem dX0_findGaps_111 : decode cX0_findGaps 111 = .ok (.iload_n 2, 1) := by decide +kernel
theorem dX0_findGaps_112 : decode cX0_findGaps 112 = .ok (.iload_n 1, 1) := by decide +kernel
theorem dX0_findGaps_113 : decode cX0_findGaps 113 = .ok (.invokestatic 85, 3) := by decide +kernel
theorem dX0_findGaps_116 : decode cX0_findGaps 116 = .ok (.invokevirtual 81, 3) := by decide +kernel
theorem dX0_findGaps_119 : decode cX0_findGaps 119 = .ok (.iinc 2 1, 3) := by decide +kernel
theorem dX0_findGaps_122 : decode cX0_findGaps 122 = .ok (.goto (-107), 3) := by decide +kernel
theorem dX0_findGaps_125 : decode cX0_findGaps 125 = .ok (.iinc 1 1, 3) := by decide +kernel
theorem dX0_findGaps_128 : decode cX0_findGaps 128 = .ok (.goto (-126), 3) := by decide +kernel
theorem dX0_findGaps_131 : decode cX0_findGaps 131 = .ok (.return_, 1) := by decide +kernel
theorem dX0_joinGaps_0 : decode cX0_joinGaps 0 = .ok (.iconst 0, 1) := by decide +kernel
theorem dX0_joinGaps_1 : decode cX0_joinGaps 1 = .ok (.istore_n 1, 1) := by decide +kernel
theorem dX0_joinGaps_2 : decode cX0_joinGaps 2 = .ok (.iload_n 1, 1) := by decide +kernel
theorem dX0_joinGaps_3 : decode cX0_joinGaps 3 = .ok (.iconst 1, 1) := by decide +kernel
theorem dX0_joinGaps_4 : decode cX0_joinGaps 4 = .ok (.iadd, 1) := by decide +kernel
theorem dX0_joinGaps_5 : decode cX0_joinGaps 5 = .ok (.aload_n 0, 1) := by decide +kernel
theorem dX0_joinGaps_6 : decode cX0_joinGaps 6 = .ok (.getfield 26, 3) := by decide +kernel
theorem dX0_joinGaps_9 : decode cX0_joinGaps 9 = .ok (.invokevirtual 64, 3) := by decide +kernel
theorem dX0_joinGaps_12 : decode cX0_joinGaps 12 = .ok (.if_icmp .ge 36, 3) := by decide +kernel
theorem dX0_joinGaps_15 : decode cX0_joinGaps 15 = .ok (.iconst 0, 1) := by decide +kernel
theorem dX0_joinGaps_16 : decode cX0_joinGaps 16 = .ok (.istore_n 2, 1) := by decide +kernel
theorem dX0_joinGaps_17 : decode cX0_joinGaps 17 = .ok (.iload_n 2, 1) := by decide +kernel
theorem dX0_joinGaps_18 : decode cX0_joinGaps 18 = .ok (.iconst 1, 1) := by decide +kernel
theorem dX0_joinGaps_19 : decode cX0_joinGaps 19 = .ok (.iadd, 1) := by decide +kernel
theorem dX0_joinGaps_20 : decode cX0_joinGaps 20 = .ok (.aload_n 0, 1) := by decide +kernel
theorem dX0_joinGaps_21 : decode cX0_joinGaps 21 = .ok (.getfield 26, 3) := by decide +kernel
theorem dX0_joinGaps_24 : decode cX0_joinGaps 24 = .ok (.invokevirtual 68, 3) := by decide +kernel
theorem dX0_joinGaps_27 : decode cX0_joinGaps 27 = .ok (.if_icmp .ge 15, 3) := by decide +kernel
theorem dX0_joinGaps_30 : decode cX0_joinGaps 30 = .ok (.aload_n 0, 1) := by decide +kernel
theorem dX0_joinGaps_31 : decode cX0_joinGaps 31 = .ok (.iload_n 2, 1) := by decide +kernel
theorem dX0_joinGaps_32 : decode cX0_joinGaps 32 = .ok (.iload_n 1, 1) := by decide +kernel
theorem dX0_joinGaps_33 : decode cX0_joinGaps 33 = .ok (.invokevirtual 88, 3) := by decide +kernel
theorem dX0_joinGaps_36 : decode cX0_joinGaps 36 = .ok (.iinc 2 1, 3) := by decide +kernel
theorem dX0_joinGaps_39 : decode cX0_joinGaps 39 = .ok (.goto (-22), 3) := by decide +kernel
theorem dX0_joinGaps_42 : decode cX0_joinGaps 42 = .ok (.iinc 1 1, 3) := by decide +kernel
theorem dX0_joinGaps_45 : decode cX0_joinGaps 45 = .ok (.goto (-43), 3) := by decide +kernel
theorem dX0_joinGaps_48 : decode cX0_joinGaps 48 = .ok (.return_, 1) := by decide +kernel
theorem dX0_joinInSquare_0 : decode cX0_joinInSquare 0 = .ok (.iload_n 1, 1) := by decide +kernel
theorem dX0_joinInSquare_1 : decode cX0_joinInSquare 1 = .ok (.iload_n 2, 1) := by decide +kernel
theorem dX0_joinInSquare_2 : decode cX0_joinInSquare 2 = .ok (.invokestatic 78, 3) := by decide +kernel
theorem dX0_joinInSquare_5 : decode cX0_joinInSquare 5 = .ok (.istore_n 3, 1) := by decide +kernel
theorem dX0_joinInSquare_6 : decode cX0_joinInSquare 6 = .ok (.iload_n 1, 1) := by decide +kernel
theorem dX0_joinInSquare_7 : decode cX0_joinInSquare 7 = .ok (.iload_n 2, 1) := by decide +kernel
theorem dX0_joinInSquare_8 : decode cX0_joinInSquare 8 = .ok (.iconst 1, 1) := by decide +kernel
theorem dX0_joinInSquare_9 : decode cX0_joinInSquare 9 = .ok (.iadd, 1) := by decide +kernel
theorem dX0_joinInSquare_10 : decode cX0_joinInSquare 10 = .ok (.invokestatic 78, 3) := by decide +kernel
theorem dX0_joinInSquare_13 : decode cX0_joinInSquare 13 = .ok (.istore 4, 2) := by decide +kernel
theorem dX0_joinInSquare_15 : decode cX0_joinInSquare 15 = .ok (.iload_n 1, 1) := by decide +kernel
theorem dX0_joinInSquare_16 : decode cX0_joinInSquare 16 = .ok (.iload_n 2, 1) := by decide +kernel
theorem dX0_joinInSquare_17 : decode cX0_joinInSquare 17 = .ok (.invokestatic 85, 3) := by decide +kernel
theorem dX0_joinInSquare_20 : decode cX0_joinInSquare 20 = .ok (.istore 5, 2) := by decide +kernel
theorem dX0_joinInSquare_22 : decode cX0_joinInSquare 22 = .ok (.iload_n 1, 1) := by decide +kernel
theorem dX0_joinInSquare_23 : decode cX0_joinInSquare 23 = .ok (.iconst 1, 1) := by decide +kernel
theorem dX0_joinInSquare_24 : decode cX0_joinInSquare 24 = .ok (.iadd, 1) := by decide +kernel
theorem dX0_joinInSquare_25 : decode cX0_joinInSquare 25 = .ok (.iload_n 2, 1) := by decide +kernel
theorem dX0_joinInSquare_26 : decode cX0_joinInSquare 26 = .ok (.invokestatic 85, 3) := by decide +kernel
theorem dX0_joinInSquare_29 : decode cX0_joinInSquare 29 = .ok (.istore 6, 2) := by decide +kernel
theorem dX0_joinInSquare_31 : decode cX0_joinInSquare 31 = .ok (.aload_n 0, 1) := by decide +kernel
theorem dX0_joinInSquare_32 : decode cX0_joinInSquare 32 = .ok (.iload_n 3, 1) := by decide +kernel
theorem dX0_joinInSquare_33 : decode cX0_joinInSquare 33 = .ok (.invokevirtual 91, 3) := by decide +kernel
theorem dX0_joinInSquare_36 : decode cX0_joinInSquare 36 = .ok (.ifCond .eq 79, 3) := by decide +kernel
theorem dX0_joinInSquare_39 : decode cX0_joinInSquare 39 = .ok (.aload_n 0, 1) := by decide +kernel
theorem dX0_joinInSquare_40 : decode cX0_joinInSquare 40 = .ok (.iload 4, 2) := by decide +kernel
theorem dX0_joinInSquare_42 : decode cX0_joinInSquare 42 = .ok (.invokevirtual 91, 3) := by decide +kernel
theorem dX0_joinInSquare_45 : decode cX0_joinInSquare 45 = .ok (.ifCond .eq 70, 3) := by decide +kernel
theorem dX0_joinInSquare_48 : decode cX0_joinInSquare 48 = .ok (.aload_n 0, 1) := by decide +kernel
theorem dX0_joinInSquare_49 : decode cX0_joinInSquare 49 = .ok (.iload 5, 2) := by decide +kernel
theorem dX0_joinInSquare_51 : decode cX0_joinInSquare 51 = .ok (.invokevirtual 91, 3) := by decide +kernel
theorem dX0_joinInSquare_54 : decode cX0_joinInSquare 54 = .ok (.ifCond .eq 61, 3) := by decide +kernel
theorem dX0_joinInSquare_57 : decode cX0_joinInSquare 57 = .ok (.aload_n 0, 1) := by decide +kernel
theorem dX0_joinInSquare_58 : decode cX0_joinInSquare 58 = .ok (.iload 6, 2) := by decide +kernel
theorem dX0_joinInSquare_60 : decode cX0_joinInSquare 60 = .ok (.invokevirtual 91, 3) := by decide +kernel
theorem dX0_joinInSquare_63 : decode cX0_joinInSquare 63 = .ok (.ifCond .eq 52, 3) := by decide +kernel
theorem dX0_joinInSquare_66 : decode cX0_joinInSquare 66 = .ok (.aload_n 0, 1) := by decide +kernel
theorem dX0_joinInSquare_67 : decode cX0_joinInSquare 67 = .ok (.iload_n 1, 1) := by decide +kernel
theorem dX0_joinInSquare_68 : decode cX0_joinInSquare 68 = .ok (.iload_n 2, 1) := by decide +kernel
theorem dX0_joinInSquare_69 : decode cX0_joinInSquare 69 = .ok (.invokevirtual 71, 3) := by decide +kernel
theorem dX0_joinInSquare_72 : decode cX0_joinInSquare 72 = .ok (.aload_n 0, 1) := by decide +kernel
theorem dX0_joinInSquare_73 : decode cX0_joinInSquare 73 = .ok (.iload_n 1, 1) := by decide +kernel
theorem dX0_joinInSquare_74 : decode cX0_joinInSquare 74 = .ok (.iload_n 2, 1) := by decide +kernel
theorem dX0_joinInSquare_75 : decode cX0_joinInSquare 75 = .ok (.invokevirtual 95, 3) := by decide +kernel
theorem dX0_joinInSquare_78 : decode cX0_joinInSquare 78 = .ok (.if_icmp .eq 21, 3) := by decide +kernel
theorem dX0_joinInSquare_81 : decode cX0_joinInSquare 81 = .ok (.aload_n 0, 1) := by decide +kernel
theorem dX0_joinInSquare_82 : decode cX0_joinInSquare 82 = .ok (.iload_n 3, 1) := by decide +kernel
theorem dX0_joinInSquare_83 : decode cX0_joinInSquare 83 = .ok (.iload 5, 2) := by decide +kernel
theorem dX0_joinInSquare_85 : decode cX0_joinInSquare 85 = .ok (.invokevirtual 98, 3) := by decide +kernel
theorem dX0_joinInSquare_88 : decode cX0_joinInSquare 88 = .ok (.aload_n 0, 1) := by decide +kernel
theorem dX0_joinInSquare_89 : decode cX0_joinInSquare 89 = .ok (.iload 4, 2) := by decide +kernel
theorem dX0_joinInSquare_91 : decode cX0_joinInSquare 91 = .ok (.iload 6, 2) := by decide +kernel
theorem dX0_joinInSquare_93 : decode cX0_joinInSquare 93 = .ok (.invokevirtual 98, 3) := by decide +kernel
theorem dX0_joinInSquare_96 : decode cX0_joinInSquare 96 = .ok (.goto 18, 3) := by decide +kernel
theorem dX0_joinInSquare_99 : decode cX0_joinInSquare 99 = .ok (.aload_n 0, 1) := by decide +kernel
theorem dX0_joinInSquare_100 : decode cX0_joinInSquare 100 = .ok (.iload_n 3, 1) := by decide +kernel
theorem dX0_joinInSquare_101 : decode cX0_joinInSquare 101 = .ok (.iload 6, 2) := by decide +kernel
theorem dX0_joinInSquare_103 : decode cX0_joinInSquare 103 = .ok (.invokevirtual 98, 3) := by decide +kernel
theorem dX0_joinInSquare_106 : decode cX0_joinInSquare 106 = .ok (.aload_n 0, 1) := by decide +kernel
theorem dX0_joinInSquare_107 : decode cX0_joinInSquare 107 = .ok (.iload 4, 2) := by decide +kernel
theorem dX0_joinInSquare_109 : decode cX0_joinInSquare 109 = .ok (.iload 5, 2) := by decide +kernel
theorem dX0_joinInSquare_111 : decode cX0_joinInSquare 111 = .ok (.invokevirtual 98, 3) := by decide +kernel
theorem dX0_joinInSquare_114 : decode cX0_joinInSquare 114 = .ok (.return_, 1) := by decide +kernel
theorem dX0_joinInSquare_115 : decode cX0_joinInSquare 115 = .ok (.aload_n 0, 1) := by decide +kernel
theorem dX0_joinInSquare_116 : decode cX0_joinInSquare 116 = .ok (.iload_n 3, 1) := by decide +kernel
theorem dX0_joinInSquare_117 : decode cX0_joinInSquare 117 = .ok (.iload 4, 2) := by decide +kernel
theorem dX0_joinInSquare_119 : decode cX0_joinInSquare 119 = .ok (.invokevirtual 98, 3) := by decide +kernel
theorem dX0_joinInSquare_122 : decode cX0_joinInSquare 122 = .ok (.aload_n 0, 1) := by decide +kernel
theorem dX0_joinInSquare_123 : decode cX0_joinInSquare 123 = .ok (.iload_n 3, 1) := by decide +kernel
theorem dX0_joinInSquare_124 : decode cX0_joinInSquare 124 = .ok (.iload 5, 2) := by decide +kernel
theorem dX0_joinInSquare_126 : decode cX0_joinInSquare 126 = .ok (.invokevirtual 98, 3) := by decide +kernel
theorem dX0_joinInSquare_129 : decode cX0_joinInSquare 129 = .ok (.aload_n 0, 1) := by decide +kernel
theorem dX0_joinInSquare_130 : decode cX0_joinInSquare 130 = .ok (.iload_n 3, 1) := by decide +kernel
theorem dX0_joinInSquare_131 : decode cX0_joinInSquare 131 = .ok (.iload 6, 2) := by decide +kernel
theorem dX0_joinInSquare_133 : decode cX0_joinInSquare 133 = .ok (.invokevirtual 98, 3) := by decide +kernel
theorem dX0_joinInSquare_136 : decode cX0_joinInSquare 136 = .ok (.aload_n 0, 1) := by decide +kernel
theorem dX0_joinInSquare_137 : decode cX0_joinInSquare 137 = .ok (.iload 4, 2) := by decide +kernel
theorem dX0_joinInSquare_139 : decode cX0_joinInSquare 139 = .ok (.iload 5, 2) := by decide +kernel
theorem dX0_joinInSquare_141 : decode cX0_joinInSquare 141 = .ok (.invokevirtual 98, 3) := by decide +kernel
theorem dX0_joinInSquare_144 : decode cX0_joinInSquare 144 = .ok (.aload_n 0, 1) := by decide +kernel
theorem dX0_joinInSquare_145 : decode cX0_joinInSquare 145 = .ok (.iload 4, 2) := by decide +kernel
theorem dX0_joinInSquare_147 : decode cX0_joinInSquare 147 = .ok (.iload 6, 2) := by decide +kernel
theorem dX0_joinInSquare_149 : decode cX0_joinInSquare 149 = .ok (.invokevirtual 98, 3) := by decide +kernel
theorem dX0_joinInSquare_152 : decode cX0_joinInSquare 152 = .ok (.aload_n 0, 1) := by decide +kernel
theorem dX0_joinInSquare_153 : decode cX0_joinInSquare 153 = .ok (.iload 5, 2) := by decide +kernel
theorem dX0_joinInSquare_155 : decode cX0_joinInSquare 155 = .ok (.iload 6, 2) := by decide +kernel
theorem dX0_joinInSquare_157 : decode cX0_joinInSquare 157 = .ok (.invokevirtual 98, 3) := by decide +kernel
theorem dX0_joinInSquare_160 : decode cX0_joinInSquare 160 = .ok (.return_, 1) := by decide +kernel
theorem dX0_joinsLowCells_0 : decode cX0_joinsLowCells 0 = .ok (.iload_n 1, 1) := by decide +kernel
theorem dX0_joinsLowCells_1 : decode cX0_joinsLowCells 1 = .ok (.iload_n 2, 1) := by decide +kernel
theorem dX0_joinsLowCells_2 : decode cX0_joinsLowCells 2 = .ok (.invokestatic 56, 3) := by decide +kernel
theorem dX0_joinsLowCells_5 : decode cX0_joinsLowCells 5 = .ok (.istore_n 3, 1) := by decide +kernel
theorem dX0_joinsLowCells_6 : decode cX0_joinsLowCells 6 = .ok (.iload_n 1, 1) := by decide +kernel
theorem dX0_joinsLowCells_7 : decode cX0_joinsLowCells 7 = .ok (.iload_n 2, 1) := by decide +kernel
theorem dX0_joinsLowCells_8 : decode cX0_joinsLowCells 8 = .ok (.iconst 1, 1) := by decide +kernel
theorem dX0_joinsLowCells_9 : decode cX0_joinsLowCells 9 = .ok (.iadd, 1) := by decide +kernel
theorem dX0_joinsLowCells_10 : decode cX0_joinsLowCells 10 = .ok (.invokestatic 56, 3) := by decide +kernel
theorem dX0_joinsLowCells_13 : decode cX0_joinsLowCells 13 = .ok (.istore 4, 2) := by decide +kernel
theorem dX0_joinsLowCells_15 : decode cX0_joinsLowCells 15 = .ok (.aload_n 0, 1) := by decide +kernel
theorem dX0_joinsLowCells_16 : decode cX0_joinsLowCells 16 = .ok (.getfield 26, 3) := by decide +kernel
theorem dX0_joinsLowCells_19 : decode cX0_joinsLowCells 19 = .ok (.iload_n 3, 1) := by decide +kernel
theorem dX0_joinsLowCells_20 : decode cX0_joinsLowCells 20 = .ok (.invokevirtual 61, 3) := by decide +kernel
theorem dX0_joinsLowCells_23 : decode cX0_joinsLowCells 23 = .ok (.aload_n 0, 1) := by decide +kernel
theorem dX0_joinsLowCells_24 : decode cX0_joinsLowCells 24 = .ok (.getfield 26, 3) := by decide +kernel
theorem dX0_joinsLowCells_27 : decode cX0_joinsLowCells 27 = .ok (.iload_n 3, 1) := by decide +kernel
theorem dX0_joinsLowCells_28 : decode cX0_joinsLowCells 28 = .ok (.iconst 1, 1) := by decide +kernel
theorem dX0_joinsLowCells_29 : decode cX0_joinsLowCells 29 = .ok (.iadd, 1) := by decide +kernel
theorem dX0_joinsLowCells_30 : decode cX0_joinsLowCells 30 = .ok (.invokevirtual 61, 3) := by decide +kernel
theorem dX0_joinsLowCells_33 : decode cX0_joinsLowCells 33 = .ok (.iadd, 1) := by decide +kernel
theorem dX0_joinsLowCells_34 : decode cX0_joinsLowCells 34 = .ok (.aload_n 0, 1) := by decide +kernel
theorem dX0_joinsLowCells_35 : decode cX0_joinsLowCells 35 = .ok (.getfield 26, 3) := by decide +kernel
theorem dX0_joinsLowCells_38 : decode cX0_joinsLowCells 38 = .ok (.iload 4, 2) := by decide +kernel
theorem dX0_joinsLowCells_40 : decode cX0_joinsLowCells 40 = .ok (.invokevirtual 61, 3) := by decide +kernel
theorem dX0_joinsLowCells_43 : decode cX0_joinsLowCells 43 = .ok (.iadd, 1) := by decide +kernel
theorem dX0_joinsLowCells_44 : decode cX0_joinsLowCells 44 = .ok (.aload_n 0, 1) := by decide +kernel
theorem dX0_joinsLowCells_45 : decode cX0_joinsLowCells 45 = .ok (.getfield 26, 3) := by decide +kernel
theorem dX0_joinsLowCells_48 : decode cX0_joinsLowCells 48 = .ok (.iload 4, 2) := by decide +kernel
theorem dX0_joinsLowCells_50 : decode cX0_joinsLowCells 50 = .ok (.iconst 1, 1) := by decide +kernel
theorem dX0_joinsLowCells_51 : decode cX0_joinsLowCells 51 = .ok (.iadd, 1) := by decide +kernel
theorem dX0_joinsLowCells_52 : decode cX0_joinsLowCells 52 = .ok (.invokevirtual 61, 3) := by decide +kernel
theorem dX0_joinsLowCells_55 : decode cX0_joinsLowCells 55 = .ok (.iadd, 1) := by decide +kernel
theorem dX0_joinsLowCells_56 : decode cX0_joinsLowCells 56 = .ok (.istore 5, 2) := by decide +kernel
theorem dX0_joinsLowCells_58 : decode cX0_joinsLowCells 58 = .ok (.iload 5, 2) := by decide +kernel
theorem dX0_joinsLowCells_60 : decode cX0_joinsLowCells 60 = .ok (.iconst 4, 1) := by decide +kernel
theorem dX0_joinsLowCells_61 : decode cX0_joinsLowCells 61 = .ok (.aload_n 0, 1) := by decide +kernel
theorem dX0_joinsLowCells_62 : decode cX0_joinsLowCells 62 = .ok (.getfield 30, 3) := by decide +kernel
theorem dX0_joinsLowCells_65 : decode cX0_joinsLowCells 65 = .ok (.imul, 1) := by decide +kernel
theorem dX0_joinsLowCells_66 : decode cX0_joinsLowCells 66 = .ok (.if_icmp .lt 7, 3) := by decide +kernel
theorem dX0_joinsLowCells_69 : decode cX0_joinsLowCells 69 = .ok (.iconst 1, 1) := by decide +kernel
theorem dX0_joinsLowCells_70 : decode cX0_joinsLowCells 70 = .ok (.goto 4, 3) := by decide +kernel
theorem dX0_joinsLowCells_73 : decode cX0_joinsLowCells 73 = .ok (.iconst 0, 1) := by decide +kernel
theorem dX0_joinsLowCells_74 : decode cX0_joinsLowCells 74 = .ok (.ireturn, 1) := by decide +kernel
theorem dX0_join_0 : decode cX0_join 0 = .ok (.aload_n 0, 1) := by decide +kernel
theorem dX0_join_1 : decode cX0_join 1 = .ok (.iload_n 1, 1) := by decide +kernel
theorem dX0_join_2 : decode cX0_join 2 = .ok (.invokevirtual 91, 3) := by decide +kernel
theorem dX0_join_5 : decode cX0_join 5 = .ok (.ifCond .eq 28, 3) := by decide +kernel
theorem dX0_join_8 : decode cX0_join 8 = .ok (.aload_n 0, 1) := by decide +kernel
theorem dX0_join_9 : decode cX0_join 9 = .ok (.iload_n 2, 1) := by decide +kernel
theorem dX0_join_10 : decode cX0_join 10 = .ok (.invokevirtual 91, 3) := by decide +kernel
theorem dX0_join_13 : decode cX0_join 13 = .ok (.ifCond .eq 20, 3) := by decide +kernel
theorem dX0_join_16 : decode cX0_join 16 = .ok (.aload_n 0, 1) := by decide +kernel
theorem dX0_join_17 : decode cX0_join 17 = .ok (.getfield 16, 3) := by decide +kernel
theorem dX0_join_20 : decode cX0_join 20 = .ok (.aload_n 0, 1) := by decide +kernel
theorem dX0_join_21 : decode cX0_join 21 = .ok (.iload_n 1, 1) := by decide +kernel
theorem dX0_join_22 : decode cX0_join 22 = .ok (.invokevirtual 101, 3) := by decide +kernel
theorem dX0_join_25 : decode cX0_join 25 = .ok (.aload_n 0, 1) := by decide +kernel
theorem dX0_join_26 : decode cX0_join 26 = .ok (.iload_n 2, 1) := by decide +kernel
theorem dX0_join_27 : decode cX0_join 27 = .ok (.invokevirtual 101, 3) := by decide +kernel
theorem dX0_join_30 : decode cX0_join 30 = .ok (.invokevirtual 81, 3) := by decide +kernel
theorem dX0_join_33 : decode cX0_join 33 = .ok (.return_, 1) := by decide +kernel
theorem dX0_leaderOf_0 : decode cX0_leaderOf 0 = .ok (.iload_n 1, 1) := by decide +kernel
theorem dX0_leaderOf_1 : decode cX0_leaderOf 1 = .ok (.istore_n 2, 1) := by decide +kernel
theorem dX0_leaderOf_2 : decode cX0_leaderOf 2 = .ok (.iconst 0, 1) := by decide +kernel
theorem dX0_leaderOf_3 : decode cX0_leaderOf 3 = .ok (.istore_n 3, 1) := by decide +kernel
theorem dX0_leaderOf_4 : decode cX0_leaderOf 4 = .ok (.iload_n 3, 1) := by decide +kernel
theorem dX0_leaderOf_5 : decode cX0_leaderOf 5 = .ok (.sipush 288, 3) := by decide +kernel
theorem dX0_leaderOf_8 : decode cX0_leaderOf 8 = .ok (.if_icmp .ge 30, 3) := by decide +kernel
theorem dX0_leaderOf_11 : decode cX0_leaderOf 11 = .ok (.aload_n 0, 1) := by decide +kernel
theorem dX0_leaderOf_12 : decode cX0_leaderOf 12 = .ok (.getfield 16, 3) := by decide +kernel
theorem dX0_leaderOf_15 : decode cX0_leaderOf 15 = .ok (.iload_n 2, 1) := by decide +kernel
theorem dX0_leaderOf_16 : decode cX0_leaderOf 16 = .ok (.invokevirtual 46, 3) := by decide +kernel
theorem dX0_leaderOf_19 : decode cX0_leaderOf 19 = .ok (.iload_n 2, 1) := by decide +kernel
theorem dX0_leaderOf_20 : decode cX0_leaderOf 20 = .ok (.if_icmp .eq 18, 3) := by decide +kernel
theorem dX0_leaderOf_23 : decode cX0_leaderOf 23 = .ok (.aload_n 0, 1) := by decide +kernel
theorem dX0_leaderOf_24 : decode cX0_leaderOf 24 = .ok (.getfield 16, 3) := by decide +kernel
theorem dX0_leaderOf_27 : decode cX0_leaderOf 27 = .ok (.iload_n 2, 1) := by decide +kernel
theorem dX0_leaderOf_28 : decode cX0_leaderOf 28 = .ok (.invokevirtual 46, 3) := by decide +kernel
theorem dX0_leaderOf_31 : decode cX0_leaderOf 31 = .ok (.istore_n 2, 1) := by decide +kernel
theorem dX0_leaderOf_32 : decode cX0_leaderOf 32 = .ok (.iinc 3 1, 3) := by decide +kernel
theorem dX0_leaderOf_35 : decode cX0_leaderOf 35 = .ok (.goto (-31), 3) := by decide +kernel
theorem dX0_leaderOf_38 : decode cX0_leaderOf 38 = .ok (.iload_n 2, 1) := by decide +kernel
theorem dX0_leaderOf_39 : decode cX0_leaderOf 39 = .ok (.ireturn, 1) := by decide +kernel
theorem dX0_measureLines_0 : decode cX0_measureLines 0 = .ok (.iconst 0, 1) := by decide +kernel
theorem dX0_measureLines_1 : decode cX0_measureLines 1 = .ok (.istore_n 1, 1) := by decide +kernel
theorem dX0_measureLines_2 : decode cX0_measureLines 2 = .ok (.iload_n 1, 1) := by decide +kernel
theorem dX0_measureLines_3 : decode cX0_measureLines 3 = .ok (.aload_n 0, 1) := by decide +kernel
theorem dX0_measureLines_4 : decode cX0_measureLines 4 = .ok (.getfield 26, 3) := by decide +kernel
theorem dX0_measureLines_7 : decode cX0_measureLines 7 = .ok (.invokevirtual 64, 3) := by decide +kernel
theorem dX0_measureLines_10 : decode cX0_measureLines 10 = .ok (.if_icmp .ge 92, 3) := by decide +kernel
theorem dX0_measureLines_13 : decode cX0_measureLines 13 = .ok (.iload_n 1, 1) := by decide +kernel
theorem dX0_measureLines_14 : decode cX0_measureLines 14 = .ok (.ifCond .eq 16, 3) := by decide +kernel
theorem dX0_measureLines_17 : decode cX0_measureLines 17 = .ok (.iload_n 1, 1) := by decide +kernel
theorem dX0_measureLines_18 : decode cX0_measureLines 18 = .ok (.aload_n 0, 1) := by decide +kernel
theorem dX0_measureLines_19 : decode cX0_measureLines 19 = .ok (.getfield 26, 3) := by decide +kernel
theorem dX0_measureLines_22 : decode cX0_measureLines 22 = .ok (.invokevirtual 64, 3) := by decide +kernel
theorem dX0_measureLines_25 : decode cX0_measureLines 25 = .ok (.iconst 1, 1) := by decide +kernel
theorem dX0_measureLines_26 : decode cX0_measureLines 26 = .ok (.isub, 1) := by decide +kernel
theorem dX0_measureLines_27 : decode cX0_measureLines 27 = .ok (.if_icmp .ne 7, 3) := by decide +kernel
theorem dX0_measureLines_30 : decode cX0_measureLines 30 = .ok (.iconst 1, 1) := by decide +kernel
theorem dX0_measureLines_31 : decode cX0_measureLines 31 = .ok (.goto 4, 3) := by decide +kernel
theorem dX0_measureLines_34 : decode cX0_measureLines 34 = .ok (.iconst 0, 1) := by decide +kernel
theorem dX0_measureLines_35 : decode cX0_measureLines 35 = .ok (.istore_n 2, 1) := by decide +kernel
theorem dX0_measureLines_36 : decode cX0_measureLines 36 = .ok (.iconst 0, 1) := by decide +kernel
theorem dX0_measureLines_37 : decode cX0_measureLines 37 = .ok (.istore_n 3, 1) := by decide +kernel
theorem dX0_measureLines_38 : decode cX0_measureLines 38 = .ok (.iload_n 3, 1) := by decide +kernel
theorem dX0_measureLines_39 : decode cX0_measureLines 39 = .ok (.aload_n 0, 1) := by decide +kernel
theorem dX0_measureLines_40 : decode cX0_measureLines 40 = .ok (.getfield 26, 3) := by decide +kernel
theorem dX0_measureLines_43 : decode cX0_measureLines 43 = .ok (.invokevirtual 68, 3) := by decide +kernel
theorem dX0_measureLines_46 : decode cX0_measureLines 46 = .ok (.if_icmp .ge 50, 3) := by decide +kernel
theorem dX0_measureLines_49 : decode cX0_measureLines 49 = .ok (.aload_n 0, 1) := by decide +kernel
theorem dX0_measureLines_50 : decode cX0_measureLines 50 = .ok (.iload_n 3, 1) := by decide +kernel
theorem dX0_measureLines_51 : decode cX0_measureLines 51 = .ok (.iload_n 1, 1) := by decide +kernel
theorem dX0_measureLines_52 : decode cX0_measureLines 52 = .ok (.invokestatic 78, 3) := by decide +kernel
theorem dX0_measureLines_55 : decode cX0_measureLines 55 = .ok (.iload_n 2, 1) := by decide +kernel
theorem dX0_measureLines_56 : decode cX0_measureLines 56 = .ok (.invokevirtual 104, 3) := by decide +kernel
theorem dX0_measureLines_59 : decode cX0_measureLines 59 = .ok (.aload_n 0, 1) := by decide +kernel
theorem dX0_measureLines_60 : decode cX0_measureLines 60 = .ok (.iload_n 3, 1) := by decide +kernel
theorem dX0_measureLines_61 : decode cX0_measureLines 61 = .ok (.iload_n 1, 1) := by decide +kernel
theorem dX0_measureLines_62 : decode cX0_measureLines 62 = .ok (.invokestatic 85, 3) := by decide +kernel
theorem dX0_measureLines_65 : decode cX0_measureLines 65 = .ok (.iload_n 3, 1) := by decide +kernel
theorem dX0_measureLines_66 : decode cX0_measureLines 66 = .ok (.ifCond .eq 16, 3) := by decide +kernel
theorem dX0_measureLines_69 : decode cX0_measureLines 69 = .ok (.iload_n 3, 1) := by decide +kernel
theorem dX0_measureLines_70 : decode cX0_measureLines 70 = .ok (.aload_n 0, 1) := by decide +kernel
theorem dX0_measureLines_71 : decode cX0_measureLines 71 = .ok (.getfield 26, 3) := by decide +kernel
theorem dX0_measureLines_74 : decode cX0_measureLines 74 = .ok (.invokevirtual 68, 3) := by decide +kernel
theorem dX0_measureLines_77 : decode cX0_measureLines 77 = .ok (.iconst 1, 1) := by decide +kernel
theorem dX0_measureLines_78 : decode cX0_measureLines 78 = .ok (.isub, 1) := by decide +kernel
theorem dX0_measureLines_79 : decode cX0_measureLines 79 = .ok (.if_icmp .ne 7, 3) := by decide +kernel
theorem dX0_measureLines_82 : decode cX0_measureLines 82 = .ok (.iconst 1, 1) := by decide +kernel
theorem dX0_measureLines_83 : decode cX0_measureLines 83 = .ok (.goto 4, 3) := by decide +kernel
theorem dX0_measureLines_86 : decode cX0_measureLines 86 = .ok (.iconst 0, 1) := by decide +kernel
theorem dX0_measureLines_87 : decode cX0_measureLines 87 = .ok (.invokevirtual 104, 3) := by decide +kernel
theorem dX0_measureLines_90 : decode cX0_measureLines 90 = .ok (.iinc 3 1, 3) := by decide +kernel
theorem dX0_measureLines_93 : decode cX0_measureLines 93 = .ok (.goto (-55), 3) := by decide +kernel
theorem dX0_measureLines_96 : decode cX0_measureLines 96 = .ok (.iinc 1 1, 3) := by decide +kernel
theorem dX0_measureLines_99 : decode cX0_measureLines 99 = .ok (.goto (-97), 3) := by decide +kernel
theorem dX0_measureLines_102 : decode cX0_measureLines 102 = .ok (.return_, 1) := by decide +kernel
theorem dX0_measureGap_0 : decode cX0_measureGap 0 = .ok (.aload_n 0, 1) := by decide +kernel
theorem dX0_measureGap_1 : decode cX0_measureGap 1 = .ok (.iload_n 1, 1) := by decide +kernel
theorem dX0_measureGap_2 : decode cX0_measureGap 2 = .ok (.invokevirtual 91, 3) := by decide +kernel
theorem dX0_measureGap_5 : decode cX0_measureGap 5 = .ok (.ifCond .eq 37, 3) := by decide +kernel
theorem dX0_measureGap_8 : decode cX0_measureGap 8 = .ok (.aload_n 0, 1) := by decide +kernel
theorem dX0_measureGap_9 : decode cX0_measureGap 9 = .ok (.getfield 20, 3) := by decide +kernel
theorem dX0_measureGap_12 : decode cX0_measureGap 12 = .ok (.aload_n 0, 1) := by decide +kernel
theorem dX0_measureGap_13 : decode cX0_measureGap 13 = .ok (.iload_n 1, 1) := by decide +kernel
theorem dX0_measureGap_14 : decode cX0_measureGap 14 = .ok (.invokevirtual 101, 3) := by decide +kernel
theorem dX0_measureGap_17 : decode cX0_measureGap 17 = .ok (.iconst 1, 1) := by decide +kernel
theorem dX0_measureGap_18 : decode cX0_measureGap 18 = .ok (.invokevirtual 108, 3) := by decide +kernel
theorem dX0_measureGap_21 : decode cX0_measureGap 21 = .ok (.aload_n 0, 1) := by decide +kernel
theorem dX0_measureGap_22 : decode cX0_measureGap 22 = .ok (.getfield 23, 3) := by decide +kernel
theorem dX0_measureGap_25 : decode cX0_measureGap 25 = .ok (.aload_n 0, 1) := by decide +kernel
theorem dX0_measureGap_26 : decode cX0_measureGap 26 = .ok (.iload_n 1, 1) := by decide +kernel
theorem dX0_measureGap_27 : decode cX0_measureGap 27 = .ok (.invokevirtual 101, 3) := by decide +kernel
theorem dX0_measureGap_30 : decode cX0_measureGap 30 = .ok (.iload_n 2, 1) := by decide +kernel
theorem dX0_measureGap_31 : decode cX0_measureGap 31 = .ok (.ifCond .eq 7, 3) := by decide +kernel
theorem dX0_measureGap_34 : decode cX0_measureGap 34 = .ok (.iconst 1, 1) := by decide +kernel
theorem dX0_measureGap_35 : decode cX0_measureGap 35 = .ok (.goto 4, 3) := by decide +kernel
theorem dX0_measureGap_38 : decode cX0_measureGap 38 = .ok (.iconst 0, 1) := by decide +kernel
theorem dX0_measureGap_39 : decode cX0_measureGap 39 = .ok (.invokevirtual 108, 3) := by decide +kernel
theorem dX0_measureGap_42 : decode cX0_measureGap 42 = .ok (.return_, 1) := by decide +kernel
theorem dX1_init_0 : decode cX1_init 0 = .ok (.aload_n 0, 1) := by decide +kernel
theorem dX1_init_1 : decode cX1_init 1 = .ok (.invokespecial 3, 3) := by decide +kernel
theorem dX1_init_4 : decode cX1_init 4 = .ok (.aload_n 0, 1) := by decide +kernel
theorem dX1_init_5 : decode cX1_init 5 = .ok (.new 9, 3) := by decide +kernel
theorem dX1_init_8 : decode cX1_init 8 = .ok (.dup, 1) := by decide +kernel
theorem dX1_init_9 : decode cX1_init 9 = .ok (.bipush 12, 2) := by decide +kernel
theorem dX1_init_11 : decode cX1_init 11 = .ok (.invokespecial 11, 3) := by decide +kernel
theorem dX1_init_14 : decode cX1_init 14 = .ok (.putfield 14, 3) := by decide +kernel
theorem dX1_init_17 : decode cX1_init 17 = .ok (.aload_n 0, 1) := by decide +kernel
theorem dX1_init_18 : decode cX1_init 18 = .ok (.new 9, 3) := by decide +kernel
theorem dX1_init_21 : decode cX1_init 21 = .ok (.dup, 1) := by decide +kernel
theorem dX1_init_22 : decode cX1_init 22 = .ok (.bipush 12, 2) := by decide +kernel
theorem dX1_init_24 : decode cX1_init 24 = .ok (.invokespecial 11, 3) := by decide +kernel
theorem dX1_init_27 : decode cX1_init 27 = .ok (.putfield 20, 3) := by decide +kernel
theorem dX1_init_30 : decode cX1_init 30 = .ok (.return_, 1) := by decide +kernel
theorem dX1_count_0 : decode cX1_count 0 = .ok (.aload_n 0, 1) := by decide +kernel
theorem dX1_count_1 : decode cX1_count 1 = .ok (.getfield 23, 3) := by decide +kernel
theorem dX1_count_4 : decode cX1_count 4 = .ok (.ireturn, 1) := by decide +kernel
theorem dX1_cellOf_0 : decode cX1_cellOf 0 = .ok (.aload_n 0, 1) := by decide +kernel
theorem dX1_cellOf_1 : decode cX1_cellOf 1 = .ok (.getfield 14, 3) := by decide +kernel
theorem dX1_cellOf_4 : decode cX1_cellOf 4 = .ok (.iload_n 1, 1) := by decide +kernel
theorem dX1_cellOf_5 : decode cX1_cellOf 5 = .ok (.invokevirtual 27, 3) := by decide +kernel
theorem dX1_cellOf_8 : decode cX1_cellOf 8 = .ok (.ireturn, 1) := by decide +kernel
theorem dX1_hasFailed_0 : decode cX1_hasFailed 0 = .ok (.aload_n 0, 1) := by decide +kernel
theorem dX1_hasFailed_1 : decode cX1_hasFailed 1 = .ok (.getfield 20, 3) := by decide +kernel
theorem dX1_hasFailed_4 : decode cX1_hasFailed 4 = .ok (.iload_n 1, 1) := by decide +kernel
theorem dX1_hasFailed_5 : decode cX1_hasFailed 5 = .ok (.invokevirtual 27, 3) := by decide +kernel
theorem dX1_hasFailed_8 : decode cX1_hasFailed 8 = .ok (.iconst 1, 1) := by decide +kernel
theorem dX1_hasFailed_9 : decode cX1_hasFailed 9 = .ok (.if_icmp .ne 7, 3) := by decide +kernel
theorem dX1_hasFailed_12 : decode cX1_hasFailed 12 = .ok (.iconst 1, 1) := by decide +kernel
theorem dX1_hasFailed_13 : decode cX1_hasFailed 13 = .ok (.goto 4, 3) := by decide +kernel
theorem dX1_hasFailed_16 : decode cX1_hasFailed 16 = .ok (.iconst 0, 1) := by decide +kernel
theorem dX1_hasFailed_17 : decode cX1_hasFailed 17 = .ok (.ireturn, 1) := by decide +kernel
theorem dX1_standsIn_0 : decode cX1_standsIn 0 = .ok (.iconst 0, 1) := by decide +kernel
theorem dX1_standsIn_1 : decode cX1_standsIn 1 = .ok (.istore_n 2, 1) := by decide +kernel
theorem dX1_standsIn_2 : decode cX1_standsIn 2 = .ok (.iload_n 2, 1) := by decide +kernel
theorem dX1_standsIn_3 : decode cX1_standsIn 3 = .ok (.aload_n 0, 1) := by decide +kernel
theorem dX1_standsIn_4 : decode cX1_standsIn 4 = .ok (.getfield 23, 3) := by decide +kernel
theorem dX1_standsIn_7 : decode cX1_standsIn 7 = .ok (.if_icmp .ge 23, 3) := by decide +kernel
theorem dX1_standsIn_10 : decode cX1_standsIn 10 = .ok (.aload_n 0, 1) := by decide +kernel
theorem dX1_standsIn_11 : decode cX1_standsIn 11 = .ok (.getfield 14, 3) := by decide +kernel
theorem dX1_standsIn_14 : decode cX1_standsIn 14 = .ok (.iload_n 2, 1) := by decide +kernel
theorem dX1_standsIn_15 : decode cX1_standsIn 15 = .ok (.invokevirtual 27, 3) := by decide +kernel
theorem dX1_standsIn_18 : decode cX1_standsIn 18 = .ok (.iload_n 1, 1) := by decide +kernel
theorem dX1_standsIn_19 : decode cX1_standsIn 19 = .ok (.if_icmp .ne 5, 3) := by decide +kernel
theorem dX1_standsIn_22 : decode cX1_standsIn 22 = .ok (.iconst 1, 1) := by decide +kernel
theorem dX1_standsIn_23 : decode cX1_standsIn 23 = .ok (.ireturn, 1) := by decide +kernel
theorem dX1_standsIn_24 : decode cX1_standsIn 24 = .ok (.iinc 2 1, 3) := by decide +kernel
theorem dX1_standsIn_27 : decode cX1_standsIn 27 = .ok (.goto (-25), 3) := by decide +kernel
theorem dX1_standsIn_30 : decode cX1_standsIn 30 = .ok (.iconst 0, 1) := by decide +kernel
theorem dX1_standsIn_31 : decode cX1_standsIn 31 = .ok (.ireturn, 1) := by decide +kernel
theorem dX1_add_0 : decode cX1_add 0 = .ok (.aload_n 0, 1) := by decide +kernel
theorem dX1_add_1 : decode cX1_add 1 = .ok (.getfield 14, 3) := by decide +kernel
theorem dX1_add_4 : decode cX1_add 4 = .ok (.aload_n 0, 1) := by decide +kernel
theorem dX1_add_5 : decode cX1_add 5 = .ok (.getfield 23, 3) := by decide +kernel
theorem dX1_add_8 : decode cX1_add 8 = .ok (.iload_n 1, 1) := by decide +kernel
theorem dX1_add_9 : decode cX1_add 9 = .ok (.invokevirtual 31, 3) := by decide +kernel
theorem dX1_add_12 : decode cX1_add 12 = .ok (.aload_n 0, 1) := by decide +kernel
theorem dX1_add_13 : decode cX1_add 13 = .ok (.dup, 1) := by decide +kernel
theorem dX1_add_14 : decode cX1_add 14 = .ok (.getfield 23, 3) := by decide +kernel
theorem dX1_add_17 : decode cX1_add 17 = .ok (.iconst 1, 1) := by decide +kernel
theorem dX1_add_18 : decode cX1_add 18 = .ok (.iadd, 1) := by decide +kernel
theorem dX1_add_19 : decode cX1_add 19 = .ok (.putfield 23, 3) := by decide +kernel
theorem dX1_add_22 : decode cX1_add 22 = .ok (.aload_n 0, 1) := by decide +kernel
theorem dX1_add_23 : decode cX1_add 23 = .ok (.getfield 23, 3) := by decide +kernel
theorem dX1_add_26 : decode cX1_add 26 = .ok (.iconst 1, 1) := by decide +kernel
theorem dX1_add_27 : decode cX1_add 27 = .ok (.isub, 1) := by decide +kernel
theorem dX1_add_28 : decode cX1_add 28 = .ok (.ireturn, 1) := by decide +kernel
theorem dX1_replaceFailed_0 : decode cX1_replaceFailed 0 = .ok (.aload_n 0, 1) := by decide +kernel
theorem dX1_replaceFailed_1 : decode cX1_replaceFailed 1 = .ok (.iload_n 1, 1) := by decide +kernel
theorem dX1_replaceFailed_2 : decode cX1_replaceFailed 2 = .ok (.invokevirtual 35, 3) := by decide +kernel
theorem dX1_replaceFailed_5 : decode cX1_replaceFailed 5 = .ok (.istore_n 3, 1) := by decide +kernel
theorem dX1_replaceFailed_6 : decode cX1_replaceFailed 6 = .ok (.aload_n 0, 1) := by decide +kernel
theorem dX1_replaceFailed_7 : decode cX1_replaceFailed 7 = .ok (.getfield 20, 3) := by decide +kernel
theorem dX1_replaceFailed_10 : decode cX1_replaceFailed 10 = .ok (.iload_n 1, 1) := by decide +kernel
theorem dX1_replaceFailed_11 : decode cX1_replaceFailed 11 = .ok (.iload_n 2, 1) := by decide +kernel
theorem dX1_replaceFailed_12 : decode cX1_replaceFailed 12 = .ok (.ifCond .eq 7, 3) := by decide +kernel
theorem dX1_replaceFailed_15 : decode cX1_replaceFailed 15 = .ok (.iconst 1, 1) := by decide +kernel
theorem dX1_replaceFailed_16 : decode cX1_replaceFailed 16 = .ok (.goto 4, 3) := by decide +kernel
theorem dX1_replaceFailed_19 : decode cX1_replaceFailed 19 = .ok (.iconst 0, 1) := by decide +kernel
theorem dX1_replaceFailed_20 : decode cX1_replaceFailed 20 = .ok (.invokevirtual 31, 3) := by decide +kernel
theorem dX1_replaceFailed_23 : decode cX1_replaceFailed 23 = .ok (.iload_n 3, 1) := by decide +kernel
theorem dX1_replaceFailed_24 : decode cX1_replaceFailed 24 = .ok (.ireturn, 1) := by decide +kernel
theorem dX2_init_0 : decode cX2_init 0 = .ok (.aload_n 0, 1) := by decide +kernel
theorem dX2_init_1 : decode cX2_init 1 = .ok (.invokespecial 3, 3) := by decide +kernel
theorem dX2_init_4 : decode cX2_init 4 = .ok (.aload_n 0, 1) := by decide +kernel
theorem dX2_init_5 : decode cX2_init 5 = .ok (.new 9, 3) := by decide +kernel
theorem dX2_init_8 : decode cX2_init 8 = .ok (.dup, 1) := by decide +kernel
theorem dX2_init_9 : decode cX2_init 9 = .ok (.bipush 30, 2) := by decide +kernel
theorem dX2_init_11 : decode cX2_init 11 = .ok (.invokespecial 11, 3) := by decide +kernel
theorem dX2_init_14 : decode cX2_init 14 = .ok (.putfield 14, 3) := by decide +kernel
theorem dX2_init_17 : decode cX2_init 17 = .ok (.aload_n 0, 1) := by decide +kernel
theorem dX2_init_18 : decode cX2_init 18 = .ok (.new 9, 3) := by decide +kernel
theorem dX2_init_21 : decode cX2_init 21 = .ok (.dup, 1) := by decide +kernel
theorem dX2_init_22 : decode cX2_init 22 = .ok (.iconst 5, 1) := by decide +kernel
theorem dX2_init_23 : decode cX2_init 23 = .ok (.invokespecial 11, 3) := by decide +kernel
theorem dX2_init_26 : decode cX2_init 26 = .ok (.putfield 20, 3) := by decide +kernel
theorem dX2_init_29 : decode cX2_init 29 = .ok (.return_, 1) := by decide +kernel
theorem dX2_length_0 : decode cX2_length 0 = .ok (.aload_n 0, 1) := by decide +kernel
theorem dX2_length_1 : decode cX2_length 1 = .ok (.getfield 20, 3) := by decide +kernel
theorem dX2_length_4 : decode cX2_length 4 = .ok (.iload_n 1, 1) := by decide +kernel
theorem dX2_length_5 : decode cX2_length 5 = .ok (.invokevirtual 23, 3) := by decide +kernel
theorem dX2_length_8 : decode cX2_length 8 = .ok (.ireturn, 1) := by decide +kernel
theorem dX2_legs_0 : decode cX2_legs 0 = .ok (.iconst 0, 1) := by decide +kernel
theorem dX2_legs_1 : decode cX2_legs 1 = .ok (.aload_n 0, 1) := by decide +kernel
theorem dX2_legs_2 : decode cX2_legs 2 = .ok (.getfield 20, 3) := by decide +kernel
theorem dX2_legs_5 : decode cX2_legs 5 = .ok (.iload_n 1, 1) := by decide +kernel
theorem dX2_legs_6 : decode cX2_legs 6 = .ok (.invokevirtual 23, 3) := by decide +kernel
theorem dX2_legs_9 : decode cX2_legs 9 = .ok (.iconst 1, 1) := by decide +kernel
theorem dX2_legs_10 : decode cX2_legs 10 = .ok (.isub, 1) := by decide +kernel
theorem dX2_legs_11 : decode cX2_legs 11 = .ok (.invokestatic 27, 3) := by decide +kernel
theorem dX2_legs_14 : decode cX2_legs 14 = .ok (.ireturn, 1) := by decide +kernel
theorem dX2_controlAt_0 : decode cX2_controlAt 0 = .ok (.iload_n 2, 1) := by decide +kernel
theorem dX2_controlAt_1 : decode cX2_controlAt 1 = .ok (.ifCond .lt 31, 3) := by decide +kernel
theorem dX2_controlAt_4 : decode cX2_controlAt 4 = .ok (.iload_n 2, 1) := by decide +kernel
theorem dX2_controlAt_5 : decode cX2_controlAt 5 = .ok (.aload_n 0, 1) := by decide +kernel
theorem dX2_controlAt_6 : decode cX2_controlAt 6 = .ok (.getfield 20, 3) := by decide +kernel
theorem dX2_controlAt_9 : decode cX2_controlAt 9 = .ok (.iload_n 1, 1) := by decide +kernel
theorem dX2_controlAt_10 : decode cX2_controlAt 10 = .ok (.invokevirtual 23, 3) := by decide +kernel
theorem dX2_controlAt_13 : decode cX2_controlAt 13 = .ok (.if_icmp .ge 19, 3) := by decide +kernel
theorem dX2_controlAt_16 : decode cX2_controlAt 16 = .ok (.aload_n 0, 1) := by decide +kernel
theorem dX2_controlAt_17 : decode cX2_controlAt 17 = .ok (.getfield 14, 3) := by decide +kernel
theorem dX2_controlAt_20 : decode cX2_controlAt 20 = .ok (.iload_n 1, 1) := by decide +kernel
theorem dX2_controlAt_21 : decode cX2_controlAt 21 = .ok (.bipush 6, 2) := by decide +kernel
theorem dX2_controlAt_23 : decode cX2_controlAt 23 = .ok (.imul, 1) := by decide +kernel
theorem dX2_controlAt_24 : decode cX2_controlAt 24 = .ok (.iload_n 2, 1) := by decide +kernel
theorem dX2_controlAt_25 : decode cX2_controlAt 25 = .ok (.iadd, 1) := by decide +kernel
theorem dX2_controlAt_26 : decode cX2_controlAt 26 = .ok (.invokevirtual 23, 3) := by decide +kernel
theorem dX2_controlAt_29 : decode cX2_controlAt 29 = .ok (.goto 4, 3) := by decide +kernel
theorem dX2_controlAt_32 : decode cX2_controlAt 32 = .ok (.iconst (-1), 1) := by decide +kernel
theorem dX2_controlAt_33 : decode cX2_controlAt 33 = .ok (.ireturn, 1) := by decide +kernel
theorem dX2_finish_0 : decode cX2_finish 0 = .ok (.aload_n 0, 1) := by decide +kernel
theorem dX2_finish_1 : decode cX2_finish 1 = .ok (.iload_n 1, 1) := by decide +kernel
theorem dX2_finish_2 : decode cX2_finish 2 = .ok (.aload_n 0, 1) := by decide +kernel
theorem dX2_finish_3 : decode cX2_finish 3 = .ok (.getfield 20, 3) := by decide +kernel
theorem dX2_finish_6 : decode cX2_finish 6 = .ok (.iload_n 1, 1) := by decide +kernel
theorem dX2_finish_7 : decode cX2_finish 7 = .ok (.invokevirtual 23, 3) := by decide +kernel
theorem dX2_finish_10 : decode cX2_finish 10 = .ok (.iconst 1, 1) := by decide +kernel
theorem dX2_finish_11 : decode cX2_finish 11 = .ok (.isub, 1) := by decide +kernel
theorem dX2_finish_12 : decode cX2_finish 12 = .ok (.invokevirtual 33, 3) := by decide +kernel
theorem dX2_finish_15 : decode cX2_finish 15 = .ok (.ireturn, 1) := by decide +kernel
theorem dX2_contains_0 : decode cX2_contains 0 = .ok (.iconst 0, 1) := by decide +kernel
theorem dX2_contains_1 : decode cX2_contains 1 = .ok (.istore_n 3, 1) := by decide +kernel
theorem dX2_contains_2 : decode cX2_contains 2 = .ok (.iload_n 3, 1) := by decide +kernel
theorem dX2_contains_3 : decode cX2_contains 3 = .ok (.aload_n 0, 1) := by decide +kernel
theorem dX2_contains_4 : decode cX2_contains 4 = .ok (.getfield 20, 3) := by decide +kernel
theorem dX2_contains_7 : decode cX2_contains 7 = .ok (.iload_n 1, 1) := by decide +kernel
theorem dX2_contains_8 : decode cX2_contains 8 = .ok (.invokevirtual 23, 3) := by decide +kernel
theorem dX2_contains_11 : decode cX2_contains 11 = .ok (.if_icmp .ge 21, 3) := by decide +kernel
theorem dX2_contains_14 : decode cX2_contains 14 = .ok (.aload_n 0, 1) := by decide +kernel
theorem dX2_contains_15 : decode cX2_contains 15 = .ok (.iload_n 1, 1) := by decide +kernel
theorem dX2_contains_16 : decode cX2_contains 16 = .ok (.iload_n 3, 1) := by decide +kernel
theorem dX2_contains_17 : decode cX2_contains 17 = .ok (.invokevirtual 33, 3) := by decide +kernel
theorem dX2_contains_20 : decode cX2_contains 20 = .ok (.iload_n 2, 1) := by decide +kernel
theorem dX2_contains_21 : decode cX2_contains 21 = .ok (.if_icmp .ne 5, 3) := by decide +kernel
theorem dX2_contains_24 : decode cX2_contains 24 = .ok (.iconst 1, 1) := by decide +kernel
theorem dX2_contains_25 : decode cX2_contains 25 = .ok (.ireturn, 1) := by decide +kernel
theorem dX2_contains_26 : decode cX2_contains 26 = .ok (.iinc 3 1, 3) := by decide +kernel
theorem dX2_contains_29 : decode cX2_contains 29 = .ok (.goto (-27), 3) := by decide +kernel
theorem dX2_contains_32 : decode cX2_contains 32 = .ok (.iconst 0, 1) := by decide +kernel
theorem dX2_contains_33 : decode cX2_contains 33 = .ok (.ireturn, 1) := by decide +kernel
theorem dX2_beginsOrEndsOne_0 : decode cX2_beginsOrEndsOne 0 = .ok (.iconst 0, 1) := by decide +kernel
theorem dX2_beginsOrEndsOne_1 : decode cX2_beginsOrEndsOne 1 = .ok (.istore_n 2, 1) := by decide +kernel
theorem dX2_beginsOrEndsOne_2 : decode cX2_beginsOrEndsOne 2 = .ok (.iload_n 2, 1) := by decide +kernel
theorem dX2_beginsOrEndsOne_3 : decode cX2_beginsOrEndsOne 3 = .ok (.iconst 5, 1) := by decide +kernel
theorem dX2_beginsOrEndsOne_4 : decode cX2_beginsOrEndsOne 4 = .ok (.if_icmp .ge 30, 3) := by decide +kernel
theorem dX2_beginsOrEndsOne_7 : decode cX2_beginsOrEndsOne 7 = .ok (.aload_n 0, 1) := by decide +kernel
theorem dX2_beginsOrEndsOne_8 : decode cX2_beginsOrEndsOne 8 = .ok (.iload_n 2, 1) := by decide +kernel
theorem dX2_beginsOrEndsOne_9 : decode cX2_beginsOrEndsOne 9 = .ok (.iconst 0, 1) := by decide +kernel
theorem dX2_beginsOrEndsOne_10 : decode cX2_beginsOrEndsOne 10 = .ok (.invokevirtual 33, 3) := by decide +kernel
theorem dX2_beginsOrEndsOne_13 : decode cX2_beginsOrEndsOne 13 = .ok (.iload_n 1, 1) := by decide +kernel
theorem dX2_beginsOrEndsOne_14 : decode cX2_beginsOrEndsOne 14 = .ok (.if_icmp .eq 12, 3) := by decide +kernel
theorem dX2_beginsOrEndsOne_17 : decode cX2_beginsOrEndsOne 17 = .ok (.aload_n 0, 1) := by decide +kernel
theorem dX2_beginsOrEndsOne_18 : decode cX2_beginsOrEndsOne 18 = .ok (.iload_n 2, 1) := by decide +kernel
theorem dX2_beginsOrEndsOne_19 : decode cX2_beginsOrEndsOne 19 = .ok (.invokevirtual 36, 3) := by decide +kernel
theorem dX2_beginsOrEndsOne_22 : decode cX2_beginsOrEndsOne 22 = .ok (.iload_n 1, 1) := by decide +kernel
theorem dX2_beginsOrEndsOne_23 : decode cX2_beginsOrEndsOne 23 = .ok (.if_icmp .ne 5, 3) := by decide +kernel
theorem dX2_beginsOrEndsOne_26 : decode cX2_beginsOrEndsOne 26 = .ok (.iconst 1, 1) := by decide +kernel
theorem dX2_beginsOrEndsOne_27 : decode cX2_beginsOrEndsOne 27 = .ok (.ireturn, 1) := by decide +kernel
theorem dX2_beginsOrEndsOne_28 : decode cX2_beginsOrEndsOne 28 = .ok (.iinc 2 1, 3) := by decide +kernel
theorem dX2_beginsOrEndsOne_31 : decode cX2_beginsOrEndsOne 31 = .ok (.goto (-29), 3) := by decide +kernel
theorem dX2_beginsOrEndsOne_34 : decode cX2_beginsOrEndsOne 34 = .ok (.iconst 0, 1) := by decide +kernel
theorem dX2_beginsOrEndsOne_35 : decode cX2_beginsOrEndsOne 35 = .ok (.ireturn, 1) := by decide +kernel
theorem dX2_append_0 : decode cX2_append 0 = .ok (.aload_n 0, 1) := by decide +kernel
theorem dX2_append_1 : decode cX2_append 1 = .ok (.iload_n 1, 1) := by decide +kernel
theorem dX2_append_2 : decode cX2_append 2 = .ok (.aload_n 0, 1) := by decide +kernel
theorem dX2_append_3 : decode cX2_append 3 = .ok (.getfield 20, 3) := by decide +kernel
theorem dX2_append_6 : decode cX2_append 6 = .ok (.iload_n 1, 1) := by decide +kernel
theorem dX2_append_7 : decode cX2_append 7 = .ok (.invokevirtual 23, 3) := by decide +kernel
theorem dX2_append_10 : decode cX2_append 10 = .ok (.iload_n 2, 1) := by decide +kernel
theorem dX2_append_11 : decode cX2_append 11 = .ok (.invokevirtual 39, 3) := by decide +kernel
theorem dX2_append_14 : decode cX2_append 14 = .ok (.aload_n 0, 1) := by decide +kernel
theorem dX2_append_15 : decode cX2_append 15 = .ok (.getfield 20, 3) := by decide +kernel
theorem dX2_append_18 : decode cX2_append 18 = .ok (.iload_n 1, 1) := by decide +kernel
theorem dX2_append_19 : decode cX2_append 19 = .ok (.iconst 1, 1) := by decide +kernel
theorem dX2_append_20 : decode cX2_append 20 = .ok (.invokevirtual 43, 3) := by decide +kernel
theorem dX2_append_23 : decode cX2_append 23 = .ok (.aload_n 0, 1) := by decide +kernel
theorem dX2_append_24 : decode cX2_append 24 = .ok (.getfield 20, 3) := by decide +kernel
theorem dX2_append_27 : decode cX2_append 27 = .ok (.iload_n 1, 1) := by decide +kernel
theorem dX2_append_28 : decode cX2_append 28 = .ok (.invokevirtual 23, 3) := by decide +kernel
theorem dX2_append_31 : decode cX2_append 31 = .ok (.ireturn, 1) := by decide +kernel
theorem dX2_replaceControl_0 : decode cX2_replaceControl 0 = .ok (.aload_n 0, 1) := by decide +kernel
theorem dX2_replaceControl_1 : decode cX2_replaceControl 1 = .ok (.getfield 14, 3) := by decide +kernel
theorem dX2_replaceControl_4 : decode cX2_replaceControl 4 = .ok (.iload_n 1, 1) := by decide +kernel
theorem dX2_replaceControl_5 : decode cX2_replaceControl 5 = .ok (.bipush 6, 2) := by decide +kernel
theorem dX2_replaceControl_7 : decode cX2_replaceControl 7 = .ok (.imul, 1) := by decide +kernel
theorem dX2_replaceControl_8 : decode cX2_replaceControl 8 = .ok (.iload_n 2, 1) := by decide +kernel
theorem dX2_replaceControl_9 : decode cX2_replaceControl 9 = .ok (.iadd, 1) := by decide +kernel
theorem dX2_replaceControl_10 : decode cX2_replaceControl 10 = .ok (.iload_n 3, 1) := by decide +kernel
theorem dX2_replaceControl_11 : decode cX2_replaceControl 11 = .ok (.invokevirtual 47, 3) := by decide +kernel
theorem dX2_replaceControl_14 : decode cX2_replaceControl 14 = .ok (.return_, 1) := by decide +kernel
theorem dX3_init_0 : decode cX3_init 0 = .ok (.aload_n 0, 1) := by decide +kernel
theorem dX3_init_1 : decode cX3_init 1 = .ok (.invokespecial 3, 3) := by decide +kernel
theorem dX3_init_4 : decode cX3_init 4 = .ok (.aload_n 0, 1) := by decide +kernel
theorem dX3_init_5 : decode cX3_init 5 = .ok (.new 9, 3) := by decide +kernel
theorem dX3_init_8 : decode cX3_init 8 = .ok (.dup, 1) := by decide +kernel
theorem dX3_init_9 : decode cX3_init 9 = .ok (.bipush 24, 2) := by decide +kernel
theorem dX3_init_11 : decode cX3_init 11 = .ok (.invokespecial 11, 3) := by decide +kernel
theorem dX3_init_14 : decode cX3_init 14 = .ok (.putfield 14, 3) := by decide +kernel
theorem dX3_init_17 : decode cX3_init 17 = .ok (.aload_n 0, 1) := by decide +kernel
theorem dX3_init_18 : decode cX3_init 18 = .ok (.new 9, 3) := by decide +kernel
theorem dX3_init_21 : decode cX3_init 21 = .ok (.dup, 1) := by decide +kernel
theorem dX3_init_22 : decode cX3_init 22 = .ok (.bipush 24, 2) := by decide +kernel
theorem dX3_init_24 : decode cX3_init 24 = .ok (.invokespecial 11, 3) := by decide +kernel
theorem dX3_init_27 : decode cX3_init 27 = .ok (.putfield 20, 3) := by decide +kernel
theorem dX3_init_30 : decode cX3_init 30 = .ok (.aload_n 0, 1) := by decide +kernel
theorem dX3_init_31 : decode cX3_init 31 = .ok (.new 9, 3) := by decide +kernel
theorem dX3_init_34 : decode cX3_init 34 = .ok (.dup, 1) := by decide +kernel
theorem dX3_init_35 : decode cX3_init 35 = .ok (.bipush 24, 2) := by decide +kernel
theorem dX3_init_37 : decode cX3_init 37 = .ok (.invokespecial 11, 3) := by decide +kernel
theorem dX3_init_40 : decode cX3_init 40 = .ok (.putfield 23, 3) := by decide +kernel
theorem dX3_init_43 : decode cX3_init 43 = .ok (.aload_n 0, 1) := by decide +kernel
theorem dX3_init_44 : decode cX3_init 44 = .ok (.new 9, 3) := by decide +kernel
theorem dX3_init_47 : decode cX3_init 47 = .ok (.dup, 1) := by decide +kernel
theorem dX3_init_48 : decode cX3_init 48 = .ok (.bipush 24, 2) := by decide +kernel
theorem dX3_init_50 : decode cX3_init 50 = .ok (.invokespecial 11, 3) := by decide +kernel
theorem dX3_init_53 : decode cX3_init 53 = .ok (.putfield 26, 3) := by decide +kernel
theorem dX3_init_56 : decode cX3_init 56 = .ok (.aload_n 0, 1) := by decide +kernel
theorem dX3_init_57 : decode cX3_init 57 = .ok (.new 9, 3) := by decide +kernel
theorem dX3_init_60 : decode cX3_init 60 = .ok (.dup, 1) := by decide +kernel
theorem dX3_init_61 : decode cX3_init 61 = .ok (.bipush 24, 2) := by decide +kernel
theorem dX3_init_63 : decode cX3_init 63 = .ok (.invokespecial 11, 3) := by decide +kernel
theorem dX3_init_66 : decode cX3_init 66 = .ok (.putfield 29, 3) := by decide +kernel
theorem dX3_init_69 : decode cX3_init 69 = .ok (.aload_n 0, 1) := by decide +kernel
theorem dX3_init_70 : decode cX3_init 70 = .ok (.new 9, 3) := by decide +kernel
theorem dX3_init_73 : decode cX3_init 73 = .ok (.dup, 1) := by decide +kernel
theorem dX3_init_74 : decode cX3_init 74 = .ok (.sipush 480, 3) := by decide +kernel
theorem dX3_init_77 : decode cX3_init 77 = .ok (.invokespecial 11, 3) := by decide +kernel
theorem dX3_init_80 : decode cX3_init 80 = .ok (.putfield 32, 3) := by decide +kernel
theorem dX3_init_83 : decode cX3_init 83 = .ok (.aload_n 0, 1) := by decide +kernel
theorem dX3_init_84 : decode cX3_init 84 = .ok (.new 9, 3) := by decide +kernel
theorem dX3_init_87 : decode cX3_init 87 = .ok (.dup, 1) := by decide +kernel
theorem dX3_init_88 : decode cX3_init 88 = .ok (.sipush 480, 3) := by decide +kernel
theorem dX3_init_91 : decode cX3_init 91 = .ok (.invokespecial 11, 3) := by decide +kernel
theorem dX3_init_94 : decode cX3_init 94 = .ok (.putfield 35, 3) := by decide +kernel
theorem dX3_init_97 : decode cX3_init 97 = .ok (.return_, 1) := by decide +kernel
theorem dX3_count_0 : decode cX3_count 0 = .ok (.aload_n 0, 1) := by decide +kernel
theorem dX3_count_1 : decode cX3_count 1 = .ok (.getfield 38, 3) := by decide +kernel
theorem dX3_count_4 : decode cX3_count 4 = .ok (.ireturn, 1) := by decide +kernel
theorem dX3_areDrawn_0 : decode cX3_areDrawn 0 = .ok (.aload_n 0, 1) := by decide +kernel
theorem dX3_areDrawn_1 : decode cX3_areDrawn 1 = .ok (.getfield 42, 3) := by decide +kernel
theorem dX3_areDrawn_4 : decode cX3_areDrawn 4 = .ok (.ireturn, 1) := by decide +kernel
theorem dX3_klassOf_0 : decode cX3_klassOf 0 = .ok (.aload_n 0, 1) := by decide +kernel
theorem dX3_klassOf_1 : decode cX3_klassOf 1 = .ok (.getfield 14, 3) := by decide +kernel
theorem dX3_klassOf_4 : decode cX3_klassOf 4 = .ok (.iload_n 1, 1) := by decide +kernel
theorem dX3_klassOf_5 : decode cX3_klassOf 5 = .ok (.invokevirtual 46, 3) := by decide +kernel
theorem dX3_klassOf_8 : decode cX3_klassOf 8 = .ok (.ireturn, 1) := by decide +kernel
theorem dX3_startMinute_0 : decode cX3_startMinute 0 = .ok (.aload_n 0, 1) := by decide +kernel
theorem dX3_startMinute_1 : decode cX3_startMinute 1 = .ok (.getfield 26, 3) := by decide +kernel
theorem dX3_startMinute_4 : decode cX3_startMinute 4 = .ok (.iload_n 1, 1) := by decide +kernel
theorem dX3_startMinute_5 : decode cX3_startMinute 5 = .ok (.invokevirtual 46, 3) := by decide +kernel
theorem dX3_startMinute_8 : decode cX3_startMinute 8 = .ok (.ireturn, 1) := by decide +kernel
theorem dX3_add_0 : decode cX3_add 0 = .ok (.aload_n 0, 1) := by decide +kernel
theorem dX3_add_1 : decode cX3_add 1 = .ok (.getfield 14, 3) := by decide +kernel
theorem dX3_add_4 : decode cX3_add 4 = .ok (.aload_n 0, 1) := by decide +kernel
theorem dX3_add_5 : decode cX3_add 5 = .ok (.getfield 38, 3) := by decide +kernel
theorem dX3_add_8 : decode cX3_add 8 = .ok (.iload_n 1, 1) := by decide +kernel
theorem dX3_add_9 : decode cX3_add 9 = .ok (.invokevirtual 50, 3) := by decide +kernel
theorem dX3_add_12 : decode cX3_add 12 = .ok (.aload_n 0, 1) := by decide +kernel
theorem dX3_add_13 : decode cX3_add 13 = .ok (.getfield 20, 3) := by decide +kernel
theorem dX3_add_16 : decode cX3_add 16 = .ok (.aload_n 0, 1) := by decide +kernel
theorem dX3_add_17 : decode cX3_add 17 = .ok (.getfield 38, 3) := by decide +kernel
theorem dX3_add_20 : decode cX3_add 20 = .ok (.iload_n 2, 1) := by decide +kernel
theorem dX3_add_21 : decode cX3_add 21 = .ok (.invokevirtual 50, 3) := by decide +kernel
theorem dX3_add_24 : decode cX3_add 24 = .ok (.aload_n 0, 1) := by decide +kernel
theorem dX3_add_25 : decode cX3_add 25 = .ok (.getfield 26, 3) := by decide +kernel
theorem dX3_add_28 : decode cX3_add 28 = .ok (.aload_n 0, 1) := by decide +kernel
theorem dX3_add_29 : decode cX3_add 29 = .ok (.getfield 38, 3) := by decide +kernel
theorem dX3_add_32 : decode cX3_add 32 = .ok (.iconst (-1), 1) := by decide +kernel
theorem dX3_add_33 : decode cX3_add 33 = .ok (.invokevirtual 50, 3) := by decide +kernel
theorem dX3_add_36 : decode cX3_add 36 = .ok (.aload_n 0, 1) := by decide +kernel
theorem dX3_add_37 : decode cX3_add 37 = .ok (.dup, 1) := by decide +kernel
theorem dX3_add_38 : decode cX3_add 38 = .ok (.getfield 38, 3) := by decide +kernel
theorem dX3_add_41 : decode cX3_add 41 = .ok (.iconst 1, 1) := by decide +kernel
theorem dX3_add_42 : decode cX3_add 42 = .ok (.iadd, 1) := by decide +kernel
theorem dX3_add_43 : decode cX3_add 43 = .ok (.putfield 38, 3) := by decide +kernel
theorem dX3_add_46 : decode cX3_add 46 = .ok (.aload_n 0, 1) := by decide +kernel
theorem dX3_add_47 : decode cX3_add 47 = .ok (.getfield 38, 3) := by decide +kernel
theorem dX3_add_50 : decode cX3_add 50 = .ok (.iconst 1, 1) := by decide +kernel
theorem dX3_add_51 : decode cX3_add 51 = .ok (.isub, 1) := by decide +kernel
theorem dX3_add_52 : decode cX3_add 52 = .ok (.ireturn, 1) := by decide +kernel
theorem dX3_drawStarts_0 : decode cX3_drawStarts 0 = .ok (.iload_n 1, 1) := by decide +kernel
theorem dX3_drawStarts_1 : decode cX3_drawStarts 1 = .ok (.istore_n 3, 1) := by decide +kernel
theorem dX3_drawStarts_2 : decode cX3_drawStarts 2 = .ok (.iconst 0, 1) := by decide +kernel
theorem dX3_drawStarts_3 : decode cX3_drawStarts 3 = .ok (.istore 4, 2) := by decide +kernel
theorem dX3_drawStarts_5 : decode cX3_drawStarts 5 = .ok (.iload 4, 2) := by decide +kernel
theorem dX3_drawStarts_7 : decode cX3_drawStarts 7 = .ok (.aload_n 0, 1) := by decide +kernel
theorem dX3_drawStarts_8 : decode cX3_drawStarts 8 = .ok (.getfield 38, 3) := by decide +kernel
theorem dX3_drawStarts_11 : decode cX3_drawStarts 11 = .ok (.if_icmp .ge 33, 3) := by decide +kernel
theorem dX3_drawStarts_14 : decode cX3_drawStarts 14 = .ok (.sipush 421, 3) := by decide +kernel
theorem dX3_drawStarts_17 : decode cX3_drawStarts 17 = .ok (.iload_n 3, 1) := by decide +kernel
theorem dX3_drawStarts_18 : decode cX3_drawStarts 18 = .ok (.imul, 1) := by decide +kernel
theorem dX3_drawStarts_19 : decode cX3_drawStarts 19 = .ok (.sipush 1663, 3) := by decide +kernel
theorem dX3_drawStarts_22 : decode cX3_drawStarts 22 = .ok (.iadd, 1) := by decide +kernel
theorem dX3_drawStarts_23 : decode cX3_drawStarts 23 = .ok (.sipush 7875, 3) := by decide +kernel
theorem dX3_drawStarts_26 : decode cX3_drawStarts 26 = .ok (.irem, 1) := by decide +kernel
theorem dX3_drawStarts_27 : decode cX3_drawStarts 27 = .ok (.istore_n 3, 1) := by decide +kernel
theorem dX3_drawStarts_28 : decode cX3_drawStarts 28 = .ok (.aload_n 0, 1) := by decide +kernel
theorem dX3_drawStarts_29 : decode cX3_drawStarts 29 = .ok (.getfield 23, 3) := by decide +kernel
theorem dX3_drawStarts_32 : decode cX3_drawStarts 32 = .ok (.iload 4, 2) := by decide +kernel
theorem dX3_drawStarts_34 : decode cX3_drawStarts 34 = .ok (.iload_n 3, 1) := by decide +kernel
theorem dX3_drawStarts_35 : decode cX3_drawStarts 35 = .ok (.invokevirtual 50, 3) := by decide +kernel
theorem dX3_drawStarts_38 : decode cX3_drawStarts 38 = .ok (.iinc 4 1, 3) := by decide +kernel
theorem dX3_drawStarts_41 : decode cX3_drawStarts 41 = .ok (.goto (-36), 3) := by decide +kernel
theorem dX3_drawStarts_44 : decode cX3_drawStarts 44 = .ok (.iconst 0, 1) := by decide +kernel
theorem dX3_drawStarts_45 : decode cX3_drawStarts 45 = .ok (.istore 4, 2) := by decide +kernel
theorem dX3_drawStarts_47 : decode cX3_drawStarts 47 = .ok (.iconst 0, 1) := by decide +kernel
theorem dX3_drawStarts_48 : decode cX3_drawStarts 48 = .ok (.istore 5, 2) := by decide +kernel
theorem dX3_drawStarts_50 : decode cX3_drawStarts 50 = .ok (.iload 5, 2) := by decide +kernel
theorem dX3_drawStarts_52 : decode cX3_drawStarts 52 = .ok (.iconst 5, 1) := by decide +kernel
theorem dX3_drawStarts_53 : decode cX3_drawStarts 53 = .ok (.if_icmp .ge 23, 3) := by decide +kernel
theorem dX3_drawStarts_56 : decode cX3_drawStarts 56 = .ok (.iload 4, 2) := by decide +kernel
theorem dX3_drawStarts_58 : decode cX3_drawStarts 58 = .ok (.aload_n 0, 1) := by decide +kernel
theorem dX3_drawStarts_59 : decode cX3_drawStarts 59 = .ok (.iload 5, 2) := by decide +kernel
theorem dX3_drawStarts_61 : decode cX3_drawStarts 61 = .ok (.iload_n 2, 1) := by decide +kernel
theorem dX3_drawStarts_62 : decode cX3_drawStarts 62 = .ok (.invokevirtual 54, 3) := by decide +kernel
theorem dX3_drawStarts_65 : decode cX3_drawStarts 65 = .ok (.invokestatic 58, 3) := by decide +kernel
theorem dX3_drawStarts_68 : decode cX3_drawStarts 68 = .ok (.istore 4, 2) := by decide +kernel
theorem dX3_drawStarts_70 : decode cX3_drawStarts 70 = .ok (.iinc 5 1, 3) := by decide +kernel
theorem dX3_drawStarts_73 : decode cX3_drawStarts 73 = .ok (.goto (-23), 3) := by decide +kernel
theorem dX3_drawStarts_76 : decode cX3_drawStarts 76 = .ok (.aload_n 0, 1) := by decide +kernel
theorem dX3_drawStarts_77 : decode cX3_drawStarts 77 = .ok (.iconst 1, 1) := by decide +kernel
theorem dX3_drawStarts_78 : decode cX3_drawStarts 78 = .ok (.putfield 42, 3) := by decide +kernel
theorem dX3_drawStarts_81 : decode cX3_drawStarts 81 = .ok (.iload 4, 2) := by decide +kernel
theorem dX3_drawStarts_83 : decode cX3_drawStarts 83 = .ok (.ireturn, 1) := by decide +kernel
theorem dX3_startKlass_0 : decode cX3_startKlass 0 = .ok (.iconst 0, 1) := by decide +kernel
theorem dX3_startKlass_1 : decode cX3_startKlass 1 = .ok (.istore_n 3, 1) := by decide +kernel
theorem dX3_startKlass_2 : decode cX3_startKlass 2 = .ok (.aload_n 0, 1) := by decide +kernel
theorem dX3_startKlass_3 : decode cX3_startKlass 3 = .ok (.iload_n 1, 1) := by decide +kernel
theorem dX3_startKlass_4 : decode cX3_startKlass 4 = .ok (.iconst (-1), 1) := by decide +kernel
theorem dX3_startKlass_5 : decode cX3_startKlass 5 = .ok (.invokevirtual 63, 3) := by decide +kernel
theorem dX3_startKlass_8 : decode cX3_startKlass 8 = .ok (.istore 4, 2) := by decide +kernel
theorem dX3_startKlass_10 : decode cX3_startKlass 10 = .ok (.iconst 0, 1) := by decide +kernel
theorem dX3_startKlass_11 : decode cX3_startKlass 11 = .ok (.istore 5, 2) := by decide +kernel
theorem dX3_startKlass_13 : decode cX3_startKlass 13 = .ok (.iload 5, 2) := by decide +kernel
theorem dX3_startKlass_15 : decode cX3_startKlass 15 = .ok (.aload_n 0, 1) := by decide +kernel
theorem dX3_startKlass_16 : decode cX3_startKlass 16 = .ok (.getfield 38, 3) := by decide +kernel
theorem dX3_startKlass_19 : decode cX3_startKlass 19 = .ok (.if_icmp .ge 65, 3) := by decide +kernel
theorem dX3_startKlass_22 : decode cX3_startKlass 22 = .ok (.iload 4, 2) := by decide +kernel
theorem dX3_startKlass_24 : decode cX3_startKlass 24 = .ok (.iconst (-1), 1) := by decide +kernel
theorem dX3_startKlass_25 : decode cX3_startKlass 25 = .ok (.if_icmp .eq 59, 3) := by decide +kernel
theorem dX3_startKlass_28 : decode cX3_startKlass 28 = .ok (.iload 5, 2) := by decide +kernel
theorem dX3_startKlass_30 : decode cX3_startKlass 30 = .ok (.iload_n 2, 1) := by decide +kernel
theorem dX3_startKlass_31 : decode cX3_startKlass 31 = .ok (.imul, 1) := by decide +kernel
theorem dX3_startKlass_32 : decode cX3_startKlass 32 = .ok (.istore_n 3, 1) := by decide +kernel
theorem dX3_startKlass_33 : decode cX3_startKlass 33 = .ok (.aload_n 0, 1) := by decide +kernel
theorem dX3_startKlass_34 : decode cX3_startKlass 34 = .ok (.getfield 26, 3) := by decide +kernel
theorem dX3_startKlass_37 : decode cX3_startKlass 37 = .ok (.iload 4, 2) := by decide +kernel
theorem dX3_startKlass_39 : decode cX3_startKlass 39 = .ok (.iload_n 3, 1) := by decide +kernel
theorem dX3_startKlass_40 : decode cX3_startKlass 40 = .ok (.invokevirtual 50, 3) := by decide +kernel
theorem dX3_startKlass_43 : decode cX3_startKlass 43 = .ok (.aload_n 0, 1) := by decide +kernel
theorem dX3_startKlass_44 : decode cX3_startKlass 44 = .ok (.iload_n 1, 1) := by decide +kernel
theorem dX3_startKlass_45 : decode cX3_startKlass 45 = .ok (.aload_n 0, 1) := by decide +kernel
theorem dX3_startKlass_46 : decode cX3_startKlass 46 = .ok (.getfield 20, 3) := by decide +kernel
theorem dX3_startKlass_49 : decode cX3_startKlass 49 = .ok (.iload 4, 2) := by decide +kernel
theorem dX3_startKlass_51 : decode cX3_startKlass 51 = .ok (.invokevirtual 46, 3) := by decide +kernel
theorem dX3_startKlass_54 : decode cX3_startKlass 54 = .ok (.invokevirtual 63, 3) := by decide +kernel
theorem dX3_startKlass_57 : decode cX3_startKlass 57 = .ok (.istore 6, 2) := by decide +kernel
theorem dX3_startKlass_59 : decode cX3_startKlass 59 = .ok (.iload 6, 2) := by decide +kernel
theorem dX3_startKlass_61 : decode cX3_startKlass 61 = .ok (.iconst (-1), 1) := by decide +kernel
theorem dX3_startKlass_62 : decode cX3_startKlass 62 = .ok (.if_icmp .eq 8, 3) := by decide +kernel
theorem dX3_startKlass_65 : decode cX3_startKlass 65 = .ok (.iload 6, 2) := by decide +kernel
theorem dX3_startKlass_67 : decode cX3_startKlass 67 = .ok (.goto 9, 3) := by decide +kernel
theorem dX3_startKlass_70 : decode cX3_startKlass 70 = .ok (.aload_n 0, 1) := by decide +kernel
theorem dX3_startKlass_71 : decode cX3_startKlass 71 = .ok (.iload_n 1, 1) := by decide +kernel
theorem dX3_startKlass_72 : decode cX3_startKlass 72 = .ok (.iconst (-1), 1) := by decide +kernel
theorem dX3_startKlass_73 : decode cX3_startKlass 73 = .ok (.invokevirtual 63, 3) := by decide +kernel
theorem dX3_startKlass_76 : decode cX3_startKlass 76 = .ok (.istore 4, 2) := by decide +kernel
theorem dX3_startKlass_78 : decode cX3_startKlass 78 = .ok (.iinc 5 1, 3) := by decide +kernel
theorem dX3_startKlass_81 : decode cX3_startKlass 81 = .ok (.goto (-68), 3) := by decide +kernel
theorem dX3_startKlass_84 : decode cX3_startKlass 84 = .ok (.iload_n 3, 1) := by decide +kernel
theorem dX3_startKlass_85 : decode cX3_startKlass 85 = .ok (.ireturn, 1) := by decide +kernel
theorem dX3_leastLot_0 : decode cX3_leastLot 0 = .ok (.iconst (-1), 1) := by decide +kernel
theorem dX3_leastLot_1 : decode cX3_leastLot 1 = .ok (.istore_n 3, 1) := by decide +kernel
theorem dX3_leastLot_2 : decode cX3_leastLot 2 = .ok (.iconst 0, 1) := by decide +kernel
theorem dX3_leastLot_3 : decode cX3_leastLot 3 = .ok (.istore 4, 2) := by decide +kernel
theorem dX3_leastLot_5 : decode cX3_leastLot 5 = .ok (.iload 4, 2) := by decide +kernel
theorem dX3_leastLot_7 : decode cX3_leastLot 7 = .ok (.aload_n 0, 1) := by decide +kernel
theorem dX3_leastLot_8 : decode cX3_leastLot 8 = .ok (.getfield 38, 3) := by decide +kernel
theorem dX3_leastLot_11 : decode cX3_leastLot 11 = .ok (.if_icmp .ge 88, 3) := by decide +kernel
theorem dX3_leastLot_14 : decode cX3_leastLot 14 = .ok (.aload_n 0, 1) := by decide +kernel
theorem dX3_leastLot_15 : decode cX3_leastLot 15 = .ok (.getfield 14, 3) := by decide +kernel
theorem dX3_leastLot_18 : decode cX3_leastLot 18 = .ok (.iload 4, 2) := by decide +kernel
theorem dX3_leastLot_20 : decode cX3_leastLot 20 = .ok (.invokevirtual 46, 3) := by decide +kernel
theorem dX3_leastLot_23 : decode cX3_leastLot 23 = .ok (.iload_n 1, 1) := by decide +kernel
theorem dX3_leastLot_24 : decode cX3_leastLot 24 = .ok (.if_icmp .ne 20, 3) := by decide +kernel
theorem dX3_leastLot_27 : decode cX3_leastLot 27 = .ok (.aload_n 0, 1) := by decide +kernel
theorem dX3_leastLot_28 : decode cX3_leastLot 28 = .ok (.getfield 26, 3) := by decide +kernel
theorem dX3_leastLot_31 : decode cX3_leastLot 31 = .ok (.iload 4, 2) := by decide +kernel
theorem dX3_leastLot_33 : decode cX3_leastLot 33 = .ok (.invokevirtual 46, 3) := by decide +kernel
theorem dX3_leastLot_36 : decode cX3_leastLot 36 = .ok (.iconst (-1), 1) := by decide +kernel
theorem dX3_leastLot_37 : decode cX3_leastLot 37 = .ok (.if_icmp .ne 7, 3) := by decide +kernel
theorem dX3_leastLot_40 : decode cX3_leastLot 40 = .ok (.iconst 1, 1) := by decide +kernel
theorem dX3_leastLot_41 : decode cX3_leastLot 41 = .ok (.goto 4, 3) := by decide +kernel
theorem dX3_leastLot_44 : decode cX3_leastLot 44 = .ok (.iconst 0, 1) := by decide +kernel
theorem dX3_leastLot_45 : decode cX3_leastLot 45 = .ok (.istore 5, 2) := by decide +kernel
theorem dX3_leastLot_47 : decode cX3_leastLot 47 = .ok (.iload 5, 2) := by decide +kernel
theorem dX3_leastLot_49 : decode cX3_leastLot 49 = .ok (.ifCond .eq 44, 3) := by decide +kernel
theorem dX3_leastLot_52 : decode cX3_leastLot 52 = .ok (.aload_n 0, 1) := by decide +kernel
theorem dX3_leastLot_53 : decode cX3_leastLot 53 = .ok (.getfield 20, 3) := by decide +kernel
theorem dX3_leastLot_56 : decode cX3_leastLot 56 = .ok (.iload 4, 2) := by decide +kernel
theorem dX3_leastLot_58 : decode cX3_leastLot 58 = .ok (.invokevirtual 46, 3) := by decide +kernel
theorem dX3_leastLot_61 : decode cX3_leastLot 61 = .ok (.iload_n 2, 1) := by decide +kernel
theorem dX3_leastLot_62 : decode cX3_leastLot 62 = .ok (.if_icmp .eq 31, 3) := by decide +kernel
theorem dX3_leastLot_65 : decode cX3_leastLot 65 = .ok (.iload_n 3, 1) := by decide +kernel
theorem dX3_leastLot_66 : decode cX3_leastLot 66 = .ok (.iconst (-1), 1) := by decide +kernel
theorem dX3_leastLot_67 : decode cX3_leastLot 67 = .ok (.if_icmp .eq 23, 3) := by decide +kernel
theorem dX3_leastLot_70 : decode cX3_leastLot 70 = .ok (.aload_n 0, 1) := by decide +kernel
theorem dX3_leastLot_71 : decode cX3_leastLot 71 = .ok (.getfield 23, 3) := by decide +kernel
theorem dX3_leastLot_74 : decode cX3_leastLot 74 = .ok (.iload 4, 2) := by decide +kernel
theorem dX3_leastLot_76 : decode cX3_leastLot 76 = .ok (.invokevirtual 46, 3) := by decide +kernel
theorem dX3_leastLot_79 : decode cX3_leastLot 79 = .ok (.aload_n 0, 1) := by decide +kernel
theorem dX3_leastLot_80 : decode cX3_leastLot 80 = .ok (.getfield 23, 3) := by decide +kernel
theorem dX3_leastLot_83 : decode cX3_leastLot 83 = .ok (.iload_n 3, 1) := by decide +kernel
theorem dX3_leastLot_84 : decode cX3_leastLot 84 = .ok (.invokevirtual 46, 3) := by decide +kernel
theorem dX3_leastLot_87 : decode cX3_leastLot 87 = .ok (.if_icmp .ge 6, 3) := by decide +kernel
theorem dX3_leastLot_90 : decode cX3_leastLot 90 = .ok (.iload 4, 2) := by decide +kernel
theorem dX3_leastLot_92 : decode cX3_leastLot 92 = .ok (.istore_n 3, 1) := by decide +kernel
theorem dX3_leastLot_93 : decode cX3_leastLot 93 = .ok (.iinc 4 1, 3) := by decide +kernel
theorem dX3_leastLot_96 : decode cX3_leastLot 96 = .ok (.goto (-91), 3) := by decide +kernel
theorem dX3_leastLot_99 : decode cX3_leastLot 99 = .ok (.iload_n 3, 1) := by decide +kernel
theorem dX3_leastLot_100 : decode cX3_leastLot 100 = .ok (.ireturn, 1) := by decide +kernel
theorem dX3_punchCount_0 : decode cX3_punchCount 0 = .ok (.aload_n 0, 1) := by decide +kernel
theorem dX3_punchCount_1 : decode cX3_punchCount 1 = .ok (.getfield 29, 3) := by decide +kernel
theorem dX3_punchCount_4 : decode cX3_punchCount 4 = .ok (.iload_n 1, 1) := by decide +kernel
theorem dX3_punchCount_5 : decode cX3_punchCount 5 = .ok (.invokevirtual 46, 3) := by decide +kernel
theorem dX3_punchCount_8 : decode cX3_punchCount 8 = .ok (.ireturn, 1) := by decide +kernel
theorem dX3_punchedControl_0 : decode cX3_punchedControl 0 = .ok (.aload_n 0, 1) := by decide +kernel
theorem dX3_punchedControl_1 : decode cX3_punchedControl 1 = .ok (.getfield 32, 3) := by decide +kernel
theorem dX3_punchedControl_4 : decode cX3_punchedControl 4 = .ok (.iload_n 1, 1) := by decide +kernel
theorem dX3_punchedControl_5 : decode cX3_punchedControl 5 = .ok (.bipush 20, 2) := by decide +kernel
theorem dX3_punchedControl_7 : decode cX3_punchedControl 7 = .ok (.imul, 1) := by decide +kernel
theorem dX3_punchedControl_8 : decode cX3_punchedControl 8 = .ok (.iload_n 2, 1) := by decide +kernel
theorem dX3_punchedControl_9 : decode cX3_punchedControl 9 = .ok (.iadd, 1) := by decide +kernel
theorem dX3_punchedControl_10 : decode cX3_punchedControl 10 = .ok (.invokevirtual 46, 3) := by decide +kernel
theorem dX3_punchedControl_13 : decode cX3_punchedControl 13 = .ok (.ireturn, 1) := by decide +kernel
theorem dX3_punchedMinute_0 : decode cX3_punchedMinute 0 = .ok (.aload_n 0, 1) := by decide +kernel
theorem dX3_punchedMinute_1 : decode cX3_punchedMinute 1 = .ok (.getfield 35, 3) := by decide +kernel
theorem dX3_punchedMinute_4 : decode cX3_punchedMinute 4 = .ok (.iload_n 1, 1) := by decide +kernel
theorem dX3_punchedMinute_5 : decode cX3_punchedMinute 5 = .ok (.bipush 20, 2) := by decide +kernel
theorem dX3_punchedMinute_7 : decode cX3_punchedMinute 7 = .ok (.imul, 1) := by decide +kernel
theorem dX3_punchedMinute_8 : decode cX3_punchedMinute 8 = .ok (.iload_n 2, 1) := by decide +kernel
theorem dX3_punchedMinute_9 : decode cX3_punchedMinute 9 = .ok (.iadd, 1) := by decide +kernel
theorem dX3_punchedMinute_10 : decode cX3_punchedMinute 10 = .ok (.invokevirtual 46, 3) := by decide +kernel
theorem dX3_punchedMinute_13 : decode cX3_punchedMinute 13 = .ok (.ireturn, 1) := by decide +kernel
theorem dX3_earliestPunch_0 : decode cX3_earliestPunch 0 = .ok (.aload_n 0, 1) := by decide +kernel
theorem dX3_earliestPunch_1 : decode cX3_earliestPunch 1 = .ok (.getfield 29, 3) := by decide +kernel
theorem dX3_earliestPunch_4 : decode cX3_earliestPunch 4 = .ok (.iload_n 1, 1) := by decide +kernel
theorem dX3_earliestPunch_5 : decode cX3_earliestPunch 5 = .ok (.invokevirtual 46, 3) := by decide +kernel
theorem dX3_earliestPunch_8 : decode cX3_earliestPunch 8 = .ok (.istore_n 2, 1) := by decide +kernel
theorem dX3_earliestPunch_9 : decode cX3_earliestPunch 9 = .ok (.iload_n 2, 1) := by decide +kernel
theorem dX3_earliestPunch_10 : decode cX3_earliestPunch 10 = .ok (.ifCond .le 14, 3) := by decide +kernel
theorem dX3_earliestPunch_13 : decode cX3_earliestPunch 13 = .ok (.aload_n 0, 1) := by decide +kernel
theorem dX3_earliestPunch_14 : decode cX3_earliestPunch 14 = .ok (.iload_n 1, 1) := by decide +kernel
theorem dX3_earliestPunch_15 : decode cX3_earliestPunch 15 = .ok (.iload_n 2, 1) := by decide +kernel
theorem dX3_earliestPunch_16 : decode cX3_earliestPunch 16 = .ok (.iconst 1, 1) := by decide +kernel
theorem dX3_earliestPunch_17 : decode cX3_earliestPunch 17 = .ok (.isub, 1) := by decide +kernel
theorem dX3_earliestPunch_18 : decode cX3_earliestPunch 18 = .ok (.invokevirtual 66, 3) := by decide +kernel
theorem dX3_earliestPunch_21 : decode cX3_earliestPunch 21 = .ok (.goto 11, 3) := by decide +kernel
theorem dX3_earliestPunch_24 : decode cX3_earliestPunch 24 = .ok (.aload_n 0, 1) := by decide +kernel
theorem dX3_earliestPunch_25 : decode cX3_earliestPunch 25 = .ok (.getfield 26, 3) := by decide +kernel
theorem dX3_earliestPunch_28 : decode cX3_earliestPunch 28 = .ok (.iload_n 1, 1) := by decide +kernel
theorem dX3_earliestPunch_29 : decode cX3_earliestPunch 29 = .ok (.invokevirtual 46, 3) := by decide +kernel
theorem dX3_earliestPunch_32 : decode cX3_earliestPunch 32 = .ok (.ireturn, 1) := by decide +kernel
theorem dX3_addPunch_0 : decode cX3_addPunch 0 = .ok (.iload_n 1, 1) := by decide +kernel
theorem dX3_addPunch_1 : decode cX3_addPunch 1 = .ok (.bipush 20, 2) := by decide +kernel
theorem dX3_addPunch_3 : decode cX3_addPunch 3 = .ok (.imul, 1) := by decide +kernel
theorem dX3_addPunch_4 : decode cX3_addPunch 4 = .ok (.aload_n 0, 1) := by decide +kernel
theorem dX3_addPunch_5 : decode cX3_addPunch 5 = .ok (.getfield 29, 3) := by decide +kernel
theorem dX3_addPunch_8 : decode cX3_addPunch 8 = .ok (.iload_n 1, 1) := by decide +kernel
theorem dX3_addPunch_9 : decode cX3_addPunch 9 = .ok (.invokevirtual 46, 3) := by decide +kernel
theorem dX3_addPunch_12 : decode cX3_addPunch 12 = .ok (.iadd, 1) := by decide +kernel
theorem dX3_addPunch_13 : decode cX3_addPunch 13 = .ok (.istore 4, 2) := by decide +kernel
theorem dX3_addPunch_15 : decode cX3_addPunch 15 = .ok (.aload_n 0, 1) := by decide +kernel
theorem dX3_addPunch_16 : decode cX3_addPunch 16 = .ok (.getfield 32, 3) := by decide +kernel
theorem dX3_addPunch_19 : decode cX3_addPunch 19 = .ok (.iload 4, 2) := by decide +kernel
theorem dX3_addPunch_21 : decode cX3_addPunch 21 = .ok (.iload_n 2, 1) := by decide +kernel
theorem dX3_addPunch_22 : decode cX3_addPunch 22 = .ok (.invokevirtual 50, 3) := by decide +kernel
theorem dX3_addPunch_25 : decode cX3_addPunch 25 = .ok (.aload_n 0, 1) := by decide +kernel
theorem dX3_addPunch_26 : decode cX3_addPunch 26 = .ok (.getfield 35, 3) := by decide +kernel
theorem dX3_addPunch_29 : decode cX3_addPunch 29 = .ok (.iload 4, 2) := by decide +kernel
theorem dX3_addPunch_31 : decode cX3_addPunch 31 = .ok (.iload_n 3, 1) := by decide +kernel
theorem dX3_addPunch_32 : decode cX3_addPunch 32 = .ok (.invokevirtual 50, 3) := by decide +kernel
theorem dX3_addPunch_35 : decode cX3_addPunch 35 = .ok (.aload_n 0, 1) := by decide +kernel
theorem dX3_addPunch_36 : decode cX3_addPunch 36 = .ok (.getfield 29, 3) := by decide +kernel
theorem dX3_addPunch_39 : decode cX3_addPunch 39 = .ok (.iload_n 1, 1) := by decide +kernel
theorem dX3_addPunch_40 : decode cX3_addPunch 40 = .ok (.iconst 1, 1) := by decide +kernel
theorem dX3_addPunch_41 : decode cX3_addPunch 41 = .ok (.invokevirtual 69, 3) := by decide +kernel
theorem dX3_addPunch_44 : decode cX3_addPunch 44 = .ok (.return_, 1) := by decide +kernel
theorem dX3_hasPunched_0 : decode cX3_hasPunched 0 = .ok (.iconst 0, 1) := by decide +kernel
theorem dX3_hasPunched_1 : decode cX3_hasPunched 1 = .ok (.istore_n 3, 1) := by decide +kernel
theorem dX3_hasPunched_2 : decode cX3_hasPunched 2 = .ok (.iload_n 3, 1) := by decide +kernel
theorem dX3_hasPunched_3 : decode cX3_hasPunched 3 = .ok (.aload_n 0, 1) := by decide +kernel
theorem dX3_hasPunched_4 : decode cX3_hasPunched 4 = .ok (.getfield 29, 3) := by decide +kernel
theorem dX3_hasPunched_7 : decode cX3_hasPunched 7 = .ok (.iload_n 1, 1) := by decide +kernel
theorem dX3_hasPunched_8 : decode cX3_hasPunched 8 = .ok (.invokevirtual 46, 3) := by decide +kernel
theorem dX3_hasPunched_11 : decode cX3_hasPunched 11 = .ok (.if_icmp .ge 21, 3) := by decide +kernel
theorem dX3_hasPunched_14 : decode cX3_hasPunched 14 = .ok (.aload_n 0, 1) := by decide +kernel
theorem dX3_hasPunched_15 : decode cX3_hasPunched 15 = .ok (.iload_n 1, 1) := by decide +kernel
theorem dX3_hasPunched_16 : decode cX3_hasPunched 16 = .ok (.iload_n 3, 1) := by decide +kernel
theorem dX3_hasPunched_17 : decode cX3_hasPunched 17 = .ok (.invokevirtual 72, 3) := by decide +kernel
theorem dX3_hasPunched_20 : decode cX3_hasPunched 20 = .ok (.iload_n 2, 1) := by decide +kernel
theorem dX3_hasPunched_21 : decode cX3_hasPunched 21 = .ok (.if_icmp .ne 5, 3) := by decide +kernel
theorem dX3_hasPunched_24 : decode cX3_hasPunched 24 = .ok (.iconst 1, 1) := by decide +kernel
theorem dX3_hasPunched_25 : decode cX3_hasPunched 25 = .ok (.ireturn, 1) := by decide +kernel
theorem dX3_hasPunched_26 : decode cX3_hasPunched 26 = .ok (.iinc 3 1, 3) := by decide +kernel
theorem dX3_hasPunched_29 : decode cX3_hasPunched 29 = .ok (.goto (-27), 3) := by decide +kernel
theorem dX3_hasPunched_32 : decode cX3_hasPunched 32 = .ok (.iconst 0, 1) := by decide +kernel
theorem dX3_hasPunched_33 : decode cX3_hasPunched 33 = .ok (.ireturn, 1) := by decide +kernel
theorem dX4_init_0 : decode cX4_init 0 = .ok (.aload_n 0, 1) := by decide +kernel
theorem dX4_init_1 : decode cX4_init 1 = .ok (.invokespecial 3, 3) := by decide +kernel
theorem dX4_init_4 : decode cX4_init 4 = .ok (.aload_n 0, 1) := by decide +kernel
theorem dX4_init_5 : decode cX4_init 5 = .ok (.new 9, 3) := by decide +kernel
theorem dX4_init_8 : decode cX4_init 8 = .ok (.dup, 1) := by decide +kernel
theorem dX4_init_9 : decode cX4_init 9 = .ok (.sipush 144, 3) := by decide +kernel
theorem dX4_init_12 : decode cX4_init 12 = .ok (.invokespecial 11, 3) := by decide +kernel
theorem dX4_init_15 : decode cX4_init 15 = .ok (.putfield 14, 3) := by decide +kernel
theorem dX4_init_18 : decode cX4_init 18 = .ok (.aload_n 0, 1) := by decide +kernel
theorem dX4_init_19 : decode cX4_init 19 = .ok (.new 9, 3) := by decide +kernel
theorem dX4_init_22 : decode cX4_init 22 = .ok (.dup, 1) := by decide +kernel
theorem dX4_init_23 : decode cX4_init 23 = .ok (.sipush 144, 3) := by decide +kernel
theorem dX4_init_26 : decode cX4_init 26 = .ok (.invokespecial 11, 3) := by decide +kernel
theorem dX4_init_29 : decode cX4_init 29 = .ok (.putfield 20, 3) := by decide +kernel
theorem dX4_init_32 : decode cX4_init 32 = .ok (.aload_n 0, 1) := by decide +kernel
theorem dX4_init_33 : decode cX4_init 33 = .ok (.new 9, 3) := by decide +kernel
theorem dX4_init_36 : decode cX4_init 36 = .ok (.dup, 1) := by decide +kernel
theorem dX4_init_37 : decode cX4_init 37 = .ok (.bipush 6, 2) := by decide +kernel
theorem dX4_init_39 : decode cX4_init 39 = .ok (.invokespecial 11, 3) := by decide +kernel
theorem dX4_init_42 : decode cX4_init 42 = .ok (.putfield 23, 3) := by decide +kernel
theorem dX4_init_45 : decode cX4_init 45 = .ok (.aload_n 0, 1) := by decide +kernel
theorem dX4_init_46 : decode cX4_init 46 = .ok (.new 9, 3) := by decide +kernel
theorem dX4_init_49 : decode cX4_init 49 = .ok (.dup, 1) := by decide +kernel
theorem dX4_init_50 : decode cX4_init 50 = .ok (.bipush 6, 2) := by decide +kernel
theorem dX4_init_52 : decode cX4_init 52 = .ok (.invokespecial 11, 3) := by decide +kernel
theorem dX4_init_55 : decode cX4_init 55 = .ok (.putfield 26, 3) := by decide +kernel
theorem dX4_init_58 : decode cX4_init 58 = .ok (.aload_n 0, 1) := by decide +kernel
theorem dX4_init_59 : decode cX4_init 59 = .ok (.aload_n 1, 1) := by decide +kernel
theorem dX4_init_60 : decode cX4_init 60 = .ok (.putfield 29, 3) := by decide +kernel
theorem dX4_init_63 : decode cX4_init 63 = .ok (.aload_n 0, 1) := by decide +kernel
theorem dX4_init_64 : decode cX4_init 64 = .ok (.aload_n 2, 1) := by decide +kernel
theorem dX4_init_65 : decode cX4_init 65 = .ok (.putfield 33, 3) := by decide +kernel
theorem dX4_init_68 : decode cX4_init 68 = .ok (.aload_n 0, 1) := by decide +kernel
theorem dX4_init_69 : decode cX4_init 69 = .ok (.aload_n 3, 1) := by decide +kernel
theorem dX4_init_70 : decode cX4_init 70 = .ok (.putfield 37, 3) := by decide +kernel
theorem dX4_init_73 : decode cX4_init 73 = .ok (.return_, 1) := by decide +kernel
theorem dX4_measuredCost_0 : decode cX4_measuredCost 0 = .ok (.aload_n 0, 1) := by decide +kernel
theorem dX4_measuredCost_1 : decode cX4_measuredCost 1 = .ok (.getfield 41, 3) := by decide +kernel
theorem dX4_measuredCost_4 : decode cX4_measuredCost 4 = .ok (.ireturn, 1) := by decide +kernel
theorem dX4_measuredClimb_0 : decode cX4_measuredClimb 0 = .ok (.aload_n 0, 1) := by decide +kernel
theorem dX4_measuredClimb_1 : decode cX4_measuredClimb 1 = .ok (.getfield 45, 3) := by decide +kernel
theorem dX4_measuredClimb_4 : decode cX4_measuredClimb 4 = .ok (.ireturn, 1) := by decide +kernel
theorem dX4_measure_0 : decode cX4_measure 0 = .ok (.aload_n 0, 1) := by decide +kernel
theorem dX4_measure_1 : decode cX4_measure 1 = .ok (.aload_n 0, 1) := by decide +kernel
theorem dX4_measure_2 : decode cX4_measure 2 = .ok (.getfield 37, 3) := by decide +kernel
theorem dX4_measure_5 : decode cX4_measure 5 = .ok (.iload_n 1, 1) := by decide +kernel
theorem dX4_measure_6 : decode cX4_measure 6 = .ok (.invokevirtual 48, 3) := by decide +kernel
theorem dX4_measure_9 : decode cX4_measure 9 = .ok (.ifCond .le 7, 3) := by decide +kernel
theorem dX4_measure_12 : decode cX4_measure 12 = .ok (.iconst 0, 1) := by decide +kernel
theorem dX4_measure_13 : decode cX4_measure 13 = .ok (.goto 4, 3) := by decide +kernel
theorem dX4_measure_16 : decode cX4_measure 16 = .ok (.iconst (-1), 1) := by decide +kernel
theorem dX4_measure_17 : decode cX4_measure 17 = .ok (.putfield 41, 3) := by decide +kernel
theorem dX4_measure_20 : decode cX4_measure 20 = .ok (.aload_n 0, 1) := by decide +kernel
theorem dX4_measure_21 : decode cX4_measure 21 = .ok (.aload_n 0, 1) := by decide +kernel
theorem dX4_measure_22 : decode cX4_measure 22 = .ok (.getfield 41, 3) := by decide +kernel
theorem dX4_measure_25 : decode cX4_measure 25 = .ok (.putfield 45, 3) := by decide +kernel
theorem dX4_measure_28 : decode cX4_measure 28 = .ok (.iconst 0, 1) := by decide +kernel
theorem dX4_measure_29 : decode cX4_measure 29 = .ok (.istore_n 2, 1) := by decide +kernel
theorem dX4_measure_30 : decode cX4_measure 30 = .ok (.iload_n 2, 1) := by decide +kernel
theorem dX4_measure_31 : decode cX4_measure 31 = .ok (.aload_n 0, 1) := by decide +kernel
theorem dX4_measure_32 : decode cX4_measure 32 = .ok (.getfield 37, 3) := by decide +kernel
theorem dX4_measure_35 : decode cX4_measure 35 = .ok (.iload_n 1, 1) := by decide +kernel
theorem dX4_measure_36 : decode cX4_measure 36 = .ok (.invokevirtual 48, 3) := by decide +kernel
theorem dX4_measure_39 : decode cX4_measure 39 = .ok (.if_icmp .ge 131, 3) := by decide +kernel
theorem dX4_measure_42 : decode cX4_measure 42 = .ok (.aload_n 0, 1) := by decide +kernel
theorem dX4_measure_43 : decode cX4_measure 43 = .ok (.getfield 41, 3) := by decide +kernel
theorem dX4_measure_46 : decode cX4_measure 46 = .ok (.iconst (-1), 1) := by decide +kernel
theorem dX4_measure_47 : decode cX4_measure 47 = .ok (.if_icmp .eq 123, 3) := by decide +kernel
theorem dX4_measure_50 : decode cX4_measure 50 = .ok (.aload_n 0, 1) := by decide +kernel
theorem dX4_measure_51 : decode cX4_measure 51 = .ok (.getfield 29, 3) := by decide +kernel
theorem dX4_measure_54 : decode cX4_measure 54 = .ok (.aload_n 0, 1) := by decide +kernel
theorem dX4_measure_55 : decode cX4_measure 55 = .ok (.getfield 33, 3) := by decide +kernel
theorem dX4_measure_58 : decode cX4_measure 58 = .ok (.aload_n 0, 1) := by decide +kernel
theorem dX4_measure_59 : decode cX4_measure 59 = .ok (.getfield 37, 3) := by decide +kernel
theorem dX4_measure_62 : decode cX4_measure 62 = .ok (.iload_n 1, 1) := by decide +kernel
theorem dX4_measure_63 : decode cX4_measure 63 = .ok (.iload_n 2, 1) := by decide +kernel
theorem dX4_measure_64 : decode cX4_measure 64 = .ok (.invokevirtual 54, 3) := by decide +kernel
theorem dX4_measure_67 : decode cX4_measure 67 = .ok (.invokevirtual 58, 3) := by decide +kernel
theorem dX4_measure_70 : decode cX4_measure 70 = .ok (.iconst 0, 1) := by decide +kernel
theorem dX4_measure_71 : decode cX4_measure 71 = .ok (.invokevirtual 63, 3) := by decide +kernel
theorem dX4_measure_74 : decode cX4_measure 74 = .ok (.aload_n 0, 1) := by decide +kernel
theorem dX4_measure_75 : decode cX4_measure 75 = .ok (.getfield 33, 3) := by decide +kernel
theorem dX4_measure_78 : decode cX4_measure 78 = .ok (.aload_n 0, 1) := by decide +kernel
theorem dX4_measure_79 : decode cX4_measure 79 = .ok (.getfield 37, 3) := by decide +kernel
theorem dX4_measure_82 : decode cX4_measure 82 = .ok (.iload_n 1, 1) := by decide +kernel
theorem dX4_measure_83 : decode cX4_measure 83 = .ok (.iload_n 2, 1) := by decide +kernel
theorem dX4_measure_84 : decode cX4_measure 84 = .ok (.iconst 1, 1) := by decide +kernel
theorem dX4_measure_85 : decode cX4_measure 85 = .ok (.iadd, 1) := by decide +kernel
theorem dX4_measure_86 : decode cX4_measure 86 = .ok (.invokevirtual 54, 3) := by decide +kernel
theorem dX4_measure_89 : decode cX4_measure 89 = .ok (.invokevirtual 58, 3) := by decide +kernel
theorem dX4_measure_92 : decode cX4_measure 92 = .ok (.istore_n 3, 1) := by decide +kernel
theorem dX4_measure_93 : decode cX4_measure 93 = .ok (.aload_n 0, 1) := by decide +kernel
theorem dX4_measure_94 : decode cX4_measure 94 = .ok (.getfield 29, 3) := by decide +kernel
theorem dX4_measure_97 : decode cX4_measure 97 = .ok (.iload_n 3, 1) := by decide +kernel
theorem dX4_measure_98 : decode cX4_measure 98 = .ok (.invokevirtual 69, 3) := by decide +kernel
theorem dX4_measure_101 : decode cX4_measure 101 = .ok (.iconst (-1), 1) := by decide +kernel
theorem dX4_measure_102 : decode cX4_measure 102 = .ok (.if_icmp .eq 7, 3) := by decide +kernel
theorem dX4_measure_105 : decode cX4_measure 105 = .ok (.iconst 1, 1) := by decide +kernel
theorem dX4_measure_106 : decode cX4_measure 106 = .ok (.goto 4, 3) := by decide +kernel
theorem dX4_measure_109 : decode cX4_measure 109 = .ok (.iconst 0, 1) := by decide +kernel
theorem dX4_measure_110 : decode cX4_measure 110 = .ok (.istore 4, 2) := by decide +kernel
theorem dX4_measure_112 : decode cX4_measure 112 = .ok (.aload_n 0, 1) := by decide +kernel
theorem dX4_measure_113 : decode cX4_measure 113 = .ok (.iload 4, 2) := by decide +kernel
theorem dX4_measure_115 : decode cX4_measure 115 = .ok (.ifCond .eq 19, 3) := by decide +kernel
theorem dX4_measure_118 : decode cX4_measure 118 = .ok (.aload_n 0, 1) := by decide +kernel
theorem dX4_measure_119 : decode cX4_measure 119 = .ok (.getfield 41, 3) := by decide +kernel
theorem dX4_measure_122 : decode cX4_measure 122 = .ok (.aload_n 0, 1) := by decide +kernel
theorem dX4_measure_123 : decode cX4_measure 123 = .ok (.getfield 29, 3) := by decide +kernel
theorem dX4_measure_126 : decode cX4_measure 126 = .ok (.iload_n 3, 1) := by decide +kernel
theorem dX4_measure_127 : decode cX4_measure 127 = .ok (.invokevirtual 69, 3) := by decide +kernel
theorem dX4_measure_130 : decode cX4_measure 130 = .ok (.iadd, 1) := by decide +kernel
theorem dX4_measure_131 : decode cX4_measure 131 = .ok (.goto 4, 3) := by decide +kernel
theorem dX4_measure_134 : decode cX4_measure 134 = .ok (.iconst (-1), 1) := by decide +kernel
theorem dX4_measure_135 : decode cX4_measure 135 = .ok (.putfield 41, 3) := by decide +kernel
theorem dX4_measure_138 : decode cX4_measure 138 = .ok (.aload_n 0, 1) := by decide +kernel
theorem dX4_measure_139 : decode cX4_measure 139 = .ok (.iload 4, 2) := by decide +kernel
theorem dX4_measure_141 : decode cX4_measure 141 = .ok (.ifCond .eq 19, 3) := by decide +kernel
theorem dX4_measure_144 : decode cX4_measure 144 = .ok (.aload_n 0, 1) := by decide +kernel
theorem dX4_measure_145 : decode cX4_measure 145 = .ok (.getfield 45, 3) := by decide +kernel
theorem dX4_measure_148 : decode cX4_measure 148 = .ok (.aload_n 0, 1) := by decide +kernel
theorem dX4_measure_149 : decode cX4_measure 149 = .ok (.getfield 29, 3) := by decide +kernel
theorem dX4_measure_152 : decode cX4_measure 152 = .ok (.iload_n 3, 1) := by decide +kernel
theorem dX4_measure_153 : decode cX4_measure 153 = .ok (.invokevirtual 72, 3) := by decide +kernel
theorem dX4_measure_156 : decode cX4_measure 156 = .ok (.iadd, 1) := by decide +kernel
theorem dX4_measure_157 : decode cX4_measure 157 = .ok (.goto 4, 3) := by decide +kernel
theorem dX4_measure_160 : decode cX4_measure 160 = .ok (.iconst (-1), 1) := by decide +kernel
theorem dX4_measure_161 : decode cX4_measure 161 = .ok (.putfield 45, 3) := by decide +kernel
theorem dX4_measure_164 : decode cX4_measure 164 = .ok (.iinc 2 1, 3) := by decide +kernel
theorem dX4_measure_167 : decode cX4_measure 167 = .ok (.goto (-137), 3) := by decide +kernel
theorem dX4_measure_170 : decode cX4_measure 170 = .ok (.return_, 1) := by decide +kernel
theorem dX4_differenceOfClimbs_0 : decode cX4_differenceOfClimbs 0 = .ok (.iconst (-1), 1) := by decide +kernel
theorem dX4_differenceOfClimbs_1 : decode cX4_differenceOfClimbs 1 = .ok (.istore_n 1, 1) := by decide +kernel
theorem dX4_differenceOfClimbs_2 : decode cX4_differenceOfClimbs 2 = .ok (.iconst (-1), 1) := by decide +kernel
theorem dX4_differenceOfClimbs_3 : decode cX4_differenceOfClimbs 3 = .ok (.istore_n 2, 1) := by decide +kernel
theorem dX4_differenceOfClimbs_4 : decode cX4_differenceOfClimbs 4 = .ok (.iconst 0, 1) := by decide +kernel
theorem dX4_differenceOfClimbs_5 : decode cX4_differenceOfClimbs 5 = .ok (.istore_n 3, 1) := by decide +kernel
theorem dX4_differenceOfClimbs_6 : decode cX4_differenceOfClimbs 6 = .ok (.iload_n 3, 1) := by decide +kernel
theorem dX4_differenceOfClimbs_7 : decode cX4_differenceOfClimbs 7 = .ok (.iconst 5, 1) := by decide +kernel
theorem dX4_differenceOfClimbs_8 : decode cX4_differenceOfClimbs 8 = .ok (.if_icmp .ge 52, 3) := by decide +kernel
theorem dX4_differenceOfClimbs_11 : decode cX4_differenceOfClimbs 11 = .ok (.aload_n 0, 1) := by decide +kernel
theorem dX4_differenceOfClimbs_12 : decode cX4_differenceOfClimbs 12 = .ok (.iload_n 3, 1) := by decide +kernel
theorem dX4_differenceOfClimbs_13 : decode cX4_differenceOfClimbs 13 = .ok (.invokevirtual 75, 3) := by decide +kernel
theorem dX4_differenceOfClimbs_16 : decode cX4_differenceOfClimbs 16 = .ok (.aload_n 0, 1) := by decide +kernel
theorem dX4_differenceOfClimbs_17 : decode cX4_differenceOfClimbs 17 = .ok (.getfield 45, 3) := by decide +kernel
theorem dX4_differenceOfClimbs_20 : decode cX4_differenceOfClimbs 20 = .ok (.iconst (-1), 1) := by decide +kernel
theorem dX4_differenceOfClimbs_21 : decode cX4_differenceOfClimbs 21 = .ok (.if_icmp .eq 33, 3) := by decide +kernel
theorem dX4_differenceOfClimbs_24 : decode cX4_differenceOfClimbs 24 = .ok (.iload_n 1, 1) := by decide +kernel
theorem dX4_differenceOfClimbs_25 : decode cX4_differenceOfClimbs 25 = .ok (.aload_n 0, 1) := by decide +kernel
theorem dX4_differenceOfClimbs_26 : decode cX4_differenceOfClimbs 26 = .ok (.getfield 45, 3) := by decide +kernel
theorem dX4_differenceOfClimbs_29 : decode cX4_differenceOfClimbs 29 = .ok (.invokestatic 78, 3) := by decide +kernel
theorem dX4_differenceOfClimbs_32 : decode cX4_differenceOfClimbs 32 = .ok (.istore_n 1, 1) := by decide +kernel
theorem dX4_differenceOfClimbs_33 : decode cX4_differenceOfClimbs 33 = .ok (.iload_n 2, 1) := by decide +kernel
theorem dX4_differenceOfClimbs_34 : decode cX4_differenceOfClimbs 34 = .ok (.iconst (-1), 1) := by decide +kernel
theorem dX4_differenceOfClimbs_35 : decode cX4_differenceOfClimbs 35 = .ok (.if_icmp .ne 10, 3) := by decide +kernel
theorem dX4_differenceOfClimbs_38 : decode cX4_differenceOfClimbs 38 = .ok (.aload_n 0, 1) := by decide +kernel
theorem dX4_differenceOfClimbs_39 : decode cX4_differenceOfClimbs 39 = .ok (.getfield 45, 3) := by decide +kernel
theorem dX4_differenceOfClimbs_42 : decode cX4_differenceOfClimbs 42 = .ok (.goto 11, 3) := by decide +kernel
theorem dX4_differenceOfClimbs_45 : decode cX4_differenceOfClimbs 45 = .ok (.iload_n 2, 1) := by decide +kernel
theorem dX4_differenceOfClimbs_46 : decode cX4_differenceOfClimbs 46 = .ok (.aload_n 0, 1) := by decide +kernel
theorem dX4_differenceOfClimbs_47 : decode cX4_differenceOfClimbs 47 = .ok (.getfield 45, 3) := by decide +kernel
theorem dX4_differenceOfClimbs_50 : decode cX4_differenceOfClimbs 50 = .ok (.invokestatic 83, 3) := by decide +kernel
theorem dX4_differenceOfClimbs_53 : decode cX4_differenceOfClimbs 53 = .ok (.istore_n 2, 1) := by decide +kernel
theorem dX4_differenceOfClimbs_54 : decode cX4_differenceOfClimbs 54 = .ok (.iinc 3 1, 3) := by decide +kernel
theorem dX4_differenceOfClimbs_57 : decode cX4_differenceOfClimbs 57 = .ok (.goto (-51), 3) := by decide +kernel
theorem dX4_differenceOfClimbs_60 : decode cX4_differenceOfClimbs 60 = .ok (.iload_n 1, 1) := by decide +kernel
theorem dX4_differenceOfClimbs_61 : decode cX4_differenceOfClimbs 61 = .ok (.iload_n 2, 1) := by decide +kernel
theorem dX4_differenceOfClimbs_62 : decode cX4_differenceOfClimbs 62 = .ok (.isub, 1) := by decide +kernel
theorem dX4_differenceOfClimbs_63 : decode cX4_differenceOfClimbs 63 = .ok (.ireturn, 1) := by decide +kernel
theorem dX4_reorder_0 : decode cX4_reorder 0 = .ok (.aload_n 0, 1) := by decide +kernel
theorem dX4_reorder_1 : decode cX4_reorder 1 = .ok (.iload_n 1, 1) := by decide +kernel
theorem dX4_reorder_2 : decode cX4_reorder 2 = .ok (.invokevirtual 86, 3) := by decide +kernel
theorem dX4_reorder_5 : decode cX4_reorder 5 = .ok (.aload_n 0, 1) := by decide +kernel
theorem dX4_reorder_6 : decode cX4_reorder 6 = .ok (.invokevirtual 89, 3) := by decide +kernel
theorem dX4_reorder_9 : decode cX4_reorder 9 = .ok (.aload_n 0, 1) := by decide +kernel
theorem dX4_reorder_10 : decode cX4_reorder 10 = .ok (.invokevirtual 92, 3) := by decide +kernel
theorem dX4_reorder_13 : decode cX4_reorder 13 = .ok (.aload_n 0, 1) := by decide +kernel
theorem dX4_reorder_14 : decode cX4_reorder 14 = .ok (.iconst (-1), 1) := by decide +kernel
theorem dX4_reorder_15 : decode cX4_reorder 15 = .ok (.putfield 95, 3) := by decide +kernel
theorem dX4_reorder_18 : decode cX4_reorder 18 = .ok (.aload_n 0, 1) := by decide +kernel
theorem dX4_reorder_19 : decode cX4_reorder 19 = .ok (.getfield 98, 3) := by decide +kernel
theorem dX4_reorder_22 : decode cX4_reorder 22 = .ok (.iconst 2, 1) := by decide +kernel
theorem dX4_reorder_23 : decode cX4_reorder 23 = .ok (.if_icmp .lt 7, 3) := by decide +kernel
theorem dX4_reorder_26 : decode cX4_reorder 26 = .ok (.iconst 1, 1) := by decide +kernel
theorem dX4_reorder_27 : decode cX4_reorder 27 = .ok (.goto 4, 3) := by decide +kernel
theorem dX4_reorder_30 : decode cX4_reorder 30 = .ok (.iconst 0, 1) := by decide +kernel
theorem dX4_reorder_31 : decode cX4_reorder 31 = .ok (.istore_n 3, 1) := by decide +kernel
theorem dX4_reorder_32 : decode cX4_reorder 32 = .ok (.iconst 0, 1) := by decide +kernel
theorem dX4_reorder_33 : decode cX4_reorder 33 = .ok (.istore 4, 2) := by decide +kernel
theorem dX4_reorder_35 : decode cX4_reorder 35 = .ok (.iload 4, 2) := by decide +kernel
theorem dX4_reorder_37 : decode cX4_reorder 37 = .ok (.bipush 24, 2) := by decide +kernel
theorem dX4_reorder_39 : decode cX4_reorder 39 = .ok (.if_icmp .ge 23, 3) := by decide +kernel
theorem dX4_reorder_42 : decode cX4_reorder 42 = .ok (.iload_n 3, 1) := by decide +kernel
theorem dX4_reorder_43 : decode cX4_reorder 43 = .ok (.ifCond .eq 19, 3) := by decide +kernel
theorem dX4_reorder_46 : decode cX4_reorder 46 = .ok (.aload_n 0, 1) := by decide +kernel
theorem dX4_reorder_47 : decode cX4_reorder 47 = .ok (.iload_n 2, 1) := by decide +kernel
theorem dX4_reorder_48 : decode cX4_reorder 48 = .ok (.invokevirtual 101, 3) := by decide +kernel
theorem dX4_reorder_51 : decode cX4_reorder 51 = .ok (.aload_n 0, 1) := by decide +kernel
theorem dX4_reorder_52 : decode cX4_reorder 52 = .ok (.invokevirtual 104, 3) := by decide +kernel
theorem dX4_reorder_55 : decode cX4_reorder 55 = .ok (.istore_n 3, 1) := by decide +kernel
theorem dX4_reorder_56 : decode cX4_reorder 56 = .ok (.iinc 4 1, 3) := by decide +kernel
theorem dX4_reorder_59 : decode cX4_reorder 59 = .ok (.goto (-24), 3) := by decide +kernel
theorem dX4_reorder_62 : decode cX4_reorder 62 = .ok (.iconst 0, 1) := by decide +kernel
theorem dX4_reorder_63 : decode cX4_reorder 63 = .ok (.istore 4, 2) := by decide +kernel
theorem dX4_reorder_65 : decode cX4_reorder 65 = .ok (.iload 4, 2) := by decide +kernel
theorem dX4_reorder_67 : decode cX4_reorder 67 = .ok (.aload_n 0, 1) := by decide +kernel
theorem dX4_reorder_68 : decode cX4_reorder 68 = .ok (.getfield 98, 3) := by decide +kernel
theorem dX4_reorder_71 : decode cX4_reorder 71 = .ok (.if_icmp .ge 36, 3) := by decide +kernel
theorem dX4_reorder_74 : decode cX4_reorder 74 = .ok (.aload_n 0, 1) := by decide +kernel
theorem dX4_reorder_75 : decode cX4_reorder 75 = .ok (.getfield 95, 3) := by decide +kernel
theorem dX4_reorder_78 : decode cX4_reorder 78 = .ok (.iconst (-1), 1) := by decide +kernel
theorem dX4_reorder_79 : decode cX4_reorder 79 = .ok (.if_icmp .eq 28, 3) := by decide +kernel
theorem dX4_reorder_82 : decode cX4_reorder 82 = .ok (.aload_n 0, 1) := by decide +kernel
theorem dX4_reorder_83 : decode cX4_reorder 83 = .ok (.getfield 37, 3) := by decide +kernel
theorem dX4_reorder_86 : decode cX4_reorder 86 = .ok (.iload_n 1, 1) := by decide +kernel
theorem dX4_reorder_87 : decode cX4_reorder 87 = .ok (.iload 4, 2) := by decide +kernel
theorem dX4_reorder_89 : decode cX4_reorder 89 = .ok (.aload_n 0, 1) := by decide +kernel
theorem dX4_reorder_90 : decode cX4_reorder 90 = .ok (.getfield 26, 3) := by decide +kernel
theorem dX4_reorder_93 : decode cX4_reorder 93 = .ok (.iload 4, 2) := by decide +kernel
theorem dX4_reorder_95 : decode cX4_reorder 95 = .ok (.invokevirtual 108, 3) := by decide +kernel
theorem dX4_reorder_98 : decode cX4_reorder 98 = .ok (.invokevirtual 111, 3) := by decide +kernel
theorem dX4_reorder_101 : decode cX4_reorder 101 = .ok (.iinc 4 1, 3) := by decide +kernel
theorem dX4_reorder_104 : decode cX4_reorder 104 = .ok (.goto (-39), 3) := by decide +kernel
theorem dX4_reorder_107 : decode cX4_reorder 107 = .ok (.return_, 1) := by decide +kernel
theorem dX4_takeOrder_0 : decode cX4_takeOrder 0 = .ok (.aload_n 0, 1) := by decide +kernel
theorem dX4_takeOrder_1 : decode cX4_takeOrder 1 = .ok (.aload_n 0, 1) := by decide +kernel
theorem dX4_takeOrder_2 : decode cX4_takeOrder 2 = .ok (.getfield 37, 3) := by decide +kernel
theorem dX4_takeOrder_5 : decode cX4_takeOrder 5 = .ok (.iload_n 1, 1) := by decide +kernel
theorem dX4_takeOrder_6 : decode cX4_takeOrder 6 = .ok (.invokevirtual 115, 3) := by decide +kernel
theorem dX4_takeOrder_9 : decode cX4_takeOrder 9 = .ok (.putfield 98, 3) := by decide +kernel
theorem dX4_takeOrder_12 : decode cX4_takeOrder 12 = .ok (.iconst 0, 1) := by decide +kernel
theorem dX4_takeOrder_13 : decode cX4_takeOrder 13 = .ok (.istore_n 2, 1) := by decide +kernel
theorem dX4_takeOrder_14 : decode cX4_takeOrder 14 = .ok (.iload_n 2, 1) := by decide +kernel
theorem dX4_takeOrder_15 : decode cX4_takeOrder 15 = .ok (.aload_n 0, 1) := by decide +kernel
theorem dX4_takeOrder_16 : decode cX4_takeOrder 16 = .ok (.getfield 98, 3) := by decide +kernel
theorem dX4_takeOrder_19 : decode cX4_takeOrder 19 = .ok (.if_icmp .ge 26, 3) := by decide +kernel
theorem dX4_takeOrder_22 : decode cX4_takeOrder 22 = .ok (.aload_n 0, 1) := by decide +kernel
theorem dX4_takeOrder_23 : decode cX4_takeOrder 23 = .ok (.getfield 23, 3) := by decide +kernel
theorem dX4_takeOrder_26 : decode cX4_takeOrder 26 = .ok (.iload_n 2, 1) := by decide +kernel
theorem dX4_takeOrder_27 : decode cX4_takeOrder 27 = .ok (.aload_n 0, 1) := by decide +kernel
theorem dX4_takeOrder_28 : decode cX4_takeOrder 28 = .ok (.getfield 37, 3) := by decide +kernel
theorem dX4_takeOrder_31 : decode cX4_takeOrder 31 = .ok (.iload_n 1, 1) := by decide +kernel
theorem dX4_takeOrder_32 : decode cX4_takeOrder 32 = .ok (.iload_n 2, 1) := by decide +kernel
theorem dX4_takeOrder_33 : decode cX4_takeOrder 33 = .ok (.invokevirtual 54, 3) := by decide +kernel
theorem dX4_takeOrder_36 : decode cX4_takeOrder 36 = .ok (.invokevirtual 117, 3) := by decide +kernel
theorem dX4_takeOrder_39 : decode cX4_takeOrder 39 = .ok (.iinc 2 1, 3) := by decide +kernel
theorem dX4_takeOrder_42 : decode cX4_takeOrder 42 = .ok (.goto (-28), 3) := by decide +kernel
theorem dX4_takeOrder_45 : decode cX4_takeOrder 45 = .ok (.return_, 1) := by decide +kernel
theorem dX4_sortBetweenEnds_0 : decode cX4_sortBetweenEnds 0 = .ok (.iconst 1, 1) := by decide +kernel
theorem dX4_sortBetweenEnds_1 : decode cX4_sortBetweenEnds 1 = .ok (.istore_n 1, 1) := by decide +kernel
theorem dX4_sortBetweenEnds_2 : decode cX4_sortBetweenEnds 2 = .ok (.iload_n 1, 1) := by decide +kernel
theorem dX4_sortBetweenEnds_3 : decode cX4_sortBetweenEnds 3 = .ok (.aload_n 0, 1) := by decide +kernel
theorem dX4_sortBetweenEnds_4 : decode cX4_sortBetweenEnds 4 = .ok (.getfield 98, 3) := by decide +kernel
theorem dX4_sortBetweenEnds_7 : decode cX4_sortBetweenEnds 7 = .ok (.iconst 2, 1) := by decide +kernel
theorem dX4_sortBetweenEnds_8 : decode cX4_sortBetweenEnds 8 = .ok (.isub, 1) := by decide +kernel
theorem dX4_sortBetweenEnds_9 : decode cX4_sortBetweenEnds 9 = .ok (.if_icmp .ge 56, 3) := by decide +kernel
theorem dX4_sortBetweenEnds_12 : decode cX4_sortBetweenEnds 12 = .ok (.iconst 1, 1) := by decide +kernel
theorem dX4_sortBetweenEnds_13 : decode cX4_sortBetweenEnds 13 = .ok (.istore_n 2, 1) := by decide +kernel
theorem dX4_sortBetweenEnds_14 : decode cX4_sortBetweenEnds 14 = .ok (.iload_n 2, 1) := by decide +kernel
theorem dX4_sortBetweenEnds_15 : decode cX4_sortBetweenEnds 15 = .ok (.aload_n 0, 1) := by decide +kernel
theorem dX4_sortBetweenEnds_16 : decode cX4_sortBetweenEnds 16 = .ok (.getfield 98, 3) := by decide +kernel
theorem dX4_sortBetweenEnds_19 : decode cX4_sortBetweenEnds 19 = .ok (.iconst 2, 1) := by decide +kernel
theorem dX4_sortBetweenEnds_20 : decode cX4_sortBetweenEnds 20 = .ok (.isub, 1) := by decide +kernel
theorem dX4_sortBetweenEnds_21 : decode cX4_sortBetweenEnds 21 = .ok (.if_icmp .ge 38, 3) := by decide +kernel
theorem dX4_sortBetweenEnds_24 : decode cX4_sortBetweenEnds 24 = .ok (.aload_n 0, 1) := by decide +kernel
theorem dX4_sortBetweenEnds_25 : decode cX4_sortBetweenEnds 25 = .ok (.getfield 23, 3) := by decide +kernel
theorem dX4_sortBetweenEnds_28 : decode cX4_sortBetweenEnds 28 = .ok (.iload_n 2, 1) := by decide +kernel
theorem dX4_sortBetweenEnds_29 : decode cX4_sortBetweenEnds 29 = .ok (.invokevirtual 108, 3) := by decide +kernel
theorem dX4_sortBetweenEnds_32 : decode cX4_sortBetweenEnds 32 = .ok (.aload_n 0, 1) := by decide +kernel
theorem dX4_sortBetweenEnds_33 : decode cX4_sortBetweenEnds 33 = .ok (.getfield 23, 3) := by decide +kernel
theorem dX4_sortBetweenEnds_36 : decode cX4_sortBetweenEnds 36 = .ok (.iload_n 2, 1) := by decide +kernel
theorem dX4_sortBetweenEnds_37 : decode cX4_sortBetweenEnds 37 = .ok (.iconst 1, 1) := by decide +kernel
theorem dX4_sortBetweenEnds_38 : decode cX4_sortBetweenEnds 38 = .ok (.iadd, 1) := by decide +kernel
theorem dX4_sortBetweenEnds_39 : decode cX4_sortBetweenEnds 39 = .ok (.invokevirtual 108, 3) := by decide +kernel
theorem dX4_sortBetweenEnds_42 : decode cX4_sortBetweenEnds 42 = .ok (.if_icmp .le 11, 3) := by decide +kernel
theorem dX4_sortBetweenEnds_45 : decode cX4_sortBetweenEnds 45 = .ok (.aload_n 0, 1) := by decide +kernel
theorem dX4_sortBetweenEnds_46 : decode cX4_sortBetweenEnds 46 = .ok (.iload_n 2, 1) := by decide +kernel
theorem dX4_sortBetweenEnds_47 : decode cX4_sortBetweenEnds 47 = .ok (.iload_n 2, 1) := by decide +kernel
theorem dX4_sortBetweenEnds_48 : decode cX4_sortBetweenEnds 48 = .ok (.iconst 1, 1) := by decide +kernel
theorem dX4_sortBetweenEnds_49 : decode cX4_sortBetweenEnds 49 = .ok (.iadd, 1) := by decide +kernel
theorem dX4_sortBetweenEnds_50 : decode cX4_sortBetweenEnds 50 = .ok (.invokevirtual 121, 3) := by decide +kernel
theorem dX4_sortBetweenEnds_53 : decode cX4_sortBetweenEnds 53 = .ok (.iinc 2 1, 3) := by decide +kernel
theorem dX4_sortBetweenEnds_56 : decode cX4_sortBetweenEnds 56 = .ok (.goto (-42), 3) := by decide +kernel
theorem dX4_sortBetweenEnds_59 : decode cX4_sortBetweenEnds 59 = .ok (.iinc 1 1, 3) := by decide +kernel
theorem dX4_sortBetweenEnds_62 : decode cX4_sortBetweenEnds 62 = .ok (.goto (-60), 3) := by decide +kernel
theorem dX4_sortBetweenEnds_65 : decode cX4_sortBetweenEnds 65 = .ok (.return_, 1) := by decide +kernel
theorem dX4_swap_0 : decode cX4_swap 0 = .ok (.aload_n 0, 1) := by decide +kernel
theorem dX4_swap_1 : decode cX4_swap 1 = .ok (.getfield 23, 3) := by decide +kernel
theorem dX4_swap_4 : decode cX4_swap 4 = .ok (.iload_n 1, 1) := by decide +kernel
theorem dX4_swap_5 : decode cX4_swap 5 = .ok (.invokevirtual 108, 3) := by decide +kernel
theorem dX4_swap_8 : decode cX4_swap 8 = .ok (.istore_n 3, 1) := by decide +kernel
theorem dX4_swap_9 : decode cX4_swap 9 = .ok (.aload_n 0, 1) := by decide +kernel
theorem dX4_swap_10 : decode cX4_swap 10 = .ok (.getfield 23, 3) := by decide +kernel
theorem dX4_swap_13 : decode cX4_swap 13 = .ok (.iload_n 1, 1) := by decide +kernel
theorem dX4_swap_14 : decode cX4_swap 14 = .ok (.aload_n 0, 1) := by decide +kernel
theorem dX4_swap_15 : decode cX4_swap 15 = .ok (.getfield 23, 3) := by decide +kernel
theorem dX4_swap_18 : decode cX4_swap 18 = .ok (.iload_n 2, 1) := by decide +kernel
theorem dX4_swap_19 : decode cX4_swap 19 = .ok (.invokevirtual 108, 3) := by decide +kernel
theorem dX4_swap_22 : decode cX4_swap 22 = .ok (.invokevirtual 117, 3) := by decide +kernel
theorem dX4_swap_25 : decode cX4_swap 25 = .ok (.aload_n 0, 1) := by decide +kernel
theorem dX4_swap_26 : decode cX4_swap 26 = .ok (.getfield 23, 3) := by decide +kernel
theorem dX4_swap_29 : decode cX4_swap 29 = .ok (.iload_n 2, 1) := by decide +kernel
theorem dX4_swap_30 : decode cX4_swap 30 = .ok (.iload_n 3, 1) := by decide +kernel
theorem dX4_swap_31 : decode cX4_swap 31 = .ok (.invokevirtual 117, 3) := by decide +kernel
theorem dX4_swap_34 : decode cX4_swap 34 = .ok (.return_, 1) := by decide +kernel
theorem dX4_measureLegs_0 : decode cX4_measureLegs 0 = .ok (.iconst 0, 1) := by decide +kernel
theorem dX4_measureLegs_1 : decode cX4_measureLegs 1 = .ok (.istore_n 1, 1) := by decide +kernel
theorem dX4_measureLegs_2 : decode cX4_measureLegs 2 = .ok (.iload_n 1, 1) := by decide +kernel
theorem dX4_measureLegs_3 : decode cX4_measureLegs 3 = .ok (.aload_n 0, 1) := by decide +kernel
theorem dX4_measureLegs_4 : decode cX4_measureLegs 4 = .ok (.getfield 98, 3) := by decide +kernel
theorem dX4_measureLegs_7 : decode cX4_measureLegs 7 = .ok (.if_icmp .ge 118, 3) := by decide +kernel
theorem dX4_measureLegs_10 : decode cX4_measureLegs 10 = .ok (.aload_n 0, 1) := by decide +kernel
theorem dX4_measureLegs_11 : decode cX4_measureLegs 11 = .ok (.getfield 23, 3) := by decide +kernel
theorem dX4_measureLegs_14 : decode cX4_measureLegs 14 = .ok (.iload_n 1, 1) := by decide +kernel
theorem dX4_measureLegs_15 : decode cX4_measureLegs 15 = .ok (.invokevirtual 108, 3) := by decide +kernel
theorem dX4_measureLegs_18 : decode cX4_measureLegs 18 = .ok (.istore_n 2, 1) := by decide +kernel
theorem dX4_measureLegs_19 : decode cX4_measureLegs 19 = .ok (.aload_n 0, 1) := by decide +kernel
theorem dX4_measureLegs_20 : decode cX4_measureLegs 20 = .ok (.getfield 29, 3) := by decide +kernel
theorem dX4_measureLegs_23 : decode cX4_measureLegs 23 = .ok (.aload_n 0, 1) := by decide +kernel
theorem dX4_measureLegs_24 : decode cX4_measureLegs 24 = .ok (.getfield 33, 3) := by decide +kernel
theorem dX4_measureLegs_27 : decode cX4_measureLegs 27 = .ok (.iload_n 2, 1) := by decide +kernel
theorem dX4_measureLegs_28 : decode cX4_measureLegs 28 = .ok (.invokevirtual 58, 3) := by decide +kernel
theorem dX4_measureLegs_31 : decode cX4_measureLegs 31 = .ok (.iconst 0, 1) := by decide +kernel
theorem dX4_measureLegs_32 : decode cX4_measureLegs 32 = .ok (.invokevirtual 63, 3) := by decide +kernel
theorem dX4_measureLegs_35 : decode cX4_measureLegs 35 = .ok (.iconst 0, 1) := by decide +kernel
theorem dX4_measureLegs_36 : decode cX4_measureLegs 36 = .ok (.istore_n 3, 1) := by decide +kernel
theorem dX4_measureLegs_37 : decode cX4_measureLegs 37 = .ok (.iload_n 3, 1) := by decide +kernel
theorem dX4_measureLegs_38 : decode cX4_measureLegs 38 = .ok (.aload_n 0, 1) := by decide +kernel
theorem dX4_measureLegs_39 : decode cX4_measureLegs 39 = .ok (.getfield 98, 3) := by decide +kernel
theorem dX4_measureLegs_42 : decode cX4_measureLegs 42 = .ok (.if_icmp .ge 77, 3) := by decide +kernel
theorem dX4_measureLegs_45 : decode cX4_measureLegs 45 = .ok (.aload_n 0, 1) := by decide +kernel
theorem dX4_measureLegs_46 : decode cX4_measureLegs 46 = .ok (.getfield 23, 3) := by decide +kernel
theorem dX4_measureLegs_49 : decode cX4_measureLegs 49 = .ok (.iload_n 3, 1) := by decide +kernel
theorem dX4_measureLegs_50 : decode cX4_measureLegs 50 = .ok (.invokevirtual 108, 3) := by decide +kernel
theorem dX4_measureLegs_53 : decode cX4_measureLegs 53 = .ok (.istore 4, 2) := by decide +kernel
theorem dX4_measureLegs_55 : decode cX4_measureLegs 55 = .ok (.aload_n 0, 1) := by decide +kernel
theorem dX4_measureLegs_56 : decode cX4_measureLegs 56 = .ok (.getfield 14, 3) := by decide +kernel
theorem dX4_measureLegs_59 : decode cX4_measureLegs 59 = .ok (.iload_n 2, 1) := by decide +kernel
theorem dX4_measureLegs_60 : decode cX4_measureLegs 60 = .ok (.iload 4, 2) := by decide +kernel
theorem dX4_measureLegs_62 : decode cX4_measureLegs 62 = .ok (.invokestatic 124, 3) := by decide +kernel
theorem dX4_measureLegs_65 : decode cX4_measureLegs 65 = .ok (.aload_n 0, 1) := by decide +kernel
theorem dX4_measureLegs_66 : decode cX4_measureLegs 66 = .ok (.getfield 29, 3) := by decide +kernel
theorem dX4_measureLegs_69 : decode cX4_measureLegs 69 = .ok (.aload_n 0, 1) := by decide +kernel
theorem dX4_measureLegs_70 : decode cX4_measureLegs 70 = .ok (.getfield 33, 3) := by decide +kernel
theorem dX4_measureLegs_73 : decode cX4_measureLegs 73 = .ok (.iload 4, 2) := by decide +kernel
theorem dX4_measureLegs_75 : decode cX4_measureLegs 75 = .ok (.invokevirtual 58, 3) := by decide +kernel
theorem dX4_measureLegs_78 : decode cX4_measureLegs 78 = .ok (.invokevirtual 69, 3) := by decide +kernel
theorem dX4_measureLegs_81 : decode cX4_measureLegs 81 = .ok (.invokevirtual 117, 3) := by decide +kernel
theorem dX4_measureLegs_84 : decode cX4_measureLegs 84 = .ok (.aload_n 0, 1) := by decide +kernel
theorem dX4_measureLegs_85 : decode cX4_measureLegs 85 = .ok (.getfield 20, 3) := by decide +kernel
theorem dX4_measureLegs_88 : decode cX4_measureLegs 88 = .ok (.iload_n 2, 1) := by decide +kernel
theorem dX4_measureLegs_89 : decode cX4_measureLegs 89 = .ok (.iload 4, 2) := by decide +kernel
theorem dX4_measureLegs_91 : decode cX4_measureLegs 91 = .ok (.invokestatic 124, 3) := by decide +kernel
theorem dX4_measureLegs_94 : decode cX4_measureLegs 94 = .ok (.aload_n 0, 1) := by decide +kernel
theorem dX4_measureLegs_95 : decode cX4_measureLegs 95 = .ok (.getfield 29, 3) := by decide +kernel
theorem dX4_measureLegs_98 : decode cX4_measureLegs 98 = .ok (.aload_n 0, 1) := by decide +kernel
theorem dX4_measureLegs_99 : decode cX4_measureLegs 99 = .ok (.getfield 33, 3) := by decide +kernel
theorem dX4_measureLegs_102 : decode cX4_measureLegs 102 = .ok (.iload 4, 2) := by decide +kernel
theorem dX4_measureLegs_104 : decode cX4_measureLegs 104 = .ok (.invokevirtual 58, 3) := by decide +kernel
theorem dX4_measureLegs_107 : decode cX4_measureLegs 107 = .ok (.invokevirtual 72, 3) := by decide +kernel
theorem dX4_measureLegs_110 : decode cX4_measureLegs 110 = .ok (.invokevirtual 117, 3) := by decide +kernel
theorem dX4_measureLegs_113 : decode cX4_measureLegs 113 = .ok (.iinc 3 1, 3) := by decide +kernel
theorem dX4_measureLegs_116 : decode cX4_measureLegs 116 = .ok (.goto (-79), 3) := by decide +kernel
theorem dX4_measureLegs_119 : decode cX4_measureLegs 119 = .ok (.iinc 1 1, 3) := by decide +kernel
theorem dX4_measureLegs_122 : decode cX4_measureLegs 122 = .ok (.goto (-120), 3) := by decide +kernel
theorem dX4_measureLegs_125 : decode cX4_measureLegs 125 = .ok (.return_, 1) := by decide +kernel
theorem dX4_legNumber_0 : decode cX4_legNumber 0 = .ok (.iload_n 0, 1) := by decide +kernel
theorem dX4_legNumber_1 : decode cX4_legNumber 1 = .ok (.bipush 12, 2) := by decide +kernel
theorem dX4_legNumber_3 : decode cX4_legNumber 3 = .ok (.imul, 1) := by decide +kernel
theorem dX4_legNumber_4 : decode cX4_legNumber 4 = .ok (.iload_n 1, 1) := by decide +kernel
theorem dX4_legNumber_5 : decode cX4_legNumber 5 = .ok (.iadd, 1) := by decide +kernel
theorem dX4_legNumber_6 : decode cX4_legNumber 6 = .ok (.ireturn, 1) := by decide +kernel
theorem dX4_judgeOrder_0 : decode cX4_judgeOrder 0 = .ok (.iconst 0, 1) := by decide +kernel
theorem dX4_judgeOrder_1 : decode cX4_judgeOrder 1 = .ok (.istore_n 2, 1) := by decide +kernel
theorem dX4_judgeOrder_2 : decode cX4_judgeOrder 2 = .ok (.iconst 0, 1) := by decide +kernel
theorem dX4_judgeOrder_3 : decode cX4_judgeOrder 3 = .ok (.istore_n 3, 1) := by decide +kernel
theorem dX4_judgeOrder_4 : decode cX4_judgeOrder 4 = .ok (.iconst 0, 1) := by decide +kernel
theorem dX4_judgeOrder_5 : decode cX4_judgeOrder 5 = .ok (.istore 4, 2) := by decide +kernel
theorem dX4_judgeOrder_7 : decode cX4_judgeOrder 7 = .ok (.iload 4, 2) := by decide +kernel
theorem dX4_judgeOrder_9 : decode cX4_judgeOrder 9 = .ok (.iconst 1, 1) := by decide +kernel
theorem dX4_judgeOrder_10 : decode cX4_judgeOrder 10 = .ok (.iadd, 1) := by decide +kernel
theorem dX4_judgeOrder_11 : decode cX4_judgeOrder 11 = .ok (.aload_n 0, 1) := by decide +kernel
theorem dX4_judgeOrder_12 : decode cX4_judgeOrder 12 = .ok (.getfield 98, 3) := by decide +kernel
theorem dX4_judgeOrder_15 : decode cX4_judgeOrder 15 = .ok (.if_icmp .ge 72, 3) := by decide +kernel
theorem dX4_judgeOrder_18 : decode cX4_judgeOrder 18 = .ok (.aload_n 0, 1) := by decide +kernel
theorem dX4_judgeOrder_19 : decode cX4_judgeOrder 19 = .ok (.getfield 23, 3) := by decide +kernel
theorem dX4_judgeOrder_22 : decode cX4_judgeOrder 22 = .ok (.iload 4, 2) := by decide +kernel
theorem dX4_judgeOrder_24 : decode cX4_judgeOrder 24 = .ok (.invokevirtual 108, 3) := by decide +kernel
theorem dX4_judgeOrder_27 : decode cX4_judgeOrder 27 = .ok (.aload_n 0, 1) := by decide +kernel
theorem dX4_judgeOrder_28 : decode cX4_judgeOrder 28 = .ok (.getfield 23, 3) := by decide +kernel
theorem dX4_judgeOrder_31 : decode cX4_judgeOrder 31 = .ok (.iload 4, 2) := by decide +kernel
theorem dX4_judgeOrder_33 : decode cX4_judgeOrder 33 = .ok (.iconst 1, 1) := by decide +kernel
theorem dX4_judgeOrder_34 : decode cX4_judgeOrder 34 = .ok (.iadd, 1) := by decide +kernel
theorem dX4_judgeOrder_35 : decode cX4_judgeOrder 35 = .ok (.invokevirtual 108, 3) := by decide +kernel
theorem dX4_judgeOrder_38 : decode cX4_judgeOrder 38 = .ok (.invokestatic 124, 3) := by decide +kernel
theorem dX4_judgeOrder_41 : decode cX4_judgeOrder 41 = .ok (.istore 5, 2) := by decide +kernel
theorem dX4_judgeOrder_43 : decode cX4_judgeOrder 43 = .ok (.aload_n 0, 1) := by decide +kernel
theorem dX4_judgeOrder_44 : decode cX4_judgeOrder 44 = .ok (.getfield 14, 3) := by decide +kernel
theorem dX4_judgeOrder_47 : decode cX4_judgeOrder 47 = .ok (.iload 5, 2) := by decide +kernel
theorem dX4_judgeOrder_49 : decode cX4_judgeOrder 49 = .ok (.invokevirtual 108, 3) := by decide +kernel
theorem dX4_judgeOrder_52 : decode cX4_judgeOrder 52 = .ok (.iconst (-1), 1) := by decide +kernel
theorem dX4_judgeOrder_53 : decode cX4_judgeOrder 53 = .ok (.if_icmp .ne 4, 3) := by decide +kernel
theorem dX4_judgeOrder_56 : decode cX4_judgeOrder 56 = .ok (.return_, 1) := by decide +kernel
theorem dX4_judgeOrder_57 : decode cX4_judgeOrder 57 = .ok (.iload_n 2, 1) := by decide +kernel
theorem dX4_judgeOrder_58 : decode cX4_judgeOrder 58 = .ok (.aload_n 0, 1) := by decide +kernel
theorem dX4_judgeOrder_59 : decode cX4_judgeOrder 59 = .ok (.getfield 14, 3) := by decide +kernel
theorem dX4_judgeOrder_62 : decode cX4_judgeOrder 62 = .ok (.iload 5, 2) := by decide +kernel
theorem dX4_judgeOrder_64 : decode cX4_judgeOrder 64 = .ok (.invokevirtual 108, 3) := by decide +kernel
theorem dX4_judgeOrder_67 : decode cX4_judgeOrder 67 = .ok (.iadd, 1) := by decide +kernel
theorem dX4_judgeOrder_68 : decode cX4_judgeOrder 68 = .ok (.istore_n 2, 1) := by decide +kernel
theorem dX4_judgeOrder_69 : decode cX4_judgeOrder 69 = .ok (.iload_n 3, 1) := by decide +kernel
theorem dX4_judgeOrder_70 : decode cX4_judgeOrder 70 = .ok (.aload_n 0, 1) := by decide +kernel
theorem dX4_judgeOrder_71 : decode cX4_judgeOrder 71 = .ok (.getfield 20, 3) := by decide +kernel
theorem dX4_judgeOrder_74 : decode cX4_judgeOrder 74 = .ok (.iload 5, 2) := by decide +kernel
theorem dX4_judgeOrder_76 : decode cX4_judgeOrder 76 = .ok (.invokevirtual 108, 3) := by decide +kernel
theorem dX4_judgeOrder_79 : decode cX4_judgeOrder 79 = .ok (.iadd, 1) := by decide +kernel
theorem dX4_judgeOrder_80 : decode cX4_judgeOrder 80 = .ok (.istore_n 3, 1) := by decide +kernel
theorem dX4_judgeOrder_81 : decode cX4_judgeOrder 81 = .ok (.iinc 4 1, 3) := by decide +kernel
theorem dX4_judgeOrder_84 : decode cX4_judgeOrder 84 = .ok (.goto (-77), 3) := by decide +kernel
theorem dX4_judgeOrder_87 : decode cX4_judgeOrder 87 = .ok (.iload_n 3, 1) := by decide +kernel
theorem dX4_judgeOrder_88 : decode cX4_judgeOrder 88 = .ok (.iload_n 1, 1) := by decide +kernel
theorem dX4_judgeOrder_89 : decode cX4_judgeOrder 89 = .ok (.isub, 1) := by decide +kernel
theorem dX4_judgeOrder_90 : decode cX4_judgeOrder 90 = .ok (.invokestatic 127, 3) := by decide +kernel
theorem dX4_judgeOrder_93 : decode cX4_judgeOrder 93 = .ok (.istore 4, 2) := by decide +kernel
theorem dX4_judgeOrder_95 : decode cX4_judgeOrder 95 = .ok (.aload_n 0, 1) := by decide +kernel
theorem dX4_judgeOrder_96 : decode cX4_judgeOrder 96 = .ok (.getfield 95, 3) := by decide +kernel
theorem dX4_judgeOrder_99 : decode cX4_judgeOrder 99 = .ok (.iconst (-1), 1) := by decide +kernel
theorem dX4_judgeOrder_100 : decode cX4_judgeOrder 100 = .ok (.if_icmp .eq 29, 3) := by decide +kernel
theorem dX4_judgeOrder_103 : decode cX4_judgeOrder 103 = .ok (.iload 4, 2) := by decide +kernel
theorem dX4_judgeOrder_105 : decode cX4_judgeOrder 105 = .ok (.aload_n 0, 1) := by decide +kernel
theorem dX4_judgeOrder_106 : decode cX4_judgeOrder 106 = .ok (.getfield 130, 3) := by decide +kernel
theorem dX4_judgeOrder_109 : decode cX4_judgeOrder 109 = .ok (.if_icmp .lt 20, 3) := by decide +kernel
theorem dX4_judgeOrder_112 : decode cX4_judgeOrder 112 = .ok (.iload 4, 2) := by decide +kernel
theorem dX4_judgeOrder_114 : decode cX4_judgeOrder 114 = .ok (.aload_n 0, 1) := by decide +kernel
theorem dX4_judgeOrder_115 : decode cX4_judgeOrder 115 = .ok (.getfield 130, 3) := by decide +kernel
theorem dX4_judgeOrder_118 : decode cX4_judgeOrder 118 = .ok (.if_icmp .ne 18, 3) := by decide +kernel
theorem dX4_judgeOrder_121 : decode cX4_judgeOrder 121 = .ok (.iload_n 2, 1) := by decide +kernel
theorem dX4_judgeOrder_122 : decode cX4_judgeOrder 122 = .ok (.aload_n 0, 1) := by decide +kernel
theorem dX4_judgeOrder_123 : decode cX4_judgeOrder 123 = .ok (.getfield 95, 3) := by decide +kernel
theorem dX4_judgeOrder_126 : decode cX4_judgeOrder 126 = .ok (.if_icmp .ge 10, 3) := by decide +kernel
theorem dX4_judgeOrder_129 : decode cX4_judgeOrder 129 = .ok (.aload_n 0, 1) := by decide +kernel
theorem dX4_judgeOrder_130 : decode cX4_judgeOrder 130 = .ok (.iload 4, 2) := by decide +kernel
theorem dX4_judgeOrder_132 : decode cX4_judgeOrder 132 = .ok (.iload_n 2, 1) := by decide +kernel
theorem dX4_judgeOrder_133 : decode cX4_judgeOrder 133 = .ok (.invokevirtual 133, 3) := by decide +kernel
theorem dX4_judgeOrder_136 : decode cX4_judgeOrder 136 = .ok (.return_, 1) := by decide +kernel
theorem dX4_keepOrder_0 : decode cX4_keepOrder 0 = .ok (.aload_n 0, 1) := by decide +kernel
theorem dX4_keepOrder_1 : decode cX4_keepOrder 1 = .ok (.iload_n 1, 1) := by decide +kernel
theorem dX4_keepOrder_2 : decode cX4_keepOrder 2 = .ok (.putfield 130, 3) := by decide +kernel
theorem dX4_keepOrder_5 : decode cX4_keepOrder 5 = .ok (.aload_n 0, 1) := by decide +kernel
theorem dX4_keepOrder_6 : decode cX4_keepOrder 6 = .ok (.iload_n 2, 1) := by decide +kernel
theorem dX4_keepOrder_7 : decode cX4_keepOrder 7 = .ok (.putfield 95, 3) := by decide +kernel
theorem dX4_keepOrder_10 : decode cX4_keepOrder 10 = .ok (.iconst 0, 1) := by decide +kernel
theorem dX4_keepOrder_11 : decode cX4_keepOrder 11 = .ok (.istore_n 3, 1) := by decide +kernel
theorem dX4_keepOrder_12 : decode cX4_keepOrder 12 = .ok (.iload_n 3, 1) := by decide +kernel
theorem dX4_keepOrder_13 : decode cX4_keepOrder 13 = .ok (.aload_n 0, 1) := by decide +kernel
theorem dX4_keepOrder_14 : decode cX4_keepOrder 14 = .ok (.getfield 98, 3) := by decide +kernel
theorem dX4_keepOrder_17 : decode cX4_keepOrder 17 = .ok (.if_icmp .ge 25, 3) := by decide +kernel
theorem dX4_keepOrder_20 : decode cX4_keepOrder 20 = .ok (.aload_n 0, 1) := by decide +kernel
theorem dX4_keepOrder_21 : decode cX4_keepOrder 21 = .ok (.getfield 26, 3) := by decide +kernel
theorem dX4_keepOrder_24 : decode cX4_keepOrder 24 = .ok (.iload_n 3, 1) := by decide +kernel
theorem dX4_keepOrder_25 : decode cX4_keepOrder 25 = .ok (.aload_n 0, 1) := by decide +kernel
theorem dX4_keepOrder_26 : decode cX4_keepOrder 26 = .ok (.getfield 23, 3) := by decide +kernel
theorem dX4_keepOrder_29 : decode cX4_keepOrder 29 = .ok (.iload_n 3, 1) := by decide +kernel
theorem dX4_keepOrder_30 : decode cX4_keepOrder 30 = .ok (.invokevirtual 108, 3) := by decide +kernel
theorem dX4_keepOrder_33 : decode cX4_keepOrder 33 = .ok (.invokevirtual 117, 3) := by decide +kernel
theorem dX4_keepOrder_36 : decode cX4_keepOrder 36 = .ok (.iinc 3 1, 3) := by decide +kernel
theorem dX4_keepOrder_39 : decode cX4_keepOrder 39 = .ok (.goto (-27), 3) := by decide +kernel
theorem dX4_keepOrder_42 : decode cX4_keepOrder 42 = .ok (.return_, 1) := by decide +kernel
theorem dX4_goToNextOrder_0 : decode cX4_goToNextOrder 0 = .ok (.aload_n 0, 1) := by decide +kernel
theorem dX4_goToNextOrder_1 : decode cX4_goToNextOrder 1 = .ok (.getfield 98, 3) := by decide +kernel
theorem dX4_goToNextOrder_4 : decode cX4_goToNextOrder 4 = .ok (.iconst 3, 1) := by decide +kernel
theorem dX4_goToNextOrder_5 : decode cX4_goToNextOrder 5 = .ok (.isub, 1) := by decide +kernel
theorem dX4_goToNextOrder_6 : decode cX4_goToNextOrder 6 = .ok (.istore_n 1, 1) := by decide +kernel
theorem dX4_goToNextOrder_7 : decode cX4_goToNextOrder 7 = .ok (.iload_n 1, 1) := by decide +kernel
theorem dX4_goToNextOrder_8 : decode cX4_goToNextOrder 8 = .ok (.iconst 1, 1) := by decide +kernel
theorem dX4_goToNextOrder_9 : decode cX4_goToNextOrder 9 = .ok (.if_icmp .lt 30, 3) := by decide +kernel
theorem dX4_goToNextOrder_12 : decode cX4_goToNextOrder 12 = .ok (.aload_n 0, 1) := by decide +kernel
theorem dX4_goToNextOrder_13 : decode cX4_goToNextOrder 13 = .ok (.getfield 23, 3) := by decide +kernel
theorem dX4_goToNextOrder_16 : decode cX4_goToNextOrder 16 = .ok (.iload_n 1, 1) := by decide +kernel
theorem dX4_goToNextOrder_17 : decode cX4_goToNextOrder 17 = .ok (.invokevirtual 108, 3) := by decide +kernel
theorem dX4_goToNextOrder_20 : decode cX4_goToNextOrder 20 = .ok (.aload_n 0, 1) := by decide +kernel
theorem dX4_goToNextOrder_21 : decode cX4_goToNextOrder 21 = .ok (.getfield 23, 3) := by decide +kernel
theorem dX4_goToNextOrder_24 : decode cX4_goToNextOrder 24 = .ok (.iload_n 1, 1) := by decide +kernel
theorem dX4_goToNextOrder_25 : decode cX4_goToNextOrder 25 = .ok (.iconst 1, 1) := by decide +kernel
theorem dX4_goToNextOrder_26 : decode cX4_goToNextOrder 26 = .ok (.iadd, 1) := by decide +kernel
theorem dX4_goToNextOrder_27 : decode cX4_goToNextOrder 27 = .ok (.invokevirtual 108, 3) := by decide +kernel
theorem dX4_goToNextOrder_30 : decode cX4_goToNextOrder 30 = .ok (.if_icmp .le 9, 3) := by decide +kernel
theorem dX4_goToNextOrder_33 : decode cX4_goToNextOrder 33 = .ok (.iinc 1 (-1), 3) := by decide +kernel
theorem dX4_goToNextOrder_36 : decode cX4_goToNextOrder 36 = .ok (.goto (-29), 3) := by decide +kernel
theorem dX4_goToNextOrder_39 : decode cX4_goToNextOrder 39 = .ok (.iload_n 1, 1) := by decide +kernel
theorem dX4_goToNextOrder_40 : decode cX4_goToNextOrder 40 = .ok (.iconst 1, 1) := by decide +kernel
theorem dX4_goToNextOrder_41 : decode cX4_goToNextOrder 41 = .ok (.if_icmp .ge 5, 3) := by decide +kernel
theorem dX4_goToNextOrder_44 : decode cX4_goToNextOrder 44 = .ok (.iconst 0, 1) := by decide +kernel
theorem dX4_goToNextOrder_45 : decode cX4_goToNextOrder 45 = .ok (.ireturn, 1) := by decide +kernel
theorem dX4_goToNextOrder_46 : decode cX4_goToNextOrder 46 = .ok (.aload_n 0, 1) := by decide +kernel
theorem dX4_goToNextOrder_47 : decode cX4_goToNextOrder 47 = .ok (.getfield 98, 3) := by decide +kernel
theorem dX4_goToNextOrder_50 : decode cX4_goToNextOrder 50 = .ok (.iconst 2, 1) := by decide +kernel
theorem dX4_goToNextOrder_51 : decode cX4_goToNextOrder 51 = .ok (.isub, 1) := by decide +kernel
theorem dX4_goToNextOrder_52 : decode cX4_goToNextOrder 52 = .ok (.istore_n 2, 1) := by decide +kernel
theorem dX4_goToNextOrder_53 : decode cX4_goToNextOrder 53 = .ok (.iload_n 2, 1) := by decide +kernel
theorem dX4_goToNextOrder_54 : decode cX4_goToNextOrder 54 = .ok (.iload_n 1, 1) := by decide +kernel
theorem dX4_goToNextOrder_55 : decode cX4_goToNextOrder 55 = .ok (.if_icmp .le 28, 3) := by decide +kernel
theorem dX4_goToNextOrder_58 : decode cX4_goToNextOrder 58 = .ok (.aload_n 0, 1) := by decide +kernel
theorem dX4_goToNextOrder_59 : decode cX4_goToNextOrder 59 = .ok (.getfield 23, 3) := by decide +kernel
theorem dX4_goToNextOrder_62 : decode cX4_goToNextOrder 62 = .ok (.iload_n 2, 1) := by decide +kernel
theorem dX4_goToNextOrder_63 : decode cX4_goToNextOrder 63 = .ok (.invokevirtual 108, 3) := by decide +kernel
theorem dX4_goToNextOrder_66 : decode cX4_goToNextOrder 66 = .ok (.aload_n 0, 1) := by decide +kernel
theorem dX4_goToNextOrder_67 : decode cX4_goToNextOrder 67 = .ok (.getfield 23, 3) := by decide +kernel
theorem dX4_goToNextOrder_70 : decode cX4_goToNextOrder 70 = .ok (.iload_n 1, 1) := by decide +kernel
theorem dX4_goToNextOrder_71 : decode cX4_goToNextOrder 71 = .ok (.invokevirtual 108, 3) := by decide +kernel
theorem dX4_goToNextOrder_74 : decode cX4_goToNextOrder 74 = .ok (.if_icmp .ge 9, 3) := by decide +kernel
theorem dX4_goToNextOrder_77 : decode cX4_goToNextOrder 77 = .ok (.iinc 2 (-1), 3) := by decide +kernel
theorem dX4_goToNextOrder_80 : decode cX4_goToNextOrder 80 = .ok (.goto (-27), 3) := by decide +kernel
theorem dX4_goToNextOrder_83 : decode cX4_goToNextOrder 83 = .ok (.aload_n 0, 1) := by decide +kernel
theorem dX4_goToNextOrder_84 : decode cX4_goToNextOrder 84 = .ok (.iload_n 1, 1) := by decide +kernel
theorem dX4_goToNextOrder_85 : decode cX4_goToNextOrder 85 = .ok (.iload_n 2, 1) := by decide +kernel
theorem dX4_goToNextOrder_86 : decode cX4_goToNextOrder 86 = .ok (.invokevirtual 121, 3) := by decide +kernel
theorem dX4_goToNextOrder_89 : decode cX4_goToNextOrder 89 = .ok (.aload_n 0, 1) := by decide +kernel
theorem dX4_goToNextOrder_90 : decode cX4_goToNextOrder 90 = .ok (.getfield 98, 3) := by decide +kernel
theorem dX4_goToNextOrder_93 : decode cX4_goToNextOrder 93 = .ok (.iconst 2, 1) := by decide +kernel
theorem dX4_goToNextOrder_94 : decode cX4_goToNextOrder 94 = .ok (.isub, 1) := by decide +kernel
theorem dX4_goToNextOrder_95 : decode cX4_goToNextOrder 95 = .ok (.istore_n 3, 1) := by decide +kernel
theorem dX4_goToNextOrder_96 : decode cX4_goToNextOrder 96 = .ok (.iload_n 1, 1) := by decide +kernel
theorem dX4_goToNextOrder_97 : decode cX4_goToNextOrder 97 = .ok (.iconst 1, 1) := by decide +kernel
theorem dX4_goToNextOrder_98 : decode cX4_goToNextOrder 98 = .ok (.iadd, 1) := by decide +kernel
theorem dX4_goToNextOrder_99 : decode cX4_goToNextOrder 99 = .ok (.istore 4, 2) := by decide +kernel
theorem dX4_goToNextOrder_101 : decode cX4_goToNextOrder 101 = .ok (.iload 4, 2) := by decide +kernel
theorem dX4_goToNextOrder_103 : decode cX4_goToNextOrder 103 = .ok (.iload_n 3, 1) := by decide +kernel
theorem dX4_goToNextOrder_104 : decode cX4_goToNextOrder 104 = .ok (.if_icmp .ge 19, 3) := by decide +kernel
theorem dX4_goToNextOrder_107 : decode cX4_goToNextOrder 107 = .ok (.aload_n 0, 1) := by decide +kernel
theorem dX4_goToNextOrder_108 : decode cX4_goToNextOrder 108 = .ok (.iload 4, 2) := by decide +kernel
theorem dX4_goToNextOrder_110 : decode cX4_goToNextOrder 110 = .ok (.iload_n 3, 1) := by decide +kernel
theorem dX4_goToNextOrder_111 : decode cX4_goToNextOrder 111 = .ok (.invokevirtual 121, 3) := by decide +kernel
theorem dX4_goToNextOrder_114 : decode cX4_goToNextOrder 114 = .ok (.iinc 3 (-1), 3) := by decide +kernel
theorem dX4_goToNextOrder_117 : decode cX4_goToNextOrder 117 = .ok (.iinc 4 1, 3) := by decide +kernel
theorem dX4_goToNextOrder_120 : decode cX4_goToNextOrder 120 = .ok (.goto (-19), 3) := by decide +kernel
theorem dX4_goToNextOrder_123 : decode cX4_goToNextOrder 123 = .ok (.iconst 1, 1) := by decide +kernel
theorem dX4_goToNextOrder_124 : decode cX4_goToNextOrder 124 = .ok (.ireturn, 1) := by decide +kernel
theorem dX5_init_0 : decode cX5_init 0 = .ok (.aload_n 0, 1) := by decide +kernel
theorem dX5_init_1 : decode cX5_init 1 = .ok (.invokespecial 3, 3) := by decide +kernel
theorem dX5_init_4 : decode cX5_init 4 = .ok (.aload_n 0, 1) := by decide +kernel
theorem dX5_init_5 : decode cX5_init 5 = .ok (.new 9, 3) := by decide +kernel
theorem dX5_init_8 : decode cX5_init 8 = .ok (.dup, 1) := by decide +kernel
theorem dX5_init_9 : decode cX5_init 9 = .ok (.sipush 144, 3) := by decide +kernel
theorem dX5_init_12 : decode cX5_init 12 = .ok (.invokespecial 11, 3) := by decide +kernel
theorem dX5_init_15 : decode cX5_init 15 = .ok (.putfield 14, 3) := by decide +kernel
theorem dX5_init_18 : decode cX5_init 18 = .ok (.aload_n 0, 1) := by decide +kernel
theorem dX5_init_19 : decode cX5_init 19 = .ok (.new 9, 3) := by decide +kernel
theorem dX5_init_22 : decode cX5_init 22 = .ok (.dup, 1) := by decide +kernel
theorem dX5_init_23 : decode cX5_init 23 = .ok (.sipush 144, 3) := by decide +kernel
theorem dX5_init_26 : decode cX5_init 26 = .ok (.invokespecial 11, 3) := by decide +kernel
theorem dX5_init_29 : decode cX5_init 29 = .ok (.putfield 20, 3) := by decide +kernel
theorem dX5_init_32 : decode cX5_init 32 = .ok (.aload_n 0, 1) := by decide +kernel
theorem dX5_init_33 : decode cX5_init 33 = .ok (.new 9, 3) := by decide +kernel
theorem dX5_init_36 : decode cX5_init 36 = .ok (.dup, 1) := by decide +kernel
theorem dX5_init_37 : decode cX5_init 37 = .ok (.bipush 24, 2) := by decide +kernel
theorem dX5_init_39 : decode cX5_init 39 = .ok (.invokespecial 11, 3) := by decide +kernel
theorem dX5_init_42 : decode cX5_init 42 = .ok (.putfield 23, 3) := by decide +kernel
theorem dX5_init_45 : decode cX5_init 45 = .ok (.aload_n 0, 1) := by decide +kernel
theorem dX5_init_46 : decode cX5_init 46 = .ok (.new 9, 3) := by decide +kernel
theorem dX5_init_49 : decode cX5_init 49 = .ok (.dup, 1) := by decide +kernel
theorem dX5_init_50 : decode cX5_init 50 = .ok (.bipush 24, 2) := by decide +kernel
theorem dX5_init_52 : decode cX5_init 52 = .ok (.invokespecial 11, 3) := by decide +kernel
theorem dX5_init_55 : decode cX5_init 55 = .ok (.putfield 26, 3) := by decide +kernel
theorem dX5_init_58 : decode cX5_init 58 = .ok (.aload_n 0, 1) := by decide +kernel
theorem dX5_init_59 : decode cX5_init 59 = .ok (.new 9, 3) := by decide +kernel
theorem dX5_init_62 : decode cX5_init 62 = .ok (.dup, 1) := by decide +kernel
theorem dX5_init_63 : decode cX5_init 63 = .ok (.bipush 24, 2) := by decide +kernel
theorem dX5_init_65 : decode cX5_init 65 = .ok (.invokespecial 11, 3) := by decide +kernel
theorem dX5_init_68 : decode cX5_init 68 = .ok (.putfield 29, 3) := by decide +kernel
theorem dX5_init_71 : decode cX5_init 71 = .ok (.aload_n 0, 1) := by decide +kernel
theorem dX5_init_72 : decode cX5_init 72 = .ok (.aload_n 1, 1) := by decide +kernel
theorem dX5_init_73 : decode cX5_init 73 = .ok (.putfield 32, 3) := by decide +kernel
theorem dX5_init_76 : decode cX5_init 76 = .ok (.aload_n 0, 1) := by decide +kernel
theorem dX5_init_77 : decode cX5_init 77 = .ok (.aload_n 2, 1) := by decide +kernel
theorem dX5_init_78 : decode cX5_init 78 = .ok (.putfield 36, 3) := by decide +kernel
theorem dX5_init_81 : decode cX5_init 81 = .ok (.aload_n 0, 1) := by decide +kernel
theorem dX5_init_82 : decode cX5_init 82 = .ok (.aload_n 3, 1) := by decide +kernel
theorem dX5_init_83 : decode cX5_init 83 = .ok (.putfield 40, 3) := by decide +kernel
theorem dX5_init_86 : decode cX5_init 86 = .ok (.return_, 1) := by decide +kernel
theorem dX5_reckon_0 : decode cX5_reckon 0 = .ok (.aload_n 0, 1) := by decide +kernel
theorem dX5_reckon_1 : decode cX5_reckon 1 = .ok (.getfield 14, 3) := by decide +kernel
theorem dX5_reckon_4 : decode cX5_reckon 4 = .ok (.iconst (-1), 1) := by decide +kernel
theorem dX5_reckon_5 : decode cX5_reckon 5 = .ok (.invokevirtual 44, 3) := by decide +kernel
theorem dX5_reckon_8 : decode cX5_reckon 8 = .ok (.aload_n 0, 1) := by decide +kernel
theorem dX5_reckon_9 : decode cX5_reckon 9 = .ok (.getfield 23, 3) := by decide +kernel
theorem dX5_reckon_12 : decode cX5_reckon 12 = .ok (.iconst 0, 1) := by decide +kernel
theorem dX5_reckon_13 : decode cX5_reckon 13 = .ok (.invokevirtual 44, 3) := by decide +kernel
theorem dX5_reckon_16 : decode cX5_reckon 16 = .ok (.iconst 0, 1) := by decide +kernel
theorem dX5_reckon_17 : decode cX5_reckon 17 = .ok (.istore_n 1, 1) := by decide +kernel
theorem dX5_reckon_18 : decode cX5_reckon 18 = .ok (.iload_n 1, 1) := by decide +kernel
theorem dX5_reckon_19 : decode cX5_reckon 19 = .ok (.aload_n 0, 1) := by decide +kernel
theorem dX5_reckon_20 : decode cX5_reckon 20 = .ok (.getfield 40, 3) := by decide +kernel
theorem dX5_reckon_23 : decode cX5_reckon 23 = .ok (.invokevirtual 47, 3) := by decide +kernel
theorem dX5_reckon_26 : decode cX5_reckon 26 = .ok (.if_icmp .ge 19, 3) := by decide +kernel
theorem dX5_reckon_29 : decode cX5_reckon 29 = .ok (.aload_n 0, 1) := by decide +kernel
theorem dX5_reckon_30 : decode cX5_reckon 30 = .ok (.iload_n 1, 1) := by decide +kernel
theorem dX5_reckon_31 : decode cX5_reckon 31 = .ok (.invokevirtual 53, 3) := by decide +kernel
theorem dX5_reckon_34 : decode cX5_reckon 34 = .ok (.aload_n 0, 1) := by decide +kernel
theorem dX5_reckon_35 : decode cX5_reckon 35 = .ok (.iload_n 1, 1) := by decide +kernel
theorem dX5_reckon_36 : decode cX5_reckon 36 = .ok (.invokevirtual 56, 3) := by decide +kernel
theorem dX5_reckon_39 : decode cX5_reckon 39 = .ok (.iinc 1 1, 3) := by decide +kernel
theorem dX5_reckon_42 : decode cX5_reckon 42 = .ok (.goto (-24), 3) := by decide +kernel
theorem dX5_reckon_45 : decode cX5_reckon 45 = .ok (.return_, 1) := by decide +kernel
theorem dX5_countedPunches_0 : decode cX5_countedPunches 0 = .ok (.aload_n 0, 1) := by decide +kernel
theorem dX5_countedPunches_1 : decode cX5_countedPunches 1 = .ok (.getfield 23, 3) := by decide +kernel
theorem dX5_countedPunches_4 : decode cX5_countedPunches 4 = .ok (.iload_n 1, 1) := by decide +kernel
theorem dX5_countedPunches_5 : decode cX5_countedPunches 5 = .ok (.invokevirtual 59, 3) := by decide +kernel
theorem dX5_countedPunches_8 : decode cX5_countedPunches 8 = .ok (.ireturn, 1) := by decide +kernel
theorem dX5_state_0 : decode cX5_state 0 = .ok (.aload_n 0, 1) := by decide +kernel
theorem dX5_state_1 : decode cX5_state 1 = .ok (.getfield 26, 3) := by decide +kernel
theorem dX5_state_4 : decode cX5_state 4 = .ok (.iload_n 1, 1) := by decide +kernel
theorem dX5_state_5 : decode cX5_state 5 = .ok (.invokevirtual 59, 3) := by decide +kernel
theorem dX5_state_8 : decode cX5_state 8 = .ok (.ireturn, 1) := by decide +kernel
theorem dX5_totalMinutes_0 : decode cX5_totalMinutes 0 = .ok (.aload_n 0, 1) := by decide +kernel
theorem dX5_totalMinutes_1 : decode cX5_totalMinutes 1 = .ok (.getfield 29, 3) := by decide +kernel
theorem dX5_totalMinutes_4 : decode cX5_totalMinutes 4 = .ok (.iload_n 1, 1) := by decide +kernel
theorem dX5_totalMinutes_5 : decode cX5_totalMinutes 5 = .ok (.invokevirtual 59, 3) := by decide +kernel
theorem dX5_totalMinutes_8 : decode cX5_totalMinutes 8 = .ok (.ireturn, 1) := by decide +kernel
theorem dX5_splitMinutes_0 : decode cX5_splitMinutes 0 = .ok (.aload_n 0, 1) := by decide +kernel
theorem dX5_splitMinutes_1 : decode cX5_splitMinutes 1 = .ok (.getfield 20, 3) := by decide +kernel
theorem dX5_splitMinutes_4 : decode cX5_splitMinutes 4 = .ok (.iload_n 1, 1) := by decide +kernel
theorem dX5_splitMinutes_5 : decode cX5_splitMinutes 5 = .ok (.bipush 6, 2) := by decide +kernel
theorem dX5_splitMinutes_7 : decode cX5_splitMinutes 7 = .ok (.imul, 1) := by decide +kernel
theorem dX5_splitMinutes_8 : decode cX5_splitMinutes 8 = .ok (.iload_n 2, 1) := by decide +kernel
theorem dX5_splitMinutes_9 : decode cX5_splitMinutes 9 = .ok (.iadd, 1) := by decide +kernel
theorem dX5_splitMinutes_10 : decode cX5_splitMinutes 10 = .ok (.invokevirtual 59, 3) := by decide +kernel
theorem dX5_splitMinutes_13 : decode cX5_splitMinutes 13 = .ok (.ireturn, 1) := by decide +kernel
theorem dX5_place_0 : decode cX5_place 0 = .ok (.aload_n 0, 1) := by decide +kernel
theorem dX5_place_1 : decode cX5_place 1 = .ok (.getfield 26, 3) := by decide +kernel
theorem dX5_place_4 : decode cX5_place 4 = .ok (.iload_n 1, 1) := by decide +kernel
theorem dX5_place_5 : decode cX5_place 5 = .ok (.invokevirtual 59, 3) := by decide +kernel
theorem dX5_place_8 : decode cX5_place 8 = .ok (.iconst 1, 1) := by decide +kernel
theorem dX5_place_9 : decode cX5_place 9 = .ok (.if_icmp .eq 5, 3) := by decide +kernel
theorem dX5_place_12 : decode cX5_place 12 = .ok (.iconst (-1), 1) := by decide +kernel
theorem dX5_place_13 : decode cX5_place 13 = .ok (.ireturn, 1) := by decide +kernel
theorem dX5_place_14 : decode cX5_place 14 = .ok (.iconst 1, 1) := by decide +kernel
theorem dX5_place_15 : decode cX5_place 15 = .ok (.istore_n 2, 1) := by decide +kernel
theorem dX5_place_16 : decode cX5_place 16 = .ok (.iconst 0, 1) := by decide +kernel
theorem dX5_place_17 : decode cX5_place 17 = .ok (.istore_n 3, 1) := by decide +kernel
theorem dX5_place_18 : decode cX5_place 18 = .ok (.iload_n 3, 1) := by decide +kernel
theorem dX5_place_19 : decode cX5_place 19 = .ok (.aload_n 0, 1) := by decide +kernel
theorem dX5_place_20 : decode cX5_place 20 = .ok (.getfield 40, 3) := by decide +kernel
theorem dX5_place_23 : decode cX5_place 23 = .ok (.invokevirtual 47, 3) := by decide +kernel
theorem dX5_place_26 : decode cX5_place 26 = .ok (.if_icmp .ge 74, 3) := by decide +kernel
theorem dX5_place_29 : decode cX5_place 29 = .ok (.aload_n 0, 1) := by decide +kernel
theorem dX5_place_30 : decode cX5_place 30 = .ok (.getfield 26, 3) := by decide +kernel
theorem dX5_place_33 : decode cX5_place 33 = .ok (.iload_n 3, 1) := by decide +kernel
theorem dX5_place_34 : decode cX5_place 34 = .ok (.invokevirtual 59, 3) := by decide +kernel
theorem dX5_place_37 : decode cX5_place 37 = .ok (.iconst 1, 1) := by decide +kernel
theorem dX5_place_38 : decode cX5_place 38 = .ok (.if_icmp .ne 26, 3) := by decide +kernel
theorem dX5_place_41 : decode cX5_place 41 = .ok (.aload_n 0, 1) := by decide +kernel
theorem dX5_place_42 : decode cX5_place 42 = .ok (.getfield 40, 3) := by decide +kernel
theorem dX5_place_45 : decode cX5_place 45 = .ok (.iload_n 3, 1) := by decide +kernel
theorem dX5_place_46 : decode cX5_place 46 = .ok (.invokevirtual 63, 3) := by decide +kernel
theorem dX5_place_49 : decode cX5_place 49 = .ok (.aload_n 0, 1) := by decide +kernel
theorem dX5_place_50 : decode cX5_place 50 = .ok (.getfield 40, 3) := by decide +kernel
theorem dX5_place_53 : decode cX5_place 53 = .ok (.iload_n 1, 1) := by decide +kernel
theorem dX5_place_54 : decode cX5_place 54 = .ok (.invokevirtual 63, 3) := by decide +kernel
theorem dX5_place_57 : decode cX5_place 57 = .ok (.if_icmp .ne 7, 3) := by decide +kernel
theorem dX5_place_60 : decode cX5_place 60 = .ok (.iconst 1, 1) := by decide +kernel
theorem dX5_place_61 : decode cX5_place 61 = .ok (.goto 4, 3) := by decide +kernel
theorem dX5_place_64 : decode cX5_place 64 = .ok (.iconst 0, 1) := by decide +kernel
theorem dX5_place_65 : decode cX5_place 65 = .ok (.istore 4, 2) := by decide +kernel
theorem dX5_place_67 : decode cX5_place 67 = .ok (.iload 4, 2) := by decide +kernel
theorem dX5_place_69 : decode cX5_place 69 = .ok (.ifCond .eq 25, 3) := by decide +kernel
theorem dX5_place_72 : decode cX5_place 72 = .ok (.aload_n 0, 1) := by decide +kernel
theorem dX5_place_73 : decode cX5_place 73 = .ok (.getfield 29, 3) := by decide +kernel
theorem dX5_place_76 : decode cX5_place 76 = .ok (.iload_n 3, 1) := by decide +kernel
theorem dX5_place_77 : decode cX5_place 77 = .ok (.invokevirtual 59, 3) := by decide +kernel
theorem dX5_place_80 : decode cX5_place 80 = .ok (.aload_n 0, 1) := by decide +kernel
theorem dX5_place_81 : decode cX5_place 81 = .ok (.getfield 29, 3) := by decide +kernel
theorem dX5_place_84 : decode cX5_place 84 = .ok (.iload_n 1, 1) := by decide +kernel
theorem dX5_place_85 : decode cX5_place 85 = .ok (.invokevirtual 59, 3) := by decide +kernel
theorem dX5_place_88 : decode cX5_place 88 = .ok (.if_icmp .ge 6, 3) := by decide +kernel
theorem dX5_place_91 : decode cX5_place 91 = .ok (.iinc 2 1, 3) := by decide +kernel
theorem dX5_place_94 : decode cX5_place 94 = .ok (.iinc 3 1, 3) := by decide +kernel
theorem dX5_place_97 : decode cX5_place 97 = .ok (.goto (-79), 3) := by decide +kernel
theorem dX5_place_100 : decode cX5_place 100 = .ok (.iload_n 2, 1) := by decide +kernel
theorem dX5_place_101 : decode cX5_place 101 = .ok (.ireturn, 1) := by decide +kernel
theorem dX5_lostMinutes_0 : decode cX5_lostMinutes 0 = .ok (.aload_n 0, 1) := by decide +kernel
theorem dX5_lostMinutes_1 : decode cX5_lostMinutes 1 = .ok (.getfield 40, 3) := by decide +kernel
theorem dX5_lostMinutes_4 : decode cX5_lostMinutes 4 = .ok (.iload_n 1, 1) := by decide +kernel
theorem dX5_lostMinutes_5 : decode cX5_lostMinutes 5 = .ok (.invokevirtual 63, 3) := by decide +kernel
theorem dX5_lostMinutes_8 : decode cX5_lostMinutes 8 = .ok (.istore_n 3, 1) := by decide +kernel
theorem dX5_lostMinutes_9 : decode cX5_lostMinutes 9 = .ok (.aload_n 0, 1) := by decide +kernel
theorem dX5_lostMinutes_10 : decode cX5_lostMinutes 10 = .ok (.getfield 26, 3) := by decide +kernel
theorem dX5_lostMinutes_13 : decode cX5_lostMinutes 13 = .ok (.iload_n 1, 1) := by decide +kernel
theorem dX5_lostMinutes_14 : decode cX5_lostMinutes 14 = .ok (.invokevirtual 59, 3) := by decide +kernel
theorem dX5_lostMinutes_17 : decode cX5_lostMinutes 17 = .ok (.iconst 1, 1) := by decide +kernel
theorem dX5_lostMinutes_18 : decode cX5_lostMinutes 18 = .ok (.if_icmp .ne 12, 3) := by decide +kernel
theorem dX5_lostMinutes_21 : decode cX5_lostMinutes 21 = .ok (.aload_n 0, 1) := by decide +kernel
theorem dX5_lostMinutes_22 : decode cX5_lostMinutes 22 = .ok (.iload_n 3, 1) := by decide +kernel
theorem dX5_lostMinutes_23 : decode cX5_lostMinutes 23 = .ok (.iload_n 2, 1) := by decide +kernel
theorem dX5_lostMinutes_24 : decode cX5_lostMinutes 24 = .ok (.invokevirtual 66, 3) := by decide +kernel
theorem dX5_lostMinutes_27 : decode cX5_lostMinutes 27 = .ok (.ifCond .eq 5, 3) := by decide +kernel
theorem dX5_lostMinutes_30 : decode cX5_lostMinutes 30 = .ok (.iconst (-1), 1) := by decide +kernel
theorem dX5_lostMinutes_31 : decode cX5_lostMinutes 31 = .ok (.ireturn, 1) := by decide +kernel
theorem dX5_lostMinutes_32 : decode cX5_lostMinutes 32 = .ok (.aload_n 0, 1) := by decide +kernel
theorem dX5_lostMinutes_33 : decode cX5_lostMinutes 33 = .ok (.iload_n 3, 1) := by decide +kernel
theorem dX5_lostMinutes_34 : decode cX5_lostMinutes 34 = .ok (.iload_n 2, 1) := by decide +kernel
theorem dX5_lostMinutes_35 : decode cX5_lostMinutes 35 = .ok (.invokevirtual 70, 3) := by decide +kernel
theorem dX5_lostMinutes_38 : decode cX5_lostMinutes 38 = .ok (.aload_n 0, 1) := by decide +kernel
theorem dX5_lostMinutes_39 : decode cX5_lostMinutes 39 = .ok (.iload_n 1, 1) := by decide +kernel
theorem dX5_lostMinutes_40 : decode cX5_lostMinutes 40 = .ok (.invokevirtual 74, 3) := by decide +kernel
theorem dX5_lostMinutes_43 : decode cX5_lostMinutes 43 = .ok (.imul, 1) := by decide +kernel
theorem dX5_lostMinutes_44 : decode cX5_lostMinutes 44 = .ok (.sipush 1000, 3) := by decide +kernel
theorem dX5_lostMinutes_47 : decode cX5_lostMinutes 47 = .ok (.idiv, 1) := by decide +kernel
theorem dX5_lostMinutes_48 : decode cX5_lostMinutes 48 = .ok (.istore 4, 2) := by decide +kernel
theorem dX5_lostMinutes_50 : decode cX5_lostMinutes 50 = .ok (.iconst 0, 1) := by decide +kernel
theorem dX5_lostMinutes_51 : decode cX5_lostMinutes 51 = .ok (.aload_n 0, 1) := by decide +kernel
theorem dX5_lostMinutes_52 : decode cX5_lostMinutes 52 = .ok (.iload_n 1, 1) := by decide +kernel
theorem dX5_lostMinutes_53 : decode cX5_lostMinutes 53 = .ok (.iload_n 2, 1) := by decide +kernel
theorem dX5_lostMinutes_54 : decode cX5_lostMinutes 54 = .ok (.invokevirtual 77, 3) := by decide +kernel
theorem dX5_lostMinutes_57 : decode cX5_lostMinutes 57 = .ok (.iload 4, 2) := by decide +kernel
theorem dX5_lostMinutes_59 : decode cX5_lostMinutes 59 = .ok (.isub, 1) := by decide +kernel
theorem dX5_lostMinutes_60 : decode cX5_lostMinutes 60 = .ok (.invokestatic 80, 3) := by decide +kernel
theorem dX5_lostMinutes_63 : decode cX5_lostMinutes 63 = .ok (.ireturn, 1) := by decide +kernel
theorem dX5_followPunches_0 : decode cX5_followPunches 0 = .ok (.aload_n 0, 1) := by decide +kernel
theorem dX5_followPunches_1 : decode cX5_followPunches 1 = .ok (.getfield 40, 3) := by decide +kernel
theorem dX5_followPunches_4 : decode cX5_followPunches 4 = .ok (.iload_n 1, 1) := by decide +kernel
theorem dX5_followPunches_5 : decode cX5_followPunches 5 = .ok (.invokevirtual 63, 3) := by decide +kernel
theorem dX5_followPunches_8 : decode cX5_followPunches 8 = .ok (.istore_n 2, 1) := by decide +kernel
theorem dX5_followPunches_9 : decode cX5_followPunches 9 = .ok (.aload_n 0, 1) := by decide +kernel
theorem dX5_followPunches_10 : decode cX5_followPunches 10 = .ok (.getfield 14, 3) := by decide +kernel
theorem dX5_followPunches_13 : decode cX5_followPunches 13 = .ok (.iload_n 1, 1) := by decide +kernel
theorem dX5_followPunches_14 : decode cX5_followPunches 14 = .ok (.bipush 6, 2) := by decide +kernel
theorem dX5_followPunches_16 : decode cX5_followPunches 16 = .ok (.imul, 1) := by decide +kernel
theorem dX5_followPunches_17 : decode cX5_followPunches 17 = .ok (.aload_n 0, 1) := by decide +kernel
theorem dX5_followPunches_18 : decode cX5_followPunches 18 = .ok (.getfield 40, 3) := by decide +kernel
theorem dX5_followPunches_21 : decode cX5_followPunches 21 = .ok (.iload_n 1, 1) := by decide +kernel
theorem dX5_followPunches_22 : decode cX5_followPunches 22 = .ok (.invokevirtual 85, 3) := by decide +kernel
theorem dX5_followPunches_25 : decode cX5_followPunches 25 = .ok (.invokevirtual 88, 3) := by decide +kernel
theorem dX5_followPunches_28 : decode cX5_followPunches 28 = .ok (.aload_n 0, 1) := by decide +kernel
theorem dX5_followPunches_29 : decode cX5_followPunches 29 = .ok (.iload_n 2, 1) := by decide +kernel
theorem dX5_followPunches_30 : decode cX5_followPunches 30 = .ok (.iconst 0, 1) := by decide +kernel
theorem dX5_followPunches_31 : decode cX5_followPunches 31 = .ok (.invokevirtual 92, 3) := by decide +kernel
theorem dX5_followPunches_34 : decode cX5_followPunches 34 = .ok (.istore_n 3, 1) := by decide +kernel
theorem dX5_followPunches_35 : decode cX5_followPunches 35 = .ok (.iconst 0, 1) := by decide +kernel
theorem dX5_followPunches_36 : decode cX5_followPunches 36 = .ok (.istore 4, 2) := by decide +kernel
theorem dX5_followPunches_38 : decode cX5_followPunches 38 = .ok (.iload 4, 2) := by decide +kernel
theorem dX5_followPunches_40 : decode cX5_followPunches 40 = .ok (.aload_n 0, 1) := by decide +kernel
theorem dX5_followPunches_41 : decode cX5_followPunches 41 = .ok (.getfield 40, 3) := by decide +kernel
theorem dX5_followPunches_44 : decode cX5_followPunches 44 = .ok (.iload_n 1, 1) := by decide +kernel
theorem dX5_followPunches_45 : decode cX5_followPunches 45 = .ok (.invokevirtual 95, 3) := by decide +kernel
theorem dX5_followPunches_48 : decode cX5_followPunches 48 = .ok (.if_icmp .ge 70, 3) := by decide +kernel
theorem dX5_followPunches_51 : decode cX5_followPunches 51 = .ok (.aload_n 0, 1) := by decide +kernel
theorem dX5_followPunches_52 : decode cX5_followPunches 52 = .ok (.getfield 40, 3) := by decide +kernel
theorem dX5_followPunches_55 : decode cX5_followPunches 55 = .ok (.iload_n 1, 1) := by decide +kernel
theorem dX5_followPunches_56 : decode cX5_followPunches 56 = .ok (.iload 4, 2) := by decide +kernel
theorem dX5_followPunches_58 : decode cX5_followPunches 58 = .ok (.invokevirtual 98, 3) := by decide +kernel
theorem dX5_followPunches_61 : decode cX5_followPunches 61 = .ok (.aload_n 0, 1) := by decide +kernel
theorem dX5_followPunches_62 : decode cX5_followPunches 62 = .ok (.getfield 36, 3) := by decide +kernel
theorem dX5_followPunches_65 : decode cX5_followPunches 65 = .ok (.iload_n 2, 1) := by decide +kernel
theorem dX5_followPunches_66 : decode cX5_followPunches 66 = .ok (.iload_n 3, 1) := by decide +kernel
theorem dX5_followPunches_67 : decode cX5_followPunches 67 = .ok (.invokevirtual 101, 3) := by decide +kernel
theorem dX5_followPunches_70 : decode cX5_followPunches 70 = .ok (.if_icmp .ne 42, 3) := by decide +kernel
theorem dX5_followPunches_73 : decode cX5_followPunches 73 = .ok (.aload_n 0, 1) := by decide +kernel
theorem dX5_followPunches_74 : decode cX5_followPunches 74 = .ok (.getfield 14, 3) := by decide +kernel
theorem dX5_followPunches_77 : decode cX5_followPunches 77 = .ok (.iload_n 1, 1) := by decide +kernel
theorem dX5_followPunches_78 : decode cX5_followPunches 78 = .ok (.bipush 6, 2) := by decide +kernel
theorem dX5_followPunches_80 : decode cX5_followPunches 80 = .ok (.imul, 1) := by decide +kernel
theorem dX5_followPunches_81 : decode cX5_followPunches 81 = .ok (.iload_n 3, 1) := by decide +kernel
theorem dX5_followPunches_82 : decode cX5_followPunches 82 = .ok (.iadd, 1) := by decide +kernel
theorem dX5_followPunches_83 : decode cX5_followPunches 83 = .ok (.aload_n 0, 1) := by decide +kernel
theorem dX5_followPunches_84 : decode cX5_followPunches 84 = .ok (.getfield 40, 3) := by decide +kernel
theorem dX5_followPunches_87 : decode cX5_followPunches 87 = .ok (.iload_n 1, 1) := by decide +kernel
theorem dX5_followPunches_88 : decode cX5_followPunches 88 = .ok (.iload 4, 2) := by decide +kernel
theorem dX5_followPunches_90 : decode cX5_followPunches 90 = .ok (.invokevirtual 106, 3) := by decide +kernel
theorem dX5_followPunches_93 : decode cX5_followPunches 93 = .ok (.invokevirtual 88, 3) := by decide +kernel
theorem dX5_followPunches_96 : decode cX5_followPunches 96 = .ok (.aload_n 0, 1) := by decide +kernel
theorem dX5_followPunches_97 : decode cX5_followPunches 97 = .ok (.getfield 23, 3) := by decide +kernel
theorem dX5_followPunches_100 : decode cX5_followPunches 100 = .ok (.iload_n 1, 1) := by decide +kernel
theorem dX5_followPunches_101 : decode cX5_followPunches 101 = .ok (.iconst 1, 1) := by decide +kernel
theorem dX5_followPunches_102 : decode cX5_followPunches 102 = .ok (.invokevirtual 109, 3) := by decide +kernel
theorem dX5_followPunches_105 : decode cX5_followPunches 105 = .ok (.aload_n 0, 1) := by decide +kernel
theorem dX5_followPunches_106 : decode cX5_followPunches 106 = .ok (.iload_n 2, 1) := by decide +kernel
theorem dX5_followPunches_107 : decode cX5_followPunches 107 = .ok (.iload_n 3, 1) := by decide +kernel
theorem dX5_followPunches_108 : decode cX5_followPunches 108 = .ok (.invokevirtual 92, 3) := by decide +kernel
theorem dX5_followPunches_111 : decode cX5_followPunches 111 = .ok (.istore_n 3, 1) := by decide +kernel
theorem dX5_followPunches_112 : decode cX5_followPunches 112 = .ok (.iinc 4 1, 3) := by decide +kernel
theorem dX5_followPunches_115 : decode cX5_followPunches 115 = .ok (.goto (-77), 3) := by decide +kernel
theorem dX5_followPunches_118 : decode cX5_followPunches 118 = .ok (.iload_n 3, 1) := by decide +kernel
theorem dX5_followPunches_119 : decode cX5_followPunches 119 = .ok (.aload_n 0, 1) := by decide +kernel
theorem dX5_followPunches_120 : decode cX5_followPunches 120 = .ok (.getfield 36, 3) := by decide +kernel
theorem dX5_followPunches_123 : decode cX5_followPunches 123 = .ok (.iload_n 2, 1) := by decide +kernel
theorem dX5_followPunches_124 : decode cX5_followPunches 124 = .ok (.invokevirtual 112, 3) := by decide +kernel
theorem dX5_followPunches_127 : decode cX5_followPunches 127 = .ok (.if_icmp .lt 7, 3) := by decide +kernel
theorem dX5_followPunches_130 : decode cX5_followPunches 130 = .ok (.iconst 1, 1) := by decide +kernel
theorem dX5_followPunches_131 : decode cX5_followPunches 131 = .ok (.goto 4, 3) := by decide +kernel
theorem dX5_followPunches_134 : decode cX5_followPunches 134 = .ok (.iconst 0, 1) := by decide +kernel
theorem dX5_followPunches_135 : decode cX5_followPunches 135 = .ok (.istore 4, 2) := by decide +kernel
theorem dX5_followPunches_137 : decode cX5_followPunches 137 = .ok (.aload_n 0, 1) := by decide +kernel
theorem dX5_followPunches_138 : decode cX5_followPunches 138 = .ok (.getfield 40, 3) := by decide +kernel
theorem dX5_followPunches_141 : decode cX5_followPunches 141 = .ok (.iload_n 1, 1) := by decide +kernel
theorem dX5_followPunches_142 : decode cX5_followPunches 142 = .ok (.aload_n 0, 1) := by decide +kernel
theorem dX5_followPunches_143 : decode cX5_followPunches 143 = .ok (.getfield 36, 3) := by decide +kernel
theorem dX5_followPunches_146 : decode cX5_followPunches 146 = .ok (.iload_n 2, 1) := by decide +kernel
theorem dX5_followPunches_147 : decode cX5_followPunches 147 = .ok (.invokevirtual 115, 3) := by decide +kernel
theorem dX5_followPunches_150 : decode cX5_followPunches 150 = .ok (.invokevirtual 118, 3) := by decide +kernel
theorem dX5_followPunches_153 : decode cX5_followPunches 153 = .ok (.istore 5, 2) := by decide +kernel
theorem dX5_followPunches_155 : decode cX5_followPunches 155 = .ok (.aload_n 0, 1) := by decide +kernel
theorem dX5_followPunches_156 : decode cX5_followPunches 156 = .ok (.getfield 26, 3) := by decide +kernel
theorem dX5_followPunches_159 : decode cX5_followPunches 159 = .ok (.iload_n 1, 1) := by decide +kernel
theorem dX5_followPunches_160 : decode cX5_followPunches 160 = .ok (.iload 4, 2) := by decide +kernel
theorem dX5_followPunches_162 : decode cX5_followPunches 162 = .ok (.ifCond .eq 7, 3) := by decide +kernel
theorem dX5_followPunches_165 : decode cX5_followPunches 165 = .ok (.iconst 1, 1) := by decide +kernel
theorem dX5_followPunches_166 : decode cX5_followPunches 166 = .ok (.goto 13, 3) := by decide +kernel
theorem dX5_followPunches_169 : decode cX5_followPunches 169 = .ok (.iload 5, 2) := by decide +kernel
theorem dX5_followPunches_171 : decode cX5_followPunches 171 = .ok (.ifCond .eq 7, 3) := by decide +kernel
theorem dX5_followPunches_174 : decode cX5_followPunches 174 = .ok (.iconst 2, 1) := by decide +kernel
theorem dX5_followPunches_175 : decode cX5_followPunches 175 = .ok (.goto 4, 3) := by decide +kernel
theorem dX5_followPunches_178 : decode cX5_followPunches 178 = .ok (.iconst 0, 1) := by decide +kernel
theorem dX5_followPunches_179 : decode cX5_followPunches 179 = .ok (.invokevirtual 88, 3) := by decide +kernel
theorem dX5_followPunches_182 : decode cX5_followPunches 182 = .ok (.return_, 1) := by decide +kernel
theorem dX5_nextToCount_0 : decode cX5_nextToCount 0 = .ok (.iload_n 2, 1) := by decide +kernel
theorem dX5_nextToCount_1 : decode cX5_nextToCount 1 = .ok (.iconst 1, 1) := by decide +kernel
theorem dX5_nextToCount_2 : decode cX5_nextToCount 2 = .ok (.iadd, 1) := by decide +kernel
theorem dX5_nextToCount_3 : decode cX5_nextToCount 3 = .ok (.istore_n 3, 1) := by decide +kernel
theorem dX5_nextToCount_4 : decode cX5_nextToCount 4 = .ok (.iload_n 3, 1) := by decide +kernel
theorem dX5_nextToCount_5 : decode cX5_nextToCount 5 = .ok (.aload_n 0, 1) := by decide +kernel
theorem dX5_nextToCount_6 : decode cX5_nextToCount 6 = .ok (.getfield 36, 3) := by decide +kernel
theorem dX5_nextToCount_9 : decode cX5_nextToCount 9 = .ok (.iload_n 1, 1) := by decide +kernel
theorem dX5_nextToCount_10 : decode cX5_nextToCount 10 = .ok (.invokevirtual 112, 3) := by decide +kernel
theorem dX5_nextToCount_13 : decode cX5_nextToCount 13 = .ok (.if_icmp .ge 28, 3) := by decide +kernel
theorem dX5_nextToCount_16 : decode cX5_nextToCount 16 = .ok (.aload_n 0, 1) := by decide +kernel
theorem dX5_nextToCount_17 : decode cX5_nextToCount 17 = .ok (.getfield 32, 3) := by decide +kernel
theorem dX5_nextToCount_20 : decode cX5_nextToCount 20 = .ok (.aload_n 0, 1) := by decide +kernel
theorem dX5_nextToCount_21 : decode cX5_nextToCount 21 = .ok (.getfield 36, 3) := by decide +kernel
theorem dX5_nextToCount_24 : decode cX5_nextToCount 24 = .ok (.iload_n 1, 1) := by decide +kernel
theorem dX5_nextToCount_25 : decode cX5_nextToCount 25 = .ok (.iload_n 3, 1) := by decide +kernel
theorem dX5_nextToCount_26 : decode cX5_nextToCount 26 = .ok (.invokevirtual 101, 3) := by decide +kernel
theorem dX5_nextToCount_29 : decode cX5_nextToCount 29 = .ok (.invokevirtual 121, 3) := by decide +kernel
theorem dX5_nextToCount_32 : decode cX5_nextToCount 32 = .ok (.ifCond .eq 9, 3) := by decide +kernel
theorem dX5_nextToCount_35 : decode cX5_nextToCount 35 = .ok (.iinc 3 1, 3) := by decide +kernel
theorem dX5_nextToCount_38 : decode cX5_nextToCount 38 = .ok (.goto (-34), 3) := by decide +kernel
theorem dX5_nextToCount_41 : decode cX5_nextToCount 41 = .ok (.iload_n 3, 1) := by decide +kernel
theorem dX5_nextToCount_42 : decode cX5_nextToCount 42 = .ok (.ireturn, 1) := by decide +kernel
theorem dX5_reckonSplits_0 : decode cX5_reckonSplits 0 = .ok (.aload_n 0, 1) := by decide +kernel
theorem dX5_reckonSplits_1 : decode cX5_reckonSplits 1 = .ok (.getfield 40, 3) := by decide +kernel
theorem dX5_reckonSplits_4 : decode cX5_reckonSplits 4 = .ok (.iload_n 1, 1) := by decide +kernel
theorem dX5_reckonSplits_5 : decode cX5_reckonSplits 5 = .ok (.invokevirtual 63, 3) := by decide +kernel
theorem dX5_reckonSplits_8 : decode cX5_reckonSplits 8 = .ok (.istore_n 2, 1) := by decide +kernel
theorem dX5_reckonSplits_9 : decode cX5_reckonSplits 9 = .ok (.iconst 0, 1) := by decide +kernel
theorem dX5_reckonSplits_10 : decode cX5_reckonSplits 10 = .ok (.istore_n 3, 1) := by decide +kernel
theorem dX5_reckonSplits_11 : decode cX5_reckonSplits 11 = .ok (.iconst 0, 1) := by decide +kernel
theorem dX5_reckonSplits_12 : decode cX5_reckonSplits 12 = .ok (.istore 4, 2) := by decide +kernel
theorem dX5_reckonSplits_14 : decode cX5_reckonSplits 14 = .ok (.iload 4, 2) := by decide +kernel
theorem dX5_reckonSplits_16 : decode cX5_reckonSplits 16 = .ok (.aload_n 0, 1) := by decide +kernel
theorem dX5_reckonSplits_17 : decode cX5_reckonSplits 17 = .ok (.getfield 36, 3) := by decide +kernel
theorem dX5_reckonSplits_20 : decode cX5_reckonSplits 20 = .ok (.iload_n 2, 1) := by decide +kernel
theorem dX5_reckonSplits_21 : decode cX5_reckonSplits 21 = .ok (.invokevirtual 127, 3) := by decide +kernel
theorem dX5_reckonSplits_24 : decode cX5_reckonSplits 24 = .ok (.if_icmp .ge 111, 3) := by decide +kernel
theorem dX5_reckonSplits_27 : decode cX5_reckonSplits 27 = .ok (.iload_n 1, 1) := by decide +kernel
theorem dX5_reckonSplits_28 : decode cX5_reckonSplits 28 = .ok (.bipush 6, 2) := by decide +kernel
theorem dX5_reckonSplits_30 : decode cX5_reckonSplits 30 = .ok (.imul, 1) := by decide +kernel
theorem dX5_reckonSplits_31 : decode cX5_reckonSplits 31 = .ok (.iload 4, 2) := by decide +kernel
theorem dX5_reckonSplits_33 : decode cX5_reckonSplits 33 = .ok (.iadd, 1) := by decide +kernel
theorem dX5_reckonSplits_34 : decode cX5_reckonSplits 34 = .ok (.istore 5, 2) := by decide +kernel
theorem dX5_reckonSplits_36 : decode cX5_reckonSplits 36 = .ok (.aload_n 0, 1) := by decide +kernel
theorem dX5_reckonSplits_37 : decode cX5_reckonSplits 37 = .ok (.getfield 14, 3) := by decide +kernel
theorem dX5_reckonSplits_40 : decode cX5_reckonSplits 40 = .ok (.iload 5, 2) := by decide +kernel
theorem dX5_reckonSplits_42 : decode cX5_reckonSplits 42 = .ok (.invokevirtual 59, 3) := by decide +kernel
theorem dX5_reckonSplits_45 : decode cX5_reckonSplits 45 = .ok (.istore 6, 2) := by decide +kernel
theorem dX5_reckonSplits_47 : decode cX5_reckonSplits 47 = .ok (.aload_n 0, 1) := by decide +kernel
theorem dX5_reckonSplits_48 : decode cX5_reckonSplits 48 = .ok (.getfield 14, 3) := by decide +kernel
theorem dX5_reckonSplits_51 : decode cX5_reckonSplits 51 = .ok (.iload 5, 2) := by decide +kernel
theorem dX5_reckonSplits_53 : decode cX5_reckonSplits 53 = .ok (.iconst 1, 1) := by decide +kernel
theorem dX5_reckonSplits_54 : decode cX5_reckonSplits 54 = .ok (.iadd, 1) := by decide +kernel
theorem dX5_reckonSplits_55 : decode cX5_reckonSplits 55 = .ok (.invokevirtual 59, 3) := by decide +kernel
theorem dX5_reckonSplits_58 : decode cX5_reckonSplits 58 = .ok (.istore 7, 2) := by decide +kernel
theorem dX5_reckonSplits_60 : decode cX5_reckonSplits 60 = .ok (.iload 6, 2) := by decide +kernel
theorem dX5_reckonSplits_62 : decode cX5_reckonSplits 62 = .ok (.iconst (-1), 1) := by decide +kernel
theorem dX5_reckonSplits_63 : decode cX5_reckonSplits 63 = .ok (.if_icmp .eq 23, 3) := by decide +kernel
theorem dX5_reckonSplits_66 : decode cX5_reckonSplits 66 = .ok (.iload 7, 2) := by decide +kernel
theorem dX5_reckonSplits_68 : decode cX5_reckonSplits 68 = .ok (.iconst (-1), 1) := by decide +kernel
theorem dX5_reckonSplits_69 : decode cX5_reckonSplits 69 = .ok (.if_icmp .eq 17, 3) := by decide +kernel
theorem dX5_reckonSplits_72 : decode cX5_reckonSplits 72 = .ok (.aload_n 0, 1) := by decide +kernel
theorem dX5_reckonSplits_73 : decode cX5_reckonSplits 73 = .ok (.iload_n 2, 1) := by decide +kernel
theorem dX5_reckonSplits_74 : decode cX5_reckonSplits 74 = .ok (.iload 4, 2) := by decide +kernel
theorem dX5_reckonSplits_76 : decode cX5_reckonSplits 76 = .ok (.invokevirtual 66, 3) := by decide +kernel
theorem dX5_reckonSplits_79 : decode cX5_reckonSplits 79 = .ok (.ifCond .ne 7, 3) := by decide +kernel
theorem dX5_reckonSplits_82 : decode cX5_reckonSplits 82 = .ok (.iconst 1, 1) := by decide +kernel
theorem dX5_reckonSplits_83 : decode cX5_reckonSplits 83 = .ok (.goto 4, 3) := by decide +kernel
theorem dX5_reckonSplits_86 : decode cX5_reckonSplits 86 = .ok (.iconst 0, 1) := by decide +kernel
theorem dX5_reckonSplits_87 : decode cX5_reckonSplits 87 = .ok (.istore 8, 2) := by decide +kernel
theorem dX5_reckonSplits_89 : decode cX5_reckonSplits 89 = .ok (.aload_n 0, 1) := by decide +kernel
theorem dX5_reckonSplits_90 : decode cX5_reckonSplits 90 = .ok (.getfield 20, 3) := by decide +kernel
theorem dX5_reckonSplits_93 : decode cX5_reckonSplits 93 = .ok (.iload 5, 2) := by decide +kernel
theorem dX5_reckonSplits_95 : decode cX5_reckonSplits 95 = .ok (.iload 8, 2) := by decide +kernel
theorem dX5_reckonSplits_97 : decode cX5_reckonSplits 97 = .ok (.ifCond .eq 11, 3) := by decide +kernel
theorem dX5_reckonSplits_100 : decode cX5_reckonSplits 100 = .ok (.iload 7, 2) := by decide +kernel
theorem dX5_reckonSplits_102 : decode cX5_reckonSplits 102 = .ok (.iload 6, 2) := by decide +kernel
theorem dX5_reckonSplits_104 : decode cX5_reckonSplits 104 = .ok (.isub, 1) := by decide +kernel
theorem dX5_reckonSplits_105 : decode cX5_reckonSplits 105 = .ok (.goto 4, 3) := by decide +kernel
theorem dX5_reckonSplits_108 : decode cX5_reckonSplits 108 = .ok (.iconst (-1), 1) := by decide +kernel
theorem dX5_reckonSplits_109 : decode cX5_reckonSplits 109 = .ok (.invokevirtual 88, 3) := by decide +kernel
theorem dX5_reckonSplits_112 : decode cX5_reckonSplits 112 = .ok (.iload_n 3, 1) := by decide +kernel
theorem dX5_reckonSplits_113 : decode cX5_reckonSplits 113 = .ok (.iload 8, 2) := by decide +kernel
theorem dX5_reckonSplits_115 : decode cX5_reckonSplits 115 = .ok (.ifCond .eq 11, 3) := by decide +kernel
theorem dX5_reckonSplits_118 : decode cX5_reckonSplits 118 = .ok (.iload 7, 2) := by decide +kernel
theorem dX5_reckonSplits_120 : decode cX5_reckonSplits 120 = .ok (.iload 6, 2) := by decide +kernel
theorem dX5_reckonSplits_122 : decode cX5_reckonSplits 122 = .ok (.isub, 1) := by decide +kernel
theorem dX5_reckonSplits_123 : decode cX5_reckonSplits 123 = .ok (.goto 4, 3) := by decide +kernel
theorem dX5_reckonSplits_126 : decode cX5_reckonSplits 126 = .ok (.iconst 0, 1) := by decide +kernel
theorem dX5_reckonSplits_127 : decode cX5_reckonSplits 127 = .ok (.iadd, 1) := by decide +kernel
theorem dX5_reckonSplits_128 : decode cX5_reckonSplits 128 = .ok (.istore_n 3, 1) := by decide +kernel
theorem dX5_reckonSplits_129 : decode cX5_reckonSplits 129 = .ok (.iinc 4 1, 3) := by decide +kernel
theorem dX5_reckonSplits_132 : decode cX5_reckonSplits 132 = .ok (.goto (-118), 3) := by decide +kernel
theorem dX5_reckonSplits_135 : decode cX5_reckonSplits 135 = .ok (.aload_n 0, 1) := by decide +kernel
theorem dX5_reckonSplits_136 : decode cX5_reckonSplits 136 = .ok (.getfield 29, 3) := by decide +kernel
theorem dX5_reckonSplits_139 : decode cX5_reckonSplits 139 = .ok (.iload_n 1, 1) := by decide +kernel
theorem dX5_reckonSplits_140 : decode cX5_reckonSplits 140 = .ok (.aload_n 0, 1) := by decide +kernel
theorem dX5_reckonSplits_141 : decode cX5_reckonSplits 141 = .ok (.getfield 26, 3) := by decide +kernel
theorem dX5_reckonSplits_144 : decode cX5_reckonSplits 144 = .ok (.iload_n 1, 1) := by decide +kernel
theorem dX5_reckonSplits_145 : decode cX5_reckonSplits 145 = .ok (.invokevirtual 59, 3) := by decide +kernel
theorem dX5_reckonSplits_148 : decode cX5_reckonSplits 148 = .ok (.iconst 1, 1) := by decide +kernel
theorem dX5_reckonSplits_149 : decode cX5_reckonSplits 149 = .ok (.if_icmp .ne 7, 3) := by decide +kernel
theorem dX5_reckonSplits_152 : decode cX5_reckonSplits 152 = .ok (.iload_n 3, 1) := by decide +kernel
theorem dX5_reckonSplits_153 : decode cX5_reckonSplits 153 = .ok (.goto 4, 3) := by decide +kernel
theorem dX5_reckonSplits_156 : decode cX5_reckonSplits 156 = .ok (.iconst (-1), 1) := by decide +kernel
theorem dX5_reckonSplits_157 : decode cX5_reckonSplits 157 = .ok (.invokevirtual 88, 3) := by decide +kernel
theorem dX5_reckonSplits_160 : decode cX5_reckonSplits 160 = .ok (.return_, 1) := by decide +kernel
theorem dX5_isVoid_0 : decode cX5_isVoid 0 = .ok (.aload_n 0, 1) := by decide +kernel
theorem dX5_isVoid_1 : decode cX5_isVoid 1 = .ok (.getfield 32, 3) := by decide +kernel
theorem dX5_isVoid_4 : decode cX5_isVoid 4 = .ok (.aload_n 0, 1) := by decide +kernel
theorem dX5_isVoid_5 : decode cX5_isVoid 5 = .ok (.getfield 36, 3) := by decide +kernel
theorem dX5_isVoid_8 : decode cX5_isVoid 8 = .ok (.iload_n 1, 1) := by decide +kernel
theorem dX5_isVoid_9 : decode cX5_isVoid 9 = .ok (.iload_n 2, 1) := by decide +kernel
theorem dX5_isVoid_10 : decode cX5_isVoid 10 = .ok (.invokevirtual 101, 3) := by decide +kernel
theorem dX5_isVoid_13 : decode cX5_isVoid 13 = .ok (.invokevirtual 121, 3) := by decide +kernel
theorem dX5_isVoid_16 : decode cX5_isVoid 16 = .ok (.ifCond .ne 24, 3) := by decide +kernel
theorem dX5_isVoid_19 : decode cX5_isVoid 19 = .ok (.aload_n 0, 1) := by decide +kernel
theorem dX5_isVoid_20 : decode cX5_isVoid 20 = .ok (.getfield 32, 3) := by decide +kernel
theorem dX5_isVoid_23 : decode cX5_isVoid 23 = .ok (.aload_n 0, 1) := by decide +kernel
theorem dX5_isVoid_24 : decode cX5_isVoid 24 = .ok (.getfield 36, 3) := by decide +kernel
theorem dX5_isVoid_27 : decode cX5_isVoid 27 = .ok (.iload_n 1, 1) := by decide +kernel
theorem dX5_isVoid_28 : decode cX5_isVoid 28 = .ok (.iload_n 2, 1) := by decide +kernel
theorem dX5_isVoid_29 : decode cX5_isVoid 29 = .ok (.iconst 1, 1) := by decide +kernel
theorem dX5_isVoid_30 : decode cX5_isVoid 30 = .ok (.iadd, 1) := by decide +kernel
theorem dX5_isVoid_31 : decode cX5_isVoid 31 = .ok (.invokevirtual 101, 3) := by decide +kernel
theorem dX5_isVoid_34 : decode cX5_isVoid 34 = .ok (.invokevirtual 121, 3) := by decide +kernel
theorem dX5_isVoid_37 : decode cX5_isVoid 37 = .ok (.ifCond .eq 7, 3) := by decide +kernel
theorem dX5_isVoid_40 : decode cX5_isVoid 40 = .ok (.iconst 1, 1) := by decide +kernel
theorem dX5_isVoid_41 : decode cX5_isVoid 41 = .ok (.goto 4, 3) := by decide +kernel
theorem dX5_isVoid_44 : decode cX5_isVoid 44 = .ok (.iconst 0, 1) := by decide +kernel
theorem dX5_isVoid_45 : decode cX5_isVoid 45 = .ok (.ireturn, 1) := by decide +kernel
theorem dX5_pace_0 : decode cX5_pace 0 = .ok (.aload_n 0, 1) := by decide +kernel
theorem dX5_pace_1 : decode cX5_pace 1 = .ok (.getfield 40, 3) := by decide +kernel
theorem dX5_pace_4 : decode cX5_pace 4 = .ok (.iload_n 1, 1) := by decide +kernel
theorem dX5_pace_5 : decode cX5_pace 5 = .ok (.invokevirtual 63, 3) := by decide +kernel
theorem dX5_pace_8 : decode cX5_pace 8 = .ok (.istore_n 2, 1) := by decide +kernel
theorem dX5_pace_9 : decode cX5_pace 9 = .ok (.iconst 0, 1) := by decide +kernel
theorem dX5_pace_10 : decode cX5_pace 10 = .ok (.istore_n 3, 1) := by decide +kernel
theorem dX5_pace_11 : decode cX5_pace 11 = .ok (.iconst 0, 1) := by decide +kernel
theorem dX5_pace_12 : decode cX5_pace 12 = .ok (.istore 4, 2) := by decide +kernel
theorem dX5_pace_14 : decode cX5_pace 14 = .ok (.iload 4, 2) := by decide +kernel
theorem dX5_pace_16 : decode cX5_pace 16 = .ok (.aload_n 0, 1) := by decide +kernel
theorem dX5_pace_17 : decode cX5_pace 17 = .ok (.getfield 36, 3) := by decide +kernel
theorem dX5_pace_20 : decode cX5_pace 20 = .ok (.iload_n 2, 1) := by decide +kernel
theorem dX5_pace_21 : decode cX5_pace 21 = .ok (.invokevirtual 127, 3) := by decide +kernel
theorem dX5_pace_24 : decode cX5_pace 24 = .ok (.if_icmp .ge 37, 3) := by decide +kernel
theorem dX5_pace_27 : decode cX5_pace 27 = .ok (.iload_n 3, 1) := by decide +kernel
theorem dX5_pace_28 : decode cX5_pace 28 = .ok (.aload_n 0, 1) := by decide +kernel
theorem dX5_pace_29 : decode cX5_pace 29 = .ok (.iload_n 2, 1) := by decide +kernel
theorem dX5_pace_30 : decode cX5_pace 30 = .ok (.iload 4, 2) := by decide +kernel
theorem dX5_pace_32 : decode cX5_pace 32 = .ok (.invokevirtual 66, 3) := by decide +kernel
theorem dX5_pace_35 : decode cX5_pace 35 = .ok (.ifCond .eq 7, 3) := by decide +kernel
theorem dX5_pace_38 : decode cX5_pace 38 = .ok (.iconst 0, 1) := by decide +kernel
theorem dX5_pace_39 : decode cX5_pace 39 = .ok (.goto 14, 3) := by decide +kernel
theorem dX5_pace_42 : decode cX5_pace 42 = .ok (.iconst 0, 1) := by decide +kernel
theorem dX5_pace_43 : decode cX5_pace 43 = .ok (.aload_n 0, 1) := by decide +kernel
theorem dX5_pace_44 : decode cX5_pace 44 = .ok (.iload_n 2, 1) := by decide +kernel
theorem dX5_pace_45 : decode cX5_pace 45 = .ok (.iload 4, 2) := by decide +kernel
theorem dX5_pace_47 : decode cX5_pace 47 = .ok (.invokevirtual 70, 3) := by decide +kernel
theorem dX5_pace_50 : decode cX5_pace 50 = .ok (.invokestatic 80, 3) := by decide +kernel
theorem dX5_pace_53 : decode cX5_pace 53 = .ok (.iadd, 1) := by decide +kernel
theorem dX5_pace_54 : decode cX5_pace 54 = .ok (.istore_n 3, 1) := by decide +kernel
theorem dX5_pace_55 : decode cX5_pace 55 = .ok (.iinc 4 1, 3) := by decide +kernel
theorem dX5_pace_58 : decode cX5_pace 58 = .ok (.goto (-44), 3) := by decide +kernel
theorem dX5_pace_61 : decode cX5_pace 61 = .ok (.iload_n 3, 1) := by decide +kernel
theorem dX5_pace_62 : decode cX5_pace 62 = .ok (.ifCond .le 20, 3) := by decide +kernel
theorem dX5_pace_65 : decode cX5_pace 65 = .ok (.sipush 1000, 3) := by decide +kernel
theorem dX5_pace_68 : decode cX5_pace 68 = .ok (.aload_n 0, 1) := by decide +kernel
theorem dX5_pace_69 : decode cX5_pace 69 = .ok (.getfield 29, 3) := by decide +kernel
theorem dX5_pace_72 : decode cX5_pace 72 = .ok (.iload_n 1, 1) := by decide +kernel
theorem dX5_pace_73 : decode cX5_pace 73 = .ok (.invokevirtual 59, 3) := by decide +kernel
theorem dX5_pace_76 : decode cX5_pace 76 = .ok (.imul, 1) := by decide +kernel
theorem dX5_pace_77 : decode cX5_pace 77 = .ok (.iload_n 3, 1) := by decide +kernel
theorem dX5_pace_78 : decode cX5_pace 78 = .ok (.idiv, 1) := by decide +kernel
theorem dX5_pace_79 : decode cX5_pace 79 = .ok (.goto 6, 3) := by decide +kernel
theorem dX5_pace_82 : decode cX5_pace 82 = .ok (.sipush 1000, 3) := by decide +kernel
theorem dX5_pace_85 : decode cX5_pace 85 = .ok (.ireturn, 1) := by decide +kernel
theorem dX5_bestSplit_0 : decode cX5_bestSplit 0 = .ok (.aload_n 0, 1) := by decide +kernel
theorem dX5_bestSplit_1 : decode cX5_bestSplit 1 = .ok (.getfield 36, 3) := by decide +kernel
theorem dX5_bestSplit_4 : decode cX5_bestSplit 4 = .ok (.iload_n 1, 1) := by decide +kernel
theorem dX5_bestSplit_5 : decode cX5_bestSplit 5 = .ok (.iload_n 2, 1) := by decide +kernel
theorem dX5_bestSplit_6 : decode cX5_bestSplit 6 = .ok (.invokevirtual 101, 3) := by decide +kernel
theorem dX5_bestSplit_9 : decode cX5_bestSplit 9 = .ok (.istore_n 3, 1) := by decide +kernel
theorem dX5_bestSplit_10 : decode cX5_bestSplit 10 = .ok (.aload_n 0, 1) := by decide +kernel
theorem dX5_bestSplit_11 : decode cX5_bestSplit 11 = .ok (.getfield 36, 3) := by decide +kernel
theorem dX5_bestSplit_14 : decode cX5_bestSplit 14 = .ok (.iload_n 1, 1) := by decide +kernel
theorem dX5_bestSplit_15 : decode cX5_bestSplit 15 = .ok (.iload_n 2, 1) := by decide +kernel
theorem dX5_bestSplit_16 : decode cX5_bestSplit 16 = .ok (.iconst 1, 1) := by decide +kernel
theorem dX5_bestSplit_17 : decode cX5_bestSplit 17 = .ok (.iadd, 1) := by decide +kernel
theorem dX5_bestSplit_18 : decode cX5_bestSplit 18 = .ok (.invokevirtual 101, 3) := by decide +kernel
theorem dX5_bestSplit_21 : decode cX5_bestSplit 21 = .ok (.istore 4, 2) := by decide +kernel
theorem dX5_bestSplit_23 : decode cX5_bestSplit 23 = .ok (.iconst (-1), 1) := by decide +kernel
theorem dX5_bestSplit_24 : decode cX5_bestSplit 24 = .ok (.istore 5, 2) := by decide +kernel
theorem dX5_bestSplit_26 : decode cX5_bestSplit 26 = .ok (.iconst 0, 1) := by decide +kernel
theorem dX5_bestSplit_27 : decode cX5_bestSplit 27 = .ok (.istore 6, 2) := by decide +kernel
theorem dX5_bestSplit_29 : decode cX5_bestSplit 29 = .ok (.iload 6, 2) := by decide +kernel
theorem dX5_bestSplit_31 : decode cX5_bestSplit 31 = .ok (.aload_n 0, 1) := by decide +kernel
theorem dX5_bestSplit_32 : decode cX5_bestSplit 32 = .ok (.getfield 40, 3) := by decide +kernel
theorem dX5_bestSplit_35 : decode cX5_bestSplit 35 = .ok (.invokevirtual 47, 3) := by decide +kernel
theorem dX5_bestSplit_38 : decode cX5_bestSplit 38 = .ok (.if_icmp .ge 60, 3) := by decide +kernel
theorem dX5_bestSplit_41 : decode cX5_bestSplit 41 = .ok (.aload_n 0, 1) := by decide +kernel
theorem dX5_bestSplit_42 : decode cX5_bestSplit 42 = .ok (.getfield 26, 3) := by decide +kernel
theorem dX5_bestSplit_45 : decode cX5_bestSplit 45 = .ok (.iload 6, 2) := by decide +kernel
theorem dX5_bestSplit_47 : decode cX5_bestSplit 47 = .ok (.invokevirtual 59, 3) := by decide +kernel
theorem dX5_bestSplit_50 : decode cX5_bestSplit 50 = .ok (.iconst 1, 1) := by decide +kernel
theorem dX5_bestSplit_51 : decode cX5_bestSplit 51 = .ok (.if_icmp .ne 15, 3) := by decide +kernel
theorem dX5_bestSplit_54 : decode cX5_bestSplit 54 = .ok (.aload_n 0, 1) := by decide +kernel
theorem dX5_bestSplit_55 : decode cX5_bestSplit 55 = .ok (.iload 6, 2) := by decide +kernel
theorem dX5_bestSplit_57 : decode cX5_bestSplit 57 = .ok (.iload_n 3, 1) := by decide +kernel
theorem dX5_bestSplit_58 : decode cX5_bestSplit 58 = .ok (.iload 4, 2) := by decide +kernel
theorem dX5_bestSplit_60 : decode cX5_bestSplit 60 = .ok (.invokevirtual 130, 3) := by decide +kernel
theorem dX5_bestSplit_63 : decode cX5_bestSplit 63 = .ok (.goto 4, 3) := by decide +kernel
theorem dX5_bestSplit_66 : decode cX5_bestSplit 66 = .ok (.iconst (-1), 1) := by decide +kernel
theorem dX5_bestSplit_67 : decode cX5_bestSplit 67 = .ok (.istore 7, 2) := by decide +kernel
theorem dX5_bestSplit_69 : decode cX5_bestSplit 69 = .ok (.iload 7, 2) := by decide +kernel
theorem dX5_bestSplit_71 : decode cX5_bestSplit 71 = .ok (.iconst (-1), 1) := by decide +kernel
theorem dX5_bestSplit_72 : decode cX5_bestSplit 72 = .ok (.if_icmp .eq 20, 3) := by decide +kernel
theorem dX5_bestSplit_75 : decode cX5_bestSplit 75 = .ok (.iload 5, 2) := by decide +kernel
theorem dX5_bestSplit_77 : decode cX5_bestSplit 77 = .ok (.iconst (-1), 1) := by decide +kernel
theorem dX5_bestSplit_78 : decode cX5_bestSplit 78 = .ok (.if_icmp .eq 10, 3) := by decide +kernel
theorem dX5_bestSplit_81 : decode cX5_bestSplit 81 = .ok (.iload 7, 2) := by decide +kernel
theorem dX5_bestSplit_83 : decode cX5_bestSplit 83 = .ok (.iload 5, 2) := by decide +kernel
theorem dX5_bestSplit_85 : decode cX5_bestSplit 85 = .ok (.if_icmp .ge 7, 3) := by decide +kernel
theorem dX5_bestSplit_88 : decode cX5_bestSplit 88 = .ok (.iload 7, 2) := by decide +kernel
theorem dX5_bestSplit_90 : decode cX5_bestSplit 90 = .ok (.istore 5, 2) := by decide +kernel
theorem dX5_bestSplit_92 : decode cX5_bestSplit 92 = .ok (.iinc 6 1, 3) := by decide +kernel
theorem dX5_bestSplit_95 : decode cX5_bestSplit 95 = .ok (.goto (-66), 3) := by decide +kernel
theorem dX5_bestSplit_98 : decode cX5_bestSplit 98 = .ok (.iload 5, 2) := by decide +kernel
theorem dX5_bestSplit_100 : decode cX5_bestSplit 100 = .ok (.ireturn, 1) := by decide +kernel
theorem dX5_splitBetween_0 : decode cX5_splitBetween 0 = .ok (.aload_n 0, 1) := by decide +kernel
theorem dX5_splitBetween_1 : decode cX5_splitBetween 1 = .ok (.getfield 40, 3) := by decide +kernel
theorem dX5_splitBetween_4 : decode cX5_splitBetween 4 = .ok (.iload_n 1, 1) := by decide +kernel
theorem dX5_splitBetween_5 : decode cX5_splitBetween 5 = .ok (.invokevirtual 63, 3) := by decide +kernel
theorem dX5_splitBetween_8 : decode cX5_splitBetween 8 = .ok (.istore 4, 2) := by decide +kernel
theorem dX5_splitBetween_10 : decode cX5_splitBetween 10 = .ok (.iconst 0, 1) := by decide +kernel
theorem dX5_splitBetween_11 : decode cX5_splitBetween 11 = .ok (.istore 5, 2) := by decide +kernel
theorem dX5_splitBetween_13 : decode cX5_splitBetween 13 = .ok (.iload 5, 2) := by decide +kernel
theorem dX5_splitBetween_15 : decode cX5_splitBetween 15 = .ok (.aload_n 0, 1) := by decide +kernel
theorem dX5_splitBetween_16 : decode cX5_splitBetween 16 = .ok (.getfield 36, 3) := by decide +kernel
theorem dX5_splitBetween_19 : decode cX5_splitBetween 19 = .ok (.iload 4, 2) := by decide +kernel
theorem dX5_splitBetween_21 : decode cX5_splitBetween 21 = .ok (.invokevirtual 127, 3) := by decide +kernel
theorem dX5_splitBetween_24 : decode cX5_splitBetween 24 = .ok (.if_icmp .ge 49, 3) := by decide +kernel
theorem dX5_splitBetween_27 : decode cX5_splitBetween 27 = .ok (.aload_n 0, 1) := by decide +kernel
theorem dX5_splitBetween_28 : decode cX5_splitBetween 28 = .ok (.getfield 36, 3) := by decide +kernel
theorem dX5_splitBetween_31 : decode cX5_splitBetween 31 = .ok (.iload 4, 2) := by decide +kernel
theorem dX5_splitBetween_33 : decode cX5_splitBetween 33 = .ok (.iload 5, 2) := by decide +kernel
theorem dX5_splitBetween_35 : decode cX5_splitBetween 35 = .ok (.invokevirtual 101, 3) := by decide +kernel
theorem dX5_splitBetween_38 : decode cX5_splitBetween 38 = .ok (.iload_n 2, 1) := by decide +kernel
theorem dX5_splitBetween_39 : decode cX5_splitBetween 39 = .ok (.if_icmp .ne 28, 3) := by decide +kernel
theorem dX5_splitBetween_42 : decode cX5_splitBetween 42 = .ok (.aload_n 0, 1) := by decide +kernel
theorem dX5_splitBetween_43 : decode cX5_splitBetween 43 = .ok (.getfield 36, 3) := by decide +kernel
theorem dX5_splitBetween_46 : decode cX5_splitBetween 46 = .ok (.iload 4, 2) := by decide +kernel
theorem dX5_splitBetween_48 : decode cX5_splitBetween 48 = .ok (.iload 5, 2) := by decide +kernel
theorem dX5_splitBetween_50 : decode cX5_splitBetween 50 = .ok (.iconst 1, 1) := by decide +kernel
theorem dX5_splitBetween_51 : decode cX5_splitBetween 51 = .ok (.iadd, 1) := by decide +kernel
theorem dX5_splitBetween_52 : decode cX5_splitBetween 52 = .ok (.invokevirtual 101, 3) := by decide +kernel
theorem dX5_splitBetween_55 : decode cX5_splitBetween 55 = .ok (.iload_n 3, 1) := by decide +kernel
theorem dX5_splitBetween_56 : decode cX5_splitBetween 56 = .ok (.if_icmp .ne 11, 3) := by decide +kernel
theorem dX5_splitBetween_59 : decode cX5_splitBetween 59 = .ok (.aload_n 0, 1) := by decide +kernel
theorem dX5_splitBetween_60 : decode cX5_splitBetween 60 = .ok (.iload_n 1, 1) := by decide +kernel
theorem dX5_splitBetween_61 : decode cX5_splitBetween 61 = .ok (.iload 5, 2) := by decide +kernel
theorem dX5_splitBetween_63 : decode cX5_splitBetween 63 = .ok (.invokevirtual 77, 3) := by decide +kernel
theorem dX5_splitBetween_66 : decode cX5_splitBetween 66 = .ok (.ireturn, 1) := by decide +kernel
theorem dX5_splitBetween_67 : decode cX5_splitBetween 67 = .ok (.iinc 5 1, 3) := by decide +kernel
theorem dX5_splitBetween_70 : decode cX5_splitBetween 70 = .ok (.goto (-57), 3) := by decide +kernel
theorem dX5_splitBetween_73 : decode cX5_splitBetween 73 = .ok (.iconst (-1), 1) := by decide +kernel
theorem dX5_splitBetween_74 : decode cX5_splitBetween 74 = .ok (.ireturn, 1) := by decide +kernel
theorem dX6_init_0 : decode cX6_init 0 = .ok (.aload_n 0, 1) := by decide +kernel
theorem dX6_init_1 : decode cX6_init 1 = .ok (.invokespecial 3, 3) := by decide +kernel
theorem dX6_init_4 : decode cX6_init 4 = .ok (.aload_n 0, 1) := by decide +kernel
theorem dX6_init_5 : decode cX6_init 5 = .ok (.new 9, 3) := by decide +kernel
theorem dX6_init_8 : decode cX6_init 8 = .ok (.dup, 1) := by decide +kernel
theorem dX6_init_9 : decode cX6_init 9 = .ok (.sipush 144, 3) := by decide +kernel
theorem dX6_init_12 : decode cX6_init 12 = .ok (.invokespecial 11, 3) := by decide +kernel
theorem dX6_init_15 : decode cX6_init 15 = .ok (.putfield 14, 3) := by decide +kernel
theorem dX6_init_18 : decode cX6_init 18 = .ok (.aload_n 0, 1) := by decide +kernel
theorem dX6_init_19 : decode cX6_init 19 = .ok (.new 9, 3) := by decide +kernel
theorem dX6_init_22 : decode cX6_init 22 = .ok (.dup, 1) := by decide +kernel
theorem dX6_init_23 : decode cX6_init 23 = .ok (.sipush 144, 3) := by decide +kernel
theorem dX6_init_26 : decode cX6_init 26 = .ok (.invokespecial 11, 3) := by decide +kernel
theorem dX6_init_29 : decode cX6_init 29 = .ok (.putfield 20, 3) := by decide +kernel
theorem dX6_init_32 : decode cX6_init 32 = .ok (.aload_n 0, 1) := by decide +kernel
theorem dX6_init_33 : decode cX6_init 33 = .ok (.new 9, 3) := by decide +kernel
theorem dX6_init_36 : decode cX6_init 36 = .ok (.dup, 1) := by decide +kernel
theorem dX6_init_37 : decode cX6_init 37 = .ok (.sipush 144, 3) := by decide +kernel
theorem dX6_init_40 : decode cX6_init 40 = .ok (.invokespecial 11, 3) := by decide +kernel
theorem dX6_init_43 : decode cX6_init 43 = .ok (.putfield 23, 3) := by decide +kernel
theorem dX6_init_46 : decode cX6_init 46 = .ok (.aload_n 0, 1) := by decide +kernel
theorem dX6_init_47 : decode cX6_init 47 = .ok (.aload_n 1, 1) := by decide +kernel
theorem dX6_init_48 : decode cX6_init 48 = .ok (.putfield 26, 3) := by decide +kernel
theorem dX6_init_51 : decode cX6_init 51 = .ok (.return_, 1) := by decide +kernel
theorem dX6_costTo_0 : decode cX6_costTo 0 = .ok (.aload_n 0, 1) := by decide +kernel
theorem dX6_costTo_1 : decode cX6_costTo 1 = .ok (.getfield 14, 3) := by decide +kernel
theorem dX6_costTo_4 : decode cX6_costTo 4 = .ok (.iload_n 1, 1) := by decide +kernel
theorem dX6_costTo_5 : decode cX6_costTo 5 = .ok (.invokevirtual 30, 3) := by decide +kernel
theorem dX6_costTo_8 : decode cX6_costTo 8 = .ok (.ireturn, 1) := by decide +kernel
theorem dX6_climbTo_0 : decode cX6_climbTo 0 = .ok (.aload_n 0, 1) := by decide +kernel
theorem dX6_climbTo_1 : decode cX6_climbTo 1 = .ok (.getfield 20, 3) := by decide +kernel
theorem dX6_climbTo_4 : decode cX6_climbTo 4 = .ok (.iload_n 1, 1) := by decide +kernel
theorem dX6_climbTo_5 : decode cX6_climbTo 5 = .ok (.invokevirtual 30, 3) := by decide +kernel
theorem dX6_climbTo_8 : decode cX6_climbTo 8 = .ok (.ireturn, 1) := by decide +kernel
theorem dX6_search_0 : decode cX6_search 0 = .ok (.aload_n 0, 1) := by decide +kernel
theorem dX6_search_1 : decode cX6_search 1 = .ok (.iload_n 1, 1) := by decide +kernel
theorem dX6_search_2 : decode cX6_search 2 = .ok (.invokevirtual 34, 3) := by decide +kernel
theorem dX6_search_5 : decode cX6_search 5 = .ok (.aload_n 0, 1) := by decide +kernel
theorem dX6_search_6 : decode cX6_search 6 = .ok (.getfield 23, 3) := by decide +kernel
theorem dX6_search_9 : decode cX6_search 9 = .ok (.iconst 0, 1) := by decide +kernel
theorem dX6_search_10 : decode cX6_search 10 = .ok (.iload_n 1, 1) := by decide +kernel
theorem dX6_search_11 : decode cX6_search 11 = .ok (.invokevirtual 37, 3) := by decide +kernel
theorem dX6_search_14 : decode cX6_search 14 = .ok (.aload_n 0, 1) := by decide +kernel
theorem dX6_search_15 : decode cX6_search 15 = .ok (.iconst 1, 1) := by decide +kernel
theorem dX6_search_16 : decode cX6_search 16 = .ok (.putfield 41, 3) := by decide +kernel
theorem dX6_search_19 : decode cX6_search 19 = .ok (.iconst 0, 1) := by decide +kernel
theorem dX6_search_20 : decode cX6_search 20 = .ok (.istore_n 3, 1) := by decide +kernel
theorem dX6_search_21 : decode cX6_search 21 = .ok (.iload_n 3, 1) := by decide +kernel
theorem dX6_search_22 : decode cX6_search 22 = .ok (.sipush 144, 3) := by decide +kernel
theorem dX6_search_25 : decode cX6_search 25 = .ok (.if_icmp .ge 25, 3) := by decide +kernel
theorem dX6_search_28 : decode cX6_search 28 = .ok (.aload_n 0, 1) := by decide +kernel
theorem dX6_search_29 : decode cX6_search 29 = .ok (.getfield 41, 3) := by decide +kernel
theorem dX6_search_32 : decode cX6_search 32 = .ok (.ifCond .le 18, 3) := by decide +kernel
theorem dX6_search_35 : decode cX6_search 35 = .ok (.aload_n 0, 1) := by decide +kernel
theorem dX6_search_36 : decode cX6_search 36 = .ok (.aload_n 0, 1) := by decide +kernel
theorem dX6_search_37 : decode cX6_search 37 = .ok (.invokevirtual 45, 3) := by decide +kernel
theorem dX6_search_40 : decode cX6_search 40 = .ok (.iload_n 2, 1) := by decide +kernel
theorem dX6_search_41 : decode cX6_search 41 = .ok (.invokevirtual 49, 3) := by decide +kernel
theorem dX6_search_44 : decode cX6_search 44 = .ok (.iinc 3 1, 3) := by decide +kernel
theorem dX6_search_47 : decode cX6_search 47 = .ok (.goto (-26), 3) := by decide +kernel
theorem dX6_search_50 : decode cX6_search 50 = .ok (.return_, 1) := by decide +kernel
theorem dX6_searchByCells_0 : decode cX6_searchByCells 0 = .ok (.aload_n 0, 1) := by decide +kernel
theorem dX6_searchByCells_1 : decode cX6_searchByCells 1 = .ok (.iload_n 1, 1) := by decide +kernel
theorem dX6_searchByCells_2 : decode cX6_searchByCells 2 = .ok (.invokevirtual 34, 3) := by decide +kernel
theorem dX6_searchByCells_5 : decode cX6_searchByCells 5 = .ok (.iconst 1, 1) := by decide +kernel
theorem dX6_searchByCells_6 : decode cX6_searchByCells 6 = .ok (.istore_n 2, 1) := by decide +kernel
theorem dX6_searchByCells_7 : decode cX6_searchByCells 7 = .ok (.iconst 0, 1) := by decide +kernel
theorem dX6_searchByCells_8 : decode cX6_searchByCells 8 = .ok (.istore_n 3, 1) := by decide +kernel
theorem dX6_searchByCells_9 : decode cX6_searchByCells 9 = .ok (.iload_n 3, 1) := by decide +kernel
theorem dX6_searchByCells_10 : decode cX6_searchByCells 10 = .ok (.sipush 144, 3) := by decide +kernel
theorem dX6_searchByCells_13 : decode cX6_searchByCells 13 = .ok (.if_icmp .ge 51, 3) := by decide +kernel
theorem dX6_searchByCells_16 : decode cX6_searchByCells 16 = .ok (.iload_n 2, 1) := by decide +kernel
theorem dX6_searchByCells_17 : decode cX6_searchByCells 17 = .ok (.ifCond .eq 47, 3) := by decide +kernel
theorem dX6_searchByCells_20 : decode cX6_searchByCells 20 = .ok (.iconst 0, 1) := by decide +kernel
theorem dX6_searchByCells_21 : decode cX6_searchByCells 21 = .ok (.istore_n 2, 1) := by decide +kernel
theorem dX6_searchByCells_22 : decode cX6_searchByCells 22 = .ok (.iconst 0, 1) := by decide +kernel
theorem dX6_searchByCells_23 : decode cX6_searchByCells 23 = .ok (.istore 4, 2) := by decide +kernel
theorem dX6_searchByCells_25 : decode cX6_searchByCells 25 = .ok (.iload 4, 2) := by decide +kernel
theorem dX6_searchByCells_27 : decode cX6_searchByCells 27 = .ok (.sipush 144, 3) := by decide +kernel
theorem dX6_searchByCells_30 : decode cX6_searchByCells 30 = .ok (.if_icmp .ge 28, 3) := by decide +kernel
theorem dX6_searchByCells_33 : decode cX6_searchByCells 33 = .ok (.aload_n 0, 1) := by decide +kernel
theorem dX6_searchByCells_34 : decode cX6_searchByCells 34 = .ok (.iload 4, 2) := by decide +kernel
theorem dX6_searchByCells_36 : decode cX6_searchByCells 36 = .ok (.invokevirtual 53, 3) := by decide +kernel
theorem dX6_searchByCells_39 : decode cX6_searchByCells 39 = .ok (.ifCond .ne 7, 3) := by decide +kernel
theorem dX6_searchByCells_42 : decode cX6_searchByCells 42 = .ok (.iload_n 2, 1) := by decide +kernel
theorem dX6_searchByCells_43 : decode cX6_searchByCells 43 = .ok (.ifCond .eq 7, 3) := by decide +kernel
theorem dX6_searchByCells_46 : decode cX6_searchByCells 46 = .ok (.iconst 1, 1) := by decide +kernel
theorem dX6_searchByCells_47 : decode cX6_searchByCells 47 = .ok (.goto 4, 3) := by decide +kernel
theorem dX6_searchByCells_50 : decode cX6_searchByCells 50 = .ok (.iconst 0, 1) := by decide +kernel
theorem dX6_searchByCells_51 : decode cX6_searchByCells 51 = .ok (.istore_n 2, 1) := by decide +kernel
theorem dX6_searchByCells_52 : decode cX6_searchByCells 52 = .ok (.iinc 4 1, 3) := by decide +kernel
theorem dX6_searchByCells_55 : decode cX6_searchByCells 55 = .ok (.goto (-30), 3) := by decide +kernel
theorem dX6_searchByCells_58 : decode cX6_searchByCells 58 = .ok (.iinc 3 1, 3) := by decide +kernel
theorem dX6_searchByCells_61 : decode cX6_searchByCells 61 = .ok (.goto (-52), 3) := by decide +kernel
theorem dX6_searchByCells_64 : decode cX6_searchByCells 64 = .ok (.return_, 1) := by decide +kernel
theorem dX6_begin_0 : decode cX6_begin 0 = .ok (.aload_n 0, 1) := by decide +kernel
theorem dX6_begin_1 : decode cX6_begin 1 = .ok (.getfield 14, 3) := by decide +kernel
theorem dX6_begin_4 : decode cX6_begin 4 = .ok (.iconst (-1), 1) := by decide +kernel
theorem dX6_begin_5 : decode cX6_begin 5 = .ok (.invokevirtual 57, 3) := by decide +kernel
theorem dX6_begin_8 : decode cX6_begin 8 = .ok (.aload_n 0, 1) := by decide +kernel
theorem dX6_begin_9 : decode cX6_begin 9 = .ok (.getfield 20, 3) := by decide +kernel
theorem dX6_begin_12 : decode cX6_begin 12 = .ok (.iconst (-1), 1) := by decide +kernel
theorem dX6_begin_13 : decode cX6_begin 13 = .ok (.invokevirtual 57, 3) := by decide +kernel
theorem dX6_begin_16 : decode cX6_begin 16 = .ok (.aload_n 0, 1) := by decide +kernel
theorem dX6_begin_17 : decode cX6_begin 17 = .ok (.getfield 14, 3) := by decide +kernel
theorem dX6_begin_20 : decode cX6_begin 20 = .ok (.iload_n 1, 1) := by decide +kernel
theorem dX6_begin_21 : decode cX6_begin 21 = .ok (.iconst 0, 1) := by decide +kernel
theorem dX6_begin_22 : decode cX6_begin 22 = .ok (.invokevirtual 37, 3) := by decide +kernel
theorem dX6_begin_25 : decode cX6_begin 25 = .ok (.aload_n 0, 1) := by decide +kernel
theorem dX6_begin_26 : decode cX6_begin 26 = .ok (.getfield 20, 3) := by decide +kernel
theorem dX6_begin_29 : decode cX6_begin 29 = .ok (.iload_n 1, 1) := by decide +kernel
theorem dX6_begin_30 : decode cX6_begin 30 = .ok (.iconst 0, 1) := by decide +kernel
theorem dX6_begin_31 : decode cX6_begin 31 = .ok (.invokevirtual 37, 3) := by decide +kernel
theorem dX6_begin_34 : decode cX6_begin 34 = .ok (.return_, 1) := by decide +kernel
theorem dX6_takeNearest_0 : decode cX6_takeNearest 0 = .ok (.iconst 0, 1) := by decide +kernel
theorem dX6_takeNearest_1 : decode cX6_takeNearest 1 = .ok (.istore_n 1, 1) := by decide +kernel
theorem dX6_takeNearest_2 : decode cX6_takeNearest 2 = .ok (.iconst 1, 1) := by decide +kernel
theorem dX6_takeNearest_3 : decode cX6_takeNearest 3 = .ok (.istore_n 2, 1) := by decide +kernel
theorem dX6_takeNearest_4 : decode cX6_takeNearest 4 = .ok (.iload_n 2, 1) := by decide +kernel
theorem dX6_takeNearest_5 : decode cX6_takeNearest 5 = .ok (.aload_n 0, 1) := by decide +kernel
theorem dX6_takeNearest_6 : decode cX6_takeNearest 6 = .ok (.getfield 41, 3) := by decide +kernel
theorem dX6_takeNearest_9 : decode cX6_takeNearest 9 = .ok (.if_icmp .ge 44, 3) := by decide +kernel
theorem dX6_takeNearest_12 : decode cX6_takeNearest 12 = .ok (.aload_n 0, 1) := by decide +kernel
theorem dX6_takeNearest_13 : decode cX6_takeNearest 13 = .ok (.getfield 14, 3) := by decide +kernel
theorem dX6_takeNearest_16 : decode cX6_takeNearest 16 = .ok (.aload_n 0, 1) := by decide +kernel
theorem dX6_takeNearest_17 : decode cX6_takeNearest 17 = .ok (.getfield 23, 3) := by decide +kernel
theorem dX6_takeNearest_20 : decode cX6_takeNearest 20 = .ok (.iload_n 2, 1) := by decide +kernel
theorem dX6_takeNearest_21 : decode cX6_takeNearest 21 = .ok (.invokevirtual 30, 3) := by decide +kernel
theorem dX6_takeNearest_24 : decode cX6_takeNearest 24 = .ok (.invokevirtual 30, 3) := by decide +kernel
theorem dX6_takeNearest_27 : decode cX6_takeNearest 27 = .ok (.aload_n 0, 1) := by decide +kernel
theorem dX6_takeNearest_28 : decode cX6_takeNearest 28 = .ok (.getfield 14, 3) := by decide +kernel
theorem dX6_takeNearest_31 : decode cX6_takeNearest 31 = .ok (.aload_n 0, 1) := by decide +kernel
theorem dX6_takeNearest_32 : decode cX6_takeNearest 32 = .ok (.getfield 23, 3) := by decide +kernel
theorem dX6_takeNearest_35 : decode cX6_takeNearest 35 = .ok (.iload_n 1, 1) := by decide +kernel
theorem dX6_takeNearest_36 : decode cX6_takeNearest 36 = .ok (.invokevirtual 30, 3) := by decide +kernel
theorem dX6_takeNearest_39 : decode cX6_takeNearest 39 = .ok (.invokevirtual 30, 3) := by decide +kernel
theorem dX6_takeNearest_42 : decode cX6_takeNearest 42 = .ok (.if_icmp .ge 5, 3) := by decide +kernel
theorem dX6_takeNearest_45 : decode cX6_takeNearest 45 = .ok (.iload_n 2, 1) := by decide +kernel
theorem dX6_takeNearest_46 : decode cX6_takeNearest 46 = .ok (.istore_n 1, 1) := by decide +kernel
theorem dX6_takeNearest_47 : decode cX6_takeNearest 47 = .ok (.iinc 2 1, 3) := by decide +kernel
theorem dX6_takeNearest_50 : decode cX6_takeNearest 50 = .ok (.goto (-46), 3) := by decide +kernel
theorem dX6_takeNearest_53 : decode cX6_takeNearest 53 = .ok (.aload_n 0, 1) := by decide +kernel
theorem dX6_takeNearest_54 : decode cX6_takeNearest 54 = .ok (.getfield 23, 3) := by decide +kernel
theorem dX6_takeNearest_57 : decode cX6_takeNearest 57 = .ok (.iload_n 1, 1) := by decide +kernel
theorem dX6_takeNearest_58 : decode cX6_takeNearest 58 = .ok (.invokevirtual 30, 3) := by decide +kernel
theorem dX6_takeNearest_61 : decode cX6_takeNearest 61 = .ok (.istore_n 2, 1) := by decide +kernel
theorem dX6_takeNearest_62 : decode cX6_takeNearest 62 = .ok (.aload_n 0, 1) := by decide +kernel
theorem dX6_takeNearest_63 : decode cX6_takeNearest 63 = .ok (.dup, 1) := by decide +kernel
theorem dX6_takeNearest_64 : decode cX6_takeNearest 64 = .ok (.getfield 41, 3) := by decide +kernel
theorem dX6_takeNearest_67 : decode cX6_takeNearest 67 = .ok (.iconst 1, 1) := by decide +kernel
theorem dX6_takeNearest_68 : decode cX6_takeNearest 68 = .ok (.isub, 1) := by decide +kernel
theorem dX6_takeNearest_69 : decode cX6_takeNearest 69 = .ok (.putfield 41, 3) := by decide +kernel
theorem dX6_takeNearest_72 : decode cX6_takeNearest 72 = .ok (.aload_n 0, 1) := by decide +kernel
theorem dX6_takeNearest_73 : decode cX6_takeNearest 73 = .ok (.getfield 23, 3) := by decide +kernel
theorem dX6_takeNearest_76 : decode cX6_takeNearest 76 = .ok (.iload_n 1, 1) := by decide +kernel
theorem dX6_takeNearest_77 : decode cX6_takeNearest 77 = .ok (.aload_n 0, 1) := by decide +kernel
theorem dX6_takeNearest_78 : decode cX6_takeNearest 78 = .ok (.getfield 23, 3) := by decide +kernel
theorem dX6_takeNearest_81 : decode cX6_takeNearest 81 = .ok (.aload_n 0, 1) := by decide +kernel
theorem dX6_takeNearest_82 : decode cX6_takeNearest 82 = .ok (.getfield 41, 3) := by decide +kernel
theorem dX6_takeNearest_85 : decode cX6_takeNearest 85 = .ok (.invokevirtual 30, 3) := by decide +kernel
theorem dX6_takeNearest_88 : decode cX6_takeNearest 88 = .ok (.invokevirtual 37, 3) := by decide +kernel
theorem dX6_takeNearest_91 : decode cX6_takeNearest 91 = .ok (.iload_n 2, 1) := by decide +kernel
theorem dX6_takeNearest_92 : decode cX6_takeNearest 92 = .ok (.ireturn, 1) := by decide +kernel
theorem dX6_goOn_0 : decode cX6_goOn 0 = .ok (.iconst 0, 1) := by decide +kernel
theorem dX6_goOn_1 : decode cX6_goOn 1 = .ok (.istore_n 3, 1) := by decide +kernel
theorem dX6_goOn_2 : decode cX6_goOn 2 = .ok (.iload_n 3, 1) := by decide +kernel
theorem dX6_goOn_3 : decode cX6_goOn 3 = .ok (.iconst 4, 1) := by decide +kernel
theorem dX6_goOn_4 : decode cX6_goOn 4 = .ok (.if_icmp .ge 94, 3) := by decide +kernel
theorem dX6_goOn_7 : decode cX6_goOn 7 = .ok (.aload_n 0, 1) := by decide +kernel
theorem dX6_goOn_8 : decode cX6_goOn 8 = .ok (.getfield 26, 3) := by decide +kernel
theorem dX6_goOn_11 : decode cX6_goOn 11 = .ok (.iload_n 1, 1) := by decide +kernel
theorem dX6_goOn_12 : decode cX6_goOn 12 = .ok (.iload_n 3, 1) := by decide +kernel
theorem dX6_goOn_13 : decode cX6_goOn 13 = .ok (.invokevirtual 60, 3) := by decide +kernel
theorem dX6_goOn_16 : decode cX6_goOn 16 = .ok (.istore 4, 2) := by decide +kernel
theorem dX6_goOn_18 : decode cX6_goOn 18 = .ok (.iload 4, 2) := by decide +kernel
theorem dX6_goOn_20 : decode cX6_goOn 20 = .ok (.iconst (-1), 1) := by decide +kernel
theorem dX6_goOn_21 : decode cX6_goOn 21 = .ok (.if_icmp .eq 71, 3) := by decide +kernel
theorem dX6_goOn_24 : decode cX6_goOn 24 = .ok (.iload_n 2, 1) := by decide +kernel
theorem dX6_goOn_25 : decode cX6_goOn 25 = .ok (.ifCond .ne 15, 3) := by decide +kernel
theorem dX6_goOn_28 : decode cX6_goOn 28 = .ok (.aload_n 0, 1) := by decide +kernel
theorem dX6_goOn_29 : decode cX6_goOn 29 = .ok (.getfield 26, 3) := by decide +kernel
theorem dX6_goOn_32 : decode cX6_goOn 32 = .ok (.iload 4, 2) := by decide +kernel
theorem dX6_goOn_34 : decode cX6_goOn 34 = .ok (.invokevirtual 66, 3) := by decide +kernel
theorem dX6_goOn_37 : decode cX6_goOn 37 = .ok (.ifCond .ne 55, 3) := by decide +kernel
theorem dX6_goOn_40 : decode cX6_goOn 40 = .ok (.aload_n 0, 1) := by decide +kernel
theorem dX6_goOn_41 : decode cX6_goOn 41 = .ok (.getfield 26, 3) := by decide +kernel
theorem dX6_goOn_44 : decode cX6_goOn 44 = .ok (.iload_n 1, 1) := by decide +kernel
theorem dX6_goOn_45 : decode cX6_goOn 45 = .ok (.iload 4, 2) := by decide +kernel
theorem dX6_goOn_47 : decode cX6_goOn 47 = .ok (.invokevirtual 69, 3) := by decide +kernel
theorem dX6_goOn_50 : decode cX6_goOn 50 = .ok (.istore 5, 2) := by decide +kernel
theorem dX6_goOn_52 : decode cX6_goOn 52 = .ok (.aload_n 0, 1) := by decide +kernel
theorem dX6_goOn_53 : decode cX6_goOn 53 = .ok (.iload 4, 2) := by decide +kernel
theorem dX6_goOn_55 : decode cX6_goOn 55 = .ok (.aload_n 0, 1) := by decide +kernel
theorem dX6_goOn_56 : decode cX6_goOn 56 = .ok (.getfield 14, 3) := by decide +kernel
theorem dX6_goOn_59 : decode cX6_goOn 59 = .ok (.iload_n 1, 1) := by decide +kernel
theorem dX6_goOn_60 : decode cX6_goOn 60 = .ok (.invokevirtual 30, 3) := by decide +kernel
theorem dX6_goOn_63 : decode cX6_goOn 63 = .ok (.aload_n 0, 1) := by decide +kernel
theorem dX6_goOn_64 : decode cX6_goOn 64 = .ok (.getfield 26, 3) := by decide +kernel
theorem dX6_goOn_67 : decode cX6_goOn 67 = .ok (.iload 4, 2) := by decide +kernel
theorem dX6_goOn_69 : decode cX6_goOn 69 = .ok (.invokevirtual 72, 3) := by decide +kernel
theorem dX6_goOn_72 : decode cX6_goOn 72 = .ok (.iadd, 1) := by decide +kernel
theorem dX6_goOn_73 : decode cX6_goOn 73 = .ok (.iconst 4, 1) := by decide +kernel
theorem dX6_goOn_74 : decode cX6_goOn 74 = .ok (.iload 5, 2) := by decide +kernel
theorem dX6_goOn_76 : decode cX6_goOn 76 = .ok (.imul, 1) := by decide +kernel
theorem dX6_goOn_77 : decode cX6_goOn 77 = .ok (.iadd, 1) := by decide +kernel
theorem dX6_goOn_78 : decode cX6_goOn 78 = .ok (.aload_n 0, 1) := by decide +kernel
theorem dX6_goOn_79 : decode cX6_goOn 79 = .ok (.getfield 20, 3) := by decide +kernel
theorem dX6_goOn_82 : decode cX6_goOn 82 = .ok (.iload_n 1, 1) := by decide +kernel
theorem dX6_goOn_83 : decode cX6_goOn 83 = .ok (.invokevirtual 30, 3) := by decide +kernel
theorem dX6_goOn_86 : decode cX6_goOn 86 = .ok (.iload 5, 2) := by decide +kernel
theorem dX6_goOn_88 : decode cX6_goOn 88 = .ok (.iadd, 1) := by decide +kernel
theorem dX6_goOn_89 : decode cX6_goOn 89 = .ok (.invokevirtual 75, 3) := by decide +kernel
theorem dX6_goOn_92 : decode cX6_goOn 92 = .ok (.iinc 3 1, 3) := by decide +kernel
theorem dX6_goOn_95 : decode cX6_goOn 95 = .ok (.goto (-93), 3) := by decide +kernel
theorem dX6_goOn_98 : decode cX6_goOn 98 = .ok (.return_, 1) := by decide +kernel
theorem dX6_offer_0 : decode cX6_offer 0 = .ok (.aload_n 0, 1) := by decide +kernel
theorem dX6_offer_1 : decode cX6_offer 1 = .ok (.getfield 14, 3) := by decide +kernel
theorem dX6_offer_4 : decode cX6_offer 4 = .ok (.iload_n 1, 1) := by decide +kernel
theorem dX6_offer_5 : decode cX6_offer 5 = .ok (.invokevirtual 30, 3) := by decide +kernel
theorem dX6_offer_8 : decode cX6_offer 8 = .ok (.istore 4, 2) := by decide +kernel
theorem dX6_offer_10 : decode cX6_offer 10 = .ok (.iload 4, 2) := by decide +kernel
theorem dX6_offer_12 : decode cX6_offer 12 = .ok (.iconst (-1), 1) := by decide +kernel
theorem dX6_offer_13 : decode cX6_offer 13 = .ok (.if_icmp .ne 25, 3) := by decide +kernel
theorem dX6_offer_16 : decode cX6_offer 16 = .ok (.aload_n 0, 1) := by decide +kernel
theorem dX6_offer_17 : decode cX6_offer 17 = .ok (.getfield 23, 3) := by decide +kernel
theorem dX6_offer_20 : decode cX6_offer 20 = .ok (.aload_n 0, 1) := by decide +kernel
theorem dX6_offer_21 : decode cX6_offer 21 = .ok (.getfield 41, 3) := by decide +kernel
theorem dX6_offer_24 : decode cX6_offer 24 = .ok (.iload_n 1, 1) := by decide +kernel
theorem dX6_offer_25 : decode cX6_offer 25 = .ok (.invokevirtual 37, 3) := by decide +kernel
theorem dX6_offer_28 : decode cX6_offer 28 = .ok (.aload_n 0, 1) := by decide +kernel
theorem dX6_offer_29 : decode cX6_offer 29 = .ok (.dup, 1) := by decide +kernel
theorem dX6_offer_30 : decode cX6_offer 30 = .ok (.getfield 41, 3) := by decide +kernel
theorem dX6_offer_33 : decode cX6_offer 33 = .ok (.iconst 1, 1) := by decide +kernel
theorem dX6_offer_34 : decode cX6_offer 34 = .ok (.iadd, 1) := by decide +kernel
theorem dX6_offer_35 : decode cX6_offer 35 = .ok (.putfield 41, 3) := by decide +kernel
theorem dX6_offer_38 : decode cX6_offer 38 = .ok (.iload 4, 2) := by decide +kernel
theorem dX6_offer_40 : decode cX6_offer 40 = .ok (.iconst (-1), 1) := by decide +kernel
theorem dX6_offer_41 : decode cX6_offer 41 = .ok (.if_icmp .eq 27, 3) := by decide +kernel
theorem dX6_offer_44 : decode cX6_offer 44 = .ok (.iload_n 2, 1) := by decide +kernel
theorem dX6_offer_45 : decode cX6_offer 45 = .ok (.iload 4, 2) := by decide +kernel
theorem dX6_offer_47 : decode cX6_offer 47 = .ok (.if_icmp .lt 21, 3) := by decide +kernel
theorem dX6_offer_50 : decode cX6_offer 50 = .ok (.iload_n 2, 1) := by decide +kernel
theorem dX6_offer_51 : decode cX6_offer 51 = .ok (.iload 4, 2) := by decide +kernel
theorem dX6_offer_53 : decode cX6_offer 53 = .ok (.if_icmp .ne 33, 3) := by decide +kernel
theorem dX6_offer_56 : decode cX6_offer 56 = .ok (.iload_n 3, 1) := by decide +kernel
theorem dX6_offer_57 : decode cX6_offer 57 = .ok (.aload_n 0, 1) := by decide +kernel
theorem dX6_offer_58 : decode cX6_offer 58 = .ok (.getfield 20, 3) := by decide +kernel
theorem dX6_offer_61 : decode cX6_offer 61 = .ok (.iload_n 1, 1) := by decide +kernel
theorem dX6_offer_62 : decode cX6_offer 62 = .ok (.invokevirtual 30, 3) := by decide +kernel
theorem dX6_offer_65 : decode cX6_offer 65 = .ok (.if_icmp .ge 21, 3) := by decide +kernel
theorem dX6_offer_68 : decode cX6_offer 68 = .ok (.aload_n 0, 1) := by decide +kernel
theorem dX6_offer_69 : decode cX6_offer 69 = .ok (.getfield 14, 3) := by decide +kernel
theorem dX6_offer_72 : decode cX6_offer 72 = .ok (.iload_n 1, 1) := by decide +kernel
theorem dX6_offer_73 : decode cX6_offer 73 = .ok (.iload_n 2, 1) := by decide +kernel
theorem dX6_offer_74 : decode cX6_offer 74 = .ok (.invokevirtual 37, 3) := by decide +kernel
theorem dX6_offer_77 : decode cX6_offer 77 = .ok (.aload_n 0, 1) := by decide +kernel
theorem dX6_offer_78 : decode cX6_offer 78 = .ok (.getfield 20, 3) := by decide +kernel
theorem dX6_offer_81 : decode cX6_offer 81 = .ok (.iload_n 1, 1) := by decide +kernel
theorem dX6_offer_82 : decode cX6_offer 82 = .ok (.iload_n 3, 1) := by decide +kernel
theorem dX6_offer_83 : decode cX6_offer 83 = .ok (.invokevirtual 37, 3) := by decide +kernel
theorem dX6_offer_86 : decode cX6_offer 86 = .ok (.return_, 1) := by decide +kernel
theorem dX6_cheapen_0 : decode cX6_cheapen 0 = .ok (.iconst 0, 1) := by decide +kernel
theorem dX6_cheapen_1 : decode cX6_cheapen 1 = .ok (.istore_n 2, 1) := by decide +kernel
theorem dX6_cheapen_2 : decode cX6_cheapen 2 = .ok (.iconst 0, 1) := by decide +kernel
theorem dX6_cheapen_3 : decode cX6_cheapen 3 = .ok (.istore_n 3, 1) := by decide +kernel
theorem dX6_cheapen_4 : decode cX6_cheapen 4 = .ok (.iload_n 3, 1) := by decide +kernel
theorem dX6_cheapen_5 : decode cX6_cheapen 5 = .ok (.iconst 4, 1) := by decide +kernel
theorem dX6_cheapen_6 : decode cX6_cheapen 6 = .ok (.if_icmp .ge 123, 3) := by decide +kernel
theorem dX6_cheapen_9 : decode cX6_cheapen 9 = .ok (.aload_n 0, 1) := by decide +kernel
theorem dX6_cheapen_10 : decode cX6_cheapen 10 = .ok (.getfield 14, 3) := by decide +kernel
theorem dX6_cheapen_13 : decode cX6_cheapen 13 = .ok (.iload_n 1, 1) := by decide +kernel
theorem dX6_cheapen_14 : decode cX6_cheapen 14 = .ok (.invokevirtual 30, 3) := by decide +kernel
theorem dX6_cheapen_17 : decode cX6_cheapen 17 = .ok (.iconst (-1), 1) := by decide +kernel
theorem dX6_cheapen_18 : decode cX6_cheapen 18 = .ok (.if_icmp .eq 111, 3) := by decide +kernel
theorem dX6_cheapen_21 : decode cX6_cheapen 21 = .ok (.aload_n 0, 1) := by decide +kernel
theorem dX6_cheapen_22 : decode cX6_cheapen 22 = .ok (.getfield 26, 3) := by decide +kernel
theorem dX6_cheapen_25 : decode cX6_cheapen 25 = .ok (.iload_n 1, 1) := by decide +kernel
theorem dX6_cheapen_26 : decode cX6_cheapen 26 = .ok (.iload_n 3, 1) := by decide +kernel
theorem dX6_cheapen_27 : decode cX6_cheapen 27 = .ok (.invokevirtual 60, 3) := by decide +kernel
theorem dX6_cheapen_30 : decode cX6_cheapen 30 = .ok (.istore 4, 2) := by decide +kernel
theorem dX6_cheapen_32 : decode cX6_cheapen 32 = .ok (.iload 4, 2) := by decide +kernel
theorem dX6_cheapen_34 : decode cX6_cheapen 34 = .ok (.iconst (-1), 1) := by decide +kernel
theorem dX6_cheapen_35 : decode cX6_cheapen 35 = .ok (.if_icmp .eq 88, 3) := by decide +kernel
theorem dX6_cheapen_38 : decode cX6_cheapen 38 = .ok (.aload_n 0, 1) := by decide +kernel
theorem dX6_cheapen_39 : decode cX6_cheapen 39 = .ok (.getfield 26, 3) := by decide +kernel
theorem dX6_cheapen_42 : decode cX6_cheapen 42 = .ok (.iload 4, 2) := by decide +kernel
theorem dX6_cheapen_44 : decode cX6_cheapen 44 = .ok (.invokevirtual 66, 3) := by decide +kernel
theorem dX6_cheapen_47 : decode cX6_cheapen 47 = .ok (.ifCond .ne 76, 3) := by decide +kernel
theorem dX6_cheapen_50 : decode cX6_cheapen 50 = .ok (.aload_n 0, 1) := by decide +kernel
theorem dX6_cheapen_51 : decode cX6_cheapen 51 = .ok (.getfield 14, 3) := by decide +kernel
theorem dX6_cheapen_54 : decode cX6_cheapen 54 = .ok (.iload_n 1, 1) := by decide +kernel
theorem dX6_cheapen_55 : decode cX6_cheapen 55 = .ok (.invokevirtual 30, 3) := by decide +kernel
theorem dX6_cheapen_58 : decode cX6_cheapen 58 = .ok (.aload_n 0, 1) := by decide +kernel
theorem dX6_cheapen_59 : decode cX6_cheapen 59 = .ok (.getfield 26, 3) := by decide +kernel
theorem dX6_cheapen_62 : decode cX6_cheapen 62 = .ok (.iload 4, 2) := by decide +kernel
theorem dX6_cheapen_64 : decode cX6_cheapen 64 = .ok (.invokevirtual 72, 3) := by decide +kernel
theorem dX6_cheapen_67 : decode cX6_cheapen 67 = .ok (.iadd, 1) := by decide +kernel
theorem dX6_cheapen_68 : decode cX6_cheapen 68 = .ok (.iconst 4, 1) := by decide +kernel
theorem dX6_cheapen_69 : decode cX6_cheapen 69 = .ok (.aload_n 0, 1) := by decide +kernel
theorem dX6_cheapen_70 : decode cX6_cheapen 70 = .ok (.getfield 26, 3) := by decide +kernel
theorem dX6_cheapen_73 : decode cX6_cheapen 73 = .ok (.iload_n 1, 1) := by decide +kernel
theorem dX6_cheapen_74 : decode cX6_cheapen 74 = .ok (.iload 4, 2) := by decide +kernel
theorem dX6_cheapen_76 : decode cX6_cheapen 76 = .ok (.invokevirtual 69, 3) := by decide +kernel
theorem dX6_cheapen_79 : decode cX6_cheapen 79 = .ok (.imul, 1) := by decide +kernel
theorem dX6_cheapen_80 : decode cX6_cheapen 80 = .ok (.iadd, 1) := by decide +kernel
theorem dX6_cheapen_81 : decode cX6_cheapen 81 = .ok (.istore 5, 2) := by decide +kernel
theorem dX6_cheapen_83 : decode cX6_cheapen 83 = .ok (.aload_n 0, 1) := by decide +kernel
theorem dX6_cheapen_84 : decode cX6_cheapen 84 = .ok (.getfield 14, 3) := by decide +kernel
theorem dX6_cheapen_87 : decode cX6_cheapen 87 = .ok (.iload 4, 2) := by decide +kernel
theorem dX6_cheapen_89 : decode cX6_cheapen 89 = .ok (.invokevirtual 30, 3) := by decide +kernel
theorem dX6_cheapen_92 : decode cX6_cheapen 92 = .ok (.iconst (-1), 1) := by decide +kernel
theorem dX6_cheapen_93 : decode cX6_cheapen 93 = .ok (.if_icmp .eq 17, 3) := by decide +kernel
theorem dX6_cheapen_96 : decode cX6_cheapen 96 = .ok (.iload 5, 2) := by decide +kernel
theorem dX6_cheapen_98 : decode cX6_cheapen 98 = .ok (.aload_n 0, 1) := by decide +kernel
theorem dX6_cheapen_99 : decode cX6_cheapen 99 = .ok (.getfield 14, 3) := by decide +kernel
theorem dX6_cheapen_102 : decode cX6_cheapen 102 = .ok (.iload 4, 2) := by decide +kernel
theorem dX6_cheapen_104 : decode cX6_cheapen 104 = .ok (.invokevirtual 30, 3) := by decide +kernel
theorem dX6_cheapen_107 : decode cX6_cheapen 107 = .ok (.if_icmp .ge 16, 3) := by decide +kernel
theorem dX6_cheapen_110 : decode cX6_cheapen 110 = .ok (.aload_n 0, 1) := by decide +kernel
theorem dX6_cheapen_111 : decode cX6_cheapen 111 = .ok (.getfield 14, 3) := by decide +kernel
theorem dX6_cheapen_114 : decode cX6_cheapen 114 = .ok (.iload 4, 2) := by decide +kernel
theorem dX6_cheapen_116 : decode cX6_cheapen 116 = .ok (.iload 5, 2) := by decide +kernel
theorem dX6_cheapen_118 : decode cX6_cheapen 118 = .ok (.invokevirtual 37, 3) := by decide +kernel
theorem dX6_cheapen_121 : decode cX6_cheapen 121 = .ok (.iconst 1, 1) := by decide +kernel
theorem dX6_cheapen_122 : decode cX6_cheapen 122 = .ok (.istore_n 2, 1) := by decide +kernel
theorem dX6_cheapen_123 : decode cX6_cheapen 123 = .ok (.iinc 3 1, 3) := by decide +kernel
theorem dX6_cheapen_126 : decode cX6_cheapen 126 = .ok (.goto (-122), 3) := by decide +kernel
theorem dX6_cheapen_129 : decode cX6_cheapen 129 = .ok (.iload_n 2, 1) := by decide +kernel
theorem dX6_cheapen_130 : decode cX6_cheapen 130 = .ok (.ireturn, 1) := by decide +kernel
theorem dX7_init_0 : decode cX7_init 0 = .ok (.aload_n 0, 1) := by decide +kernel
theorem dX7_init_1 : decode cX7_init 1 = .ok (.invokespecial 3, 3) := by decide +kernel
theorem dX7_init_4 : decode cX7_init 4 = .ok (.aload_n 0, 1) := by decide +kernel
theorem dX7_init_5 : decode cX7_init 5 = .ok (.iconst 0, 1) := by decide +kernel
theorem dX7_init_6 : decode cX7_init 6 = .ok (.iload_n 1, 1) := by decide +kernel
theorem dX7_init_7 : decode cX7_init 7 = .ok (.invokestatic 9, 3) := by decide +kernel
theorem dX7_init_10 : decode cX7_init 10 = .ok (.newarray .int, 2) := by decide +kernel
theorem dX7_init_12 : decode cX7_init 12 = .ok (.putfield 15, 3) := by decide +kernel
theorem dX7_init_15 : decode cX7_init 15 = .ok (.return_, 1) := by decide +kernel
theorem dX7_get_0 : decode cX7_get 0 = .ok (.iload_n 1, 1) := by decide +kernel
theorem dX7_get_1 : decode cX7_get 1 = .ok (.ifCond .lt 21, 3) := by decide +kernel
theorem dX7_get_4 : decode cX7_get 4 = .ok (.iload_n 1, 1) := by decide +kernel
theorem dX7_get_5 : decode cX7_get 5 = .ok (.aload_n 0, 1) := by decide +kernel
theorem dX7_get_6 : decode cX7_get 6 = .ok (.getfield 15, 3) := by decide +kernel
theorem dX7_get_9 : decode cX7_get 9 = .ok (.arraylength, 1) := by decide +kernel
theorem dX7_get_10 : decode cX7_get 10 = .ok (.if_icmp .ge 12, 3) := by decide +kernel
theorem dX7_get_13 : decode cX7_get 13 = .ok (.aload_n 0, 1) := by decide +kernel
theorem dX7_get_14 : decode cX7_get 14 = .ok (.getfield 15, 3) := by decide +kernel
theorem dX7_get_17 : decode cX7_get 17 = .ok (.iload_n 1, 1) := by decide +kernel
theorem dX7_get_18 : decode cX7_get 18 = .ok (.iaload, 1) := by decide +kernel
theorem dX7_get_19 : decode cX7_get 19 = .ok (.goto 4, 3) := by decide +kernel
theorem dX7_get_22 : decode cX7_get 22 = .ok (.iconst (-1), 1) := by decide +kernel
theorem dX7_get_23 : decode cX7_get 23 = .ok (.ireturn, 1) := by decide +kernel
theorem dX7_put_0 : decode cX7_put 0 = .ok (.iload_n 1, 1) := by decide +kernel
theorem dX7_put_1 : decode cX7_put 1 = .ok (.ifCond .lt 19, 3) := by decide +kernel
theorem dX7_put_4 : decode cX7_put 4 = .ok (.iload_n 1, 1) := by decide +kernel
theorem dX7_put_5 : decode cX7_put 5 = .ok (.aload_n 0, 1) := by decide +kernel
theorem dX7_put_6 : decode cX7_put 6 = .ok (.getfield 15, 3) := by decide +kernel
theorem dX7_put_9 : decode cX7_put 9 = .ok (.arraylength, 1) := by decide +kernel
theorem dX7_put_10 : decode cX7_put 10 = .ok (.if_icmp .ge 10, 3) := by decide +kernel
theorem dX7_put_13 : decode cX7_put 13 = .ok (.aload_n 0, 1) := by decide +kernel
theorem dX7_put_14 : decode cX7_put 14 = .ok (.getfield 15, 3) := by decide +kernel
theorem dX7_put_17 : decode cX7_put 17 = .ok (.iload_n 1, 1) := by decide +kernel
theorem dX7_put_18 : decode cX7_put 18 = .ok (.iload_n 2, 1) := by decide +kernel
theorem dX7_put_19 : decode cX7_put 19 = .ok (.iastore, 1) := by decide +kernel
theorem dX7_put_20 : decode cX7_put 20 = .ok (.return_, 1) := by decide +kernel
theorem dX7_fill_0 : decode cX7_fill 0 = .ok (.iconst 0, 1) := by decide +kernel
theorem dX7_fill_1 : decode cX7_fill 1 = .ok (.istore_n 2, 1) := by decide +kernel
theorem dX7_fill_2 : decode cX7_fill 2 = .ok (.iload_n 2, 1) := by decide +kernel
theorem dX7_fill_3 : decode cX7_fill 3 = .ok (.aload_n 0, 1) := by decide +kernel
theorem dX7_fill_4 : decode cX7_fill 4 = .ok (.getfield 15, 3) := by decide +kernel
theorem dX7_fill_7 : decode cX7_fill 7 = .ok (.arraylength, 1) := by decide +kernel
theorem dX7_fill_8 : decode cX7_fill 8 = .ok (.if_icmp .ge 16, 3) := by decide +kernel
theorem dX7_fill_11 : decode cX7_fill 11 = .ok (.aload_n 0, 1) := by decide +kernel
theorem dX7_fill_12 : decode cX7_fill 12 = .ok (.getfield 15, 3) := by decide +kernel
theorem dX7_fill_15 : decode cX7_fill 15 = .ok (.iload_n 2, 1) := by decide +kernel
theorem dX7_fill_16 : decode cX7_fill 16 = .ok (.iload_n 1, 1) := by decide +kernel
theorem dX7_fill_17 : decode cX7_fill 17 = .ok (.iastore, 1) := by decide +kernel
theorem dX7_fill_18 : decode cX7_fill 18 = .ok (.iinc 2 1, 3) := by decide +kernel
theorem dX7_fill_21 : decode cX7_fill 21 = .ok (.goto (-19), 3) := by decide +kernel
theorem dX7_fill_24 : decode cX7_fill 24 = .ok (.return_, 1) := by decide +kernel
theorem dX7_increase_0 : decode cX7_increase 0 = .ok (.aload_n 0, 1) := by decide +kernel
theorem dX7_increase_1 : decode cX7_increase 1 = .ok (.iload_n 1, 1) := by decide +kernel
theorem dX7_increase_2 : decode cX7_increase 2 = .ok (.aload_n 0, 1) := by decide +kernel
theorem dX7_increase_3 : decode cX7_increase 3 = .ok (.iload_n 1, 1) := by decide +kernel
theorem dX7_increase_4 : decode cX7_increase 4 = .ok (.invokevirtual 21, 3) := by decide +kernel
theorem dX7_increase_7 : decode cX7_increase 7 = .ok (.iload_n 2, 1) := by decide +kernel
theorem dX7_increase_8 : decode cX7_increase 8 = .ok (.iadd, 1) := by decide +kernel
theorem dX7_increase_9 : decode cX7_increase 9 = .ok (.invokevirtual 25, 3) := by decide +kernel
theorem dX7_increase_12 : decode cX7_increase 12 = .ok (.return_, 1) := by decide +kernel
theorem dX8_init_0 : decode cX8_init 0 = .ok (.aload_n 0, 1) := by decide +kernel
theorem dX8_init_1 : decode cX8_init 1 = .ok (.invokespecial 3, 3) := by decide +kernel
theorem dX8_init_4 : decode cX8_init 4 = .ok (.aload_n 0, 1) := by decide +kernel
theorem dX8_init_5 : decode cX8_init 5 = .ok (.new 9, 3) := by decide +kernel
theorem dX8_init_8 : decode cX8_init 8 = .ok (.dup, 1) := by decide +kernel
theorem dX8_init_9 : decode cX8_init 9 = .ok (.sipush 144, 3) := by decide +kernel
theorem dX8_init_12 : decode cX8_init 12 = .ok (.invokespecial 11, 3) := by decide +kernel
theorem dX8_init_15 : decode cX8_init 15 = .ok (.putfield 14, 3) := by decide +kernel
theorem dX8_init_18 : decode cX8_init 18 = .ok (.aload_n 0, 1) := by decide +kernel
theorem dX8_init_19 : decode cX8_init 19 = .ok (.new 9, 3) := by decide +kernel
theorem dX8_init_22 : decode cX8_init 22 = .ok (.dup, 1) := by decide +kernel
theorem dX8_init_23 : decode cX8_init 23 = .ok (.sipush 144, 3) := by decide +kernel
theorem dX8_init_26 : decode cX8_init 26 = .ok (.invokespecial 11, 3) := by decide +kernel
theorem dX8_init_29 : decode cX8_init 29 = .ok (.putfield 20, 3) := by decide +kernel
theorem dX8_init_32 : decode cX8_init 32 = .ok (.aload_n 0, 1) := by decide +kernel
theorem dX8_init_33 : decode cX8_init 33 = .ok (.iload_n 1, 1) := by decide +kernel
theorem dX8_init_34 : decode cX8_init 34 = .ok (.putfield 23, 3) := by decide +kernel
theorem dX8_init_37 : decode cX8_init 37 = .ok (.aload_n 0, 1) := by decide +kernel
theorem dX8_init_38 : decode cX8_init 38 = .ok (.iload_n 2, 1) := by decide +kernel
theorem dX8_init_39 : decode cX8_init 39 = .ok (.putfield 27, 3) := by decide +kernel
theorem dX8_init_42 : decode cX8_init 42 = .ok (.return_, 1) := by decide +kernel
theorem dX8_number_0 : decode cX8_number 0 = .ok (.iload_n 1, 1) := by decide +kernel
theorem dX8_number_1 : decode cX8_number 1 = .ok (.bipush 12, 2) := by decide +kernel
theorem dX8_number_3 : decode cX8_number 3 = .ok (.imul, 1) := by decide +kernel
theorem dX8_number_4 : decode cX8_number 4 = .ok (.iload_n 0, 1) := by decide +kernel
theorem dX8_number_5 : decode cX8_number 5 = .ok (.iadd, 1) := by decide +kernel
theorem dX8_number_6 : decode cX8_number 6 = .ok (.ireturn, 1) := by decide +kernel
theorem dX8_has_0 : decode cX8_has 0 = .ok (.iload_n 1, 1) := by decide +kernel
theorem dX8_has_1 : decode cX8_has 1 = .ok (.ifCond .lt 27, 3) := by decide +kernel
theorem dX8_has_4 : decode cX8_has 4 = .ok (.iload_n 1, 1) := by decide +kernel
theorem dX8_has_5 : decode cX8_has 5 = .ok (.aload_n 0, 1) := by decide +kernel
theorem dX8_has_6 : decode cX8_has 6 = .ok (.getfield 23, 3) := by decide +kernel
theorem dX8_has_9 : decode cX8_has 9 = .ok (.if_icmp .ge 19, 3) := by decide +kernel
theorem dX8_has_12 : decode cX8_has 12 = .ok (.iload_n 2, 1) := by decide +kernel
theorem dX8_has_13 : decode cX8_has 13 = .ok (.ifCond .lt 15, 3) := by decide +kernel
theorem dX8_has_16 : decode cX8_has 16 = .ok (.iload_n 2, 1) := by decide +kernel
theorem dX8_has_17 : decode cX8_has 17 = .ok (.aload_n 0, 1) := by decide +kernel
theorem dX8_has_18 : decode cX8_has 18 = .ok (.getfield 27, 3) := by decide +kernel
theorem dX8_has_21 : decode cX8_has 21 = .ok (.if_icmp .ge 7, 3) := by decide +kernel
theorem dX8_has_24 : decode cX8_has 24 = .ok (.iconst 1, 1) := by decide +kernel
theorem dX8_has_25 : decode cX8_has 25 = .ok (.goto 4, 3) := by decide +kernel
theorem dX8_has_28 : decode cX8_has 28 = .ok (.iconst 0, 1) := by decide +kernel
theorem dX8_has_29 : decode cX8_has 29 = .ok (.ireturn, 1) := by decide +kernel
theorem dX8_columns_0 : decode cX8_columns 0 = .ok (.aload_n 0, 1) := by decide +kernel
theorem dX8_columns_1 : decode cX8_columns 1 = .ok (.getfield 23, 3) := by decide +kernel
theorem dX8_columns_4 : decode cX8_columns 4 = .ok (.ireturn, 1) := by decide +kernel
theorem dX8_rows_0 : decode cX8_rows 0 = .ok (.aload_n 0, 1) := by decide +kernel
theorem dX8_rows_1 : decode cX8_rows 1 = .ok (.getfield 27, 3) := by decide +kernel
theorem dX8_rows_4 : decode cX8_rows 4 = .ok (.ireturn, 1) := by decide +kernel
theorem dX8_heightOf_0 : decode cX8_heightOf 0 = .ok (.aload_n 0, 1) := by decide +kernel
theorem dX8_heightOf_1 : decode cX8_heightOf 1 = .ok (.getfield 14, 3) := by decide +kernel
theorem dX8_heightOf_4 : decode cX8_heightOf 4 = .ok (.iload_n 1, 1) := by decide +kernel
theorem dX8_heightOf_5 : decode cX8_heightOf 5 = .ok (.invokevirtual 30, 3) := by decide +kernel
theorem dX8_heightOf_8 : decode cX8_heightOf 8 = .ok (.ireturn, 1) := by decide +kernel
theorem dX8_groundOf_0 : decode cX8_groundOf 0 = .ok (.aload_n 0, 1) := by decide +kernel
theorem dX8_groundOf_1 : decode cX8_groundOf 1 = .ok (.getfield 20, 3) := by decide +kernel
theorem dX8_groundOf_4 : decode cX8_groundOf 4 = .ok (.iload_n 1, 1) := by decide +kernel
theorem dX8_groundOf_5 : decode cX8_groundOf 5 = .ok (.invokevirtual 30, 3) := by decide +kernel
theorem dX8_groundOf_8 : decode cX8_groundOf 8 = .ok (.ireturn, 1) := by decide +kernel
theorem dX8_isForbidden_0 : decode cX8_isForbidden 0 = .ok (.aload_n 0, 1) := by decide +kernel
theorem dX8_isForbidden_1 : decode cX8_isForbidden 1 = .ok (.getfield 20, 3) := by decide +kernel
theorem dX8_isForbidden_4 : decode cX8_isForbidden 4 = .ok (.iload_n 1, 1) := by decide +kernel
theorem dX8_isForbidden_5 : decode cX8_isForbidden 5 = .ok (.invokevirtual 30, 3) := by decide +kernel
theorem dX8_isForbidden_8 : decode cX8_isForbidden 8 = .ok (.iconst 4, 1) := by decide +kernel
theorem dX8_isForbidden_9 : decode cX8_isForbidden 9 = .ok (.if_icmp .ne 7, 3) := by decide +kernel
theorem dX8_isForbidden_12 : decode cX8_isForbidden 12 = .ok (.iconst 1, 1) := by decide +kernel
theorem dX8_isForbidden_13 : decode cX8_isForbidden 13 = .ok (.goto 4, 3) := by decide +kernel
theorem dX8_isForbidden_16 : decode cX8_isForbidden 16 = .ok (.iconst 0, 1) := by decide +kernel
theorem dX8_isForbidden_17 : decode cX8_isForbidden 17 = .ok (.ireturn, 1) := by decide +kernel
theorem dX8_replaceHeight_0 : decode cX8_replaceHeight 0 = .ok (.aload_n 0, 1) := by decide +kernel
theorem dX8_replaceHeight_1 : decode cX8_replaceHeight 1 = .ok (.getfield 14, 3) := by decide +kernel
theorem dX8_replaceHeight_4 : decode cX8_replaceHeight 4 = .ok (.iload_n 1, 1) := by decide +kernel
theorem dX8_replaceHeight_5 : decode cX8_replaceHeight 5 = .ok (.invokevirtual 30, 3) := by decide +kernel
theorem dX8_replaceHeight_8 : decode cX8_replaceHeight 8 = .ok (.istore_n 3, 1) := by decide +kernel
theorem dX8_replaceHeight_9 : decode cX8_replaceHeight 9 = .ok (.aload_n 0, 1) := by decide +kernel
theorem dX8_replaceHeight_10 : decode cX8_replaceHeight 10 = .ok (.getfield 14, 3) := by decide +kernel
theorem dX8_replaceHeight_13 : decode cX8_replaceHeight 13 = .ok (.iload_n 1, 1) := by decide +kernel
theorem dX8_replaceHeight_14 : decode cX8_replaceHeight 14 = .ok (.iload_n 2, 1) := by decide +kernel
theorem dX8_replaceHeight_15 : decode cX8_replaceHeight 15 = .ok (.invokevirtual 34, 3) := by decide +kernel
theorem dX8_replaceHeight_18 : decode cX8_replaceHeight 18 = .ok (.iload_n 3, 1) := by decide +kernel
theorem dX8_replaceHeight_19 : decode cX8_replaceHeight 19 = .ok (.ireturn, 1) := by decide +kernel
theorem dX8_raiseAround_0 : decode cX8_raiseAround 0 = .ok (.iconst 0, 1) := by decide +kernel
theorem dX8_raiseAround_1 : decode cX8_raiseAround 1 = .ok (.istore 5, 2) := by decide +kernel
theorem dX8_raiseAround_3 : decode cX8_raiseAround 3 = .ok (.iconst 0, 1) := by decide +kernel
theorem dX8_raiseAround_4 : decode cX8_raiseAround 4 = .ok (.istore 6, 2) := by decide +kernel
theorem dX8_raiseAround_6 : decode cX8_raiseAround 6 = .ok (.iload 6, 2) := by decide +kernel
theorem dX8_raiseAround_8 : decode cX8_raiseAround 8 = .ok (.aload_n 0, 1) := by decide +kernel
theorem dX8_raiseAround_9 : decode cX8_raiseAround 9 = .ok (.getfield 27, 3) := by decide +kernel
theorem dX8_raiseAround_12 : decode cX8_raiseAround 12 = .ok (.if_icmp .ge 93, 3) := by decide +kernel
theorem dX8_raiseAround_15 : decode cX8_raiseAround 15 = .ok (.iconst 0, 1) := by decide +kernel
theorem dX8_raiseAround_16 : decode cX8_raiseAround 16 = .ok (.istore 7, 2) := by decide +kernel
theorem dX8_raiseAround_18 : decode cX8_raiseAround 18 = .ok (.iload 7, 2) := by decide +kernel
theorem dX8_raiseAround_20 : decode cX8_raiseAround 20 = .ok (.aload_n 0, 1) := by decide +kernel
theorem dX8_raiseAround_21 : decode cX8_raiseAround 21 = .ok (.getfield 23, 3) := by decide +kernel
theorem dX8_raiseAround_24 : decode cX8_raiseAround 24 = .ok (.if_icmp .ge 75, 3) := by decide +kernel
theorem dX8_raiseAround_27 : decode cX8_raiseAround 27 = .ok (.iload 7, 2) := by decide +kernel
theorem dX8_raiseAround_29 : decode cX8_raiseAround 29 = .ok (.iload_n 1, 1) := by decide +kernel
theorem dX8_raiseAround_30 : decode cX8_raiseAround 30 = .ok (.isub, 1) := by decide +kernel
theorem dX8_raiseAround_31 : decode cX8_raiseAround 31 = .ok (.invokestatic 38, 3) := by decide +kernel
theorem dX8_raiseAround_34 : decode cX8_raiseAround 34 = .ok (.iload 6, 2) := by decide +kernel
theorem dX8_raiseAround_36 : decode cX8_raiseAround 36 = .ok (.iload_n 2, 1) := by decide +kernel
theorem dX8_raiseAround_37 : decode cX8_raiseAround 37 = .ok (.isub, 1) := by decide +kernel
theorem dX8_raiseAround_38 : decode cX8_raiseAround 38 = .ok (.invokestatic 38, 3) := by decide +kernel
theorem dX8_raiseAround_41 : decode cX8_raiseAround 41 = .ok (.invokestatic 43, 3) := by decide +kernel
theorem dX8_raiseAround_44 : decode cX8_raiseAround 44 = .ok (.istore 8, 2) := by decide +kernel
theorem dX8_raiseAround_46 : decode cX8_raiseAround 46 = .ok (.iload_n 3, 1) := by decide +kernel
theorem dX8_raiseAround_47 : decode cX8_raiseAround 47 = .ok (.iload 4, 2) := by decide +kernel
theorem dX8_raiseAround_49 : decode cX8_raiseAround 49 = .ok (.iload 8, 2) := by decide +kernel
theorem dX8_raiseAround_51 : decode cX8_raiseAround 51 = .ok (.imul, 1) := by decide +kernel
theorem dX8_raiseAround_52 : decode cX8_raiseAround 52 = .ok (.isub, 1) := by decide +kernel
theorem dX8_raiseAround_53 : decode cX8_raiseAround 53 = .ok (.istore 9, 2) := by decide +kernel
theorem dX8_raiseAround_55 : decode cX8_raiseAround 55 = .ok (.aload_n 0, 1) := by decide +kernel
theorem dX8_raiseAround_56 : decode cX8_raiseAround 56 = .ok (.getfield 14, 3) := by decide +kernel
theorem dX8_raiseAround_59 : decode cX8_raiseAround 59 = .ok (.iload 7, 2) := by decide +kernel
theorem dX8_raiseAround_61 : decode cX8_raiseAround 61 = .ok (.iload 6, 2) := by decide +kernel
theorem dX8_raiseAround_63 : decode cX8_raiseAround 63 = .ok (.invokestatic 47, 3) := by decide +kernel
theorem dX8_raiseAround_66 : decode cX8_raiseAround 66 = .ok (.invokevirtual 30, 3) := by decide +kernel
theorem dX8_raiseAround_69 : decode cX8_raiseAround 69 = .ok (.iload 9, 2) := by decide +kernel
theorem dX8_raiseAround_71 : decode cX8_raiseAround 71 = .ok (.if_icmp .ge 22, 3) := by decide +kernel
theorem dX8_raiseAround_74 : decode cX8_raiseAround 74 = .ok (.aload_n 0, 1) := by decide +kernel
theorem dX8_raiseAround_75 : decode cX8_raiseAround 75 = .ok (.getfield 14, 3) := by decide +kernel
theorem dX8_raiseAround_78 : decode cX8_raiseAround 78 = .ok (.iload 7, 2) := by decide +kernel
theorem dX8_raiseAround_80 : decode cX8_raiseAround 80 = .ok (.iload 6, 2) := by decide +kernel
theorem dX8_raiseAround_82 : decode cX8_raiseAround 82 = .ok (.invokestatic 47, 3) := by decide +kernel
theorem dX8_raiseAround_85 : decode cX8_raiseAround 85 = .ok (.iload 9, 2) := by decide +kernel
theorem dX8_raiseAround_87 : decode cX8_raiseAround 87 = .ok (.invokevirtual 34, 3) := by decide +kernel
theorem dX8_raiseAround_90 : decode cX8_raiseAround 90 = .ok (.iinc 5 1, 3) := by decide +kernel
theorem dX8_raiseAround_93 : decode cX8_raiseAround 93 = .ok (.iinc 7 1, 3) := by decide +kernel
theorem dX8_raiseAround_96 : decode cX8_raiseAround 96 = .ok (.goto (-78), 3) := by decide +kernel
theorem dX8_raiseAround_99 : decode cX8_raiseAround 99 = .ok (.iinc 6 1, 3) := by decide +kernel
theorem dX8_raiseAround_102 : decode cX8_raiseAround 102 = .ok (.goto (-96), 3) := by decide +kernel
theorem dX8_raiseAround_105 : decode cX8_raiseAround 105 = .ok (.iload 5, 2) := by decide +kernel
theorem dX8_raiseAround_107 : decode cX8_raiseAround 107 = .ok (.ireturn, 1) := by decide +kernel
theorem dX8_cover_0 : decode cX8_cover 0 = .ok (.iconst 0, 1) := by decide +kernel
theorem dX8_cover_1 : decode cX8_cover 1 = .ok (.istore 6, 2) := by decide +kernel
theorem dX8_cover_3 : decode cX8_cover 3 = .ok (.iload_n 2, 1) := by decide +kernel
theorem dX8_cover_4 : decode cX8_cover 4 = .ok (.istore 7, 2) := by decide +kernel
theorem dX8_cover_6 : decode cX8_cover 6 = .ok (.iload 7, 2) := by decide +kernel
theorem dX8_cover_8 : decode cX8_cover 8 = .ok (.aload_n 0, 1) := by decide +kernel
theorem dX8_cover_9 : decode cX8_cover 9 = .ok (.getfield 27, 3) := by decide +kernel
theorem dX8_cover_12 : decode cX8_cover 12 = .ok (.if_icmp .ge 78, 3) := by decide +kernel
theorem dX8_cover_15 : decode cX8_cover 15 = .ok (.iload 7, 2) := by decide +kernel
theorem dX8_cover_17 : decode cX8_cover 17 = .ok (.iload 4, 2) := by decide +kernel
theorem dX8_cover_19 : decode cX8_cover 19 = .ok (.if_icmp .gt 71, 3) := by decide +kernel
theorem dX8_cover_22 : decode cX8_cover 22 = .ok (.iload_n 1, 1) := by decide +kernel
theorem dX8_cover_23 : decode cX8_cover 23 = .ok (.istore 8, 2) := by decide +kernel
theorem dX8_cover_25 : decode cX8_cover 25 = .ok (.iload 8, 2) := by decide +kernel
theorem dX8_cover_27 : decode cX8_cover 27 = .ok (.aload_n 0, 1) := by decide +kernel
theorem dX8_cover_28 : decode cX8_cover 28 = .ok (.getfield 23, 3) := by decide +kernel
theorem dX8_cover_31 : decode cX8_cover 31 = .ok (.if_icmp .ge 53, 3) := by decide +kernel
theorem dX8_cover_34 : decode cX8_cover 34 = .ok (.iload 8, 2) := by decide +kernel
theorem dX8_cover_36 : decode cX8_cover 36 = .ok (.iload_n 3, 1) := by decide +kernel
theorem dX8_cover_37 : decode cX8_cover 37 = .ok (.if_icmp .gt 47, 3) := by decide +kernel
theorem dX8_cover_40 : decode cX8_cover 40 = .ok (.aload_n 0, 1) := by decide +kernel
theorem dX8_cover_41 : decode cX8_cover 41 = .ok (.getfield 20, 3) := by decide +kernel
theorem dX8_cover_44 : decode cX8_cover 44 = .ok (.iload 8, 2) := by decide +kernel
theorem dX8_cover_46 : decode cX8_cover 46 = .ok (.iload 7, 2) := by decide +kernel
theorem dX8_cover_48 : decode cX8_cover 48 = .ok (.invokestatic 47, 3) := by decide +kernel
theorem dX8_cover_51 : decode cX8_cover 51 = .ok (.invokevirtual 30, 3) := by decide +kernel
theorem dX8_cover_54 : decode cX8_cover 54 = .ok (.iload 5, 2) := by decide +kernel
theorem dX8_cover_56 : decode cX8_cover 56 = .ok (.if_icmp .eq 22, 3) := by decide +kernel
theorem dX8_cover_59 : decode cX8_cover 59 = .ok (.aload_n 0, 1) := by decide +kernel
theorem dX8_cover_60 : decode cX8_cover 60 = .ok (.getfield 20, 3) := by decide +kernel
theorem dX8_cover_63 : decode cX8_cover 63 = .ok (.iload 8, 2) := by decide +kernel
theorem dX8_cover_65 : decode cX8_cover 65 = .ok (.iload 7, 2) := by decide +kernel
theorem dX8_cover_67 : decode cX8_cover 67 = .ok (.invokestatic 47, 3) := by decide +kernel
theorem dX8_cover_70 : decode cX8_cover 70 = .ok (.iload 5, 2) := by decide +kernel
theorem dX8_cover_72 : decode cX8_cover 72 = .ok (.invokevirtual 34, 3) := by decide +kernel
theorem dX8_cover_75 : decode cX8_cover 75 = .ok (.iinc 6 1, 3) := by decide +kernel
theorem dX8_cover_78 : decode cX8_cover 78 = .ok (.iinc 8 1, 3) := by decide +kernel
theorem dX8_cover_81 : decode cX8_cover 81 = .ok (.goto (-56), 3) := by decide +kernel
theorem dX8_cover_84 : decode cX8_cover 84 = .ok (.iinc 7 1, 3) := by decide +kernel
theorem dX8_cover_87 : decode cX8_cover 87 = .ok (.goto (-81), 3) := by decide +kernel
theorem dX8_cover_90 : decode cX8_cover 90 = .ok (.iload 6, 2) := by decide +kernel
theorem dX8_cover_92 : decode cX8_cover 92 = .ok (.ireturn, 1) := by decide +kernel
theorem dX8_beyond_0 : decode cX8_beyond 0 = .ok (.iload_n 1, 1) := by decide +kernel
theorem dX8_beyond_1 : decode cX8_beyond 1 = .ok (.bipush 12, 2) := by decide +kernel
theorem dX8_beyond_3 : decode cX8_beyond 3 = .ok (.irem, 1) := by decide +kernel
theorem dX8_beyond_4 : decode cX8_beyond 4 = .ok (.istore_n 3, 1) := by decide +kernel
theorem dX8_beyond_5 : decode cX8_beyond 5 = .ok (.iload_n 1, 1) := by decide +kernel
theorem dX8_beyond_6 : decode cX8_beyond 6 = .ok (.bipush 12, 2) := by decide +kernel
theorem dX8_beyond_8 : decode cX8_beyond 8 = .ok (.idiv, 1) := by decide +kernel
theorem dX8_beyond_9 : decode cX8_beyond 9 = .ok (.istore 4, 2) := by decide +kernel
theorem dX8_beyond_11 : decode cX8_beyond 11 = .ok (.iload_n 2, 1) := by decide +kernel
theorem dX8_beyond_12 : decode cX8_beyond 12 = .ok (.tableswitch 46 0 2 #[28, 34, 40], 28) := by decide +kernel
theorem dX8_beyond_40 : decode cX8_beyond 40 = .ok (.iinc 3 1, 3) := by decide +kernel
theorem dX8_beyond_43 : decode cX8_beyond 43 = .ok (.goto 18, 3) := by decide +kernel
theorem dX8_beyond_46 : decode cX8_beyond 46 = .ok (.iinc 3 (-1), 3) := by decide +kernel
theorem dX8_beyond_49 : decode cX8_beyond 49 = .ok (.goto 12, 3) := by decide +kernel
theorem dX8_beyond_52 : decode cX8_beyond 52 = .ok (.iinc 4 1, 3) := by decide +kernel
theorem dX8_beyond_55 : decode cX8_beyond 55 = .ok (.goto 6, 3) := by decide +kernel
theorem dX8_beyond_58 : decode cX8_beyond 58 = .ok (.iinc 4 (-1), 3) := by decide +kernel
theorem dX8_beyond_61 : decode cX8_beyond 61 = .ok (.aload_n 0, 1) := by decide +kernel
theorem dX8_beyond_62 : decode cX8_beyond 62 = .ok (.iload_n 3, 1) := by decide +kernel
theorem dX8_beyond_63 : decode cX8_beyond 63 = .ok (.iload 4, 2) := by decide +kernel
theorem dX8_beyond_65 : decode cX8_beyond 65 = .ok (.invokevirtual 50, 3) := by decide +kernel
theorem dX8_beyond_68 : decode cX8_beyond 68 = .ok (.ifCond .eq 12, 3) := by decide +kernel
theorem dX8_beyond_71 : decode cX8_beyond 71 = .ok (.iload_n 3, 1) := by decide +kernel
theorem dX8_beyond_72 : decode cX8_beyond 72 = .ok (.iload 4, 2) := by decide +kernel
theorem dX8_beyond_74 : decode cX8_beyond 74 = .ok (.invokestatic 47, 3) := by decide +kernel
theorem dX8_beyond_77 : decode cX8_beyond 77 = .ok (.goto 4, 3) := by decide +kernel
theorem dX8_beyond_80 : decode cX8_beyond 80 = .ok (.iconst (-1), 1) := by decide +kernel
theorem dX8_beyond_81 : decode cX8_beyond 81 = .ok (.ireturn, 1) := by decide +kernel
theorem dX8_climbBetween_0 : decode cX8_climbBetween 0 = .ok (.iconst 0, 1) := by decide +kernel
theorem dX8_climbBetween_1 : decode cX8_climbBetween 1 = .ok (.aload_n 0, 1) := by decide +kernel
theorem dX8_climbBetween_2 : decode cX8_climbBetween 2 = .ok (.getfield 14, 3) := by decide +kernel
theorem dX8_climbBetween_5 : decode cX8_climbBetween 5 = .ok (.iload_n 2, 1) := by decide +kernel
theorem dX8_climbBetween_6 : decode cX8_climbBetween 6 = .ok (.invokevirtual 30, 3) := by decide +kernel
theorem dX8_climbBetween_9 : decode cX8_climbBetween 9 = .ok (.aload_n 0, 1) := by decide +kernel
theorem dX8_climbBetween_10 : decode cX8_climbBetween 10 = .ok (.getfield 14, 3) := by decide +kernel
theorem dX8_climbBetween_13 : decode cX8_climbBetween 13 = .ok (.iload_n 1, 1) := by decide +kernel
theorem dX8_climbBetween_14 : decode cX8_climbBetween 14 = .ok (.invokevirtual 30, 3) := by decide +kernel
theorem dX8_climbBetween_17 : decode cX8_climbBetween 17 = .ok (.isub, 1) := by decide +kernel
theorem dX8_climbBetween_18 : decode cX8_climbBetween 18 = .ok (.invokestatic 43, 3) := by decide +kernel
theorem dX8_climbBetween_21 : decode cX8_climbBetween 21 = .ok (.ireturn, 1) := by decide +kernel
theorem dX8_paceCost_0 : decode cX8_paceCost 0 = .ok (.aload_n 0, 1) := by decide +kernel
theorem dX8_paceCost_1 : decode cX8_paceCost 1 = .ok (.getfield 20, 3) := by decide +kernel
theorem dX8_paceCost_4 : decode cX8_paceCost 4 = .ok (.iload_n 1, 1) := by decide +kernel
theorem dX8_paceCost_5 : decode cX8_paceCost 5 = .ok (.invokevirtual 30, 3) := by decide +kernel
theorem dX8_paceCost_8 : decode cX8_paceCost 8 = .ok (.tableswitch 37 1 3 #[28, 31, 34], 28) := by decide +kernel
theorem dX8_paceCost_36 : decode cX8_paceCost 36 = .ok (.bipush 12, 2) := by decide +kernel
theorem dX8_paceCost_38 : decode cX8_paceCost 38 = .ok (.ireturn, 1) := by decide +kernel
theorem dX8_paceCost_39 : decode cX8_paceCost 39 = .ok (.bipush 20, 2) := by decide +kernel
theorem dX8_paceCost_41 : decode cX8_paceCost 41 = .ok (.ireturn, 1) := by decide +kernel
theorem dX8_paceCost_42 : decode cX8_paceCost 42 = .ok (.bipush 40, 2) := by decide +kernel
theorem dX8_paceCost_44 : decode cX8_paceCost 44 = .ok (.ireturn, 1) := by decide +kernel
theorem dX8_paceCost_45 : decode cX8_paceCost 45 = .ok (.bipush 10, 2) := by decide +kernel
theorem dX8_paceCost_47 : decode cX8_paceCost 47 = .ok (.ireturn, 1) := by decide +kernel
