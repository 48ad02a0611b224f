theorem dX7_markSure_54 : decode cX7_markSure 54 = .ok (.aload_n 0, 1) := by decide +kernel
theorem dX7_markSure_55 : decode cX7_markSure 55 = .ok (.iload_n 1, 1) := by decide +kernel
theorem dX7_markSure_56 : decode cX7_markSure 56 = .ok (.invokevirtual 53, 3) := by decide +kernel
theorem dX7_markSure_59 : decode cX7_markSure 59 = .ok (.iconst 2, 1) := by decide +kernel
theorem dX7_markSure_60 : decode cX7_markSure 60 = .ok (.ior, 1) := by decide +kernel
theorem dX7_markSure_61 : decode cX7_markSure 61 = .ok (.invokestatic 29, 3) := by decide +kernel
theorem dX7_markSure_64 : decode cX7_markSure 64 = .ok (.iinc 1 1, 3) := by decide +kernel
theorem dX7_markSure_67 : decode cX7_markSure 67 = .ok (.goto (-65), 3) := by decide +kernel
theorem dX7_markSure_70 : decode cX7_markSure 70 = .ok (.return_, 1) := by decide +kernel
theorem dX7_measure_0 : decode cX7_measure 0 = .ok (.iconst 0, 1) := by decide +kernel
theorem dX7_measure_1 : decode cX7_measure 1 = .ok (.istore_n 2, 1) := by decide +kernel
theorem dX7_measure_2 : decode cX7_measure 2 = .ok (.iload_n 2, 1) := by decide +kernel
theorem dX7_measure_3 : decode cX7_measure 3 = .ok (.aload_n 0, 1) := by decide +kernel
theorem dX7_measure_4 : decode cX7_measure 4 = .ok (.getfield 25, 3) := by decide +kernel
theorem dX7_measure_7 : decode cX7_measure 7 = .ok (.if_icmp .ge 36, 3) := by decide +kernel
theorem dX7_measure_10 : decode cX7_measure 10 = .ok (.aload_n 0, 1) := by decide +kernel
theorem dX7_measure_11 : decode cX7_measure 11 = .ok (.getfield 18, 3) := by decide +kernel
theorem dX7_measure_14 : decode cX7_measure 14 = .ok (.iload_n 2, 1) := by decide +kernel
theorem dX7_measure_15 : decode cX7_measure 15 = .ok (.iconst 4, 1) := by decide +kernel
theorem dX7_measure_16 : decode cX7_measure 16 = .ok (.imul, 1) := by decide +kernel
theorem dX7_measure_17 : decode cX7_measure 17 = .ok (.iload_n 1, 1) := by decide +kernel
theorem dX7_measure_18 : decode cX7_measure 18 = .ok (.iadd, 1) := by decide +kernel
theorem dX7_measure_19 : decode cX7_measure 19 = .ok (.aload_n 0, 1) := by decide +kernel
theorem dX7_measure_20 : decode cX7_measure 20 = .ok (.iload_n 2, 1) := by decide +kernel
theorem dX7_measure_21 : decode cX7_measure 21 = .ok (.invokevirtual 53, 3) := by decide +kernel
theorem dX7_measure_24 : decode cX7_measure 24 = .ok (.iload_n 1, 1) := by decide +kernel
theorem dX7_measure_25 : decode cX7_measure 25 = .ok (.if_icmp .ne 7, 3) := by decide +kernel
theorem dX7_measure_28 : decode cX7_measure 28 = .ok (.iconst 0, 1) := by decide +kernel
theorem dX7_measure_29 : decode cX7_measure 29 = .ok (.goto 5, 3) := by decide +kernel
theorem dX7_measure_32 : decode cX7_measure 32 = .ok (.bipush (-9), 2) := by decide +kernel
theorem dX7_measure_34 : decode cX7_measure 34 = .ok (.invokestatic 29, 3) := by decide +kernel
theorem dX7_measure_37 : decode cX7_measure 37 = .ok (.iinc 2 1, 3) := by decide +kernel
theorem dX7_measure_40 : decode cX7_measure 40 = .ok (.goto (-38), 3) := by decide +kernel
theorem dX7_measure_43 : decode cX7_measure 43 = .ok (.iconst 1, 1) := by decide +kernel
theorem dX7_measure_44 : decode cX7_measure 44 = .ok (.istore_n 2, 1) := by decide +kernel
theorem dX7_measure_45 : decode cX7_measure 45 = .ok (.iconst 1, 1) := by decide +kernel
theorem dX7_measure_46 : decode cX7_measure 46 = .ok (.istore_n 3, 1) := by decide +kernel
theorem dX7_measure_47 : decode cX7_measure 47 = .ok (.iload_n 3, 1) := by decide +kernel
theorem dX7_measure_48 : decode cX7_measure 48 = .ok (.bipush 60, 2) := by decide +kernel
theorem dX7_measure_50 : decode cX7_measure 50 = .ok (.if_icmp .gt 76, 3) := by decide +kernel
theorem dX7_measure_53 : decode cX7_measure 53 = .ok (.iload_n 2, 1) := by decide +kernel
theorem dX7_measure_54 : decode cX7_measure 54 = .ok (.ifCond .eq 72, 3) := by decide +kernel
theorem dX7_measure_57 : decode cX7_measure 57 = .ok (.iconst 0, 1) := by decide +kernel
theorem dX7_measure_58 : decode cX7_measure 58 = .ok (.istore_n 2, 1) := by decide +kernel
theorem dX7_measure_59 : decode cX7_measure 59 = .ok (.iconst 0, 1) := by decide +kernel
theorem dX7_measure_60 : decode cX7_measure 60 = .ok (.istore 4, 2) := by decide +kernel
theorem dX7_measure_62 : decode cX7_measure 62 = .ok (.iload 4, 2) := by decide +kernel
theorem dX7_measure_64 : decode cX7_measure 64 = .ok (.aload_n 0, 1) := by decide +kernel
theorem dX7_measure_65 : decode cX7_measure 65 = .ok (.getfield 25, 3) := by decide +kernel
theorem dX7_measure_68 : decode cX7_measure 68 = .ok (.if_icmp .ge 52, 3) := by decide +kernel
theorem dX7_measure_71 : decode cX7_measure 71 = .ok (.aload_n 0, 1) := by decide +kernel
theorem dX7_measure_72 : decode cX7_measure 72 = .ok (.iload 4, 2) := by decide +kernel
theorem dX7_measure_74 : decode cX7_measure 74 = .ok (.iload_n 1, 1) := by decide +kernel
theorem dX7_measure_75 : decode cX7_measure 75 = .ok (.invokevirtual 65, 3) := by decide +kernel
theorem dX7_measure_78 : decode cX7_measure 78 = .ok (.bipush (-9), 2) := by decide +kernel
theorem dX7_measure_80 : decode cX7_measure 80 = .ok (.if_icmp .ne 34, 3) := by decide +kernel
theorem dX7_measure_83 : decode cX7_measure 83 = .ok (.aload_n 0, 1) := by decide +kernel
theorem dX7_measure_84 : decode cX7_measure 84 = .ok (.iload 4, 2) := by decide +kernel
theorem dX7_measure_86 : decode cX7_measure 86 = .ok (.iload_n 1, 1) := by decide +kernel
theorem dX7_measure_87 : decode cX7_measure 87 = .ok (.iload_n 3, 1) := by decide +kernel
theorem dX7_measure_88 : decode cX7_measure 88 = .ok (.iconst 1, 1) := by decide +kernel
theorem dX7_measure_89 : decode cX7_measure 89 = .ok (.isub, 1) := by decide +kernel
theorem dX7_measure_90 : decode cX7_measure 90 = .ok (.invokevirtual 68, 3) := by decide +kernel
theorem dX7_measure_93 : decode cX7_measure 93 = .ok (.bipush (-9), 2) := by decide +kernel
theorem dX7_measure_95 : decode cX7_measure 95 = .ok (.if_icmp .eq 19, 3) := by decide +kernel
theorem dX7_measure_98 : decode cX7_measure 98 = .ok (.aload_n 0, 1) := by decide +kernel
theorem dX7_measure_99 : decode cX7_measure 99 = .ok (.getfield 18, 3) := by decide +kernel
theorem dX7_measure_102 : decode cX7_measure 102 = .ok (.iload 4, 2) := by decide +kernel
theorem dX7_measure_104 : decode cX7_measure 104 = .ok (.iconst 4, 1) := by decide +kernel
theorem dX7_measure_105 : decode cX7_measure 105 = .ok (.imul, 1) := by decide +kernel
theorem dX7_measure_106 : decode cX7_measure 106 = .ok (.iload_n 1, 1) := by decide +kernel
theorem dX7_measure_107 : decode cX7_measure 107 = .ok (.iadd, 1) := by decide +kernel
theorem dX7_measure_108 : decode cX7_measure 108 = .ok (.iload_n 3, 1) := by decide +kernel
theorem dX7_measure_109 : decode cX7_measure 109 = .ok (.invokestatic 29, 3) := by decide +kernel
theorem dX7_measure_112 : decode cX7_measure 112 = .ok (.iconst 1, 1) := by decide +kernel
theorem dX7_measure_113 : decode cX7_measure 113 = .ok (.istore_n 2, 1) := by decide +kernel
theorem dX7_measure_114 : decode cX7_measure 114 = .ok (.iinc 4 1, 3) := by decide +kernel
theorem dX7_measure_117 : decode cX7_measure 117 = .ok (.goto (-55), 3) := by decide +kernel
theorem dX7_measure_120 : decode cX7_measure 120 = .ok (.iinc 3 1, 3) := by decide +kernel
theorem dX7_measure_123 : decode cX7_measure 123 = .ok (.goto (-76), 3) := by decide +kernel
theorem dX7_measure_126 : decode cX7_measure 126 = .ok (.return_, 1) := by decide +kernel
theorem dX7_distance_0 : decode cX7_distance 0 = .ok (.aload_n 0, 1) := by decide +kernel
theorem dX7_distance_1 : decode cX7_distance 1 = .ok (.getfield 18, 3) := by decide +kernel
theorem dX7_distance_4 : decode cX7_distance 4 = .ok (.iload_n 1, 1) := by decide +kernel
theorem dX7_distance_5 : decode cX7_distance 5 = .ok (.iconst 4, 1) := by decide +kernel
theorem dX7_distance_6 : decode cX7_distance 6 = .ok (.imul, 1) := by decide +kernel
theorem dX7_distance_7 : decode cX7_distance 7 = .ok (.iload_n 2, 1) := by decide +kernel
theorem dX7_distance_8 : decode cX7_distance 8 = .ok (.iadd, 1) := by decide +kernel
theorem dX7_distance_9 : decode cX7_distance 9 = .ok (.invokestatic 49, 3) := by decide +kernel
theorem dX7_distance_12 : decode cX7_distance 12 = .ok (.ireturn, 1) := by decide +kernel
theorem dX7_stepTo_0 : decode cX7_stepTo 0 = .ok (.iconst 0, 1) := by decide +kernel
theorem dX7_stepTo_1 : decode cX7_stepTo 1 = .ok (.istore 4, 2) := by decide +kernel
theorem dX7_stepTo_3 : decode cX7_stepTo 3 = .ok (.iload 4, 2) := by decide +kernel
theorem dX7_stepTo_5 : decode cX7_stepTo 5 = .ok (.iconst 4, 1) := by decide +kernel
theorem dX7_stepTo_6 : decode cX7_stepTo 6 = .ok (.if_icmp .ge 28, 3) := by decide +kernel
theorem dX7_stepTo_9 : decode cX7_stepTo 9 = .ok (.aload_n 0, 1) := by decide +kernel
theorem dX7_stepTo_10 : decode cX7_stepTo 10 = .ok (.aload_n 0, 1) := by decide +kernel
theorem dX7_stepTo_11 : decode cX7_stepTo 11 = .ok (.iload_n 1, 1) := by decide +kernel
theorem dX7_stepTo_12 : decode cX7_stepTo 12 = .ok (.iload 4, 2) := by decide +kernel
theorem dX7_stepTo_14 : decode cX7_stepTo 14 = .ok (.invokevirtual 61, 3) := by decide +kernel
theorem dX7_stepTo_17 : decode cX7_stepTo 17 = .ok (.iload_n 2, 1) := by decide +kernel
theorem dX7_stepTo_18 : decode cX7_stepTo 18 = .ok (.invokevirtual 65, 3) := by decide +kernel
theorem dX7_stepTo_21 : decode cX7_stepTo 21 = .ok (.iload_n 3, 1) := by decide +kernel
theorem dX7_stepTo_22 : decode cX7_stepTo 22 = .ok (.if_icmp .ne 6, 3) := by decide +kernel
theorem dX7_stepTo_25 : decode cX7_stepTo 25 = .ok (.iload 4, 2) := by decide +kernel
theorem dX7_stepTo_27 : decode cX7_stepTo 27 = .ok (.ireturn, 1) := by decide +kernel
theorem dX7_stepTo_28 : decode cX7_stepTo 28 = .ok (.iinc 4 1, 3) := by decide +kernel
theorem dX7_stepTo_31 : decode cX7_stepTo 31 = .ok (.goto (-28), 3) := by decide +kernel
theorem dX7_stepTo_34 : decode cX7_stepTo 34 = .ok (.bipush (-9), 2) := by decide +kernel
theorem dX7_stepTo_36 : decode cX7_stepTo 36 = .ok (.ireturn, 1) := by decide +kernel
theorem dX7_firstStep_0 : decode cX7_firstStep 0 = .ok (.aload_n 0, 1) := by decide +kernel
theorem dX7_firstStep_1 : decode cX7_firstStep 1 = .ok (.iload_n 1, 1) := by decide +kernel
theorem dX7_firstStep_2 : decode cX7_firstStep 2 = .ok (.iload_n 2, 1) := by decide +kernel
theorem dX7_firstStep_3 : decode cX7_firstStep 3 = .ok (.invokevirtual 65, 3) := by decide +kernel
theorem dX7_firstStep_6 : decode cX7_firstStep 6 = .ok (.istore_n 3, 1) := by decide +kernel
theorem dX7_firstStep_7 : decode cX7_firstStep 7 = .ok (.iload_n 3, 1) := by decide +kernel
theorem dX7_firstStep_8 : decode cX7_firstStep 8 = .ok (.ifCond .le 15, 3) := by decide +kernel
theorem dX7_firstStep_11 : decode cX7_firstStep 11 = .ok (.aload_n 0, 1) := by decide +kernel
theorem dX7_firstStep_12 : decode cX7_firstStep 12 = .ok (.iload_n 1, 1) := by decide +kernel
theorem dX7_firstStep_13 : decode cX7_firstStep 13 = .ok (.iload_n 2, 1) := by decide +kernel
theorem dX7_firstStep_14 : decode cX7_firstStep 14 = .ok (.iload_n 3, 1) := by decide +kernel
theorem dX7_firstStep_15 : decode cX7_firstStep 15 = .ok (.iconst 1, 1) := by decide +kernel
theorem dX7_firstStep_16 : decode cX7_firstStep 16 = .ok (.isub, 1) := by decide +kernel
theorem dX7_firstStep_17 : decode cX7_firstStep 17 = .ok (.invokevirtual 68, 3) := by decide +kernel
theorem dX7_firstStep_20 : decode cX7_firstStep 20 = .ok (.goto 5, 3) := by decide +kernel
theorem dX7_firstStep_23 : decode cX7_firstStep 23 = .ok (.bipush (-9), 2) := by decide +kernel
theorem dX7_firstStep_25 : decode cX7_firstStep 25 = .ok (.ireturn, 1) := by decide +kernel
theorem dX7_countWays_0 : decode cX7_countWays 0 = .ok (.iconst 0, 1) := by decide +kernel
theorem dX7_countWays_1 : decode cX7_countWays 1 = .ok (.istore_n 1, 1) := by decide +kernel
theorem dX7_countWays_2 : decode cX7_countWays 2 = .ok (.iload_n 1, 1) := by decide +kernel
theorem dX7_countWays_3 : decode cX7_countWays 3 = .ok (.aload_n 0, 1) := by decide +kernel
theorem dX7_countWays_4 : decode cX7_countWays 4 = .ok (.getfield 25, 3) := by decide +kernel
theorem dX7_countWays_7 : decode cX7_countWays 7 = .ok (.if_icmp .ge 30, 3) := by decide +kernel
theorem dX7_countWays_10 : decode cX7_countWays 10 = .ok (.aload_n 0, 1) := by decide +kernel
theorem dX7_countWays_11 : decode cX7_countWays 11 = .ok (.getfield 21, 3) := by decide +kernel
theorem dX7_countWays_14 : decode cX7_countWays 14 = .ok (.iload_n 1, 1) := by decide +kernel
theorem dX7_countWays_15 : decode cX7_countWays 15 = .ok (.aload_n 0, 1) := by decide +kernel
theorem dX7_countWays_16 : decode cX7_countWays 16 = .ok (.iload_n 1, 1) := by decide +kernel
theorem dX7_countWays_17 : decode cX7_countWays 17 = .ok (.invokevirtual 72, 3) := by decide +kernel
theorem dX7_countWays_20 : decode cX7_countWays 20 = .ok (.ifCond .eq 7, 3) := by decide +kernel
theorem dX7_countWays_23 : decode cX7_countWays 23 = .ok (.lconst 1, 1) := by decide +kernel
theorem dX7_countWays_24 : decode cX7_countWays 24 = .ok (.goto 4, 3) := by decide +kernel
theorem dX7_countWays_27 : decode cX7_countWays 27 = .ok (.lconst 0, 1) := by decide +kernel
theorem dX7_countWays_28 : decode cX7_countWays 28 = .ok (.invokestatic 75, 3) := by decide +kernel
theorem dX7_countWays_31 : decode cX7_countWays 31 = .ok (.iinc 1 1, 3) := by decide +kernel
theorem dX7_countWays_34 : decode cX7_countWays 34 = .ok (.goto (-32), 3) := by decide +kernel
theorem dX7_countWays_37 : decode cX7_countWays 37 = .ok (.iconst 1, 1) := by decide +kernel
theorem dX7_countWays_38 : decode cX7_countWays 38 = .ok (.istore_n 1, 1) := by decide +kernel
theorem dX7_countWays_39 : decode cX7_countWays 39 = .ok (.iload_n 1, 1) := by decide +kernel
theorem dX7_countWays_40 : decode cX7_countWays 40 = .ok (.bipush 25, 2) := by decide +kernel
theorem dX7_countWays_42 : decode cX7_countWays 42 = .ok (.if_icmp .gt 73, 3) := by decide +kernel
theorem dX7_countWays_45 : decode cX7_countWays 45 = .ok (.iconst 0, 1) := by decide +kernel
theorem dX7_countWays_46 : decode cX7_countWays 46 = .ok (.istore_n 2, 1) := by decide +kernel
theorem dX7_countWays_47 : decode cX7_countWays 47 = .ok (.iload_n 2, 1) := by decide +kernel
theorem dX7_countWays_48 : decode cX7_countWays 48 = .ok (.aload_n 0, 1) := by decide +kernel
theorem dX7_countWays_49 : decode cX7_countWays 49 = .ok (.getfield 25, 3) := by decide +kernel
theorem dX7_countWays_52 : decode cX7_countWays 52 = .ok (.if_icmp .ge 57, 3) := by decide +kernel
theorem dX7_countWays_55 : decode cX7_countWays 55 = .ok (.lconst 0, 1) := by decide +kernel
theorem dX7_countWays_56 : decode cX7_countWays 56 = .ok (.lstore_n 3, 1) := by decide +kernel
theorem dX7_countWays_57 : decode cX7_countWays 57 = .ok (.iconst 0, 1) := by decide +kernel
theorem dX7_countWays_58 : decode cX7_countWays 58 = .ok (.istore 5, 2) := by decide +kernel
theorem dX7_countWays_60 : decode cX7_countWays 60 = .ok (.iload 5, 2) := by decide +kernel
theorem dX7_countWays_62 : decode cX7_countWays 62 = .ok (.iconst 4, 1) := by decide +kernel
theorem dX7_countWays_63 : decode cX7_countWays 63 = .ok (.if_icmp .ge 26, 3) := by decide +kernel
theorem dX7_countWays_66 : decode cX7_countWays 66 = .ok (.lload_n 3, 1) := by decide +kernel
theorem dX7_countWays_67 : decode cX7_countWays 67 = .ok (.aload_n 0, 1) := by decide +kernel
theorem dX7_countWays_68 : decode cX7_countWays 68 = .ok (.aload_n 0, 1) := by decide +kernel
theorem dX7_countWays_69 : decode cX7_countWays 69 = .ok (.iload_n 2, 1) := by decide +kernel
theorem dX7_countWays_70 : decode cX7_countWays 70 = .ok (.iload 5, 2) := by decide +kernel
theorem dX7_countWays_72 : decode cX7_countWays 72 = .ok (.invokevirtual 61, 3) := by decide +kernel
theorem dX7_countWays_75 : decode cX7_countWays 75 = .ok (.iload_n 1, 1) := by decide +kernel
theorem dX7_countWays_76 : decode cX7_countWays 76 = .ok (.iconst 1, 1) := by decide +kernel
theorem dX7_countWays_77 : decode cX7_countWays 77 = .ok (.isub, 1) := by decide +kernel
theorem dX7_countWays_78 : decode cX7_countWays 78 = .ok (.invokevirtual 79, 3) := by decide +kernel
theorem dX7_countWays_81 : decode cX7_countWays 81 = .ok (.ladd, 1) := by decide +kernel
theorem dX7_countWays_82 : decode cX7_countWays 82 = .ok (.lstore_n 3, 1) := by decide +kernel
theorem dX7_countWays_83 : decode cX7_countWays 83 = .ok (.iinc 5 1, 3) := by decide +kernel
theorem dX7_countWays_86 : decode cX7_countWays 86 = .ok (.goto (-26), 3) := by decide +kernel
theorem dX7_countWays_89 : decode cX7_countWays 89 = .ok (.aload_n 0, 1) := by decide +kernel
theorem dX7_countWays_90 : decode cX7_countWays 90 = .ok (.getfield 21, 3) := by decide +kernel
theorem dX7_countWays_93 : decode cX7_countWays 93 = .ok (.iload_n 1, 1) := by decide +kernel
theorem dX7_countWays_94 : decode cX7_countWays 94 = .ok (.bipush 60, 2) := by decide +kernel
theorem dX7_countWays_96 : decode cX7_countWays 96 = .ok (.imul, 1) := by decide +kernel
theorem dX7_countWays_97 : decode cX7_countWays 97 = .ok (.iload_n 2, 1) := by decide +kernel
theorem dX7_countWays_98 : decode cX7_countWays 98 = .ok (.iadd, 1) := by decide +kernel
theorem dX7_countWays_99 : decode cX7_countWays 99 = .ok (.lload_n 3, 1) := by decide +kernel
theorem dX7_countWays_100 : decode cX7_countWays 100 = .ok (.invokestatic 75, 3) := by decide +kernel
theorem dX7_countWays_103 : decode cX7_countWays 103 = .ok (.iinc 2 1, 3) := by decide +kernel
theorem dX7_countWays_106 : decode cX7_countWays 106 = .ok (.goto (-59), 3) := by decide +kernel
theorem dX7_countWays_109 : decode cX7_countWays 109 = .ok (.iinc 1 1, 3) := by decide +kernel
theorem dX7_countWays_112 : decode cX7_countWays 112 = .ok (.goto (-73), 3) := by decide +kernel
theorem dX7_countWays_115 : decode cX7_countWays 115 = .ok (.return_, 1) := by decide +kernel
theorem dX7_waysOf_0 : decode cX7_waysOf 0 = .ok (.aload_n 0, 1) := by decide +kernel
theorem dX7_waysOf_1 : decode cX7_waysOf 1 = .ok (.getfield 21, 3) := by decide +kernel
theorem dX7_waysOf_4 : decode cX7_waysOf 4 = .ok (.iload_n 2, 1) := by decide +kernel
theorem dX7_waysOf_5 : decode cX7_waysOf 5 = .ok (.bipush 60, 2) := by decide +kernel
theorem dX7_waysOf_7 : decode cX7_waysOf 7 = .ok (.imul, 1) := by decide +kernel
theorem dX7_waysOf_8 : decode cX7_waysOf 8 = .ok (.iload_n 1, 1) := by decide +kernel
theorem dX7_waysOf_9 : decode cX7_waysOf 9 = .ok (.iadd, 1) := by decide +kernel
theorem dX7_waysOf_10 : decode cX7_waysOf 10 = .ok (.invokestatic 83, 3) := by decide +kernel
theorem dX7_waysOf_13 : decode cX7_waysOf 13 = .ok (.lreturn, 1) := by decide +kernel
theorem dX7_eventOfFirstRow_0 : decode cX7_eventOfFirstRow 0 = .ok (.iload_n 3, 1) := by decide +kernel
theorem dX7_eventOfFirstRow_1 : decode cX7_eventOfFirstRow 1 = .ok (.ifCond .lt 19, 3) := by decide +kernel
theorem dX7_eventOfFirstRow_4 : decode cX7_eventOfFirstRow 4 = .ok (.iload_n 3, 1) := by decide +kernel
theorem dX7_eventOfFirstRow_5 : decode cX7_eventOfFirstRow 5 = .ok (.iload_n 2, 1) := by decide +kernel
theorem dX7_eventOfFirstRow_6 : decode cX7_eventOfFirstRow 6 = .ok (.if_icmp .ge 14, 3) := by decide +kernel
theorem dX7_eventOfFirstRow_9 : decode cX7_eventOfFirstRow 9 = .ok (.aload_n 0, 1) := by decide +kernel
theorem dX7_eventOfFirstRow_10 : decode cX7_eventOfFirstRow 10 = .ok (.iload_n 1, 1) := by decide +kernel
theorem dX7_eventOfFirstRow_11 : decode cX7_eventOfFirstRow 11 = .ok (.iload_n 2, 1) := by decide +kernel
theorem dX7_eventOfFirstRow_12 : decode cX7_eventOfFirstRow 12 = .ok (.invokevirtual 79, 3) := by decide +kernel
theorem dX7_eventOfFirstRow_15 : decode cX7_eventOfFirstRow 15 = .ok (.lconst 0, 1) := by decide +kernel
theorem dX7_eventOfFirstRow_16 : decode cX7_eventOfFirstRow 16 = .ok (.lcmp, 1) := by decide +kernel
theorem dX7_eventOfFirstRow_17 : decode cX7_eventOfFirstRow 17 = .ok (.ifCond .ne 6, 3) := by decide +kernel
theorem dX7_eventOfFirstRow_20 : decode cX7_eventOfFirstRow 20 = .ok (.bipush (-9), 2) := by decide +kernel
theorem dX7_eventOfFirstRow_22 : decode cX7_eventOfFirstRow 22 = .ok (.ireturn, 1) := by decide +kernel
theorem dX7_eventOfFirstRow_23 : decode cX7_eventOfFirstRow 23 = .ok (.iload_n 1, 1) := by decide +kernel
theorem dX7_eventOfFirstRow_24 : decode cX7_eventOfFirstRow 24 = .ok (.istore 4, 2) := by decide +kernel
theorem dX7_eventOfFirstRow_26 : decode cX7_eventOfFirstRow 26 = .ok (.iconst 0, 1) := by decide +kernel
theorem dX7_eventOfFirstRow_27 : decode cX7_eventOfFirstRow 27 = .ok (.istore 5, 2) := by decide +kernel
theorem dX7_eventOfFirstRow_29 : decode cX7_eventOfFirstRow 29 = .ok (.iload 5, 2) := by decide +kernel
theorem dX7_eventOfFirstRow_31 : decode cX7_eventOfFirstRow 31 = .ok (.iload_n 2, 1) := by decide +kernel
theorem dX7_eventOfFirstRow_32 : decode cX7_eventOfFirstRow 32 = .ok (.if_icmp .ge 49, 3) := by decide +kernel
theorem dX7_eventOfFirstRow_35 : decode cX7_eventOfFirstRow 35 = .ok (.aload_n 0, 1) := by decide +kernel
theorem dX7_eventOfFirstRow_36 : decode cX7_eventOfFirstRow 36 = .ok (.iload 4, 2) := by decide +kernel
theorem dX7_eventOfFirstRow_38 : decode cX7_eventOfFirstRow 38 = .ok (.iload_n 2, 1) := by decide +kernel
theorem dX7_eventOfFirstRow_39 : decode cX7_eventOfFirstRow 39 = .ok (.iload 5, 2) := by decide +kernel
theorem dX7_eventOfFirstRow_41 : decode cX7_eventOfFirstRow 41 = .ok (.isub, 1) := by decide +kernel
theorem dX7_eventOfFirstRow_42 : decode cX7_eventOfFirstRow 42 = .ok (.iconst 1, 1) := by decide +kernel
theorem dX7_eventOfFirstRow_43 : decode cX7_eventOfFirstRow 43 = .ok (.isub, 1) := by decide +kernel
theorem dX7_eventOfFirstRow_44 : decode cX7_eventOfFirstRow 44 = .ok (.invokevirtual 87, 3) := by decide +kernel
theorem dX7_eventOfFirstRow_47 : decode cX7_eventOfFirstRow 47 = .ok (.istore 6, 2) := by decide +kernel
theorem dX7_eventOfFirstRow_49 : decode cX7_eventOfFirstRow 49 = .ok (.iload 5, 2) := by decide +kernel
theorem dX7_eventOfFirstRow_51 : decode cX7_eventOfFirstRow 51 = .ok (.iload_n 3, 1) := by decide +kernel
theorem dX7_eventOfFirstRow_52 : decode cX7_eventOfFirstRow 52 = .ok (.if_icmp .eq 10, 3) := by decide +kernel
theorem dX7_eventOfFirstRow_55 : decode cX7_eventOfFirstRow 55 = .ok (.iload 6, 2) := by decide +kernel
theorem dX7_eventOfFirstRow_57 : decode cX7_eventOfFirstRow 57 = .ok (.bipush (-9), 2) := by decide +kernel
theorem dX7_eventOfFirstRow_59 : decode cX7_eventOfFirstRow 59 = .ok (.if_icmp .ne 6, 3) := by decide +kernel
theorem dX7_eventOfFirstRow_62 : decode cX7_eventOfFirstRow 62 = .ok (.iload 6, 2) := by decide +kernel
theorem dX7_eventOfFirstRow_64 : decode cX7_eventOfFirstRow 64 = .ok (.ireturn, 1) := by decide +kernel
theorem dX7_eventOfFirstRow_65 : decode cX7_eventOfFirstRow 65 = .ok (.aload_n 0, 1) := by decide +kernel
theorem dX7_eventOfFirstRow_66 : decode cX7_eventOfFirstRow 66 = .ok (.iload 4, 2) := by decide +kernel
theorem dX7_eventOfFirstRow_68 : decode cX7_eventOfFirstRow 68 = .ok (.iload 6, 2) := by decide +kernel
theorem dX7_eventOfFirstRow_70 : decode cX7_eventOfFirstRow 70 = .ok (.invokevirtual 61, 3) := by decide +kernel
theorem dX7_eventOfFirstRow_73 : decode cX7_eventOfFirstRow 73 = .ok (.istore 4, 2) := by decide +kernel
theorem dX7_eventOfFirstRow_75 : decode cX7_eventOfFirstRow 75 = .ok (.iinc 5 1, 3) := by decide +kernel
theorem dX7_eventOfFirstRow_78 : decode cX7_eventOfFirstRow 78 = .ok (.goto (-49), 3) := by decide +kernel
theorem dX7_eventOfFirstRow_81 : decode cX7_eventOfFirstRow 81 = .ok (.bipush (-9), 2) := by decide +kernel
theorem dX7_eventOfFirstRow_83 : decode cX7_eventOfFirstRow 83 = .ok (.ireturn, 1) := by decide +kernel
theorem dX7_firstKeptEvent_0 : decode cX7_firstKeptEvent 0 = .ok (.iconst 0, 1) := by decide +kernel
theorem dX7_firstKeptEvent_1 : decode cX7_firstKeptEvent 1 = .ok (.istore_n 3, 1) := by decide +kernel
theorem dX7_firstKeptEvent_2 : decode cX7_firstKeptEvent 2 = .ok (.iload_n 3, 1) := by decide +kernel
theorem dX7_firstKeptEvent_3 : decode cX7_firstKeptEvent 3 = .ok (.iconst 4, 1) := by decide +kernel
theorem dX7_firstKeptEvent_4 : decode cX7_firstKeptEvent 4 = .ok (.if_icmp .ge 27, 3) := by decide +kernel
theorem dX7_firstKeptEvent_7 : decode cX7_firstKeptEvent 7 = .ok (.aload_n 0, 1) := by decide +kernel
theorem dX7_firstKeptEvent_8 : decode cX7_firstKeptEvent 8 = .ok (.aload_n 0, 1) := by decide +kernel
theorem dX7_firstKeptEvent_9 : decode cX7_firstKeptEvent 9 = .ok (.iload_n 1, 1) := by decide +kernel
theorem dX7_firstKeptEvent_10 : decode cX7_firstKeptEvent 10 = .ok (.iload_n 3, 1) := by decide +kernel
theorem dX7_firstKeptEvent_11 : decode cX7_firstKeptEvent 11 = .ok (.invokevirtual 61, 3) := by decide +kernel
theorem dX7_firstKeptEvent_14 : decode cX7_firstKeptEvent 14 = .ok (.iload_n 2, 1) := by decide +kernel
theorem dX7_firstKeptEvent_15 : decode cX7_firstKeptEvent 15 = .ok (.invokevirtual 79, 3) := by decide +kernel
theorem dX7_firstKeptEvent_18 : decode cX7_firstKeptEvent 18 = .ok (.lconst 0, 1) := by decide +kernel
theorem dX7_firstKeptEvent_19 : decode cX7_firstKeptEvent 19 = .ok (.lcmp, 1) := by decide +kernel
theorem dX7_firstKeptEvent_20 : decode cX7_firstKeptEvent 20 = .ok (.ifCond .le 5, 3) := by decide +kernel
theorem dX7_firstKeptEvent_23 : decode cX7_firstKeptEvent 23 = .ok (.iload_n 3, 1) := by decide +kernel
theorem dX7_firstKeptEvent_24 : decode cX7_firstKeptEvent 24 = .ok (.ireturn, 1) := by decide +kernel
theorem dX7_firstKeptEvent_25 : decode cX7_firstKeptEvent 25 = .ok (.iinc 3 1, 3) := by decide +kernel
theorem dX7_firstKeptEvent_28 : decode cX7_firstKeptEvent 28 = .ok (.goto (-26), 3) := by decide +kernel
theorem dX7_firstKeptEvent_31 : decode cX7_firstKeptEvent 31 = .ok (.bipush (-9), 2) := by decide +kernel
theorem dX7_firstKeptEvent_33 : decode cX7_firstKeptEvent 33 = .ok (.ireturn, 1) := by decide +kernel
theorem dX8_init_0 : decode cX8_init 0 = .ok (.aload_n 0, 1) := by decide +kernel
theorem dX8_init_1 : decode cX8_init 1 = .ok (.invokespecial 3, 3) := by decide +kernel
theorem dX8_init_4 : decode cX8_init 4 = .ok (.aload_n 0, 1) := by decide +kernel
theorem dX8_init_5 : decode cX8_init 5 = .ok (.bipush 60, 2) := by decide +kernel
theorem dX8_init_7 : decode cX8_init 7 = .ok (.newarray .int, 2) := by decide +kernel
theorem dX8_init_9 : decode cX8_init 9 = .ok (.putfield 9, 3) := by decide +kernel
theorem dX8_init_12 : decode cX8_init 12 = .ok (.aload_n 0, 1) := by decide +kernel
theorem dX8_init_13 : decode cX8_init 13 = .ok (.iconst 0, 1) := by decide +kernel
theorem dX8_init_14 : decode cX8_init 14 = .ok (.putfield 13, 3) := by decide +kernel
theorem dX8_init_17 : decode cX8_init 17 = .ok (.aload_n 0, 1) := by decide +kernel
theorem dX8_init_18 : decode cX8_init 18 = .ok (.iconst 0, 1) := by decide +kernel
theorem dX8_init_19 : decode cX8_init 19 = .ok (.putfield 17, 3) := by decide +kernel
theorem dX8_init_22 : decode cX8_init 22 = .ok (.aload_n 0, 1) := by decide +kernel
theorem dX8_init_23 : decode cX8_init 23 = .ok (.new 20, 3) := by decide +kernel
theorem dX8_init_26 : decode cX8_init 26 = .ok (.dup, 1) := by decide +kernel
theorem dX8_init_27 : decode cX8_init 27 = .ok (.invokespecial 22, 3) := by decide +kernel
theorem dX8_init_30 : decode cX8_init 30 = .ok (.putfield 23, 3) := by decide +kernel
theorem dX8_init_33 : decode cX8_init 33 = .ok (.aload_n 0, 1) := by decide +kernel
theorem dX8_init_34 : decode cX8_init 34 = .ok (.new 27, 3) := by decide +kernel
theorem dX8_init_37 : decode cX8_init 37 = .ok (.dup, 1) := by decide +kernel
theorem dX8_init_38 : decode cX8_init 38 = .ok (.invokespecial 29, 3) := by decide +kernel
theorem dX8_init_41 : decode cX8_init 41 = .ok (.putfield 30, 3) := by decide +kernel
theorem dX8_init_44 : decode cX8_init 44 = .ok (.aload_n 0, 1) := by decide +kernel
theorem dX8_init_45 : decode cX8_init 45 = .ok (.new 34, 3) := by decide +kernel
theorem dX8_init_48 : decode cX8_init 48 = .ok (.dup, 1) := by decide +kernel
theorem dX8_init_49 : decode cX8_init 49 = .ok (.invokespecial 36, 3) := by decide +kernel
theorem dX8_init_52 : decode cX8_init 52 = .ok (.putfield 37, 3) := by decide +kernel
theorem dX8_init_55 : decode cX8_init 55 = .ok (.aload_n 0, 1) := by decide +kernel
theorem dX8_init_56 : decode cX8_init 56 = .ok (.new 41, 3) := by decide +kernel
theorem dX8_init_59 : decode cX8_init 59 = .ok (.dup, 1) := by decide +kernel
theorem dX8_init_60 : decode cX8_init 60 = .ok (.invokespecial 43, 3) := by decide +kernel
theorem dX8_init_63 : decode cX8_init 63 = .ok (.putfield 44, 3) := by decide +kernel
theorem dX8_init_66 : decode cX8_init 66 = .ok (.aload_n 0, 1) := by decide +kernel
theorem dX8_init_67 : decode cX8_init 67 = .ok (.new 48, 3) := by decide +kernel
theorem dX8_init_70 : decode cX8_init 70 = .ok (.dup, 1) := by decide +kernel
theorem dX8_init_71 : decode cX8_init 71 = .ok (.invokespecial 50, 3) := by decide +kernel
theorem dX8_init_74 : decode cX8_init 74 = .ok (.putfield 51, 3) := by decide +kernel
theorem dX8_init_77 : decode cX8_init 77 = .ok (.aload_n 0, 1) := by decide +kernel
theorem dX8_init_78 : decode cX8_init 78 = .ok (.new 48, 3) := by decide +kernel
theorem dX8_init_81 : decode cX8_init 81 = .ok (.dup, 1) := by decide +kernel
theorem dX8_init_82 : decode cX8_init 82 = .ok (.invokespecial 50, 3) := by decide +kernel
theorem dX8_init_85 : decode cX8_init 85 = .ok (.putfield 55, 3) := by decide +kernel
theorem dX8_init_88 : decode cX8_init 88 = .ok (.aload_n 0, 1) := by decide +kernel
theorem dX8_init_89 : decode cX8_init 89 = .ok (.new 58, 3) := by decide +kernel
theorem dX8_init_92 : decode cX8_init 92 = .ok (.dup, 1) := by decide +kernel
theorem dX8_init_93 : decode cX8_init 93 = .ok (.invokespecial 60, 3) := by decide +kernel
theorem dX8_init_96 : decode cX8_init 96 = .ok (.putfield 61, 3) := by decide +kernel
theorem dX8_init_99 : decode cX8_init 99 = .ok (.aload_n 0, 1) := by decide +kernel
theorem dX8_init_100 : decode cX8_init 100 = .ok (.new 65, 3) := by decide +kernel
theorem dX8_init_103 : decode cX8_init 103 = .ok (.dup, 1) := by decide +kernel
theorem dX8_init_104 : decode cX8_init 104 = .ok (.invokespecial 67, 3) := by decide +kernel
theorem dX8_init_107 : decode cX8_init 107 = .ok (.putfield 68, 3) := by decide +kernel
theorem dX8_init_110 : decode cX8_init 110 = .ok (.return_, 1) := by decide +kernel
theorem dX8_feed_0 : decode cX8_feed 0 = .ok (.lload_n 1, 1) := by decide +kernel
theorem dX8_feed_1 : decode cX8_feed 1 = .ok (.invokestatic 72, 3) := by decide +kernel
theorem dX8_feed_4 : decode cX8_feed 4 = .ok (.istore_n 3, 1) := by decide +kernel
theorem dX8_feed_5 : decode cX8_feed 5 = .ok (.aload_n 0, 1) := by decide +kernel
theorem dX8_feed_6 : decode cX8_feed 6 = .ok (.getfield 13, 3) := by decide +kernel
theorem dX8_feed_9 : decode cX8_feed 9 = .ok (.iload_n 3, 1) := by decide +kernel
theorem dX8_feed_10 : decode cX8_feed 10 = .ok (.iadd, 1) := by decide +kernel
theorem dX8_feed_11 : decode cX8_feed 11 = .ok (.bipush 60, 2) := by decide +kernel
theorem dX8_feed_13 : decode cX8_feed 13 = .ok (.if_icmp .le 6, 3) := by decide +kernel
theorem dX8_feed_16 : decode cX8_feed 16 = .ok (.bipush (-4), 2) := by decide +kernel
theorem dX8_feed_18 : decode cX8_feed 18 = .ok (.ireturn, 1) := by decide +kernel
theorem dX8_feed_19 : decode cX8_feed 19 = .ok (.iconst 0, 1) := by decide +kernel
theorem dX8_feed_20 : decode cX8_feed 20 = .ok (.istore 4, 2) := by decide +kernel
theorem dX8_feed_22 : decode cX8_feed 22 = .ok (.iload 4, 2) := by decide +kernel
theorem dX8_feed_24 : decode cX8_feed 24 = .ok (.iload_n 3, 1) := by decide +kernel
theorem dX8_feed_25 : decode cX8_feed 25 = .ok (.if_icmp .ge 29, 3) := by decide +kernel
theorem dX8_feed_28 : decode cX8_feed 28 = .ok (.aload_n 0, 1) := by decide +kernel
theorem dX8_feed_29 : decode cX8_feed 29 = .ok (.getfield 9, 3) := by decide +kernel
theorem dX8_feed_32 : decode cX8_feed 32 = .ok (.aload_n 0, 1) := by decide +kernel
theorem dX8_feed_33 : decode cX8_feed 33 = .ok (.getfield 13, 3) := by decide +kernel
theorem dX8_feed_36 : decode cX8_feed 36 = .ok (.iload 4, 2) := by decide +kernel
theorem dX8_feed_38 : decode cX8_feed 38 = .ok (.iadd, 1) := by decide +kernel
theorem dX8_feed_39 : decode cX8_feed 39 = .ok (.lload_n 1, 1) := by decide +kernel
theorem dX8_feed_40 : decode cX8_feed 40 = .ok (.iload 4, 2) := by decide +kernel
theorem dX8_feed_42 : decode cX8_feed 42 = .ok (.invokestatic 76, 3) := by decide +kernel
theorem dX8_feed_45 : decode cX8_feed 45 = .ok (.invokestatic 80, 3) := by decide +kernel
theorem dX8_feed_48 : decode cX8_feed 48 = .ok (.iinc 4 1, 3) := by decide +kernel
theorem dX8_feed_51 : decode cX8_feed 51 = .ok (.goto (-29), 3) := by decide +kernel
theorem dX8_feed_54 : decode cX8_feed 54 = .ok (.aload_n 0, 1) := by decide +kernel
theorem dX8_feed_55 : decode cX8_feed 55 = .ok (.dup, 1) := by decide +kernel
theorem dX8_feed_56 : decode cX8_feed 56 = .ok (.getfield 13, 3) := by decide +kernel
theorem dX8_feed_59 : decode cX8_feed 59 = .ok (.iload_n 3, 1) := by decide +kernel
theorem dX8_feed_60 : decode cX8_feed 60 = .ok (.iadd, 1) := by decide +kernel
theorem dX8_feed_61 : decode cX8_feed 61 = .ok (.putfield 13, 3) := by decide +kernel
theorem dX8_feed_64 : decode cX8_feed 64 = .ok (.aload_n 0, 1) := by decide +kernel
theorem dX8_feed_65 : decode cX8_feed 65 = .ok (.getfield 13, 3) := by decide +kernel
theorem dX8_feed_68 : decode cX8_feed 68 = .ok (.ireturn, 1) := by decide +kernel
theorem dX8_read_0 : decode cX8_read 0 = .ok (.aload_n 0, 1) := by decide +kernel
theorem dX8_read_1 : decode cX8_read 1 = .ok (.getfield 23, 3) := by decide +kernel
theorem dX8_read_4 : decode cX8_read 4 = .ok (.aload_n 0, 1) := by decide +kernel
theorem dX8_read_5 : decode cX8_read 5 = .ok (.getfield 9, 3) := by decide +kernel
theorem dX8_read_8 : decode cX8_read 8 = .ok (.aload_n 0, 1) := by decide +kernel
theorem dX8_read_9 : decode cX8_read 9 = .ok (.getfield 13, 3) := by decide +kernel
theorem dX8_read_12 : decode cX8_read 12 = .ok (.invokevirtual 84, 3) := by decide +kernel
theorem dX8_read_15 : decode cX8_read 15 = .ok (.istore_n 1, 1) := by decide +kernel
theorem dX8_read_16 : decode cX8_read 16 = .ok (.aload_n 0, 1) := by decide +kernel
theorem dX8_read_17 : decode cX8_read 17 = .ok (.aload_n 0, 1) := by decide +kernel
theorem dX8_read_18 : decode cX8_read 18 = .ok (.getfield 23, 3) := by decide +kernel
theorem dX8_read_21 : decode cX8_read 21 = .ok (.invokevirtual 88, 3) := by decide +kernel
theorem dX8_read_24 : decode cX8_read 24 = .ok (.putfield 17, 3) := by decide +kernel
theorem dX8_read_27 : decode cX8_read 27 = .ok (.iload_n 1, 1) := by decide +kernel
theorem dX8_read_28 : decode cX8_read 28 = .ok (.ifCond .ne 14, 3) := by decide +kernel
theorem dX8_read_31 : decode cX8_read 31 = .ok (.bipush (-100), 2) := by decide +kernel
theorem dX8_read_33 : decode cX8_read 33 = .ok (.aload_n 0, 1) := by decide +kernel
theorem dX8_read_34 : decode cX8_read 34 = .ok (.getfield 23, 3) := by decide +kernel
theorem dX8_read_37 : decode cX8_read 37 = .ok (.invokevirtual 91, 3) := by decide +kernel
theorem dX8_read_40 : decode cX8_read 40 = .ok (.isub, 1) := by decide +kernel
theorem dX8_read_41 : decode cX8_read 41 = .ok (.ireturn, 1) := by decide +kernel
theorem dX8_read_42 : decode cX8_read 42 = .ok (.aload_n 0, 1) := by decide +kernel
theorem dX8_read_43 : decode cX8_read 43 = .ok (.getfield 30, 3) := by decide +kernel
theorem dX8_read_46 : decode cX8_read 46 = .ok (.aload_n 0, 1) := by decide +kernel
theorem dX8_read_47 : decode cX8_read 47 = .ok (.getfield 23, 3) := by decide +kernel
theorem dX8_read_50 : decode cX8_read 50 = .ok (.invokevirtual 94, 3) := by decide +kernel
theorem dX8_read_53 : decode cX8_read 53 = .ok (.invokevirtual 98, 3) := by decide +kernel
theorem dX8_read_56 : decode cX8_read 56 = .ok (.aload_n 0, 1) := by decide +kernel
theorem dX8_read_57 : decode cX8_read 57 = .ok (.getfield 37, 3) := by decide +kernel
theorem dX8_read_60 : decode cX8_read 60 = .ok (.aload_n 0, 1) := by decide +kernel
theorem dX8_read_61 : decode cX8_read 61 = .ok (.getfield 30, 3) := by decide +kernel
theorem dX8_read_64 : decode cX8_read 64 = .ok (.invokevirtual 102, 3) := by decide +kernel
theorem dX8_read_67 : decode cX8_read 67 = .ok (.ifCond .eq 17, 3) := by decide +kernel
theorem dX8_read_70 : decode cX8_read 70 = .ok (.aload_n 0, 1) := by decide +kernel
theorem dX8_read_71 : decode cX8_read 71 = .ok (.getfield 44, 3) := by decide +kernel
theorem dX8_read_74 : decode cX8_read 74 = .ok (.aload_n 0, 1) := by decide +kernel
theorem dX8_read_75 : decode cX8_read 75 = .ok (.getfield 37, 3) := by decide +kernel
theorem dX8_read_78 : decode cX8_read 78 = .ok (.invokevirtual 105, 3) := by decide +kernel
theorem dX8_read_81 : decode cX8_read 81 = .ok (.ifCond .ne 6, 3) := by decide +kernel
theorem dX8_read_84 : decode cX8_read 84 = .ok (.bipush (-4), 2) := by decide +kernel
theorem dX8_read_86 : decode cX8_read 86 = .ok (.ireturn, 1) := by decide +kernel
theorem dX8_read_87 : decode cX8_read 87 = .ok (.aload_n 0, 1) := by decide +kernel
theorem dX8_read_88 : decode cX8_read 88 = .ok (.getfield 44, 3) := by decide +kernel
theorem dX8_read_91 : decode cX8_read 91 = .ok (.aload_n 0, 1) := by decide +kernel
theorem dX8_read_92 : decode cX8_read 92 = .ok (.getfield 51, 3) := by decide +kernel
theorem dX8_read_95 : decode cX8_read 95 = .ok (.aload_n 0, 1) := by decide +kernel
theorem dX8_read_96 : decode cX8_read 96 = .ok (.getfield 37, 3) := by decide +kernel
theorem dX8_read_99 : decode cX8_read 99 = .ok (.invokevirtual 109, 3) := by decide +kernel
theorem dX8_read_102 : decode cX8_read 102 = .ok (.aload_n 0, 1) := by decide +kernel
theorem dX8_read_103 : decode cX8_read 103 = .ok (.getfield 68, 3) := by decide +kernel
theorem dX8_read_106 : decode cX8_read 106 = .ok (.invokevirtual 113, 3) := by decide +kernel
theorem dX8_read_109 : decode cX8_read 109 = .ok (.aload_n 0, 1) := by decide +kernel
theorem dX8_read_110 : decode cX8_read 110 = .ok (.iconst 0, 1) := by decide +kernel
theorem dX8_read_111 : decode cX8_read 111 = .ok (.putfield 13, 3) := by decide +kernel
theorem dX8_read_114 : decode cX8_read 114 = .ok (.aload_n 0, 1) := by decide +kernel
theorem dX8_read_115 : decode cX8_read 115 = .ok (.getfield 51, 3) := by decide +kernel
theorem dX8_read_118 : decode cX8_read 118 = .ok (.invokevirtual 116, 3) := by decide +kernel
theorem dX8_read_121 : decode cX8_read 121 = .ok (.ireturn, 1) := by decide +kernel
theorem dX8_fault_0 : decode cX8_fault 0 = .ok (.aload_n 0, 1) := by decide +kernel
theorem dX8_fault_1 : decode cX8_fault 1 = .ok (.getfield 17, 3) := by decide +kernel
theorem dX8_fault_4 : decode cX8_fault 4 = .ok (.ireturn, 1) := by decide +kernel
theorem dX8_cut_0 : decode cX8_cut 0 = .ok (.aload_n 0, 1) := by decide +kernel
theorem dX8_cut_1 : decode cX8_cut 1 = .ok (.getfield 13, 3) := by decide +kernel
theorem dX8_cut_4 : decode cX8_cut 4 = .ok (.istore_n 1, 1) := by decide +kernel
theorem dX8_cut_5 : decode cX8_cut 5 = .ok (.aload_n 0, 1) := by decide +kernel
theorem dX8_cut_6 : decode cX8_cut 6 = .ok (.iconst 0, 1) := by decide +kernel
theorem dX8_cut_7 : decode cX8_cut 7 = .ok (.putfield 13, 3) := by decide +kernel
theorem dX8_cut_10 : decode cX8_cut 10 = .ok (.iload_n 1, 1) := by decide +kernel
theorem dX8_cut_11 : decode cX8_cut 11 = .ok (.ireturn, 1) := by decide +kernel
theorem dX8_leads_0 : decode cX8_leads 0 = .ok (.aload_n 0, 1) := by decide +kernel
theorem dX8_leads_1 : decode cX8_leads 1 = .ok (.getfield 51, 3) := by decide +kernel
theorem dX8_leads_4 : decode cX8_leads 4 = .ok (.invokevirtual 119, 3) := by decide +kernel
theorem dX8_leads_7 : decode cX8_leads 7 = .ok (.ifCond .ne 6, 3) := by decide +kernel
theorem dX8_leads_10 : decode cX8_leads 10 = .ok (.bipush (-3), 2) := by decide +kernel
theorem dX8_leads_12 : decode cX8_leads 12 = .ok (.ireturn, 1) := by decide +kernel
theorem dX8_leads_13 : decode cX8_leads 13 = .ok (.aload_n 0, 1) := by decide +kernel
theorem dX8_leads_14 : decode cX8_leads 14 = .ok (.getfield 51, 3) := by decide +kernel
theorem dX8_leads_17 : decode cX8_leads 17 = .ok (.iload_n 1, 1) := by decide +kernel
theorem dX8_leads_18 : decode cX8_leads 18 = .ok (.invokevirtual 123, 3) := by decide +kernel
theorem dX8_leads_21 : decode cX8_leads 21 = .ok (.ifCond .eq 10, 3) := by decide +kernel
theorem dX8_leads_24 : decode cX8_leads 24 = .ok (.iload_n 2, 1) := by decide +kernel
theorem dX8_leads_25 : decode cX8_leads 25 = .ok (.invokestatic 127, 3) := by decide +kernel
theorem dX8_leads_28 : decode cX8_leads 28 = .ok (.ifCond .ne 5, 3) := by decide +kernel
theorem dX8_leads_31 : decode cX8_leads 31 = .ok (.iconst (-1), 1) := by decide +kernel
theorem dX8_leads_32 : decode cX8_leads 32 = .ok (.ireturn, 1) := by decide +kernel
theorem dX8_leads_33 : decode cX8_leads 33 = .ok (.aload_n 0, 1) := by decide +kernel
theorem dX8_leads_34 : decode cX8_leads 34 = .ok (.getfield 51, 3) := by decide +kernel
theorem dX8_leads_37 : decode cX8_leads 37 = .ok (.iload_n 1, 1) := by decide +kernel
theorem dX8_leads_38 : decode cX8_leads 38 = .ok (.iload_n 2, 1) := by decide +kernel
theorem dX8_leads_39 : decode cX8_leads 39 = .ok (.invokevirtual 130, 3) := by decide +kernel
theorem dX8_leads_42 : decode cX8_leads 42 = .ok (.ireturn, 1) := by decide +kernel
theorem dX8_verdict_0 : decode cX8_verdict 0 = .ok (.aload_n 0, 1) := by decide +kernel
theorem dX8_verdict_1 : decode cX8_verdict 1 = .ok (.iload_n 1, 1) := by decide +kernel
theorem dX8_verdict_2 : decode cX8_verdict 2 = .ok (.invokevirtual 134, 3) := by decide +kernel
theorem dX8_verdict_5 : decode cX8_verdict 5 = .ok (.istore_n 2, 1) := by decide +kernel
theorem dX8_verdict_6 : decode cX8_verdict 6 = .ok (.iload_n 2, 1) := by decide +kernel
theorem dX8_verdict_7 : decode cX8_verdict 7 = .ok (.ifCond .eq 7, 3) := by decide +kernel
theorem dX8_verdict_10 : decode cX8_verdict 10 = .ok (.iload_n 2, 1) := by decide +kernel
theorem dX8_verdict_11 : decode cX8_verdict 11 = .ok (.goto 11, 3) := by decide +kernel
theorem dX8_verdict_14 : decode cX8_verdict 14 = .ok (.aload_n 0, 1) := by decide +kernel
theorem dX8_verdict_15 : decode cX8_verdict 15 = .ok (.getfield 51, 3) := by decide +kernel
theorem dX8_verdict_18 : decode cX8_verdict 18 = .ok (.iload_n 1, 1) := by decide +kernel
theorem dX8_verdict_19 : decode cX8_verdict 19 = .ok (.invokevirtual 138, 3) := by decide +kernel
theorem dX8_verdict_22 : decode cX8_verdict 22 = .ok (.ireturn, 1) := by decide +kernel
theorem dX8_far_0 : decode cX8_far 0 = .ok (.aload_n 0, 1) := by decide +kernel
theorem dX8_far_1 : decode cX8_far 1 = .ok (.iload_n 1, 1) := by decide +kernel
theorem dX8_far_2 : decode cX8_far 2 = .ok (.invokevirtual 134, 3) := by decide +kernel
theorem dX8_far_5 : decode cX8_far 5 = .ok (.istore_n 3, 1) := by decide +kernel
theorem dX8_far_6 : decode cX8_far 6 = .ok (.iload_n 3, 1) := by decide +kernel
theorem dX8_far_7 : decode cX8_far 7 = .ok (.ifCond .eq 5, 3) := by decide +kernel
theorem dX8_far_10 : decode cX8_far 10 = .ok (.iload_n 3, 1) := by decide +kernel
theorem dX8_far_11 : decode cX8_far 11 = .ok (.ireturn, 1) := by decide +kernel
theorem dX8_far_12 : decode cX8_far 12 = .ok (.iload_n 2, 1) := by decide +kernel
theorem dX8_far_13 : decode cX8_far 13 = .ok (.invokestatic 141, 3) := by decide +kernel
theorem dX8_far_16 : decode cX8_far 16 = .ok (.ifCond .eq 15, 3) := by decide +kernel
theorem dX8_far_19 : decode cX8_far 19 = .ok (.aload_n 0, 1) := by decide +kernel
theorem dX8_far_20 : decode cX8_far 20 = .ok (.getfield 51, 3) := by decide +kernel
theorem dX8_far_23 : decode cX8_far 23 = .ok (.iload_n 1, 1) := by decide +kernel
theorem dX8_far_24 : decode cX8_far 24 = .ok (.iload_n 2, 1) := by decide +kernel
theorem dX8_far_25 : decode cX8_far 25 = .ok (.invokevirtual 144, 3) := by decide +kernel
theorem dX8_far_28 : decode cX8_far 28 = .ok (.goto 5, 3) := by decide +kernel
theorem dX8_far_31 : decode cX8_far 31 = .ok (.bipush (-2), 2) := by decide +kernel
theorem dX8_far_33 : decode cX8_far 33 = .ok (.ireturn, 1) := by decide +kernel
theorem dX8_toward_0 : decode cX8_toward 0 = .ok (.aload_n 0, 1) := by decide +kernel
theorem dX8_toward_1 : decode cX8_toward 1 = .ok (.iload_n 1, 1) := by decide +kernel
theorem dX8_toward_2 : decode cX8_toward 2 = .ok (.invokevirtual 134, 3) := by decide +kernel
theorem dX8_toward_5 : decode cX8_toward 5 = .ok (.istore_n 3, 1) := by decide +kernel
theorem dX8_toward_6 : decode cX8_toward 6 = .ok (.iload_n 3, 1) := by decide +kernel
theorem dX8_toward_7 : decode cX8_toward 7 = .ok (.ifCond .eq 5, 3) := by decide +kernel
theorem dX8_toward_10 : decode cX8_toward 10 = .ok (.iload_n 3, 1) := by decide +kernel
theorem dX8_toward_11 : decode cX8_toward 11 = .ok (.ireturn, 1) := by decide +kernel
theorem dX8_toward_12 : decode cX8_toward 12 = .ok (.iload_n 2, 1) := by decide +kernel
theorem dX8_toward_13 : decode cX8_toward 13 = .ok (.invokestatic 141, 3) := by decide +kernel
theorem dX8_toward_16 : decode cX8_toward 16 = .ok (.ifCond .eq 15, 3) := by decide +kernel
theorem dX8_toward_19 : decode cX8_toward 19 = .ok (.aload_n 0, 1) := by decide +kernel
theorem dX8_toward_20 : decode cX8_toward 20 = .ok (.getfield 51, 3) := by decide +kernel
theorem dX8_toward_23 : decode cX8_toward 23 = .ok (.iload_n 1, 1) := by decide +kernel
theorem dX8_toward_24 : decode cX8_toward 24 = .ok (.iload_n 2, 1) := by decide +kernel
theorem dX8_toward_25 : decode cX8_toward 25 = .ok (.invokevirtual 147, 3) := by decide +kernel
theorem dX8_toward_28 : decode cX8_toward 28 = .ok (.goto 5, 3) := by decide +kernel
theorem dX8_toward_31 : decode cX8_toward 31 = .ok (.bipush (-2), 2) := by decide +kernel
theorem dX8_toward_33 : decode cX8_toward 33 = .ok (.ireturn, 1) := by decide +kernel
theorem dX8_runs_0 : decode cX8_runs 0 = .ok (.aload_n 0, 1) := by decide +kernel
theorem dX8_runs_1 : decode cX8_runs 1 = .ok (.iload_n 1, 1) := by decide +kernel
theorem dX8_runs_2 : decode cX8_runs 2 = .ok (.invokevirtual 134, 3) := by decide +kernel
theorem dX8_runs_5 : decode cX8_runs 5 = .ok (.istore_n 3, 1) := by decide +kernel
theorem dX8_runs_6 : decode cX8_runs 6 = .ok (.iload_n 3, 1) := by decide +kernel
theorem dX8_runs_7 : decode cX8_runs 7 = .ok (.ifCond .eq 6, 3) := by decide +kernel
theorem dX8_runs_10 : decode cX8_runs 10 = .ok (.iload_n 3, 1) := by decide +kernel
theorem dX8_runs_11 : decode cX8_runs 11 = .ok (.i2l, 1) := by decide +kernel
theorem dX8_runs_12 : decode cX8_runs 12 = .ok (.lreturn, 1) := by decide +kernel
theorem dX8_runs_13 : decode cX8_runs 13 = .ok (.iload_n 2, 1) := by decide +kernel
theorem dX8_runs_14 : decode cX8_runs 14 = .ok (.invokestatic 150, 3) := by decide +kernel
theorem dX8_runs_17 : decode cX8_runs 17 = .ok (.ifCond .eq 15, 3) := by decide +kernel
theorem dX8_runs_20 : decode cX8_runs 20 = .ok (.aload_n 0, 1) := by decide +kernel
theorem dX8_runs_21 : decode cX8_runs 21 = .ok (.getfield 51, 3) := by decide +kernel
theorem dX8_runs_24 : decode cX8_runs 24 = .ok (.iload_n 1, 1) := by decide +kernel
theorem dX8_runs_25 : decode cX8_runs 25 = .ok (.iload_n 2, 1) := by decide +kernel
theorem dX8_runs_26 : decode cX8_runs 26 = .ok (.invokevirtual 153, 3) := by decide +kernel
theorem dX8_runs_29 : decode cX8_runs 29 = .ok (.goto 6, 3) := by decide +kernel
theorem dX8_runs_32 : decode cX8_runs 32 = .ok (.ldc2_w 157, 3) := by decide +kernel
theorem dX8_runs_35 : decode cX8_runs 35 = .ok (.lreturn, 1) := by decide +kernel
theorem dX8_run_0 : decode cX8_run 0 = .ok (.aload_n 0, 1) := by decide +kernel
theorem dX8_run_1 : decode cX8_run 1 = .ok (.iload_n 1, 1) := by decide +kernel
theorem dX8_run_2 : decode cX8_run 2 = .ok (.invokevirtual 134, 3) := by decide +kernel
theorem dX8_run_5 : decode cX8_run 5 = .ok (.istore 4, 2) := by decide +kernel
theorem dX8_run_7 : decode cX8_run 7 = .ok (.iload 4, 2) := by decide +kernel
theorem dX8_run_9 : decode cX8_run 9 = .ok (.ifCond .eq 6, 3) := by decide +kernel
theorem dX8_run_12 : decode cX8_run 12 = .ok (.iload 4, 2) := by decide +kernel
theorem dX8_run_14 : decode cX8_run 14 = .ok (.ireturn, 1) := by decide +kernel
theorem dX8_run_15 : decode cX8_run 15 = .ok (.iload_n 2, 1) := by decide +kernel
theorem dX8_run_16 : decode cX8_run 16 = .ok (.invokestatic 150, 3) := by decide +kernel
theorem dX8_run_19 : decode cX8_run 19 = .ok (.ifCond .eq 16, 3) := by decide +kernel
theorem dX8_run_22 : decode cX8_run 22 = .ok (.aload_n 0, 1) := by decide +kernel
theorem dX8_run_23 : decode cX8_run 23 = .ok (.getfield 51, 3) := by decide +kernel
theorem dX8_run_26 : decode cX8_run 26 = .ok (.iload_n 1, 1) := by decide +kernel
theorem dX8_run_27 : decode cX8_run 27 = .ok (.iload_n 2, 1) := by decide +kernel
theorem dX8_run_28 : decode cX8_run 28 = .ok (.iload_n 3, 1) := by decide +kernel
theorem dX8_run_29 : decode cX8_run 29 = .ok (.invokevirtual 159, 3) := by decide +kernel
theorem dX8_run_32 : decode cX8_run 32 = .ok (.goto 5, 3) := by decide +kernel
theorem dX8_run_35 : decode cX8_run 35 = .ok (.bipush (-2), 2) := by decide +kernel
theorem dX8_run_37 : decode cX8_run 37 = .ok (.ireturn, 1) := by decide +kernel
theorem dX8_event_0 : decode cX8_event 0 = .ok (.aload_n 0, 1) := by decide +kernel
theorem dX8_event_1 : decode cX8_event 1 = .ok (.getfield 51, 3) := by decide +kernel
theorem dX8_event_4 : decode cX8_event 4 = .ok (.invokevirtual 119, 3) := by decide +kernel
theorem dX8_event_7 : decode cX8_event 7 = .ok (.ifCond .ne 6, 3) := by decide +kernel
theorem dX8_event_10 : decode cX8_event 10 = .ok (.bipush (-3), 2) := by decide +kernel
theorem dX8_event_12 : decode cX8_event 12 = .ok (.ireturn, 1) := by decide +kernel
theorem dX8_event_13 : decode cX8_event 13 = .ok (.iload_n 1, 1) := by decide +kernel
theorem dX8_event_14 : decode cX8_event 14 = .ok (.invokestatic 127, 3) := by decide +kernel
theorem dX8_event_17 : decode cX8_event 17 = .ok (.ifCond .eq 10, 3) := by decide +kernel
theorem dX8_event_20 : decode cX8_event 20 = .ok (.iload_n 2, 1) := by decide +kernel
theorem dX8_event_21 : decode cX8_event 21 = .ok (.invokestatic 163, 3) := by decide +kernel
theorem dX8_event_24 : decode cX8_event 24 = .ok (.ifCond .ne 5, 3) := by decide +kernel
theorem dX8_event_27 : decode cX8_event 27 = .ok (.iconst (-1), 1) := by decide +kernel
theorem dX8_event_28 : decode cX8_event 28 = .ok (.ireturn, 1) := by decide +kernel
theorem dX8_event_29 : decode cX8_event 29 = .ok (.aload_n 0, 1) := by decide +kernel
theorem dX8_event_30 : decode cX8_event 30 = .ok (.getfield 68, 3) := by decide +kernel
theorem dX8_event_33 : decode cX8_event 33 = .ok (.aload_n 0, 1) := by decide +kernel
theorem dX8_event_34 : decode cX8_event 34 = .ok (.getfield 51, 3) := by decide +kernel
theorem dX8_event_37 : decode cX8_event 37 = .ok (.iload_n 2, 1) := by decide +kernel
theorem dX8_event_38 : decode cX8_event 38 = .ok (.iload_n 1, 1) := by decide +kernel
theorem dX8_event_39 : decode cX8_event 39 = .ok (.invokevirtual 166, 3) := by decide +kernel
theorem dX8_event_42 : decode cX8_event 42 = .ok (.ireturn, 1) := by decide +kernel
theorem dX8_lost_0 : decode cX8_lost 0 = .ok (.aload_n 0, 1) := by decide +kernel
theorem dX8_lost_1 : decode cX8_lost 1 = .ok (.iload_n 1, 1) := by decide +kernel
theorem dX8_lost_2 : decode cX8_lost 2 = .ok (.invokevirtual 170, 3) := by decide +kernel
theorem dX8_lost_5 : decode cX8_lost 5 = .ok (.istore_n 3, 1) := by decide +kernel
theorem dX8_lost_6 : decode cX8_lost 6 = .ok (.iload_n 3, 1) := by decide +kernel
theorem dX8_lost_7 : decode cX8_lost 7 = .ok (.ifCond .eq 5, 3) := by decide +kernel
theorem dX8_lost_10 : decode cX8_lost 10 = .ok (.iload_n 3, 1) := by decide +kernel
theorem dX8_lost_11 : decode cX8_lost 11 = .ok (.ireturn, 1) := by decide +kernel
theorem dX8_lost_12 : decode cX8_lost 12 = .ok (.iload_n 2, 1) := by decide +kernel
theorem dX8_lost_13 : decode cX8_lost 13 = .ok (.iconst 1, 1) := by decide +kernel
theorem dX8_lost_14 : decode cX8_lost 14 = .ok (.if_icmp .lt 9, 3) := by decide +kernel
theorem dX8_lost_17 : decode cX8_lost 17 = .ok (.iload_n 2, 1) := by decide +kernel
theorem dX8_lost_18 : decode cX8_lost 18 = .ok (.bipush 100, 2) := by decide +kernel
theorem dX8_lost_20 : decode cX8_lost 20 = .ok (.if_icmp .le 6, 3) := by decide +kernel
theorem dX8_lost_23 : decode cX8_lost 23 = .ok (.bipush (-2), 2) := by decide +kernel
theorem dX8_lost_25 : decode cX8_lost 25 = .ok (.ireturn, 1) := by decide +kernel
theorem dX8_lost_26 : decode cX8_lost 26 = .ok (.aload_n 0, 1) := by decide +kernel
theorem dX8_lost_27 : decode cX8_lost 27 = .ok (.getfield 68, 3) := by decide +kernel
theorem dX8_lost_30 : decode cX8_lost 30 = .ok (.aload_n 0, 1) := by decide +kernel
theorem dX8_lost_31 : decode cX8_lost 31 = .ok (.getfield 51, 3) := by decide +kernel
theorem dX8_lost_34 : decode cX8_lost 34 = .ok (.iload_n 1, 1) := by decide +kernel
theorem dX8_lost_35 : decode cX8_lost 35 = .ok (.iload_n 2, 1) := by decide +kernel
theorem dX8_lost_36 : decode cX8_lost 36 = .ok (.invokevirtual 173, 3) := by decide +kernel
theorem dX8_lost_39 : decode cX8_lost 39 = .ok (.ireturn, 1) := by decide +kernel
theorem dX8_told_0 : decode cX8_told 0 = .ok (.aload_n 0, 1) := by decide +kernel
theorem dX8_told_1 : decode cX8_told 1 = .ok (.iload_n 1, 1) := by decide +kernel
theorem dX8_told_2 : decode cX8_told 2 = .ok (.invokevirtual 170, 3) := by decide +kernel
theorem dX8_told_5 : decode cX8_told 5 = .ok (.istore_n 2, 1) := by decide +kernel
theorem dX8_told_6 : decode cX8_told 6 = .ok (.iload_n 2, 1) := by decide +kernel
theorem dX8_told_7 : decode cX8_told 7 = .ok (.ifCond .eq 7, 3) := by decide +kernel
theorem dX8_told_10 : decode cX8_told 10 = .ok (.iload_n 2, 1) := by decide +kernel
theorem dX8_told_11 : decode cX8_told 11 = .ok (.goto 15, 3) := by decide +kernel
theorem dX8_told_14 : decode cX8_told 14 = .ok (.aload_n 0, 1) := by decide +kernel
theorem dX8_told_15 : decode cX8_told 15 = .ok (.getfield 68, 3) := by decide +kernel
theorem dX8_told_18 : decode cX8_told 18 = .ok (.aload_n 0, 1) := by decide +kernel
theorem dX8_told_19 : decode cX8_told 19 = .ok (.getfield 51, 3) := by decide +kernel
theorem dX8_told_22 : decode cX8_told 22 = .ok (.iload_n 1, 1) := by decide +kernel
theorem dX8_told_23 : decode cX8_told 23 = .ok (.invokevirtual 176, 3) := by decide +kernel
theorem dX8_told_26 : decode cX8_told 26 = .ok (.ireturn, 1) := by decide +kernel
theorem dX8_may_0 : decode cX8_may 0 = .ok (.aload_n 0, 1) := by decide +kernel
theorem dX8_may_1 : decode cX8_may 1 = .ok (.iload_n 1, 1) := by decide +kernel
theorem dX8_may_2 : decode cX8_may 2 = .ok (.invokevirtual 170, 3) := by decide +kernel
theorem dX8_may_5 : decode cX8_may 5 = .ok (.istore_n 2, 1) := by decide +kernel
theorem dX8_may_6 : decode cX8_may 6 = .ok (.iload_n 2, 1) := by decide +kernel
theorem dX8_may_7 : decode cX8_may 7 = .ok (.ifCond .eq 7, 3) := by decide +kernel
theorem dX8_may_10 : decode cX8_may 10 = .ok (.iload_n 2, 1) := by decide +kernel
theorem dX8_may_11 : decode cX8_may 11 = .ok (.goto 11, 3) := by decide +kernel
theorem dX8_may_14 : decode cX8_may 14 = .ok (.aload_n 0, 1) := by decide +kernel
theorem dX8_may_15 : decode cX8_may 15 = .ok (.getfield 68, 3) := by decide +kernel
theorem dX8_may_18 : decode cX8_may 18 = .ok (.iload_n 1, 1) := by decide +kernel
theorem dX8_may_19 : decode cX8_may 19 = .ok (.invokevirtual 179, 3) := by decide +kernel
theorem dX8_may_22 : decode cX8_may 22 = .ok (.ireturn, 1) := by decide +kernel
theorem dX8_state_0 : decode cX8_state 0 = .ok (.aload_n 0, 1) := by decide +kernel
theorem dX8_state_1 : decode cX8_state 1 = .ok (.iload_n 1, 1) := by decide +kernel
theorem dX8_state_2 : decode cX8_state 2 = .ok (.invokevirtual 170, 3) := by decide +kernel
theorem dX8_state_5 : decode cX8_state 5 = .ok (.istore_n 3, 1) := by decide +kernel
theorem dX8_state_6 : decode cX8_state 6 = .ok (.iload_n 3, 1) := by decide +kernel
theorem dX8_state_7 : decode cX8_state 7 = .ok (.ifCond .eq 7, 3) := by decide +kernel
theorem dX8_state_10 : decode cX8_state 10 = .ok (.iload_n 3, 1) := by decide +kernel
theorem dX8_state_11 : decode cX8_state 11 = .ok (.goto 12, 3) := by decide +kernel
theorem dX8_state_14 : decode cX8_state 14 = .ok (.aload_n 0, 1) := by decide +kernel
theorem dX8_state_15 : decode cX8_state 15 = .ok (.getfield 68, 3) := by decide +kernel
theorem dX8_state_18 : decode cX8_state 18 = .ok (.iload_n 1, 1) := by decide +kernel
theorem dX8_state_19 : decode cX8_state 19 = .ok (.iload_n 2, 1) := by decide +kernel
theorem dX8_state_20 : decode cX8_state 20 = .ok (.invokevirtual 182, 3) := by decide +kernel
theorem dX8_state_23 : decode cX8_state 23 = .ok (.ireturn, 1) := by decide +kernel
theorem dX8_events_0 : decode cX8_events 0 = .ok (.aload_n 0, 1) := by decide +kernel
theorem dX8_events_1 : decode cX8_events 1 = .ok (.iload_n 1, 1) := by decide +kernel
theorem dX8_events_2 : decode cX8_events 2 = .ok (.invokevirtual 170, 3) := by decide +kernel
theorem dX8_events_5 : decode cX8_events 5 = .ok (.istore_n 2, 1) := by decide +kernel
theorem dX8_events_6 : decode cX8_events 6 = .ok (.iload_n 2, 1) := by decide +kernel
theorem dX8_events_7 : decode cX8_events 7 = .ok (.ifCond .eq 7, 3) := by decide +kernel
theorem dX8_events_10 : decode cX8_events 10 = .ok (.iload_n 2, 1) := by decide +kernel
theorem dX8_events_11 : decode cX8_events 11 = .ok (.goto 11, 3) := by decide +kernel
theorem dX8_events_14 : decode cX8_events 14 = .ok (.aload_n 0, 1) := by decide +kernel
theorem dX8_events_15 : decode cX8_events 15 = .ok (.getfield 68, 3) := by decide +kernel
theorem dX8_events_18 : decode cX8_events 18 = .ok (.iload_n 1, 1) := by decide +kernel
theorem dX8_events_19 : decode cX8_events 19 = .ok (.invokevirtual 185, 3) := by decide +kernel
theorem dX8_events_22 : decode cX8_events 22 = .ok (.ireturn, 1) := by decide +kernel
theorem dX8_anew_0 : decode cX8_anew 0 = .ok (.aload_n 0, 1) := by decide +kernel
theorem dX8_anew_1 : decode cX8_anew 1 = .ok (.iload_n 1, 1) := by decide +kernel
theorem dX8_anew_2 : decode cX8_anew 2 = .ok (.invokevirtual 170, 3) := by decide +kernel
theorem dX8_anew_5 : decode cX8_anew 5 = .ok (.istore_n 2, 1) := by decide +kernel
theorem dX8_anew_6 : decode cX8_anew 6 = .ok (.iload_n 2, 1) := by decide +kernel
theorem dX8_anew_7 : decode cX8_anew 7 = .ok (.ifCond .eq 5, 3) := by decide +kernel
theorem dX8_anew_10 : decode cX8_anew 10 = .ok (.iload_n 2, 1) := by decide +kernel
theorem dX8_anew_11 : decode cX8_anew 11 = .ok (.ireturn, 1) := by decide +kernel
theorem dX8_anew_12 : decode cX8_anew 12 = .ok (.aload_n 0, 1) := by decide +kernel
theorem dX8_anew_13 : decode cX8_anew 13 = .ok (.getfield 68, 3) := by decide +kernel
theorem dX8_anew_16 : decode cX8_anew 16 = .ok (.aload_n 0, 1) := by decide +kernel
theorem dX8_anew_17 : decode cX8_anew 17 = .ok (.getfield 51, 3) := by decide +kernel
theorem dX8_anew_20 : decode cX8_anew 20 = .ok (.iload_n 1, 1) := by decide +kernel
theorem dX8_anew_21 : decode cX8_anew 21 = .ok (.invokevirtual 176, 3) := by decide +kernel
theorem dX8_anew_24 : decode cX8_anew 24 = .ok (.istore_n 3, 1) := by decide +kernel
theorem dX8_anew_25 : decode cX8_anew 25 = .ok (.aload_n 0, 1) := by decide +kernel
theorem dX8_anew_26 : decode cX8_anew 26 = .ok (.getfield 68, 3) := by decide +kernel
theorem dX8_anew_29 : decode cX8_anew 29 = .ok (.iload_n 1, 1) := by decide +kernel
theorem dX8_anew_30 : decode cX8_anew 30 = .ok (.invokevirtual 188, 3) := by decide +kernel
theorem dX8_anew_33 : decode cX8_anew 33 = .ok (.iload_n 3, 1) := by decide +kernel
theorem dX8_anew_34 : decode cX8_anew 34 = .ok (.ireturn, 1) := by decide +kernel
theorem dX8_keep_0 : decode cX8_keep 0 = .ok (.aload_n 0, 1) := by decide +kernel
theorem dX8_keep_1 : decode cX8_keep 1 = .ok (.getfield 51, 3) := by decide +kernel
theorem dX8_keep_4 : decode cX8_keep 4 = .ok (.invokevirtual 119, 3) := by decide +kernel
theorem dX8_keep_7 : decode cX8_keep 7 = .ok (.ifCond .ne 6, 3) := by decide +kernel
theorem dX8_keep_10 : decode cX8_keep 10 = .ok (.bipush (-3), 2) := by decide +kernel
theorem dX8_keep_12 : decode cX8_keep 12 = .ok (.ireturn, 1) := by decide +kernel
theorem dX8_keep_13 : decode cX8_keep 13 = .ok (.aload_n 0, 1) := by decide +kernel
theorem dX8_keep_14 : decode cX8_keep 14 = .ok (.getfield 55, 3) := by decide +kernel
theorem dX8_keep_17 : decode cX8_keep 17 = .ok (.aload_n 0, 1) := by decide +kernel
theorem dX8_keep_18 : decode cX8_keep 18 = .ok (.getfield 51, 3) := by decide +kernel
theorem dX8_keep_21 : decode cX8_keep 21 = .ok (.invokevirtual 191, 3) := by decide +kernel
theorem dX8_keep_24 : decode cX8_keep 24 = .ok (.aload_n 0, 1) := by decide +kernel
theorem dX8_keep_25 : decode cX8_keep 25 = .ok (.getfield 55, 3) := by decide +kernel
theorem dX8_keep_28 : decode cX8_keep 28 = .ok (.invokevirtual 116, 3) := by decide +kernel
theorem dX8_keep_31 : decode cX8_keep 31 = .ok (.ireturn, 1) := by decide +kernel
theorem dX8_against_0 : decode cX8_against 0 = .ok (.aload_n 0, 1) := by decide +kernel
theorem dX8_against_1 : decode cX8_against 1 = .ok (.getfield 51, 3) := by decide +kernel
theorem dX8_against_4 : decode cX8_against 4 = .ok (.invokevirtual 119, 3) := by decide +kernel
theorem dX8_against_7 : decode cX8_against 7 = .ok (.ifCond .eq 13, 3) := by decide +kernel
theorem dX8_against_10 : decode cX8_against 10 = .ok (.aload_n 0, 1) := by decide +kernel
theorem dX8_against_11 : decode cX8_against 11 = .ok (.getfield 55, 3) := by decide +kernel
theorem dX8_against_14 : decode cX8_against 14 = .ok (.invokevirtual 119, 3) := by decide +kernel
theorem dX8_against_17 : decode cX8_against 17 = .ok (.ifCond .ne 6, 3) := by decide +kernel
theorem dX8_against_20 : decode cX8_against 20 = .ok (.bipush (-3), 2) := by decide +kernel
theorem dX8_against_22 : decode cX8_against 22 = .ok (.ireturn, 1) := by decide +kernel
theorem dX8_against_23 : decode cX8_against 23 = .ok (.aload_n 0, 1) := by decide +kernel
theorem dX8_against_24 : decode cX8_against 24 = .ok (.getfield 61, 3) := by decide +kernel
theorem dX8_against_27 : decode cX8_against 27 = .ok (.aload_n 0, 1) := by decide +kernel
theorem dX8_against_28 : decode cX8_against 28 = .ok (.getfield 51, 3) := by decide +kernel
theorem dX8_against_31 : decode cX8_against 31 = .ok (.aload_n 0, 1) := by decide +kernel
theorem dX8_against_32 : decode cX8_against 32 = .ok (.getfield 55, 3) := by decide +kernel
theorem dX8_against_35 : decode cX8_against 35 = .ok (.invokevirtual 195, 3) := by decide +kernel
theorem dX8_against_38 : decode cX8_against 38 = .ok (.aload_n 0, 1) := by decide +kernel
theorem dX8_against_39 : decode cX8_against 39 = .ok (.getfield 61, 3) := by decide +kernel
theorem dX8_against_42 : decode cX8_against 42 = .ok (.invokevirtual 199, 3) := by decide +kernel
theorem dX8_against_45 : decode cX8_against 45 = .ok (.ireturn, 1) := by decide +kernel
theorem dX8_apart_0 : decode cX8_apart 0 = .ok (.aload_n 0, 1) := by decide +kernel
theorem dX8_apart_1 : decode cX8_apart 1 = .ok (.getfield 51, 3) := by decide +kernel
theorem dX8_apart_4 : decode cX8_apart 4 = .ok (.invokevirtual 119, 3) := by decide +kernel
theorem dX8_apart_7 : decode cX8_apart 7 = .ok (.ifCond .eq 13, 3) := by decide +kernel
theorem dX8_apart_10 : decode cX8_apart 10 = .ok (.aload_n 0, 1) := by decide +kernel
theorem dX8_apart_11 : decode cX8_apart 11 = .ok (.getfield 55, 3) := by decide +kernel
theorem dX8_apart_14 : decode cX8_apart 14 = .ok (.invokevirtual 119, 3) := by decide +kernel
theorem dX8_apart_17 : decode cX8_apart 17 = .ok (.ifCond .ne 6, 3) := by decide +kernel
theorem dX8_apart_20 : decode cX8_apart 20 = .ok (.bipush (-3), 2) := by decide +kernel
theorem dX8_apart_22 : decode cX8_apart 22 = .ok (.ireturn, 1) := by decide +kernel
theorem dX8_apart_23 : decode cX8_apart 23 = .ok (.aload_n 0, 1) := by decide +kernel
theorem dX8_apart_24 : decode cX8_apart 24 = .ok (.getfield 61, 3) := by decide +kernel
theorem dX8_apart_27 : decode cX8_apart 27 = .ok (.aload_n 0, 1) := by decide +kernel
theorem dX8_apart_28 : decode cX8_apart 28 = .ok (.getfield 51, 3) := by decide +kernel
theorem dX8_apart_31 : decode cX8_apart 31 = .ok (.aload_n 0, 1) := by decide +kernel
theorem dX8_apart_32 : decode cX8_apart 32 = .ok (.getfield 55, 3) := by decide +kernel
theorem dX8_apart_35 : decode cX8_apart 35 = .ok (.invokevirtual 195, 3) := by decide +kernel
theorem dX8_apart_38 : decode cX8_apart 38 = .ok (.aload_n 0, 1) := by decide +kernel
theorem dX8_apart_39 : decode cX8_apart 39 = .ok (.getfield 61, 3) := by decide +kernel
theorem dX8_apart_42 : decode cX8_apart 42 = .ok (.invokevirtual 202, 3) := by decide +kernel
theorem dX8_apart_45 : decode cX8_apart 45 = .ok (.ireturn, 1) := by decide +kernel
theorem dX8_count_0 : decode cX8_count 0 = .ok (.iload_n 1, 1) := by decide +kernel
theorem dX8_count_1 : decode cX8_count 1 = .ok (.tableswitch 98 0 4 #[35, 43, 51, 77, 82], 35) := by decide +kernel
theorem dX8_count_36 : decode cX8_count 36 = .ok (.aload_n 0, 1) := by decide +kernel
theorem dX8_count_37 : decode cX8_count 37 = .ok (.getfield 51, 3) := by decide +kernel
theorem dX8_count_40 : decode cX8_count 40 = .ok (.invokevirtual 116, 3) := by decide +kernel
theorem dX8_count_43 : decode cX8_count 43 = .ok (.ireturn, 1) := by decide +kernel
theorem dX8_count_44 : decode cX8_count 44 = .ok (.aload_n 0, 1) := by decide +kernel
theorem dX8_count_45 : decode cX8_count 45 = .ok (.getfield 51, 3) := by decide +kernel
theorem dX8_count_48 : decode cX8_count 48 = .ok (.invokevirtual 205, 3) := by decide +kernel
theorem dX8_count_51 : decode cX8_count 51 = .ok (.ireturn, 1) := by decide +kernel
theorem dX8_count_52 : decode cX8_count 52 = .ok (.aload_n 0, 1) := by decide +kernel
theorem dX8_count_53 : decode cX8_count 53 = .ok (.getfield 51, 3) := by decide +kernel
theorem dX8_count_56 : decode cX8_count 56 = .ok (.invokevirtual 119, 3) := by decide +kernel
theorem dX8_count_59 : decode cX8_count 59 = .ok (.ifCond .eq 17, 3) := by decide +kernel
theorem dX8_count_62 : decode cX8_count 62 = .ok (.aload_n 0, 1) := by decide +kernel
theorem dX8_count_63 : decode cX8_count 63 = .ok (.getfield 68, 3) := by decide +kernel
theorem dX8_count_66 : decode cX8_count 66 = .ok (.aload_n 0, 1) := by decide +kernel
theorem dX8_count_67 : decode cX8_count 67 = .ok (.getfield 51, 3) := by decide +kernel
theorem dX8_count_70 : decode cX8_count 70 = .ok (.invokevirtual 208, 3) := by decide +kernel
theorem dX8_count_73 : decode cX8_count 73 = .ok (.goto 4, 3) := by decide +kernel
theorem dX8_count_76 : decode cX8_count 76 = .ok (.iconst 0, 1) := by decide +kernel
theorem dX8_count_77 : decode cX8_count 77 = .ok (.ireturn, 1) := by decide +kernel
theorem dX8_count_78 : decode cX8_count 78 = .ok (.aload_n 0, 1) := by decide +kernel
theorem dX8_count_79 : decode cX8_count 79 = .ok (.getfield 13, 3) := by decide +kernel
theorem dX8_count_82 : decode cX8_count 82 = .ok (.ireturn, 1) := by decide +kernel
theorem dX8_count_83 : decode cX8_count 83 = .ok (.aload_n 0, 1) := by decide +kernel
theorem dX8_count_84 : decode cX8_count 84 = .ok (.getfield 55, 3) := by decide +kernel
theorem dX8_count_87 : decode cX8_count 87 = .ok (.invokevirtual 119, 3) := by decide +kernel
theorem dX8_count_90 : decode cX8_count 90 = .ok (.ifCond .eq 7, 3) := by decide +kernel
theorem dX8_count_93 : decode cX8_count 93 = .ok (.iconst 1, 1) := by decide +kernel
theorem dX8_count_94 : decode cX8_count 94 = .ok (.goto 4, 3) := by decide +kernel
theorem dX8_count_97 : decode cX8_count 97 = .ok (.iconst 0, 1) := by decide +kernel
theorem dX8_count_98 : decode cX8_count 98 = .ok (.ireturn, 1) := by decide +kernel
theorem dX8_count_99 : decode cX8_count 99 = .ok (.bipush (-2), 2) := by decide +kernel
theorem dX8_count_101 : decode cX8_count 101 = .ok (.ireturn, 1) := by decide +kernel
theorem dX8_refusalOfState_0 : decode cX8_refusalOfState 0 = .ok (.aload_n 0, 1) := by decide +kernel
theorem dX8_refusalOfState_1 : decode cX8_refusalOfState 1 = .ok (.getfield 51, 3) := by decide +kernel
theorem dX8_refusalOfState_4 : decode cX8_refusalOfState 4 = .ok (.invokevirtual 119, 3) := by decide +kernel
theorem dX8_refusalOfState_7 : decode cX8_refusalOfState 7 = .ok (.ifCond .ne 6, 3) := by decide +kernel
theorem dX8_refusalOfState_10 : decode cX8_refusalOfState 10 = .ok (.bipush (-3), 2) := by decide +kernel
theorem dX8_refusalOfState_12 : decode cX8_refusalOfState 12 = .ok (.ireturn, 1) := by decide +kernel
theorem dX8_refusalOfState_13 : decode cX8_refusalOfState 13 = .ok (.aload_n 0, 1) := by decide +kernel
theorem dX8_refusalOfState_14 : decode cX8_refusalOfState 14 = .ok (.getfield 51, 3) := by decide +kernel
theorem dX8_refusalOfState_17 : decode cX8_refusalOfState 17 = .ok (.iload_n 1, 1) := by decide +kernel
theorem dX8_refusalOfState_18 : decode cX8_refusalOfState 18 = .ok (.invokevirtual 123, 3) := by decide +kernel
theorem dX8_refusalOfState_21 : decode cX8_refusalOfState 21 = .ok (.ifCond .eq 7, 3) := by decide +kernel
theorem dX8_refusalOfState_24 : decode cX8_refusalOfState 24 = .ok (.iconst 0, 1) := by decide +kernel
theorem dX8_refusalOfState_25 : decode cX8_refusalOfState 25 = .ok (.goto 4, 3) := by decide +kernel
theorem dX8_refusalOfState_28 : decode cX8_refusalOfState 28 = .ok (.iconst (-1), 1) := by decide +kernel
theorem dX8_refusalOfState_29 : decode cX8_refusalOfState 29 = .ok (.ireturn, 1) := by decide +kernel
theorem dX8_refusalOfKey_0 : decode cX8_refusalOfKey 0 = .ok (.aload_n 0, 1) := by decide +kernel
theorem dX8_refusalOfKey_1 : decode cX8_refusalOfKey 1 = .ok (.getfield 51, 3) := by decide +kernel
theorem dX8_refusalOfKey_4 : decode cX8_refusalOfKey 4 = .ok (.invokevirtual 119, 3) := by decide +kernel
theorem dX8_refusalOfKey_7 : decode cX8_refusalOfKey 7 = .ok (.ifCond .ne 6, 3) := by decide +kernel
theorem dX8_refusalOfKey_10 : decode cX8_refusalOfKey 10 = .ok (.bipush (-3), 2) := by decide +kernel
theorem dX8_refusalOfKey_12 : decode cX8_refusalOfKey 12 = .ok (.ireturn, 1) := by decide +kernel
theorem dX8_refusalOfKey_13 : decode cX8_refusalOfKey 13 = .ok (.iload_n 1, 1) := by decide +kernel
theorem dX8_refusalOfKey_14 : decode cX8_refusalOfKey 14 = .ok (.invokestatic 163, 3) := by decide +kernel
theorem dX8_refusalOfKey_17 : decode cX8_refusalOfKey 17 = .ok (.ifCond .eq 7, 3) := by decide +kernel
theorem dX8_refusalOfKey_20 : decode cX8_refusalOfKey 20 = .ok (.iconst 0, 1) := by decide +kernel
theorem dX8_refusalOfKey_21 : decode cX8_refusalOfKey 21 = .ok (.goto 4, 3) := by decide +kernel
theorem dX8_refusalOfKey_24 : decode cX8_refusalOfKey 24 = .ok (.iconst (-1), 1) := by decide +kernel
theorem dX8_refusalOfKey_25 : decode cX8_refusalOfKey 25 = .ok (.ireturn, 1) := by decide +kernel
theorem dX8_isEvent_0 : decode cX8_isEvent 0 = .ok (.iload_n 0, 1) := by decide +kernel
theorem dX8_isEvent_1 : decode cX8_isEvent 1 = .ok (.ifCond .lt 12, 3) := by decide +kernel
theorem dX8_isEvent_4 : decode cX8_isEvent 4 = .ok (.iload_n 0, 1) := by decide +kernel
theorem dX8_isEvent_5 : decode cX8_isEvent 5 = .ok (.iconst 4, 1) := by decide +kernel
theorem dX8_isEvent_6 : decode cX8_isEvent 6 = .ok (.if_icmp .ge 7, 3) := by decide +kernel
theorem dX8_isEvent_9 : decode cX8_isEvent 9 = .ok (.iconst 1, 1) := by decide +kernel
theorem dX8_isEvent_10 : decode cX8_isEvent 10 = .ok (.goto 4, 3) := by decide +kernel
theorem dX8_isEvent_13 : decode cX8_isEvent 13 = .ok (.iconst 0, 1) := by decide +kernel
theorem dX8_isEvent_14 : decode cX8_isEvent 14 = .ok (.ireturn, 1) := by decide +kernel
theorem dX8_isVerdict_0 : decode cX8_isVerdict 0 = .ok (.iload_n 0, 1) := by decide +kernel
theorem dX8_isVerdict_1 : decode cX8_isVerdict 1 = .ok (.ifCond .lt 12, 3) := by decide +kernel
theorem dX8_isVerdict_4 : decode cX8_isVerdict 4 = .ok (.iload_n 0, 1) := by decide +kernel
theorem dX8_isVerdict_5 : decode cX8_isVerdict 5 = .ok (.iconst 4, 1) := by decide +kernel
theorem dX8_isVerdict_6 : decode cX8_isVerdict 6 = .ok (.if_icmp .ge 7, 3) := by decide +kernel
theorem dX8_isVerdict_9 : decode cX8_isVerdict 9 = .ok (.iconst 1, 1) := by decide +kernel
theorem dX8_isVerdict_10 : decode cX8_isVerdict 10 = .ok (.goto 4, 3) := by decide +kernel
theorem dX8_isVerdict_13 : decode cX8_isVerdict 13 = .ok (.iconst 0, 1) := by decide +kernel
theorem dX8_isVerdict_14 : decode cX8_isVerdict 14 = .ok (.ireturn, 1) := by decide +kernel
theorem dX8_isKey_0 : decode cX8_isKey 0 = .ok (.iload_n 0, 1) := by decide +kernel
theorem dX8_isKey_1 : decode cX8_isKey 1 = .ok (.ifCond .lt 13, 3) := by decide +kernel
theorem dX8_isKey_4 : decode cX8_isKey 4 = .ok (.iload_n 0, 1) := by decide +kernel
theorem dX8_isKey_5 : decode cX8_isKey 5 = .ok (.bipush 16, 2) := by decide +kernel
theorem dX8_isKey_7 : decode cX8_isKey 7 = .ok (.if_icmp .ge 7, 3) := by decide +kernel
theorem dX8_isKey_10 : decode cX8_isKey 10 = .ok (.iconst 1, 1) := by decide +kernel
theorem dX8_isKey_11 : decode cX8_isKey 11 = .ok (.goto 4, 3) := by decide +kernel
theorem dX8_isKey_14 : decode cX8_isKey 14 = .ok (.iconst 0, 1) := by decide +kernel
theorem dX8_isKey_15 : decode cX8_isKey 15 = .ok (.ireturn, 1) := by decide +kernel
theorem dX8_isRow_0 : decode cX8_isRow 0 = .ok (.iload_n 0, 1) := by decide +kernel
theorem dX8_isRow_1 : decode cX8_isRow 1 = .ok (.ifCond .lt 13, 3) := by decide +kernel
theorem dX8_isRow_4 : decode cX8_isRow 4 = .ok (.iload_n 0, 1) := by decide +kernel
theorem dX8_isRow_5 : decode cX8_isRow 5 = .ok (.bipush 25, 2) := by decide +kernel
theorem dX8_isRow_7 : decode cX8_isRow 7 = .ok (.if_icmp .gt 7, 3) := by decide +kernel
theorem dX8_isRow_10 : decode cX8_isRow 10 = .ok (.iconst 1, 1) := by decide +kernel
theorem dX8_isRow_11 : decode cX8_isRow 11 = .ok (.goto 4, 3) := by decide +kernel
theorem dX8_isRow_14 : decode cX8_isRow 14 = .ok (.iconst 0, 1) := by decide +kernel
theorem dX8_isRow_15 : decode cX8_isRow 15 = .ok (.ireturn, 1) := by decide +kernel
theorem dX8_byteOf_0 : decode cX8_byteOf 0 = .ok (.lload_n 0, 1) := by decide +kernel
theorem dX8_byteOf_1 : decode cX8_byteOf 1 = .ok (.bipush 8, 2) := by decide +kernel
theorem dX8_byteOf_3 : decode cX8_byteOf 3 = .ok (.iload_n 2, 1) := by decide +kernel
theorem dX8_byteOf_4 : decode cX8_byteOf 4 = .ok (.imul, 1) := by decide +kernel
theorem dX8_byteOf_5 : decode cX8_byteOf 5 = .ok (.lushr, 1) := by decide +kernel
theorem dX8_byteOf_6 : decode cX8_byteOf 6 = .ok (.l2i, 1) := by decide +kernel
theorem dX8_byteOf_7 : decode cX8_byteOf 7 = .ok (.sipush 255, 3) := by decide +kernel
theorem dX8_byteOf_10 : decode cX8_byteOf 10 = .ok (.iand, 1) := by decide +kernel
theorem dX8_byteOf_11 : decode cX8_byteOf 11 = .ok (.ireturn, 1) := by decide +kernel
theorem dX8_bytesIn_0 : decode cX8_bytesIn 0 = .ok (.iconst 0, 1) := by decide +kernel
theorem dX8_bytesIn_1 : decode cX8_bytesIn 1 = .ok (.istore_n 2, 1) := by decide +kernel
theorem dX8_bytesIn_2 : decode cX8_bytesIn 2 = .ok (.iload_n 2, 1) := by decide +kernel
theorem dX8_bytesIn_3 : decode cX8_bytesIn 3 = .ok (.bipush 8, 2) := by decide +kernel
theorem dX8_bytesIn_5 : decode cX8_bytesIn 5 = .ok (.if_icmp .ge 19, 3) := by decide +kernel
theorem dX8_bytesIn_8 : decode cX8_bytesIn 8 = .ok (.lload_n 0, 1) := by decide +kernel
theorem dX8_bytesIn_9 : decode cX8_bytesIn 9 = .ok (.iload_n 2, 1) := by decide +kernel
theorem dX8_bytesIn_10 : decode cX8_bytesIn 10 = .ok (.invokestatic 76, 3) := by decide +kernel
theorem dX8_bytesIn_13 : decode cX8_bytesIn 13 = .ok (.ifCond .ne 5, 3) := by decide +kernel
theorem dX8_bytesIn_16 : decode cX8_bytesIn 16 = .ok (.iload_n 2, 1) := by decide +kernel
theorem dX8_bytesIn_17 : decode cX8_bytesIn 17 = .ok (.ireturn, 1) := by decide +kernel
theorem dX8_bytesIn_18 : decode cX8_bytesIn 18 = .ok (.iinc 2 1, 3) := by decide +kernel
theorem dX8_bytesIn_21 : decode cX8_bytesIn 21 = .ok (.goto (-19), 3) := by decide +kernel
theorem dX8_bytesIn_24 : decode cX8_bytesIn 24 = .ok (.bipush 8, 2) := by decide +kernel
theorem dX8_bytesIn_26 : decode cX8_bytesIn 26 = .ok (.ireturn, 1) := by decide +kernel
theorem dX8_pick_0 : decode cX8_pick 0 = .ok (.iload_n 1, 1) := by decide +kernel
theorem dX8_pick_1 : decode cX8_pick 1 = .ok (.ifCond .lt 15, 3) := by decide +kernel
theorem dX8_pick_4 : decode cX8_pick 4 = .ok (.iload_n 1, 1) := by decide +kernel
theorem dX8_pick_5 : decode cX8_pick 5 = .ok (.aload_n 0, 1) := by decide +kernel
theorem dX8_pick_6 : decode cX8_pick 6 = .ok (.arraylength, 1) := by decide +kernel
theorem dX8_pick_7 : decode cX8_pick 7 = .ok (.if_icmp .ge 9, 3) := by decide +kernel
theorem dX8_pick_10 : decode cX8_pick 10 = .ok (.aload_n 0, 1) := by decide +kernel
theorem dX8_pick_11 : decode cX8_pick 11 = .ok (.iload_n 1, 1) := by decide +kernel
theorem dX8_pick_12 : decode cX8_pick 12 = .ok (.iaload, 1) := by decide +kernel
theorem dX8_pick_13 : decode cX8_pick 13 = .ok (.goto 5, 3) := by decide +kernel
theorem dX8_pick_16 : decode cX8_pick 16 = .ok (.bipush (-9), 2) := by decide +kernel
theorem dX8_pick_18 : decode cX8_pick 18 = .ok (.ireturn, 1) := by decide +kernel
theorem dX8_put_0 : decode cX8_put 0 = .ok (.iload_n 1, 1) := by decide +kernel
theorem dX8_put_1 : decode cX8_put 1 = .ok (.ifCond .lt 13, 3) := by decide +kernel
theorem dX8_put_4 : decode cX8_put 4 = .ok (.iload_n 1, 1) := by decide +kernel
theorem dX8_put_5 : decode cX8_put 5 = .ok (.aload_n 0, 1) := by decide +kernel
theorem dX8_put_6 : decode cX8_put 6 = .ok (.arraylength, 1) := by decide +kernel
theorem dX8_put_7 : decode cX8_put 7 = .ok (.if_icmp .ge 7, 3) := by decide +kernel
theorem dX8_put_10 : decode cX8_put 10 = .ok (.aload_n 0, 1) := by decide +kernel
theorem dX8_put_11 : decode cX8_put 11 = .ok (.iload_n 1, 1) := by decide +kernel
theorem dX8_put_12 : decode cX8_put 12 = .ok (.iload_n 2, 1) := by decide +kernel
theorem dX8_put_13 : decode cX8_put 13 = .ok (.iastore, 1) := by decide +kernel
theorem dX8_put_14 : decode cX8_put 14 = .ok (.return_, 1) := by decide +kernel
theorem dX8_pickLong_0 : decode cX8_pickLong 0 = .ok (.iload_n 1, 1) := by decide +kernel
theorem dX8_pickLong_1 : decode cX8_pickLong 1 = .ok (.ifCond .lt 15, 3) := by decide +kernel
theorem dX8_pickLong_4 : decode cX8_pickLong 4 = .ok (.iload_n 1, 1) := by decide +kernel
theorem dX8_pickLong_5 : decode cX8_pickLong 5 = .ok (.aload_n 0, 1) := by decide +kernel
theorem dX8_pickLong_6 : decode cX8_pickLong 6 = .ok (.arraylength, 1) := by decide +kernel
theorem dX8_pickLong_7 : decode cX8_pickLong 7 = .ok (.if_icmp .ge 9, 3) := by decide +kernel
theorem dX8_pickLong_10 : decode cX8_pickLong 10 = .ok (.aload_n 0, 1) := by decide +kernel
theorem dX8_pickLong_11 : decode cX8_pickLong 11 = .ok (.iload_n 1, 1) := by decide +kernel
theorem dX8_pickLong_12 : decode cX8_pickLong 12 = .ok (.laload, 1) := by decide +kernel
theorem dX8_pickLong_13 : decode cX8_pickLong 13 = .ok (.goto 4, 3) := by decide +kernel
theorem dX8_pickLong_16 : decode cX8_pickLong 16 = .ok (.lconst 0, 1) := by decide +kernel
theorem dX8_pickLong_17 : decode cX8_pickLong 17 = .ok (.lreturn, 1) := by decide +kernel
theorem dX8_putLong_0 : decode cX8_putLong 0 = .ok (.iload_n 1, 1) := by decide +kernel
theorem dX8_putLong_1 : decode cX8_putLong 1 = .ok (.ifCond .lt 13, 3) := by decide +kernel
theorem dX8_putLong_4 : decode cX8_putLong 4 = .ok (.iload_n 1, 1) := by decide +kernel
theorem dX8_putLong_5 : decode cX8_putLong 5 = .ok (.aload_n 0, 1) := by decide +kernel
theorem dX8_putLong_6 : decode cX8_putLong 6 = .ok (.arraylength, 1) := by decide +kernel
theorem dX8_putLong_7 : decode cX8_putLong 7 = .ok (.if_icmp .ge 7, 3) := by decide +kernel
theorem dX8_putLong_10 : decode cX8_putLong 10 = .ok (.aload_n 0, 1) := by decide +kernel
theorem dX8_putLong_11 : decode cX8_putLong 11 = .ok (.iload_n 1, 1) := by decide +kernel
theorem dX8_putLong_12 : decode cX8_putLong 12 = .ok (.lload_n 2, 1) := by decide +kernel
theorem dX8_putLong_13 : decode cX8_putLong 13 = .ok (.lastore, 1) := by decide +kernel
theorem dX8_putLong_14 : decode cX8_putLong 14 = .ok (.return_, 1) := by decide +kernel
theorem dX8_isSet_0 : decode cX8_isSet 0 = .ok (.iload_n 1, 1) := by decide +kernel
theorem dX8_isSet_1 : decode cX8_isSet 1 = .ok (.ifCond .lt 19, 3) := by decide +kernel
theorem dX8_isSet_4 : decode cX8_isSet 4 = .ok (.iload_n 1, 1) := by decide +kernel
theorem dX8_isSet_5 : decode cX8_isSet 5 = .ok (.aload_n 0, 1) := by decide +kernel
theorem dX8_isSet_6 : decode cX8_isSet 6 = .ok (.arraylength, 1) := by decide +kernel
theorem dX8_isSet_7 : decode cX8_isSet 7 = .ok (.if_icmp .ge 13, 3) := by decide +kernel
theorem dX8_isSet_10 : decode cX8_isSet 10 = .ok (.aload_n 0, 1) := by decide +kernel
theorem dX8_isSet_11 : decode cX8_isSet 11 = .ok (.iload_n 1, 1) := by decide +kernel
theorem dX8_isSet_12 : decode cX8_isSet 12 = .ok (.baload, 1) := by decide +kernel
theorem dX8_isSet_13 : decode cX8_isSet 13 = .ok (.ifCond .eq 7, 3) := by decide +kernel
theorem dX8_isSet_16 : decode cX8_isSet 16 = .ok (.iconst 1, 1) := by decide +kernel
theorem dX8_isSet_17 : decode cX8_isSet 17 = .ok (.goto 4, 3) := by decide +kernel
theorem dX8_isSet_20 : decode cX8_isSet 20 = .ok (.iconst 0, 1) := by decide +kernel
theorem dX8_isSet_21 : decode cX8_isSet 21 = .ok (.ireturn, 1) := by decide +kernel
theorem dX8_set_0 : decode cX8_set 0 = .ok (.iload_n 1, 1) := by decide +kernel
theorem dX8_set_1 : decode cX8_set 1 = .ok (.ifCond .lt 13, 3) := by decide +kernel
theorem dX8_set_4 : decode cX8_set 4 = .ok (.iload_n 1, 1) := by decide +kernel
theorem dX8_set_5 : decode cX8_set 5 = .ok (.aload_n 0, 1) := by decide +kernel
theorem dX8_set_6 : decode cX8_set 6 = .ok (.arraylength, 1) := by decide +kernel
theorem dX8_set_7 : decode cX8_set 7 = .ok (.if_icmp .ge 7, 3) := by decide +kernel
theorem dX8_set_10 : decode cX8_set 10 = .ok (.aload_n 0, 1) := by decide +kernel
theorem dX8_set_11 : decode cX8_set 11 = .ok (.iload_n 1, 1) := by decide +kernel
theorem dX8_set_12 : decode cX8_set 12 = .ok (.iload_n 2, 1) := by decide +kernel
theorem dX8_set_13 : decode cX8_set 13 = .ok (.bastore, 1) := by decide +kernel
theorem dX8_set_14 : decode cX8_set 14 = .ok (.return_, 1) := by decide +kernel
theorem dX8_hasBit_0 : decode cX8_hasBit 0 = .ok (.lload_n 0, 1) := by decide +kernel
theorem dX8_hasBit_1 : decode cX8_hasBit 1 = .ok (.iload_n 2, 1) := by decide +kernel
theorem dX8_hasBit_2 : decode cX8_hasBit 2 = .ok (.lushr, 1) := by decide +kernel
theorem dX8_hasBit_3 : decode cX8_hasBit 3 = .ok (.lconst 1, 1) := by decide +kernel
theorem dX8_hasBit_4 : decode cX8_hasBit 4 = .ok (.land, 1) := by decide +kernel
theorem dX8_hasBit_5 : decode cX8_hasBit 5 = .ok (.lconst 1, 1) := by decide +kernel
theorem dX8_hasBit_6 : decode cX8_hasBit 6 = .ok (.lcmp, 1) := by decide +kernel
theorem dX8_hasBit_7 : decode cX8_hasBit 7 = .ok (.ifCond .ne 7, 3) := by decide +kernel
theorem dX8_hasBit_10 : decode cX8_hasBit 10 = .ok (.iconst 1, 1) := by decide +kernel
theorem dX8_hasBit_11 : decode cX8_hasBit 11 = .ok (.goto 4, 3) := by decide +kernel
theorem dX8_hasBit_14 : decode cX8_hasBit 14 = .ok (.iconst 0, 1) := by decide +kernel
theorem dX8_hasBit_15 : decode cX8_hasBit 15 = .ok (.ireturn, 1) := by decide +kernel
theorem dX9_init_0 : decode cX9_init 0 = .ok (.aload_n 0, 1) := by decide +kernel
theorem dX9_init_1 : decode cX9_init 1 = .ok (.invokespecial 1, 3) := by decide +kernel
theorem dX9_init_4 : decode cX9_init 4 = .ok (.aload_n 0, 1) := by decide +kernel
theorem dX9_init_5 : decode cX9_init 5 = .ok (.bipush 60, 2) := by decide +kernel
theorem dX9_init_7 : decode cX9_init 7 = .ok (.newarray .byte, 2) := by decide +kernel
theorem dX9_init_9 : decode cX9_init 9 = .ok (.putfield 7, 3) := by decide +kernel
theorem dX9_init_12 : decode cX9_init 12 = .ok (.aload_n 0, 1) := by decide +kernel
theorem dX9_init_13 : decode cX9_init 13 = .ok (.bipush 9, 2) := by decide +kernel
theorem dX9_init_15 : decode cX9_init 15 = .ok (.newarray .int, 2) := by decide +kernel
theorem dX9_init_17 : decode cX9_init 17 = .ok (.putfield 13, 3) := by decide +kernel
theorem dX9_init_20 : decode cX9_init 20 = .ok (.aload_n 0, 1) := by decide +kernel
theorem dX9_init_21 : decode cX9_init 21 = .ok (.bipush 9, 2) := by decide +kernel
theorem dX9_init_23 : decode cX9_init 23 = .ok (.newarray .int, 2) := by decide +kernel
theorem dX9_init_25 : decode cX9_init 25 = .ok (.putfield 17, 3) := by decide +kernel
theorem dX9_init_28 : decode cX9_init 28 = .ok (.aload_n 0, 1) := by decide +kernel
theorem dX9_init_29 : decode cX9_init 29 = .ok (.bipush 9, 2) := by decide +kernel
theorem dX9_init_31 : decode cX9_init 31 = .ok (.newarray .int, 2) := by decide +kernel
theorem dX9_init_33 : decode cX9_init 33 = .ok (.putfield 20, 3) := by decide +kernel
theorem dX9_init_36 : decode cX9_init 36 = .ok (.aload_n 0, 1) := by decide +kernel
theorem dX9_init_37 : decode cX9_init 37 = .ok (.bipush 9, 2) := by decide +kernel
theorem dX9_init_39 : decode cX9_init 39 = .ok (.newarray .int, 2) := by decide +kernel
theorem dX9_init_41 : decode cX9_init 41 = .ok (.putfield 23, 3) := by decide +kernel
theorem dX9_init_44 : decode cX9_init 44 = .ok (.aload_n 0, 1) := by decide +kernel
theorem dX9_init_45 : decode cX9_init 45 = .ok (.bipush 16, 2) := by decide +kernel
theorem dX9_init_47 : decode cX9_init 47 = .ok (.newarray .int, 2) := by decide +kernel
theorem dX9_init_49 : decode cX9_init 49 = .ok (.putfield 26, 3) := by decide +kernel
theorem dX9_init_52 : decode cX9_init 52 = .ok (.aload_n 0, 1) := by decide +kernel
theorem dX9_init_53 : decode cX9_init 53 = .ok (.bipush 64, 2) := by decide +kernel
theorem dX9_init_55 : decode cX9_init 55 = .ok (.newarray .int, 2) := by decide +kernel
theorem dX9_init_57 : decode cX9_init 57 = .ok (.putfield 29, 3) := by decide +kernel
theorem dX9_init_60 : decode cX9_init 60 = .ok (.aload_n 0, 1) := by decide +kernel
theorem dX9_init_61 : decode cX9_init 61 = .ok (.bipush 64, 2) := by decide +kernel
theorem dX9_init_63 : decode cX9_init 63 = .ok (.newarray .int, 2) := by decide +kernel
theorem dX9_init_65 : decode cX9_init 65 = .ok (.putfield 32, 3) := by decide +kernel
theorem dX9_init_68 : decode cX9_init 68 = .ok (.aload_n 0, 1) := by decide +kernel
theorem dX9_init_69 : decode cX9_init 69 = .ok (.bipush 9, 2) := by decide +kernel
theorem dX9_init_71 : decode cX9_init 71 = .ok (.newarray .boolean, 2) := by decide +kernel
theorem dX9_init_73 : decode cX9_init 73 = .ok (.putfield 35, 3) := by decide +kernel
theorem dX9_init_76 : decode cX9_init 76 = .ok (.aload_n 0, 1) := by decide +kernel
theorem dX9_init_77 : decode cX9_init 77 = .ok (.bipush 9, 2) := by decide +kernel
theorem dX9_init_79 : decode cX9_init 79 = .ok (.newarray .int, 2) := by decide +kernel
theorem dX9_init_81 : decode cX9_init 81 = .ok (.putfield 39, 3) := by decide +kernel
theorem dX9_init_84 : decode cX9_init 84 = .ok (.aload_n 0, 1) := by decide +kernel
theorem dX9_init_85 : decode cX9_init 85 = .ok (.bipush 9, 2) := by decide +kernel
theorem dX9_init_87 : decode cX9_init 87 = .ok (.newarray .boolean, 2) := by decide +kernel
theorem dX9_init_89 : decode cX9_init 89 = .ok (.putfield 42, 3) := by decide +kernel
theorem dX9_init_92 : decode cX9_init 92 = .ok (.aload_n 0, 1) := by decide +kernel
theorem dX9_init_93 : decode cX9_init 93 = .ok (.sipush 1024, 3) := by decide +kernel
theorem dX9_init_96 : decode cX9_init 96 = .ok (.newarray .int, 2) := by decide +kernel
theorem dX9_init_98 : decode cX9_init 98 = .ok (.putfield 45, 3) := by decide +kernel
theorem dX9_init_101 : decode cX9_init 101 = .ok (.aload_n 0, 1) := by decide +kernel
theorem dX9_init_102 : decode cX9_init 102 = .ok (.sipush 1024, 3) := by decide +kernel
theorem dX9_init_105 : decode cX9_init 105 = .ok (.newarray .int, 2) := by decide +kernel
theorem dX9_init_107 : decode cX9_init 107 = .ok (.putfield 48, 3) := by decide +kernel
theorem dX9_init_110 : decode cX9_init 110 = .ok (.aload_n 0, 1) := by decide +kernel
theorem dX9_init_111 : decode cX9_init 111 = .ok (.sipush 1024, 3) := by decide +kernel
theorem dX9_init_114 : decode cX9_init 114 = .ok (.newarray .boolean, 2) := by decide +kernel
theorem dX9_init_116 : decode cX9_init 116 = .ok (.putfield 51, 3) := by decide +kernel
theorem dX9_init_119 : decode cX9_init 119 = .ok (.aload_n 0, 1) := by decide +kernel
theorem dX9_init_120 : decode cX9_init 120 = .ok (.sipush 256, 3) := by decide +kernel
theorem dX9_init_123 : decode cX9_init 123 = .ok (.newarray .boolean, 2) := by decide +kernel
theorem dX9_init_125 : decode cX9_init 125 = .ok (.putfield 54, 3) := by decide +kernel
theorem dX9_init_128 : decode cX9_init 128 = .ok (.aload_n 0, 1) := by decide +kernel
theorem dX9_init_129 : decode cX9_init 129 = .ok (.sipush 2600, 3) := by decide +kernel
theorem dX9_init_132 : decode cX9_init 132 = .ok (.newarray .int, 2) := by decide +kernel
theorem dX9_init_134 : decode cX9_init 134 = .ok (.putfield 57, 3) := by decide +kernel
theorem dX9_init_137 : decode cX9_init 137 = .ok (.aload_n 0, 1) := by decide +kernel
theorem dX9_init_138 : decode cX9_init 138 = .ok (.ldc 60, 2) := by decide +kernel
theorem dX9_init_140 : decode cX9_init 140 = .ok (.newarray .boolean, 2) := by decide +kernel
theorem dX9_init_142 : decode cX9_init 142 = .ok (.putfield 61, 3) := by decide +kernel
theorem dX9_init_145 : decode cX9_init 145 = .ok (.aload_n 0, 1) := by decide +kernel
theorem dX9_init_146 : decode cX9_init 146 = .ok (.sipush 10400, 3) := by decide +kernel
theorem dX9_init_149 : decode cX9_init 149 = .ok (.newarray .int, 2) := by decide +kernel
theorem dX9_init_151 : decode cX9_init 151 = .ok (.putfield 64, 3) := by decide +kernel
theorem dX9_init_154 : decode cX9_init 154 = .ok (.aload_n 0, 1) := by decide +kernel
theorem dX9_init_155 : decode cX9_init 155 = .ok (.sipush 256, 3) := by decide +kernel
theorem dX9_init_158 : decode cX9_init 158 = .ok (.newarray .int, 2) := by decide +kernel
theorem dX9_init_160 : decode cX9_init 160 = .ok (.putfield 67, 3) := by decide +kernel
theorem dX9_init_163 : decode cX9_init 163 = .ok (.aload_n 0, 1) := by decide +kernel
theorem dX9_init_164 : decode cX9_init 164 = .ok (.sipush 15616, 3) := by decide +kernel
theorem dX9_init_167 : decode cX9_init 167 = .ok (.newarray .int, 2) := by decide +kernel
theorem dX9_init_169 : decode cX9_init 169 = .ok (.putfield 70, 3) := by decide +kernel
theorem dX9_init_172 : decode cX9_init 172 = .ok (.aload_n 0, 1) := by decide +kernel
theorem dX9_init_173 : decode cX9_init 173 = .ok (.sipush 256, 3) := by decide +kernel
theorem dX9_init_176 : decode cX9_init 176 = .ok (.newarray .boolean, 2) := by decide +kernel
theorem dX9_init_178 : decode cX9_init 178 = .ok (.putfield 73, 3) := by decide +kernel
theorem dX9_init_181 : decode cX9_init 181 = .ok (.aload_n 0, 1) := by decide +kernel
theorem dX9_init_182 : decode cX9_init 182 = .ok (.sipush 2600, 3) := by decide +kernel
theorem dX9_init_185 : decode cX9_init 185 = .ok (.newarray .int, 2) := by decide +kernel
theorem dX9_init_187 : decode cX9_init 187 = .ok (.putfield 76, 3) := by decide +kernel
theorem dX9_init_190 : decode cX9_init 190 = .ok (.aload_n 0, 1) := by decide +kernel
theorem dX9_init_191 : decode cX9_init 191 = .ok (.sipush 2600, 3) := by decide +kernel
theorem dX9_init_194 : decode cX9_init 194 = .ok (.newarray .int, 2) := by decide +kernel
theorem dX9_init_196 : decode cX9_init 196 = .ok (.putfield 79, 3) := by decide +kernel
theorem dX9_init_199 : decode cX9_init 199 = .ok (.aload_n 0, 1) := by decide +kernel
theorem dX9_init_200 : decode cX9_init 200 = .ok (.bipush 64, 2) := by decide +kernel
theorem dX9_init_202 : decode cX9_init 202 = .ok (.newarray .int, 2) := by decide +kernel
theorem dX9_init_204 : decode cX9_init 204 = .ok (.putfield 82, 3) := by decide +kernel
theorem dX9_init_207 : decode cX9_init 207 = .ok (.aload_n 0, 1) := by decide +kernel
theorem dX9_init_208 : decode cX9_init 208 = .ok (.sipush 240, 3) := by decide +kernel
theorem dX9_init_211 : decode cX9_init 211 = .ok (.newarray .int, 2) := by decide +kernel
theorem dX9_init_213 : decode cX9_init 213 = .ok (.putfield 85, 3) := by decide +kernel
theorem dX9_init_216 : decode cX9_init 216 = .ok (.aload_n 0, 1) := by decide +kernel
theorem dX9_init_217 : decode cX9_init 217 = .ok (.bipush 60, 2) := by decide +kernel
theorem dX9_init_219 : decode cX9_init 219 = .ok (.newarray .boolean, 2) := by decide +kernel
theorem dX9_init_221 : decode cX9_init 221 = .ok (.putfield 88, 3) := by decide +kernel
theorem dX9_init_224 : decode cX9_init 224 = .ok (.aload_n 0, 1) := by decide +kernel
theorem dX9_init_225 : decode cX9_init 225 = .ok (.bipush 60, 2) := by decide +kernel
theorem dX9_init_227 : decode cX9_init 227 = .ok (.newarray .int, 2) := by decide +kernel
theorem dX9_init_229 : decode cX9_init 229 = .ok (.putfield 91, 3) := by decide +kernel
theorem dX9_init_232 : decode cX9_init 232 = .ok (.aload_n 0, 1) := by decide +kernel
theorem dX9_init_233 : decode cX9_init 233 = .ok (.bipush 64, 2) := by decide +kernel
theorem dX9_init_235 : decode cX9_init 235 = .ok (.newarray .int, 2) := by decide +kernel
theorem dX9_init_237 : decode cX9_init 237 = .ok (.putfield 94, 3) := by decide +kernel
theorem dX9_init_240 : decode cX9_init 240 = .ok (.aload_n 0, 1) := by decide +kernel
theorem dX9_init_241 : decode cX9_init 241 = .ok (.bipush 64, 2) := by decide +kernel
theorem dX9_init_243 : decode cX9_init 243 = .ok (.newarray .int, 2) := by decide +kernel
theorem dX9_init_245 : decode cX9_init 245 = .ok (.putfield 97, 3) := by decide +kernel
theorem dX9_init_248 : decode cX9_init 248 = .ok (.aload_n 0, 1) := by decide +kernel
theorem dX9_init_249 : decode cX9_init 249 = .ok (.bipush 60, 2) := by decide +kernel
theorem dX9_init_251 : decode cX9_init 251 = .ok (.newarray .int, 2) := by decide +kernel
theorem dX9_init_253 : decode cX9_init 253 = .ok (.putfield 100, 3) := by decide +kernel
theorem dX9_init_256 : decode cX9_init 256 = .ok (.aload_n 0, 1) := by decide +kernel
theorem dX9_init_257 : decode cX9_init 257 = .ok (.bipush 60, 2) := by decide +kernel
theorem dX9_init_259 : decode cX9_init 259 = .ok (.newarray .int, 2) := by decide +kernel
theorem dX9_init_261 : decode cX9_init 261 = .ok (.putfield 103, 3) := by decide +kernel
theorem dX9_init_264 : decode cX9_init 264 = .ok (.aload_n 0, 1) := by decide +kernel
theorem dX9_init_265 : decode cX9_init 265 = .ok (.sipush 1560, 3) := by decide +kernel
theorem dX9_init_268 : decode cX9_init 268 = .ok (.newarray .long, 2) := by decide +kernel
theorem dX9_init_270 : decode cX9_init 270 = .ok (.putfield 106, 3) := by decide +kernel
theorem dX9_init_273 : decode cX9_init 273 = .ok (.aload_n 0, 1) := by decide +kernel
theorem dX9_init_274 : decode cX9_init 274 = .ok (.sipush 960, 3) := by decide +kernel
theorem dX9_init_277 : decode cX9_init 277 = .ok (.newarray .boolean, 2) := by decide +kernel
theorem dX9_init_279 : decode cX9_init 279 = .ok (.putfield 110, 3) := by decide +kernel
theorem dX9_init_282 : decode cX9_init 282 = .ok (.aload_n 0, 1) := by decide +kernel
theorem dX9_init_283 : decode cX9_init 283 = .ok (.bipush 60, 2) := by decide +kernel
theorem dX9_init_285 : decode cX9_init 285 = .ok (.newarray .boolean, 2) := by decide +kernel
theorem dX9_init_287 : decode cX9_init 287 = .ok (.putfield 113, 3) := by decide +kernel
theorem dX9_init_290 : decode cX9_init 290 = .ok (.aload_n 0, 1) := by decide +kernel
theorem dX9_init_291 : decode cX9_init 291 = .ok (.bipush 16, 2) := by decide +kernel
theorem dX9_init_293 : decode cX9_init 293 = .ok (.newarray .int, 2) := by decide +kernel
theorem dX9_init_295 : decode cX9_init 295 = .ok (.putfield 116, 3) := by decide +kernel
theorem dX9_init_298 : decode cX9_init 298 = .ok (.aload_n 0, 1) := by decide +kernel
theorem dX9_init_299 : decode cX9_init 299 = .ok (.sipush 240, 3) := by decide +kernel
theorem dX9_init_302 : decode cX9_init 302 = .ok (.newarray .int, 2) := by decide +kernel
theorem dX9_init_304 : decode cX9_init 304 = .ok (.putfield 119, 3) := by decide +kernel
theorem dX9_init_307 : decode cX9_init 307 = .ok (.aload_n 0, 1) := by decide +kernel
theorem dX9_init_308 : decode cX9_init 308 = .ok (.bipush 60, 2) := by decide +kernel
theorem dX9_init_310 : decode cX9_init 310 = .ok (.newarray .boolean, 2) := by decide +kernel
theorem dX9_init_312 : decode cX9_init 312 = .ok (.putfield 122, 3) := by decide +kernel
theorem dX9_init_315 : decode cX9_init 315 = .ok (.aload_n 0, 1) := by decide +kernel
theorem dX9_init_316 : decode cX9_init 316 = .ok (.sipush 3600, 3) := by decide +kernel
theorem dX9_init_319 : decode cX9_init 319 = .ok (.newarray .int, 2) := by decide +kernel
theorem dX9_init_321 : decode cX9_init 321 = .ok (.putfield 125, 3) := by decide +kernel
theorem dX9_init_324 : decode cX9_init 324 = .ok (.aload_n 0, 1) := by decide +kernel
theorem dX9_init_325 : decode cX9_init 325 = .ok (.sipush 3600, 3) := by decide +kernel
theorem dX9_init_328 : decode cX9_init 328 = .ok (.newarray .int, 2) := by decide +kernel
theorem dX9_init_330 : decode cX9_init 330 = .ok (.putfield 128, 3) := by decide +kernel
theorem dX9_init_333 : decode cX9_init 333 = .ok (.aload_n 0, 1) := by decide +kernel
theorem dX9_init_334 : decode cX9_init 334 = .ok (.sipush 3600, 3) := by decide +kernel
theorem dX9_init_337 : decode cX9_init 337 = .ok (.newarray .boolean, 2) := by decide +kernel
theorem dX9_init_339 : decode cX9_init 339 = .ok (.putfield 131, 3) := by decide +kernel
theorem dX9_init_342 : decode cX9_init 342 = .ok (.return_, 1) := by decide +kernel
theorem dX9_in_0 : decode cX9_in 0 = .ok (.lload_n 0, 1) := by decide +kernel
theorem dX9_in_1 : decode cX9_in 1 = .ok (.lload_n 2, 1) := by decide +kernel
theorem dX9_in_2 : decode cX9_in 2 = .ok (.lcmp, 1) := by decide +kernel
theorem dX9_in_3 : decode cX9_in 3 = .ok (.ifCond .lt 14, 3) := by decide +kernel
theorem dX9_in_6 : decode cX9_in 6 = .ok (.lload_n 0, 1) := by decide +kernel
theorem dX9_in_7 : decode cX9_in 7 = .ok (.lload 4, 2) := by decide +kernel
theorem dX9_in_9 : decode cX9_in 9 = .ok (.lcmp, 1) := by decide +kernel
theorem dX9_in_10 : decode cX9_in 10 = .ok (.ifCond .gt 7, 3) := by decide +kernel
theorem dX9_in_13 : decode cX9_in 13 = .ok (.iconst 1, 1) := by decide +kernel
theorem dX9_in_14 : decode cX9_in 14 = .ok (.goto 4, 3) := by decide +kernel
theorem dX9_in_17 : decode cX9_in 17 = .ok (.iconst 0, 1) := by decide +kernel
theorem dX9_in_18 : decode cX9_in 18 = .ok (.ireturn, 1) := by decide +kernel
theorem dX9_feed_0 : decode cX9_feed 0 = .ok (.iconst 0, 1) := by decide +kernel
theorem dX9_feed_1 : decode cX9_feed 1 = .ok (.istore_n 3, 1) := by decide +kernel
theorem dX9_feed_2 : decode cX9_feed 2 = .ok (.iload_n 3, 1) := by decide +kernel
theorem dX9_feed_3 : decode cX9_feed 3 = .ok (.bipush 8, 2) := by decide +kernel
theorem dX9_feed_5 : decode cX9_feed 5 = .ok (.if_icmp .ge 24, 3) := by decide +kernel
theorem dX9_feed_8 : decode cX9_feed 8 = .ok (.lload_n 1, 1) := by decide +kernel
theorem dX9_feed_9 : decode cX9_feed 9 = .ok (.bipush 8, 2) := by decide +kernel
theorem dX9_feed_11 : decode cX9_feed 11 = .ok (.iload_n 3, 1) := by decide +kernel
theorem dX9_feed_12 : decode cX9_feed 12 = .ok (.imul, 1) := by decide +kernel
theorem dX9_feed_13 : decode cX9_feed 13 = .ok (.lushr, 1) := by decide +kernel
theorem dX9_feed_14 : decode cX9_feed 14 = .ok (.ldc2_w 134, 3) := by decide +kernel
theorem dX9_feed_17 : decode cX9_feed 17 = .ok (.land, 1) := by decide +kernel
theorem dX9_feed_18 : decode cX9_feed 18 = .ok (.lconst 0, 1) := by decide +kernel
theorem dX9_feed_19 : decode cX9_feed 19 = .ok (.lcmp, 1) := by decide +kernel
theorem dX9_feed_20 : decode cX9_feed 20 = .ok (.ifCond .eq 9, 3) := by decide +kernel
theorem dX9_feed_23 : decode cX9_feed 23 = .ok (.iinc 3 1, 3) := by decide +kernel
theorem dX9_feed_26 : decode cX9_feed 26 = .ok (.goto (-24), 3) := by decide +kernel
theorem dX9_feed_29 : decode cX9_feed 29 = .ok (.aload_n 0, 1) := by decide +kernel
theorem dX9_feed_30 : decode cX9_feed 30 = .ok (.getfield 136, 3) := by decide +kernel
theorem dX9_feed_33 : decode cX9_feed 33 = .ok (.iload_n 3, 1) := by decide +kernel
theorem dX9_feed_34 : decode cX9_feed 34 = .ok (.iadd, 1) := by decide +kernel
theorem dX9_feed_35 : decode cX9_feed 35 = .ok (.bipush 60, 2) := by decide +kernel
theorem dX9_feed_37 : decode cX9_feed 37 = .ok (.if_icmp .le 6, 3) := by decide +kernel
theorem dX9_feed_40 : decode cX9_feed 40 = .ok (.bipush (-4), 2) := by decide +kernel
theorem dX9_feed_42 : decode cX9_feed 42 = .ok (.ireturn, 1) := by decide +kernel
theorem dX9_feed_43 : decode cX9_feed 43 = .ok (.iconst 0, 1) := by decide +kernel
theorem dX9_feed_44 : decode cX9_feed 44 = .ok (.istore 4, 2) := by decide +kernel
theorem dX9_feed_46 : decode cX9_feed 46 = .ok (.iload 4, 2) := by decide +kernel
theorem dX9_feed_48 : decode cX9_feed 48 = .ok (.iload_n 3, 1) := by decide +kernel
theorem dX9_feed_49 : decode cX9_feed 49 = .ok (.if_icmp .ge 30, 3) := by decide +kernel
theorem dX9_feed_52 : decode cX9_feed 52 = .ok (.aload_n 0, 1) := by decide +kernel
theorem dX9_feed_53 : decode cX9_feed 53 = .ok (.getfield 7, 3) := by decide +kernel
theorem dX9_feed_56 : decode cX9_feed 56 = .ok (.aload_n 0, 1) := by decide +kernel
theorem dX9_feed_57 : decode cX9_feed 57 = .ok (.getfield 136, 3) := by decide +kernel
theorem dX9_feed_60 : decode cX9_feed 60 = .ok (.iload 4, 2) := by decide +kernel
theorem dX9_feed_62 : decode cX9_feed 62 = .ok (.iadd, 1) := by decide +kernel
theorem dX9_feed_63 : decode cX9_feed 63 = .ok (.lload_n 1, 1) := by decide +kernel
theorem dX9_feed_64 : decode cX9_feed 64 = .ok (.bipush 8, 2) := by decide +kernel
theorem dX9_feed_66 : decode cX9_feed 66 = .ok (.iload 4, 2) := by decide +kernel
theorem dX9_feed_68 : decode cX9_feed 68 = .ok (.imul, 1) := by decide +kernel
theorem dX9_feed_69 : decode cX9_feed 69 = .ok (.lushr, 1) := by decide +kernel
theorem dX9_feed_70 : decode cX9_feed 70 = .ok (.l2i, 1) := by decide +kernel
theorem dX9_feed_71 : decode cX9_feed 71 = .ok (.i2b, 1) := by decide +kernel
theorem dX9_feed_72 : decode cX9_feed 72 = .ok (.bastore, 1) := by decide +kernel
theorem dX9_feed_73 : decode cX9_feed 73 = .ok (.iinc 4 1, 3) := by decide +kernel
theorem dX9_feed_76 : decode cX9_feed 76 = .ok (.goto (-30), 3) := by decide +kernel
theorem dX9_feed_79 : decode cX9_feed 79 = .ok (.aload_n 0, 1) := by decide +kernel
theorem dX9_feed_80 : decode cX9_feed 80 = .ok (.dup, 1) := by decide +kernel
theorem dX9_feed_81 : decode cX9_feed 81 = .ok (.getfield 136, 3) := by decide +kernel
theorem dX9_feed_84 : decode cX9_feed 84 = .ok (.iload_n 3, 1) := by decide +kernel
theorem dX9_feed_85 : decode cX9_feed 85 = .ok (.iadd, 1) := by decide +kernel
theorem dX9_feed_86 : decode cX9_feed 86 = .ok (.putfield 136, 3) := by decide +kernel
theorem dX9_feed_89 : decode cX9_feed 89 = .ok (.aload_n 0, 1) := by decide +kernel
theorem dX9_feed_90 : decode cX9_feed 90 = .ok (.getfield 136, 3) := by decide +kernel
theorem dX9_feed_93 : decode cX9_feed 93 = .ok (.ireturn, 1) := by decide +kernel
theorem dX9_cut_0 : decode cX9_cut 0 = .ok (.aload_n 0, 1) := by decide +kernel
theorem dX9_cut_1 : decode cX9_cut 1 = .ok (.getfield 136, 3) := by decide +kernel
theorem dX9_cut_4 : decode cX9_cut 4 = .ok (.istore_n 1, 1) := by decide +kernel
theorem dX9_cut_5 : decode cX9_cut 5 = .ok (.aload_n 0, 1) := by decide +kernel
theorem dX9_cut_6 : decode cX9_cut 6 = .ok (.iconst 0, 1) := by decide +kernel
theorem dX9_cut_7 : decode cX9_cut 7 = .ok (.putfield 136, 3) := by decide +kernel
theorem dX9_cut_10 : decode cX9_cut 10 = .ok (.iload_n 1, 1) := by decide +kernel
theorem dX9_cut_11 : decode cX9_cut 11 = .ok (.ireturn, 1) := by decide +kernel
theorem dX9_fault_0 : decode cX9_fault 0 = .ok (.aload_n 0, 1) := by decide +kernel
theorem dX9_fault_1 : decode cX9_fault 1 = .ok (.getfield 140, 3) := by decide +kernel
theorem dX9_fault_4 : decode cX9_fault 4 = .ok (.ireturn, 1) := by decide +kernel
theorem dX9_isPrefix_0 : decode cX9_isPrefix 0 = .ok (.iload_n 0, 1) := by decide +kernel
theorem dX9_isPrefix_1 : decode cX9_isPrefix 1 = .ok (.bipush 33, 2) := by decide +kernel
theorem dX9_isPrefix_3 : decode cX9_isPrefix 3 = .ok (.if_icmp .eq 45, 3) := by decide +kernel
theorem dX9_isPrefix_6 : decode cX9_isPrefix 6 = .ok (.iload_n 0, 1) := by decide +kernel
theorem dX9_isPrefix_7 : decode cX9_isPrefix 7 = .ok (.bipush 78, 2) := by decide +kernel
theorem dX9_isPrefix_9 : decode cX9_isPrefix 9 = .ok (.if_icmp .eq 39, 3) := by decide +kernel
theorem dX9_isPrefix_12 : decode cX9_isPrefix 12 = .ok (.iload_n 0, 1) := by decide +kernel
theorem dX9_isPrefix_13 : decode cX9_isPrefix 13 = .ok (.bipush 87, 2) := by decide +kernel
theorem dX9_isPrefix_15 : decode cX9_isPrefix 15 = .ok (.if_icmp .eq 33, 3) := by decide +kernel
theorem dX9_isPrefix_18 : decode cX9_isPrefix 18 = .ok (.iload_n 0, 1) := by decide +kernel
theorem dX9_isPrefix_19 : decode cX9_isPrefix 19 = .ok (.bipush 71, 2) := by decide +kernel
theorem dX9_isPrefix_21 : decode cX9_isPrefix 21 = .ok (.if_icmp .eq 27, 3) := by decide +kernel
theorem dX9_isPrefix_24 : decode cX9_isPrefix 24 = .ok (.iload_n 0, 1) := by decide +kernel
theorem dX9_isPrefix_25 : decode cX9_isPrefix 25 = .ok (.bipush 70, 2) := by decide +kernel
theorem dX9_isPrefix_27 : decode cX9_isPrefix 27 = .ok (.if_icmp .eq 21, 3) := by decide +kernel
theorem dX9_isPrefix_30 : decode cX9_isPrefix 30 = .ok (.iload_n 0, 1) := by decide +kernel
theorem dX9_isPrefix_31 : decode cX9_isPrefix 31 = .ok (.bipush 89, 2) := by decide +kernel
theorem dX9_isPrefix_33 : decode cX9_isPrefix 33 = .ok (.if_icmp .eq 15, 3) := by decide +kernel
theorem dX9_isPrefix_36 : decode cX9_isPrefix 36 = .ok (.iload_n 0, 1) := by decide +kernel
theorem dX9_isPrefix_37 : decode cX9_isPrefix 37 = .ok (.bipush 72, 2) := by decide +kernel
theorem dX9_isPrefix_39 : decode cX9_isPrefix 39 = .ok (.if_icmp .eq 9, 3) := by decide +kernel
theorem dX9_isPrefix_42 : decode cX9_isPrefix 42 = .ok (.iload_n 0, 1) := by decide +kernel
theorem dX9_isPrefix_43 : decode cX9_isPrefix 43 = .ok (.bipush 79, 2) := by decide +kernel
theorem dX9_isPrefix_45 : decode cX9_isPrefix 45 = .ok (.if_icmp .ne 7, 3) := by decide +kernel
theorem dX9_isPrefix_48 : decode cX9_isPrefix 48 = .ok (.iconst 1, 1) := by decide +kernel
theorem dX9_isPrefix_49 : decode cX9_isPrefix 49 = .ok (.goto 4, 3) := by decide +kernel
theorem dX9_isPrefix_52 : decode cX9_isPrefix 52 = .ok (.iconst 0, 1) := by decide +kernel
theorem dX9_isPrefix_53 : decode cX9_isPrefix 53 = .ok (.ireturn, 1) := by decide +kernel
theorem dX9_rank_0 : decode cX9_rank 0 = .ok (.iload_n 0, 1) := by decide +kernel
theorem dX9_rank_1 : decode cX9_rank 1 = .ok (.bipush 85, 2) := by decide +kernel
theorem dX9_rank_3 : decode cX9_rank 3 = .ok (.if_icmp .eq 9, 3) := by decide +kernel
theorem dX9_rank_6 : decode cX9_rank 6 = .ok (.iload_n 0, 1) := by decide +kernel
theorem dX9_rank_7 : decode cX9_rank 7 = .ok (.bipush 83, 2) := by decide +kernel
theorem dX9_rank_9 : decode cX9_rank 9 = .ok (.if_icmp .ne 7, 3) := by decide +kernel
theorem dX9_rank_12 : decode cX9_rank 12 = .ok (.iconst 4, 1) := by decide +kernel
theorem dX9_rank_13 : decode cX9_rank 13 = .ok (.goto 34, 3) := by decide +kernel
theorem dX9_rank_16 : decode cX9_rank 16 = .ok (.iload_n 0, 1) := by decide +kernel
theorem dX9_rank_17 : decode cX9_rank 17 = .ok (.bipush 38, 2) := by decide +kernel
theorem dX9_rank_19 : decode cX9_rank 19 = .ok (.if_icmp .ne 7, 3) := by decide +kernel
theorem dX9_rank_22 : decode cX9_rank 22 = .ok (.iconst 3, 1) := by decide +kernel
theorem dX9_rank_23 : decode cX9_rank 23 = .ok (.goto 24, 3) := by decide +kernel
theorem dX9_rank_26 : decode cX9_rank 26 = .ok (.iload_n 0, 1) := by decide +kernel
theorem dX9_rank_27 : decode cX9_rank 27 = .ok (.bipush 47, 2) := by decide +kernel
theorem dX9_rank_29 : decode cX9_rank 29 = .ok (.if_icmp .ne 7, 3) := by decide +kernel
theorem dX9_rank_32 : decode cX9_rank 32 = .ok (.iconst 2, 1) := by decide +kernel
theorem dX9_rank_33 : decode cX9_rank 33 = .ok (.goto 14, 3) := by decide +kernel
theorem dX9_rank_36 : decode cX9_rank 36 = .ok (.iload_n 0, 1) := by decide +kernel
theorem dX9_rank_37 : decode cX9_rank 37 = .ok (.bipush 62, 2) := by decide +kernel
theorem dX9_rank_39 : decode cX9_rank 39 = .ok (.if_icmp .ne 7, 3) := by decide +kernel
theorem dX9_rank_42 : decode cX9_rank 42 = .ok (.iconst 1, 1) := by decide +kernel
theorem dX9_rank_43 : decode cX9_rank 43 = .ok (.goto 4, 3) := by decide +kernel
theorem dX9_rank_46 : decode cX9_rank 46 = .ok (.iconst 0, 1) := by decide +kernel
theorem dX9_rank_47 : decode cX9_rank 47 = .ok (.ireturn, 1) := by decide +kernel
theorem dX9_node_0 : decode cX9_node 0 = .ok (.aload_n 0, 1) := by decide +kernel
theorem dX9_node_1 : decode cX9_node 1 = .ok (.getfield 13, 3) := by decide +kernel
theorem dX9_node_4 : decode cX9_node 4 = .ok (.aload_n 0, 1) := by decide +kernel
theorem dX9_node_5 : decode cX9_node 5 = .ok (.getfield 143, 3) := by decide +kernel
theorem dX9_node_8 : decode cX9_node 8 = .ok (.iload_n 1, 1) := by decide +kernel
theorem dX9_node_9 : decode cX9_node 9 = .ok (.iastore, 1) := by decide +kernel
theorem dX9_node_10 : decode cX9_node 10 = .ok (.aload_n 0, 1) := by decide +kernel
theorem dX9_node_11 : decode cX9_node 11 = .ok (.getfield 17, 3) := by decide +kernel
theorem dX9_node_14 : decode cX9_node 14 = .ok (.aload_n 0, 1) := by decide +kernel
theorem dX9_node_15 : decode cX9_node 15 = .ok (.getfield 143, 3) := by decide +kernel
theorem dX9_node_18 : decode cX9_node 18 = .ok (.iload_n 2, 1) := by decide +kernel
theorem dX9_node_19 : decode cX9_node 19 = .ok (.iastore, 1) := by decide +kernel
theorem dX9_node_20 : decode cX9_node 20 = .ok (.aload_n 0, 1) := by decide +kernel
theorem dX9_node_21 : decode cX9_node 21 = .ok (.getfield 20, 3) := by decide +kernel
theorem dX9_node_24 : decode cX9_node 24 = .ok (.aload_n 0, 1) := by decide +kernel
theorem dX9_node_25 : decode cX9_node 25 = .ok (.getfield 143, 3) := by decide +kernel
theorem dX9_node_28 : decode cX9_node 28 = .ok (.iload_n 3, 1) := by decide +kernel
theorem dX9_node_29 : decode cX9_node 29 = .ok (.iastore, 1) := by decide +kernel
theorem dX9_node_30 : decode cX9_node 30 = .ok (.aload_n 0, 1) := by decide +kernel
theorem dX9_node_31 : decode cX9_node 31 = .ok (.getfield 23, 3) := by decide +kernel
theorem dX9_node_34 : decode cX9_node 34 = .ok (.aload_n 0, 1) := by decide +kernel
theorem dX9_node_35 : decode cX9_node 35 = .ok (.getfield 143, 3) := by decide +kernel
theorem dX9_node_38 : decode cX9_node 38 = .ok (.iload 4, 2) := by decide +kernel
theorem dX9_node_40 : decode cX9_node 40 = .ok (.iastore, 1) := by decide +kernel
theorem dX9_node_41 : decode cX9_node 41 = .ok (.aload_n 0, 1) := by decide +kernel
theorem dX9_node_42 : decode cX9_node 42 = .ok (.getfield 26, 3) := by decide +kernel
theorem dX9_node_45 : decode cX9_node 45 = .ok (.aload_n 0, 1) := by decide +kernel
theorem dX9_node_46 : decode cX9_node 46 = .ok (.getfield 146, 3) := by decide +kernel
theorem dX9_node_49 : decode cX9_node 49 = .ok (.aload_n 0, 1) := by decide +kernel
theorem dX9_node_50 : decode cX9_node 50 = .ok (.getfield 143, 3) := by decide +kernel
theorem dX9_node_53 : decode cX9_node 53 = .ok (.iastore, 1) := by decide +kernel
theorem dX9_node_54 : decode cX9_node 54 = .ok (.aload_n 0, 1) := by decide +kernel
theorem dX9_node_55 : decode cX9_node 55 = .ok (.dup, 1) := by decide +kernel
theorem dX9_node_56 : decode cX9_node 56 = .ok (.getfield 146, 3) := by decide +kernel
theorem dX9_node_59 : decode cX9_node 59 = .ok (.iconst 1, 1) := by decide +kernel
theorem dX9_node_60 : decode cX9_node 60 = .ok (.iadd, 1) := by decide +kernel
theorem dX9_node_61 : decode cX9_node 61 = .ok (.putfield 146, 3) := by decide +kernel
theorem dX9_node_64 : decode cX9_node 64 = .ok (.aload_n 0, 1) := by decide +kernel
theorem dX9_node_65 : decode cX9_node 65 = .ok (.dup, 1) := by decide +kernel
theorem dX9_node_66 : decode cX9_node 66 = .ok (.getfield 143, 3) := by decide +kernel
theorem dX9_node_69 : decode cX9_node 69 = .ok (.iconst 1, 1) := by decide +kernel
theorem dX9_node_70 : decode cX9_node 70 = .ok (.iadd, 1) := by decide +kernel
theorem dX9_node_71 : decode cX9_node 71 = .ok (.putfield 143, 3) := by decide +kernel
theorem dX9_node_74 : decode cX9_node 74 = .ok (.return_, 1) := by decide +kernel
theorem dX9_reduce_0 : decode cX9_reduce 0 = .ok (.aload_n 0, 1) := by decide +kernel
theorem dX9_reduce_1 : decode cX9_reduce 1 = .ok (.dup, 1) := by decide +kernel
theorem dX9_reduce_2 : decode cX9_reduce 2 = .ok (.getfield 149, 3) := by decide +kernel
theorem dX9_reduce_5 : decode cX9_reduce 5 = .ok (.iconst 1, 1) := by decide +kernel
theorem dX9_reduce_6 : decode cX9_reduce 6 = .ok (.isub, 1) := by decide +kernel
theorem dX9_reduce_7 : decode cX9_reduce 7 = .ok (.putfield 149, 3) := by decide +kernel
theorem dX9_reduce_10 : decode cX9_reduce 10 = .ok (.aload_n 0, 1) := by decide +kernel
theorem dX9_reduce_11 : decode cX9_reduce 11 = .ok (.dup, 1) := by decide +kernel
theorem dX9_reduce_12 : decode cX9_reduce 12 = .ok (.getfield 146, 3) := by decide +kernel
theorem dX9_reduce_15 : decode cX9_reduce 15 = .ok (.iconst 1, 1) := by decide +kernel
theorem dX9_reduce_16 : decode cX9_reduce 16 = .ok (.isub, 1) := by decide +kernel
theorem dX9_reduce_17 : decode cX9_reduce 17 = .ok (.putfield 146, 3) := by decide +kernel
theorem dX9_reduce_20 : decode cX9_reduce 20 = .ok (.aload_n 0, 1) := by decide +kernel
theorem dX9_reduce_21 : decode cX9_reduce 21 = .ok (.getfield 26, 3) := by decide +kernel
theorem dX9_reduce_24 : decode cX9_reduce 24 = .ok (.aload_n 0, 1) := by decide +kernel
theorem dX9_reduce_25 : decode cX9_reduce 25 = .ok (.getfield 146, 3) := by decide +kernel
theorem dX9_reduce_28 : decode cX9_reduce 28 = .ok (.iaload, 1) := by decide +kernel
theorem dX9_reduce_29 : decode cX9_reduce 29 = .ok (.istore_n 1, 1) := by decide +kernel
theorem dX9_reduce_30 : decode cX9_reduce 30 = .ok (.aload_n 0, 1) := by decide +kernel
theorem dX9_reduce_31 : decode cX9_reduce 31 = .ok (.getfield 29, 3) := by decide +kernel
theorem dX9_reduce_34 : decode cX9_reduce 34 = .ok (.aload_n 0, 1) := by decide +kernel
theorem dX9_reduce_35 : decode cX9_reduce 35 = .ok (.getfield 149, 3) := by decide +kernel
theorem dX9_reduce_38 : decode cX9_reduce 38 = .ok (.iaload, 1) := by decide +kernel
theorem dX9_reduce_39 : decode cX9_reduce 39 = .ok (.invokestatic 152, 3) := by decide +kernel
theorem dX9_reduce_42 : decode cX9_reduce 42 = .ok (.ifCond .eq 31, 3) := by decide +kernel
theorem dX9_reduce_45 : decode cX9_reduce 45 = .ok (.aload_n 0, 1) := by decide +kernel
theorem dX9_reduce_46 : decode cX9_reduce 46 = .ok (.aload_n 0, 1) := by decide +kernel
theorem dX9_reduce_47 : decode cX9_reduce 47 = .ok (.getfield 29, 3) := by decide +kernel
theorem dX9_reduce_50 : decode cX9_reduce 50 = .ok (.aload_n 0, 1) := by decide +kernel
theorem dX9_reduce_51 : decode cX9_reduce 51 = .ok (.getfield 149, 3) := by decide +kernel
theorem dX9_reduce_54 : decode cX9_reduce 54 = .ok (.iaload, 1) := by decide +kernel
theorem dX9_reduce_55 : decode cX9_reduce 55 = .ok (.iload_n 1, 1) := by decide +kernel
theorem dX9_reduce_56 : decode cX9_reduce 56 = .ok (.bipush (-9), 2) := by decide +kernel
theorem dX9_reduce_58 : decode cX9_reduce 58 = .ok (.aload_n 0, 1) := by decide +kernel
theorem dX9_reduce_59 : decode cX9_reduce 59 = .ok (.getfield 32, 3) := by decide +kernel
theorem dX9_reduce_62 : decode cX9_reduce 62 = .ok (.aload_n 0, 1) := by decide +kernel
theorem dX9_reduce_63 : decode cX9_reduce 63 = .ok (.getfield 149, 3) := by decide +kernel
theorem dX9_reduce_66 : decode cX9_reduce 66 = .ok (.iaload, 1) := by decide +kernel
theorem dX9_reduce_67 : decode cX9_reduce 67 = .ok (.invokevirtual 156, 3) := by decide +kernel
theorem dX9_reduce_70 : decode cX9_reduce 70 = .ok (.goto 45, 3) := by decide +kernel
theorem dX9_reduce_73 : decode cX9_reduce 73 = .ok (.aload_n 0, 1) := by decide +kernel
theorem dX9_reduce_74 : decode cX9_reduce 74 = .ok (.dup, 1) := by decide +kernel
theorem dX9_reduce_75 : decode cX9_reduce 75 = .ok (.getfield 146, 3) := by decide +kernel
theorem dX9_reduce_78 : decode cX9_reduce 78 = .ok (.iconst 1, 1) := by decide +kernel
theorem dX9_reduce_79 : decode cX9_reduce 79 = .ok (.isub, 1) := by decide +kernel
theorem dX9_reduce_80 : decode cX9_reduce 80 = .ok (.putfield 146, 3) := by decide +kernel
theorem dX9_reduce_83 : decode cX9_reduce 83 = .ok (.aload_n 0, 1) := by decide +kernel
theorem dX9_reduce_84 : decode cX9_reduce 84 = .ok (.aload_n 0, 1) := by decide +kernel
theorem dX9_reduce_85 : decode cX9_reduce 85 = .ok (.getfield 29, 3) := by decide +kernel
theorem dX9_reduce_88 : decode cX9_reduce 88 = .ok (.aload_n 0, 1) := by decide +kernel
theorem dX9_reduce_89 : decode cX9_reduce 89 = .ok (.getfield 149, 3) := by decide +kernel
theorem dX9_reduce_92 : decode cX9_reduce 92 = .ok (.iaload, 1) := by decide +kernel
theorem dX9_reduce_93 : decode cX9_reduce 93 = .ok (.aload_n 0, 1) := by decide +kernel
theorem dX9_reduce_94 : decode cX9_reduce 94 = .ok (.getfield 26, 3) := by decide +kernel
theorem dX9_reduce_97 : decode cX9_reduce 97 = .ok (.aload_n 0, 1) := by decide +kernel
theorem dX9_reduce_98 : decode cX9_reduce 98 = .ok (.getfield 146, 3) := by decide +kernel
theorem dX9_reduce_101 : decode cX9_reduce 101 = .ok (.iaload, 1) := by decide +kernel
theorem dX9_reduce_102 : decode cX9_reduce 102 = .ok (.iload_n 1, 1) := by decide +kernel
theorem dX9_reduce_103 : decode cX9_reduce 103 = .ok (.aload_n 0, 1) := by decide +kernel
theorem dX9_reduce_104 : decode cX9_reduce 104 = .ok (.getfield 32, 3) := by decide +kernel
theorem dX9_reduce_107 : decode cX9_reduce 107 = .ok (.aload_n 0, 1) := by decide +kernel
theorem dX9_reduce_108 : decode cX9_reduce 108 = .ok (.getfield 149, 3) := by decide +kernel
theorem dX9_reduce_111 : decode cX9_reduce 111 = .ok (.iaload, 1) := by decide +kernel
theorem dX9_reduce_112 : decode cX9_reduce 112 = .ok (.invokevirtual 156, 3) := by decide +kernel
theorem dX9_reduce_115 : decode cX9_reduce 115 = .ok (.return_, 1) := by decide +kernel
theorem dX9_fail_0 : decode cX9_fail 0 = .ok (.aload_n 0, 1) := by decide +kernel
theorem dX9_fail_1 : decode cX9_fail 1 = .ok (.iconst 1, 1) := by decide +kernel
theorem dX9_fail_2 : decode cX9_fail 2 = .ok (.putfield 140, 3) := by decide +kernel
theorem dX9_fail_5 : decode cX9_fail 5 = .ok (.aload_n 0, 1) := by decide +kernel
theorem dX9_fail_6 : decode cX9_fail 6 = .ok (.iload_n 1, 1) := by decide +kernel
theorem dX9_fail_7 : decode cX9_fail 7 = .ok (.putfield 160, 3) := by decide +kernel
theorem dX9_fail_10 : decode cX9_fail 10 = .ok (.iconst 0, 1) := by decide +kernel
theorem dX9_fail_11 : decode cX9_fail 11 = .ok (.ireturn, 1) := by decide +kernel
theorem dX9_reduceTo_0 : decode cX9_reduceTo 0 = .ok (.iload_n 1, 1) := by decide +kernel
theorem dX9_reduceTo_1 : decode cX9_reduceTo 1 = .ok (.invokestatic 163, 3) := by decide +kernel
theorem dX9_reduceTo_4 : decode cX9_reduceTo 4 = .ok (.istore_n 2, 1) := by decide +kernel
theorem dX9_reduceTo_5 : decode cX9_reduceTo 5 = .ok (.iload_n 2, 1) := by decide +kernel
theorem dX9_reduceTo_6 : decode cX9_reduceTo 6 = .ok (.iconst 4, 1) := by decide +kernel
theorem dX9_reduceTo_7 : decode cX9_reduceTo 7 = .ok (.if_icmp .eq 8, 3) := by decide +kernel
theorem dX9_reduceTo_10 : decode cX9_reduceTo 10 = .ok (.iload_n 2, 1) := by decide +kernel
theorem dX9_reduceTo_11 : decode cX9_reduceTo 11 = .ok (.iconst 1, 1) := by decide +kernel
theorem dX9_reduceTo_12 : decode cX9_reduceTo 12 = .ok (.if_icmp .ne 7, 3) := by decide +kernel
theorem dX9_reduceTo_15 : decode cX9_reduceTo 15 = .ok (.iconst 1, 1) := by decide +kernel
theorem dX9_reduceTo_16 : decode cX9_reduceTo 16 = .ok (.goto 4, 3) := by decide +kernel
theorem dX9_reduceTo_19 : decode cX9_reduceTo 19 = .ok (.iconst 0, 1) := by decide +kernel
theorem dX9_reduceTo_20 : decode cX9_reduceTo 20 = .ok (.istore_n 3, 1) := by decide +kernel
theorem dX9_reduceTo_21 : decode cX9_reduceTo 21 = .ok (.aload_n 0, 1) := by decide +kernel
theorem dX9_reduceTo_22 : decode cX9_reduceTo 22 = .ok (.getfield 149, 3) := by decide +kernel
theorem dX9_reduceTo_25 : decode cX9_reduceTo 25 = .ok (.ifCond .le 66, 3) := by decide +kernel
theorem dX9_reduceTo_28 : decode cX9_reduceTo 28 = .ok (.aload_n 0, 1) := by decide +kernel
theorem dX9_reduceTo_29 : decode cX9_reduceTo 29 = .ok (.getfield 29, 3) := by decide +kernel
theorem dX9_reduceTo_32 : decode cX9_reduceTo 32 = .ok (.aload_n 0, 1) := by decide +kernel
theorem dX9_reduceTo_33 : decode cX9_reduceTo 33 = .ok (.getfield 149, 3) := by decide +kernel
theorem dX9_reduceTo_36 : decode cX9_reduceTo 36 = .ok (.iconst 1, 1) := by decide +kernel
theorem dX9_reduceTo_37 : decode cX9_reduceTo 37 = .ok (.isub, 1) := by decide +kernel
theorem dX9_reduceTo_38 : decode cX9_reduceTo 38 = .ok (.iaload, 1) := by decide +kernel
theorem dX9_reduceTo_39 : decode cX9_reduceTo 39 = .ok (.bipush 40, 2) := by decide +kernel
theorem dX9_reduceTo_41 : decode cX9_reduceTo 41 = .ok (.if_icmp .eq 50, 3) := by decide +kernel
theorem dX9_reduceTo_44 : decode cX9_reduceTo 44 = .ok (.aload_n 0, 1) := by decide +kernel
theorem dX9_reduceTo_45 : decode cX9_reduceTo 45 = .ok (.getfield 29, 3) := by decide +kernel
theorem dX9_reduceTo_48 : decode cX9_reduceTo 48 = .ok (.aload_n 0, 1) := by decide +kernel
theorem dX9_reduceTo_49 : decode cX9_reduceTo 49 = .ok (.getfield 149, 3) := by decide +kernel
theorem dX9_reduceTo_52 : decode cX9_reduceTo 52 = .ok (.iconst 1, 1) := by decide +kernel
theorem dX9_reduceTo_53 : decode cX9_reduceTo 53 = .ok (.isub, 1) := by decide +kernel
theorem dX9_reduceTo_54 : decode cX9_reduceTo 54 = .ok (.iaload, 1) := by decide +kernel
theorem dX9_reduceTo_55 : decode cX9_reduceTo 55 = .ok (.invokestatic 163, 3) := by decide +kernel
theorem dX9_reduceTo_58 : decode cX9_reduceTo 58 = .ok (.iload_n 2, 1) := by decide +kernel
theorem dX9_reduceTo_59 : decode cX9_reduceTo 59 = .ok (.if_icmp .gt 25, 3) := by decide +kernel
theorem dX9_reduceTo_62 : decode cX9_reduceTo 62 = .ok (.aload_n 0, 1) := by decide +kernel
theorem dX9_reduceTo_63 : decode cX9_reduceTo 63 = .ok (.getfield 29, 3) := by decide +kernel
theorem dX9_reduceTo_66 : decode cX9_reduceTo 66 = .ok (.aload_n 0, 1) := by decide +kernel
theorem dX9_reduceTo_67 : decode cX9_reduceTo 67 = .ok (.getfield 149, 3) := by decide +kernel
theorem dX9_reduceTo_70 : decode cX9_reduceTo 70 = .ok (.iconst 1, 1) := by decide +kernel
theorem dX9_reduceTo_71 : decode cX9_reduceTo 71 = .ok (.isub, 1) := by decide +kernel
theorem dX9_reduceTo_72 : decode cX9_reduceTo 72 = .ok (.iaload, 1) := by decide +kernel
theorem dX9_reduceTo_73 : decode cX9_reduceTo 73 = .ok (.invokestatic 163, 3) := by decide +kernel
theorem dX9_reduceTo_76 : decode cX9_reduceTo 76 = .ok (.iload_n 2, 1) := by decide +kernel
theorem dX9_reduceTo_77 : decode cX9_reduceTo 77 = .ok (.if_icmp .ne 14, 3) := by decide +kernel
theorem dX9_reduceTo_80 : decode cX9_reduceTo 80 = .ok (.iload_n 3, 1) := by decide +kernel
theorem dX9_reduceTo_81 : decode cX9_reduceTo 81 = .ok (.ifCond .ne 10, 3) := by decide +kernel
theorem dX9_reduceTo_84 : decode cX9_reduceTo 84 = .ok (.aload_n 0, 1) := by decide +kernel
theorem dX9_reduceTo_85 : decode cX9_reduceTo 85 = .ok (.invokevirtual 167, 3) := by decide +kernel
theorem dX9_reduceTo_88 : decode cX9_reduceTo 88 = .ok (.goto (-67), 3) := by decide +kernel
theorem dX9_reduceTo_91 : decode cX9_reduceTo 91 = .ok (.return_, 1) := by decide +kernel
theorem dX9_push_0 : decode cX9_push 0 = .ok (.aload_n 0, 1) := by decide +kernel
theorem dX9_push_1 : decode cX9_push 1 = .ok (.getfield 29, 3) := by decide +kernel
theorem dX9_push_4 : decode cX9_push 4 = .ok (.aload_n 0, 1) := by decide +kernel
theorem dX9_push_5 : decode cX9_push 5 = .ok (.getfield 149, 3) := by decide +kernel
theorem dX9_push_8 : decode cX9_push 8 = .ok (.iload_n 1, 1) := by decide +kernel
theorem dX9_push_9 : decode cX9_push 9 = .ok (.iastore, 1) := by decide +kernel
theorem dX9_push_10 : decode cX9_push 10 = .ok (.aload_n 0, 1) := by decide +kernel
theorem dX9_push_11 : decode cX9_push 11 = .ok (.getfield 32, 3) := by decide +kernel
theorem dX9_push_14 : decode cX9_push 14 = .ok (.aload_n 0, 1) := by decide +kernel
theorem dX9_push_15 : decode cX9_push 15 = .ok (.getfield 149, 3) := by decide +kernel
theorem dX9_push_18 : decode cX9_push 18 = .ok (.iload_n 2, 1) := by decide +kernel
theorem dX9_push_19 : decode cX9_push 19 = .ok (.iastore, 1) := by decide +kernel
theorem dX9_push_20 : decode cX9_push 20 = .ok (.aload_n 0, 1) := by decide +kernel
theorem dX9_push_21 : decode cX9_push 21 = .ok (.dup, 1) := by decide +kernel
theorem dX9_push_22 : decode cX9_push 22 = .ok (.getfield 149, 3) := by decide +kernel
theorem dX9_push_25 : decode cX9_push 25 = .ok (.iconst 1, 1) := by decide +kernel
theorem dX9_push_26 : decode cX9_push 26 = .ok (.iadd, 1) := by decide +kernel
theorem dX9_push_27 : decode cX9_push 27 = .ok (.putfield 149, 3) := by decide +kernel
theorem dX9_push_30 : decode cX9_push 30 = .ok (.return_, 1) := by decide +kernel
theorem dX9_parse_0 : decode cX9_parse 0 = .ok (.aload_n 0, 1) := by decide +kernel
theorem dX9_parse_1 : decode cX9_parse 1 = .ok (.iconst 0, 1) := by decide +kernel
theorem dX9_parse_2 : decode cX9_parse 2 = .ok (.putfield 143, 3) := by decide +kernel
theorem dX9_parse_5 : decode cX9_parse 5 = .ok (.aload_n 0, 1) := by decide +kernel
theorem dX9_parse_6 : decode cX9_parse 6 = .ok (.iconst 0, 1) := by decide +kernel
theorem dX9_parse_7 : decode cX9_parse 7 = .ok (.putfield 146, 3) := by decide +kernel
theorem dX9_parse_10 : decode cX9_parse 10 = .ok (.aload_n 0, 1) := by decide +kernel
theorem dX9_parse_11 : decode cX9_parse 11 = .ok (.iconst 0, 1) := by decide +kernel
theorem dX9_parse_12 : decode cX9_parse 12 = .ok (.putfield 149, 3) := by decide +kernel
theorem dX9_parse_15 : decode cX9_parse 15 = .ok (.iconst 0, 1) := by decide +kernel
theorem dX9_parse_16 : decode cX9_parse 16 = .ok (.istore_n 1, 1) := by decide +kernel
theorem dX9_parse_17 : decode cX9_parse 17 = .ok (.iconst 0, 1) := by decide +kernel
theorem dX9_parse_18 : decode cX9_parse 18 = .ok (.istore_n 2, 1) := by decide +kernel
theorem dX9_parse_19 : decode cX9_parse 19 = .ok (.iconst 1, 1) := by decide +kernel
theorem dX9_parse_20 : decode cX9_parse 20 = .ok (.istore_n 3, 1) := by decide +kernel
theorem dX9_parse_21 : decode cX9_parse 21 = .ok (.iconst 0, 1) := by decide +kernel
theorem dX9_parse_22 : decode cX9_parse 22 = .ok (.istore 4, 2) := by decide +kernel
theorem dX9_parse_24 : decode cX9_parse 24 = .ok (.iload 4, 2) := by decide +kernel
theorem dX9_parse_26 : decode cX9_parse 26 = .ok (.aload_n 0, 1) := by decide +kernel
theorem dX9_parse_27 : decode cX9_parse 27 = .ok (.getfield 136, 3) := by decide +kernel
theorem dX9_parse_30 : decode cX9_parse 30 = .ok (.if_icmp .ge 312, 3) := by decide +kernel
theorem dX9_parse_33 : decode cX9_parse 33 = .ok (.aload_n 0, 1) := by decide +kernel
theorem dX9_parse_34 : decode cX9_parse 34 = .ok (.getfield 7, 3) := by decide +kernel
theorem dX9_parse_37 : decode cX9_parse 37 = .ok (.iload 4, 2) := by decide +kernel
theorem dX9_parse_39 : decode cX9_parse 39 = .ok (.baload, 1) := by decide +kernel
theorem dX9_parse_40 : decode cX9_parse 40 = .ok (.sipush 255, 3) := by decide +kernel
theorem dX9_parse_43 : decode cX9_parse 43 = .ok (.iand, 1) := by decide +kernel
theorem dX9_parse_44 : decode cX9_parse 44 = .ok (.istore 5, 2) := by decide +kernel
theorem dX9_parse_46 : decode cX9_parse 46 = .ok (.iload 5, 2) := by decide +kernel
theorem dX9_parse_48 : decode cX9_parse 48 = .ok (.bipush 97, 2) := by decide +kernel
theorem dX9_parse_50 : decode cX9_parse 50 = .ok (.if_icmp .lt 10, 3) := by decide +kernel
theorem dX9_parse_53 : decode cX9_parse 53 = .ok (.iload 5, 2) := by decide +kernel
theorem dX9_parse_55 : decode cX9_parse 55 = .ok (.bipush 100, 2) := by decide +kernel
theorem dX9_parse_57 : decode cX9_parse 57 = .ok (.if_icmp .le 10, 3) := by decide +kernel
theorem dX9_parse_60 : decode cX9_parse 60 = .ok (.iload 5, 2) := by decide +kernel
theorem dX9_parse_62 : decode cX9_parse 62 = .ok (.bipush 46, 2) := by decide +kernel
theorem dX9_parse_64 : decode cX9_parse 64 = .ok (.if_icmp .ne 7, 3) := by decide +kernel
theorem dX9_parse_67 : decode cX9_parse 67 = .ok (.iconst 1, 1) := by decide +kernel
theorem dX9_parse_68 : decode cX9_parse 68 = .ok (.goto 4, 3) := by decide +kernel
theorem dX9_parse_71 : decode cX9_parse 71 = .ok (.iconst 0, 1) := by decide +kernel
theorem dX9_parse_72 : decode cX9_parse 72 = .ok (.istore 6, 2) := by decide +kernel
theorem dX9_parse_74 : decode cX9_parse 74 = .ok (.iload 6, 2) := by decide +kernel
theorem dX9_parse_76 : decode cX9_parse 76 = .ok (.ifCond .ne 19, 3) := by decide +kernel
theorem dX9_parse_79 : decode cX9_parse 79 = .ok (.iload 5, 2) := by decide +kernel
theorem dX9_parse_81 : decode cX9_parse 81 = .ok (.invokestatic 152, 3) := by decide +kernel
theorem dX9_parse_84 : decode cX9_parse 84 = .ok (.ifCond .ne 11, 3) := by decide +kernel
theorem dX9_parse_87 : decode cX9_parse 87 = .ok (.iload 5, 2) := by decide +kernel
theorem dX9_parse_89 : decode cX9_parse 89 = .ok (.invokestatic 163, 3) := by decide +kernel
theorem dX9_parse_92 : decode cX9_parse 92 = .ok (.ifCond .le 7, 3) := by decide +kernel
theorem dX9_parse_95 : decode cX9_parse 95 = .ok (.iconst 1, 1) := by decide +kernel
theorem dX9_parse_96 : decode cX9_parse 96 = .ok (.goto 4, 3) := by decide +kernel
theorem dX9_parse_99 : decode cX9_parse 99 = .ok (.iconst 0, 1) := by decide +kernel
theorem dX9_parse_100 : decode cX9_parse 100 = .ok (.istore 7, 2) := by decide +kernel
theorem dX9_parse_102 : decode cX9_parse 102 = .ok (.iload 5, 2) := by decide +kernel
theorem dX9_parse_104 : decode cX9_parse 104 = .ok (.bipush 32, 2) := by decide +kernel
theorem dX9_parse_106 : decode cX9_parse 106 = .ok (.if_icmp .ne 6, 3) := by decide +kernel
theorem dX9_parse_109 : decode cX9_parse 109 = .ok (.goto 227, 3) := by decide +kernel
theorem dX9_parse_112 : decode cX9_parse 112 = .ok (.iload_n 3, 1) := by decide +kernel
theorem dX9_parse_113 : decode cX9_parse 113 = .ok (.ifCond .eq 37, 3) := by decide +kernel
theorem dX9_parse_116 : decode cX9_parse 116 = .ok (.iload 6, 2) := by decide +kernel
theorem dX9_parse_118 : decode cX9_parse 118 = .ok (.ifCond .ne 24, 3) := by decide +kernel
theorem dX9_parse_121 : decode cX9_parse 121 = .ok (.iload 5, 2) := by decide +kernel
theorem dX9_parse_123 : decode cX9_parse 123 = .ok (.invokestatic 152, 3) := by decide +kernel
theorem dX9_parse_126 : decode cX9_parse 126 = .ok (.ifCond .ne 16, 3) := by decide +kernel
theorem dX9_parse_129 : decode cX9_parse 129 = .ok (.iload 5, 2) := by decide +kernel
theorem dX9_parse_131 : decode cX9_parse 131 = .ok (.bipush 40, 2) := by decide +kernel
theorem dX9_parse_133 : decode cX9_parse 133 = .ok (.if_icmp .ne 13, 3) := by decide +kernel
theorem dX9_parse_136 : decode cX9_parse 136 = .ok (.iload_n 2, 1) := by decide +kernel
theorem dX9_parse_137 : decode cX9_parse 137 = .ok (.bipush 7, 2) := by decide +kernel
theorem dX9_parse_139 : decode cX9_parse 139 = .ok (.if_icmp .gt 7, 3) := by decide +kernel
theorem dX9_parse_142 : decode cX9_parse 142 = .ok (.iconst 1, 1) := by decide +kernel
theorem dX9_parse_143 : decode cX9_parse 143 = .ok (.goto 31, 3) := by decide +kernel
theorem dX9_parse_146 : decode cX9_parse 146 = .ok (.iconst 0, 1) := by decide +kernel
theorem dX9_parse_147 : decode cX9_parse 147 = .ok (.goto 27, 3) := by decide +kernel
theorem dX9_parse_150 : decode cX9_parse 150 = .ok (.iload 5, 2) := by decide +kernel
theorem dX9_parse_152 : decode cX9_parse 152 = .ok (.invokestatic 163, 3) := by decide +kernel
theorem dX9_parse_155 : decode cX9_parse 155 = .ok (.ifCond .gt 14, 3) := by decide +kernel
theorem dX9_parse_158 : decode cX9_parse 158 = .ok (.iload 5, 2) := by decide +kernel
theorem dX9_parse_160 : decode cX9_parse 160 = .ok (.bipush 41, 2) := by decide +kernel
theorem dX9_parse_162 : decode cX9_parse 162 = .ok (.if_icmp .ne 11, 3) := by decide +kernel
theorem dX9_parse_165 : decode cX9_parse 165 = .ok (.iload_n 2, 1) := by decide +kernel
theorem dX9_parse_166 : decode cX9_parse 166 = .ok (.ifCond .le 7, 3) := by decide +kernel
theorem dX9_parse_169 : decode cX9_parse 169 = .ok (.iconst 1, 1) := by decide +kernel
theorem dX9_parse_170 : decode cX9_parse 170 = .ok (.goto 4, 3) := by decide +kernel
theorem dX9_parse_173 : decode cX9_parse 173 = .ok (.iconst 0, 1) := by decide +kernel
theorem dX9_parse_174 : decode cX9_parse 174 = .ok (.istore 8, 2) := by decide +kernel
theorem dX9_parse_176 : decode cX9_parse 176 = .ok (.iload_n 1, 1) := by decide +kernel
theorem dX9_parse_177 : decode cX9_parse 177 = .ok (.iload 8, 2) := by decide +kernel
theorem dX9_parse_179 : decode cX9_parse 179 = .ok (.ifCond .eq 12, 3) := by decide +kernel
theorem dX9_parse_182 : decode cX9_parse 182 = .ok (.iload 7, 2) := by decide +kernel
theorem dX9_parse_184 : decode cX9_parse 184 = .ok (.ifCond .eq 7, 3) := by decide +kernel
theorem dX9_parse_187 : decode cX9_parse 187 = .ok (.iconst 1, 1) := by decide +kernel
theorem dX9_parse_188 : decode cX9_parse 188 = .ok (.goto 4, 3) := by decide +kernel
theorem dX9_parse_191 : decode cX9_parse 191 = .ok (.iconst 0, 1) := by decide +kernel
theorem dX9_parse_192 : decode cX9_parse 192 = .ok (.iadd, 1) := by decide +kernel
theorem dX9_parse_193 : decode cX9_parse 193 = .ok (.istore_n 1, 1) := by decide +kernel
theorem dX9_parse_194 : decode cX9_parse 194 = .ok (.iload 8, 2) := by decide +kernel
theorem dX9_parse_196 : decode cX9_parse 196 = .ok (.ifCond .eq 9, 3) := by decide +kernel
theorem dX9_parse_199 : decode cX9_parse 199 = .ok (.iload_n 1, 1) := by decide +kernel
theorem dX9_parse_200 : decode cX9_parse 200 = .ok (.bipush 9, 2) := by decide +kernel
theorem dX9_parse_202 : decode cX9_parse 202 = .ok (.if_icmp .le 10, 3) := by decide +kernel
theorem dX9_parse_205 : decode cX9_parse 205 = .ok (.aload_n 0, 1) := by decide +kernel
theorem dX9_parse_206 : decode cX9_parse 206 = .ok (.iload 4, 2) := by decide +kernel
theorem dX9_parse_208 : decode cX9_parse 208 = .ok (.invokevirtual 170, 3) := by decide +kernel
theorem dX9_parse_211 : decode cX9_parse 211 = .ok (.ireturn, 1) := by decide +kernel
theorem dX9_parse_212 : decode cX9_parse 212 = .ok (.iload 6, 2) := by decide +kernel
theorem dX9_parse_214 : decode cX9_parse 214 = .ok (.ifCond .eq 20, 3) := by decide +kernel
theorem dX9_parse_217 : decode cX9_parse 217 = .ok (.aload_n 0, 1) := by decide +kernel
theorem dX9_parse_218 : decode cX9_parse 218 = .ok (.iload 5, 2) := by decide +kernel
theorem dX9_parse_220 : decode cX9_parse 220 = .ok (.bipush (-9), 2) := by decide +kernel
theorem dX9_parse_222 : decode cX9_parse 222 = .ok (.bipush (-9), 2) := by decide +kernel
theorem dX9_parse_224 : decode cX9_parse 224 = .ok (.iload 4, 2) := by decide +kernel
theorem dX9_parse_226 : decode cX9_parse 226 = .ok (.invokevirtual 156, 3) := by decide +kernel
theorem dX9_parse_229 : decode cX9_parse 229 = .ok (.iconst 0, 1) := by decide +kernel
theorem dX9_parse_230 : decode cX9_parse 230 = .ok (.istore_n 3, 1) := by decide +kernel
theorem dX9_parse_231 : decode cX9_parse 231 = .ok (.goto 70, 3) := by decide +kernel
theorem dX9_parse_234 : decode cX9_parse 234 = .ok (.iload 5, 2) := by decide +kernel
theorem dX9_parse_236 : decode cX9_parse 236 = .ok (.bipush 41, 2) := by decide +kernel
theorem dX9_parse_238 : decode cX9_parse 238 = .ok (.if_icmp .ne 24, 3) := by decide +kernel
theorem dX9_parse_241 : decode cX9_parse 241 = .ok (.aload_n 0, 1) := by decide +kernel
theorem dX9_parse_242 : decode cX9_parse 242 = .ok (.iconst 0, 1) := by decide +kernel
theorem dX9_parse_243 : decode cX9_parse 243 = .ok (.invokevirtual 173, 3) := by decide +kernel
theorem dX9_parse_246 : decode cX9_parse 246 = .ok (.aload_n 0, 1) := by decide +kernel
theorem dX9_parse_247 : decode cX9_parse 247 = .ok (.dup, 1) := by decide +kernel
theorem dX9_parse_248 : decode cX9_parse 248 = .ok (.getfield 149, 3) := by decide +kernel
theorem dX9_parse_251 : decode cX9_parse 251 = .ok (.iconst 1, 1) := by decide +kernel
theorem dX9_parse_252 : decode cX9_parse 252 = .ok (.isub, 1) := by decide +kernel
theorem dX9_parse_253 : decode cX9_parse 253 = .ok (.putfield 149, 3) := by decide +kernel
theorem dX9_parse_256 : decode cX9_parse 256 = .ok (.iinc 2 (-1), 3) := by decide +kernel
theorem dX9_parse_259 : decode cX9_parse 259 = .ok (.goto 42, 3) := by decide +kernel
theorem dX9_parse_262 : decode cX9_parse 262 = .ok (.iload 5, 2) := by decide +kernel
theorem dX9_parse_264 : decode cX9_parse 264 = .ok (.invokestatic 163, 3) := by decide +kernel
theorem dX9_parse_267 : decode cX9_parse 267 = .ok (.ifCond .le 9, 3) := by decide +kernel
theorem dX9_parse_270 : decode cX9_parse 270 = .ok (.aload_n 0, 1) := by decide +kernel
theorem dX9_parse_271 : decode cX9_parse 271 = .ok (.iload 5, 2) := by decide +kernel
theorem dX9_parse_273 : decode cX9_parse 273 = .ok (.invokevirtual 173, 3) := by decide +kernel
theorem dX9_parse_276 : decode cX9_parse 276 = .ok (.aload_n 0, 1) := by decide +kernel
theorem dX9_parse_277 : decode cX9_parse 277 = .ok (.iload 5, 2) := by decide +kernel
theorem dX9_parse_279 : decode cX9_parse 279 = .ok (.iload 4, 2) := by decide +kernel
theorem dX9_parse_281 : decode cX9_parse 281 = .ok (.invokevirtual 177, 3) := by decide +kernel
theorem dX9_parse_284 : decode cX9_parse 284 = .ok (.iload_n 2, 1) := by decide +kernel
theorem dX9_parse_285 : decode cX9_parse 285 = .ok (.iload 5, 2) := by decide +kernel
theorem dX9_parse_287 : decode cX9_parse 287 = .ok (.bipush 40, 2) := by decide +kernel
theorem dX9_parse_289 : decode cX9_parse 289 = .ok (.if_icmp .ne 7, 3) := by decide +kernel
theorem dX9_parse_292 : decode cX9_parse 292 = .ok (.iconst 1, 1) := by decide +kernel
theorem dX9_parse_293 : decode cX9_parse 293 = .ok (.goto 4, 3) := by decide +kernel
theorem dX9_parse_296 : decode cX9_parse 296 = .ok (.iconst 0, 1) := by decide +kernel
theorem dX9_parse_297 : decode cX9_parse 297 = .ok (.iadd, 1) := by decide +kernel
theorem dX9_parse_298 : decode cX9_parse 298 = .ok (.istore_n 2, 1) := by decide +kernel
theorem dX9_parse_299 : decode cX9_parse 299 = .ok (.iconst 1, 1) := by decide +kernel
theorem dX9_parse_300 : decode cX9_parse 300 = .ok (.istore_n 3, 1) := by decide +kernel
theorem dX9_parse_301 : decode cX9_parse 301 = .ok (.iload_n 3, 1) := by decide +kernel
theorem dX9_parse_302 : decode cX9_parse 302 = .ok (.ifCond .ne 34, 3) := by decide +kernel
theorem dX9_parse_305 : decode cX9_parse 305 = .ok (.aload_n 0, 1) := by decide +kernel
theorem dX9_parse_306 : decode cX9_parse 306 = .ok (.getfield 149, 3) := by decide +kernel
theorem dX9_parse_309 : decode cX9_parse 309 = .ok (.ifCond .le 27, 3) := by decide +kernel
theorem dX9_parse_312 : decode cX9_parse 312 = .ok (.aload_n 0, 1) := by decide +kernel
theorem dX9_parse_313 : decode cX9_parse 313 = .ok (.getfield 29, 3) := by decide +kernel
theorem dX9_parse_316 : decode cX9_parse 316 = .ok (.aload_n 0, 1) := by decide +kernel
theorem dX9_parse_317 : decode cX9_parse 317 = .ok (.getfield 149, 3) := by decide +kernel
theorem dX9_parse_320 : decode cX9_parse 320 = .ok (.iconst 1, 1) := by decide +kernel
theorem dX9_parse_321 : decode cX9_parse 321 = .ok (.isub, 1) := by decide +kernel
theorem dX9_parse_322 : decode cX9_parse 322 = .ok (.iaload, 1) := by decide +kernel
theorem dX9_parse_323 : decode cX9_parse 323 = .ok (.invokestatic 152, 3) := by decide +kernel
theorem dX9_parse_326 : decode cX9_parse 326 = .ok (.ifCond .eq 10, 3) := by decide +kernel
theorem dX9_parse_329 : decode cX9_parse 329 = .ok (.aload_n 0, 1) := by decide +kernel
theorem dX9_parse_330 : decode cX9_parse 330 = .ok (.invokevirtual 167, 3) := by decide +kernel
theorem dX9_parse_333 : decode cX9_parse 333 = .ok (.goto (-32), 3) := by decide +kernel
theorem dX9_parse_336 : decode cX9_parse 336 = .ok (.iinc 4 1, 3) := by decide +kernel
theorem dX9_parse_339 : decode cX9_parse 339 = .ok (.goto (-315), 3) := by decide +kernel
theorem dX9_parse_342 : decode cX9_parse 342 = .ok (.iload_n 3, 1) := by decide +kernel
theorem dX9_parse_343 : decode cX9_parse 343 = .ok (.ifCond .ne 7, 3) := by decide +kernel
theorem dX9_parse_346 : decode cX9_parse 346 = .ok (.iload_n 2, 1) := by decide +kernel
theorem dX9_parse_347 : decode cX9_parse 347 = .ok (.ifCond .le 12, 3) := by decide +kernel
theorem dX9_parse_350 : decode cX9_parse 350 = .ok (.aload_n 0, 1) := by decide +kernel
theorem dX9_parse_351 : decode cX9_parse 351 = .ok (.aload_n 0, 1) := by decide +kernel
theorem dX9_parse_352 : decode cX9_parse 352 = .ok (.getfield 136, 3) := by decide +kernel
theorem dX9_parse_355 : decode cX9_parse 355 = .ok (.invokevirtual 170, 3) := by decide +kernel
theorem dX9_parse_358 : decode cX9_parse 358 = .ok (.ireturn, 1) := by decide +kernel
theorem dX9_parse_359 : decode cX9_parse 359 = .ok (.aload_n 0, 1) := by decide +kernel
theorem dX9_parse_360 : decode cX9_parse 360 = .ok (.iconst 0, 1) := by decide +kernel
theorem dX9_parse_361 : decode cX9_parse 361 = .ok (.invokevirtual 173, 3) := by decide +kernel
theorem dX9_parse_364 : decode cX9_parse 364 = .ok (.aload_n 0, 1) := by decide +kernel
theorem dX9_parse_365 : decode cX9_parse 365 = .ok (.invokevirtual 181, 3) := by decide +kernel
theorem dX9_parse_368 : decode cX9_parse 368 = .ok (.ireturn, 1) := by decide +kernel
theorem dX9_isPure_0 : decode cX9_isPure 0 = .ok (.iconst 0, 1) := by decide +kernel
theorem dX9_isPure_1 : decode cX9_isPure 1 = .ok (.istore_n 1, 1) := by decide +kernel
theorem dX9_isPure_2 : decode cX9_isPure 2 = .ok (.iload_n 1, 1) := by decide +kernel
theorem dX9_isPure_3 : decode cX9_isPure 3 = .ok (.bipush 9, 2) := by decide +kernel
theorem dX9_isPure_5 : decode cX9_isPure 5 = .ok (.if_icmp .ge 16, 3) := by decide +kernel
theorem dX9_isPure_8 : decode cX9_isPure 8 = .ok (.aload_n 0, 1) := by decide +kernel
theorem dX9_isPure_9 : decode cX9_isPure 9 = .ok (.getfield 35, 3) := by decide +kernel
theorem dX9_isPure_12 : decode cX9_isPure 12 = .ok (.iload_n 1, 1) := by decide +kernel
theorem dX9_isPure_13 : decode cX9_isPure 13 = .ok (.iconst 0, 1) := by decide +kernel
theorem dX9_isPure_14 : decode cX9_isPure 14 = .ok (.bastore, 1) := by decide +kernel
theorem dX9_isPure_15 : decode cX9_isPure 15 = .ok (.iinc 1 1, 3) := by decide +kernel
theorem dX9_isPure_18 : decode cX9_isPure 18 = .ok (.goto (-16), 3) := by decide +kernel
theorem dX9_isPure_21 : decode cX9_isPure 21 = .ok (.bipush 99, 2) := by decide +kernel
theorem dX9_isPure_23 : decode cX9_isPure 23 = .ok (.istore_n 1, 1) := by decide +kernel
theorem dX9_isPure_24 : decode cX9_isPure 24 = .ok (.aload_n 0, 1) := by decide +kernel
theorem dX9_isPure_25 : decode cX9_isPure 25 = .ok (.getfield 143, 3) := by decide +kernel
theorem dX9_isPure_28 : decode cX9_isPure 28 = .ok (.iconst 1, 1) := by decide +kernel
theorem dX9_isPure_29 : decode cX9_isPure 29 = .ok (.isub, 1) := by decide +kernel
theorem dX9_isPure_30 : decode cX9_isPure 30 = .ok (.istore_n 2, 1) := by decide +kernel
theorem dX9_isPure_31 : decode cX9_isPure 31 = .ok (.iload_n 2, 1) := by decide +kernel
theorem dX9_isPure_32 : decode cX9_isPure 32 = .ok (.ifCond .lt 176, 3) := by decide +kernel
theorem dX9_isPure_35 : decode cX9_isPure 35 = .ok (.aload_n 0, 1) := by decide +kernel
theorem dX9_isPure_36 : decode cX9_isPure 36 = .ok (.getfield 13, 3) := by decide +kernel
theorem dX9_isPure_39 : decode cX9_isPure 39 = .ok (.iload_n 2, 1) := by decide +kernel
theorem dX9_isPure_40 : decode cX9_isPure 40 = .ok (.iaload, 1) := by decide +kernel
theorem dX9_isPure_41 : decode cX9_isPure 41 = .ok (.istore_n 3, 1) := by decide +kernel
theorem dX9_isPure_42 : decode cX9_isPure 42 = .ok (.aload_n 0, 1) := by decide +kernel
theorem dX9_isPure_43 : decode cX9_isPure 43 = .ok (.getfield 35, 3) := by decide +kernel
theorem dX9_isPure_46 : decode cX9_isPure 46 = .ok (.iload_n 2, 1) := by decide +kernel
theorem dX9_isPure_47 : decode cX9_isPure 47 = .ok (.baload, 1) := by decide +kernel
theorem dX9_isPure_48 : decode cX9_isPure 48 = .ok (.ifCond .ne 27, 3) := by decide +kernel
theorem dX9_isPure_51 : decode cX9_isPure 51 = .ok (.iload_n 3, 1) := by decide +kernel
theorem dX9_isPure_52 : decode cX9_isPure 52 = .ok (.bipush 89, 2) := by decide +kernel
theorem dX9_isPure_54 : decode cX9_isPure 54 = .ok (.if_icmp .eq 21, 3) := by decide +kernel
theorem dX9_isPure_57 : decode cX9_isPure 57 = .ok (.iload_n 3, 1) := by decide +kernel
theorem dX9_isPure_58 : decode cX9_isPure 58 = .ok (.bipush 72, 2) := by decide +kernel
theorem dX9_isPure_60 : decode cX9_isPure 60 = .ok (.if_icmp .eq 15, 3) := by decide +kernel
theorem dX9_isPure_63 : decode cX9_isPure 63 = .ok (.iload_n 3, 1) := by decide +kernel
theorem dX9_isPure_64 : decode cX9_isPure 64 = .ok (.bipush 79, 2) := by decide +kernel
theorem dX9_isPure_66 : decode cX9_isPure 66 = .ok (.if_icmp .eq 9, 3) := by decide +kernel
theorem dX9_isPure_69 : decode cX9_isPure 69 = .ok (.iload_n 3, 1) := by decide +kernel
theorem dX9_isPure_70 : decode cX9_isPure 70 = .ok (.bipush 83, 2) := by decide +kernel
theorem dX9_isPure_72 : decode cX9_isPure 72 = .ok (.if_icmp .ne 7, 3) := by decide +kernel
theorem dX9_isPure_75 : decode cX9_isPure 75 = .ok (.iconst 1, 1) := by decide +kernel
theorem dX9_isPure_76 : decode cX9_isPure 76 = .ok (.goto 4, 3) := by decide +kernel
theorem dX9_isPure_79 : decode cX9_isPure 79 = .ok (.iconst 0, 1) := by decide +kernel
theorem dX9_isPure_80 : decode cX9_isPure 80 = .ok (.istore 4, 2) := by decide +kernel
theorem dX9_isPure_82 : decode cX9_isPure 82 = .ok (.iload_n 3, 1) := by decide +kernel
theorem dX9_isPure_83 : decode cX9_isPure 83 = .ok (.bipush 78, 2) := by decide +kernel
theorem dX9_isPure_85 : decode cX9_isPure 85 = .ok (.if_icmp .eq 27, 3) := by decide +kernel
theorem dX9_isPure_88 : decode cX9_isPure 88 = .ok (.iload_n 3, 1) := by decide +kernel
theorem dX9_isPure_89 : decode cX9_isPure 89 = .ok (.bipush 87, 2) := by decide +kernel
theorem dX9_isPure_91 : decode cX9_isPure 91 = .ok (.if_icmp .eq 21, 3) := by decide +kernel
theorem dX9_isPure_94 : decode cX9_isPure 94 = .ok (.iload_n 3, 1) := by decide +kernel
theorem dX9_isPure_95 : decode cX9_isPure 95 = .ok (.bipush 71, 2) := by decide +kernel
theorem dX9_isPure_97 : decode cX9_isPure 97 = .ok (.if_icmp .eq 15, 3) := by decide +kernel
theorem dX9_isPure_100 : decode cX9_isPure 100 = .ok (.iload_n 3, 1) := by decide +kernel
theorem dX9_isPure_101 : decode cX9_isPure 101 = .ok (.bipush 70, 2) := by decide +kernel
theorem dX9_isPure_103 : decode cX9_isPure 103 = .ok (.if_icmp .eq 9, 3) := by decide +kernel
theorem dX9_isPure_106 : decode cX9_isPure 106 = .ok (.iload_n 3, 1) := by decide +kernel
theorem dX9_isPure_107 : decode cX9_isPure 107 = .ok (.bipush 85, 2) := by decide +kernel
theorem dX9_isPure_109 : decode cX9_isPure 109 = .ok (.if_icmp .ne 7, 3) := by decide +kernel
theorem dX9_isPure_112 : decode cX9_isPure 112 = .ok (.iconst 1, 1) := by decide +kernel
theorem dX9_isPure_113 : decode cX9_isPure 113 = .ok (.goto 4, 3) := by decide +kernel
theorem dX9_isPure_116 : decode cX9_isPure 116 = .ok (.iconst 0, 1) := by decide +kernel
theorem dX9_isPure_117 : decode cX9_isPure 117 = .ok (.istore 5, 2) := by decide +kernel
theorem dX9_isPure_119 : decode cX9_isPure 119 = .ok (.aload_n 0, 1) := by decide +kernel
theorem dX9_isPure_120 : decode cX9_isPure 120 = .ok (.getfield 35, 3) := by decide +kernel
theorem dX9_isPure_123 : decode cX9_isPure 123 = .ok (.iload_n 2, 1) := by decide +kernel
theorem dX9_isPure_124 : decode cX9_isPure 124 = .ok (.baload, 1) := by decide +kernel
theorem dX9_isPure_125 : decode cX9_isPure 125 = .ok (.ifCond .eq 27, 3) := by decide +kernel
theorem dX9_isPure_128 : decode cX9_isPure 128 = .ok (.iload 5, 2) := by decide +kernel
theorem dX9_isPure_130 : decode cX9_isPure 130 = .ok (.ifCond .eq 22, 3) := by decide +kernel
theorem dX9_isPure_133 : decode cX9_isPure 133 = .ok (.aload_n 0, 1) := by decide +kernel
theorem dX9_isPure_134 : decode cX9_isPure 134 = .ok (.getfield 23, 3) := by decide +kernel
theorem dX9_isPure_137 : decode cX9_isPure 137 = .ok (.iload_n 2, 1) := by decide +kernel
theorem dX9_isPure_138 : decode cX9_isPure 138 = .ok (.iaload, 1) := by decide +kernel
theorem dX9_isPure_139 : decode cX9_isPure 139 = .ok (.iload_n 1, 1) := by decide +kernel
theorem dX9_isPure_140 : decode cX9_isPure 140 = .ok (.if_icmp .ge 12, 3) := by decide +kernel
theorem dX9_isPure_143 : decode cX9_isPure 143 = .ok (.aload_n 0, 1) := by decide +kernel
theorem dX9_isPure_144 : decode cX9_isPure 144 = .ok (.getfield 23, 3) := by decide +kernel
theorem dX9_isPure_147 : decode cX9_isPure 147 = .ok (.iload_n 2, 1) := by decide +kernel
theorem dX9_isPure_148 : decode cX9_isPure 148 = .ok (.iaload, 1) := by decide +kernel
theorem dX9_isPure_149 : decode cX9_isPure 149 = .ok (.goto 4, 3) := by decide +kernel
theorem dX9_isPure_152 : decode cX9_isPure 152 = .ok (.iload_n 1, 1) := by decide +kernel
theorem dX9_isPure_153 : decode cX9_isPure 153 = .ok (.istore_n 1, 1) := by decide +kernel
theorem dX9_isPure_154 : decode cX9_isPure 154 = .ok (.aload_n 0, 1) := by decide +kernel
theorem dX9_isPure_155 : decode cX9_isPure 155 = .ok (.getfield 17, 3) := by decide +kernel
theorem dX9_isPure_158 : decode cX9_isPure 158 = .ok (.iload_n 2, 1) := by decide +kernel
theorem dX9_isPure_159 : decode cX9_isPure 159 = .ok (.iaload, 1) := by decide +kernel
theorem dX9_isPure_160 : decode cX9_isPure 160 = .ok (.bipush (-9), 2) := by decide +kernel
theorem dX9_isPure_162 : decode cX9_isPure 162 = .ok (.if_icmp .eq 16, 3) := by decide +kernel
theorem dX9_isPure_165 : decode cX9_isPure 165 = .ok (.aload_n 0, 1) := by decide +kernel
theorem dX9_isPure_166 : decode cX9_isPure 166 = .ok (.getfield 35, 3) := by decide +kernel
theorem dX9_isPure_169 : decode cX9_isPure 169 = .ok (.aload_n 0, 1) := by decide +kernel
theorem dX9_isPure_170 : decode cX9_isPure 170 = .ok (.getfield 17, 3) := by decide +kernel
theorem dX9_isPure_173 : decode cX9_isPure 173 = .ok (.iload_n 2, 1) := by decide +kernel
theorem dX9_isPure_174 : decode cX9_isPure 174 = .ok (.iaload, 1) := by decide +kernel
theorem dX9_isPure_175 : decode cX9_isPure 175 = .ok (.iload 4, 2) := by decide +kernel
theorem dX9_isPure_177 : decode cX9_isPure 177 = .ok (.bastore, 1) := by decide +kernel
theorem dX9_isPure_178 : decode cX9_isPure 178 = .ok (.aload_n 0, 1) := by decide +kernel
theorem dX9_isPure_179 : decode cX9_isPure 179 = .ok (.getfield 20, 3) := by decide +kernel
theorem dX9_isPure_182 : decode cX9_isPure 182 = .ok (.iload_n 2, 1) := by decide +kernel
theorem dX9_isPure_183 : decode cX9_isPure 183 = .ok (.iaload, 1) := by decide +kernel
theorem dX9_isPure_184 : decode cX9_isPure 184 = .ok (.bipush (-9), 2) := by decide +kernel
theorem dX9_isPure_186 : decode cX9_isPure 186 = .ok (.if_icmp .eq 16, 3) := by decide +kernel
theorem dX9_isPure_189 : decode cX9_isPure 189 = .ok (.aload_n 0, 1) := by decide +kernel
theorem dX9_isPure_190 : decode cX9_isPure 190 = .ok (.getfield 35, 3) := by decide +kernel
theorem dX9_isPure_193 : decode cX9_isPure 193 = .ok (.aload_n 0, 1) := by decide +kernel
theorem dX9_isPure_194 : decode cX9_isPure 194 = .ok (.getfield 20, 3) := by decide +kernel
theorem dX9_isPure_197 : decode cX9_isPure 197 = .ok (.iload_n 2, 1) := by decide +kernel
theorem dX9_isPure_198 : decode cX9_isPure 198 = .ok (.iaload, 1) := by decide +kernel
theorem dX9_isPure_199 : decode cX9_isPure 199 = .ok (.iload 4, 2) := by decide +kernel
theorem dX9_isPure_201 : decode cX9_isPure 201 = .ok (.bastore, 1) := by decide +kernel
theorem dX9_isPure_202 : decode cX9_isPure 202 = .ok (.iinc 2 (-1), 3) := by decide +kernel
theorem dX9_isPure_205 : decode cX9_isPure 205 = .ok (.goto (-174), 3) := by decide +kernel
theorem dX9_isPure_208 : decode cX9_isPure 208 = .ok (.iload_n 1, 1) := by decide +kernel
theorem dX9_isPure_209 : decode cX9_isPure 209 = .ok (.bipush 99, 2) := by decide +kernel
theorem dX9_isPure_211 : decode cX9_isPure 211 = .ok (.if_icmp .ge 13, 3) := by decide +kernel
theorem dX9_isPure_214 : decode cX9_isPure 214 = .ok (.aload_n 0, 1) := by decide +kernel
theorem dX9_isPure_215 : decode cX9_isPure 215 = .ok (.iconst 2, 1) := by decide +kernel
theorem dX9_isPure_216 : decode cX9_isPure 216 = .ok (.putfield 140, 3) := by decide +kernel
theorem dX9_isPure_219 : decode cX9_isPure 219 = .ok (.aload_n 0, 1) := by decide +kernel
theorem dX9_isPure_220 : decode cX9_isPure 220 = .ok (.iload_n 1, 1) := by decide +kernel
theorem dX9_isPure_221 : decode cX9_isPure 221 = .ok (.putfield 160, 3) := by decide +kernel
theorem dX9_isPure_224 : decode cX9_isPure 224 = .ok (.iload_n 1, 1) := by decide +kernel
theorem dX9_isPure_225 : decode cX9_isPure 225 = .ok (.bipush 99, 2) := by decide +kernel
theorem dX9_isPure_227 : decode cX9_isPure 227 = .ok (.if_icmp .ne 7, 3) := by decide +kernel
theorem dX9_isPure_230 : decode cX9_isPure 230 = .ok (.iconst 1, 1) := by decide +kernel
theorem dX9_isPure_231 : decode cX9_isPure 231 = .ok (.goto 4, 3) := by decide +kernel
theorem dX9_isPure_234 : decode cX9_isPure 234 = .ok (.iconst 0, 1) := by decide +kernel
theorem dX9_isPure_235 : decode cX9_isPure 235 = .ok (.ireturn, 1) := by decide +kernel
theorem dX9_layBits_0 : decode cX9_layBits 0 = .ok (.aload_n 0, 1) := by decide +kernel
theorem dX9_layBits_1 : decode cX9_layBits 1 = .ok (.iconst 0, 1) := by decide +kernel
theorem dX9_layBits_2 : decode cX9_layBits 2 = .ok (.putfield 185, 3) := by decide +kernel
theorem dX9_layBits_5 : decode cX9_layBits 5 = .ok (.aload_n 0, 1) := by decide +kernel
theorem dX9_layBits_6 : decode cX9_layBits 6 = .ok (.iconst 0, 1) := by decide +kernel
theorem dX9_layBits_7 : decode cX9_layBits 7 = .ok (.putfield 188, 3) := by decide +kernel
theorem dX9_layBits_10 : decode cX9_layBits 10 = .ok (.aload_n 0, 1) := by decide +kernel
theorem dX9_layBits_11 : decode cX9_layBits 11 = .ok (.iconst 0, 1) := by decide +kernel
theorem dX9_layBits_12 : decode cX9_layBits 12 = .ok (.putfield 191, 3) := by decide +kernel
theorem dX9_layBits_15 : decode cX9_layBits 15 = .ok (.aload_n 0, 1) := by decide +kernel
theorem dX9_layBits_16 : decode cX9_layBits 16 = .ok (.iconst 0, 1) := by decide +kernel
theorem dX9_layBits_17 : decode cX9_layBits 17 = .ok (.putfield 194, 3) := by decide +kernel
theorem dX9_layBits_20 : decode cX9_layBits 20 = .ok (.iconst 0, 1) := by decide +kernel
theorem dX9_layBits_21 : decode cX9_layBits 21 = .ok (.istore_n 1, 1) := by decide +kernel
theorem dX9_layBits_22 : decode cX9_layBits 22 = .ok (.iload_n 1, 1) := by decide +kernel
theorem dX9_layBits_23 : decode cX9_layBits 23 = .ok (.aload_n 0, 1) := by decide +kernel
theorem dX9_layBits_24 : decode cX9_layBits 24 = .ok (.getfield 143, 3) := by decide +kernel
theorem dX9_layBits_27 : decode cX9_layBits 27 = .ok (.if_icmp .ge 169, 3) := by decide +kernel
theorem dX9_layBits_30 : decode cX9_layBits 30 = .ok (.aload_n 0, 1) := by decide +kernel
theorem dX9_layBits_31 : decode cX9_layBits 31 = .ok (.getfield 13, 3) := by decide +kernel
theorem dX9_layBits_34 : decode cX9_layBits 34 = .ok (.iload_n 1, 1) := by decide +kernel
theorem dX9_layBits_35 : decode cX9_layBits 35 = .ok (.iaload, 1) := by decide +kernel
theorem dX9_layBits_36 : decode cX9_layBits 36 = .ok (.istore_n 2, 1) := by decide +kernel
theorem dX9_layBits_37 : decode cX9_layBits 37 = .ok (.iload_n 2, 1) := by decide +kernel
theorem dX9_layBits_38 : decode cX9_layBits 38 = .ok (.bipush 78, 2) := by decide +kernel
theorem dX9_layBits_40 : decode cX9_layBits 40 = .ok (.if_icmp .eq 27, 3) := by decide +kernel
theorem dX9_layBits_43 : decode cX9_layBits 43 = .ok (.iload_n 2, 1) := by decide +kernel
theorem dX9_layBits_44 : decode cX9_layBits 44 = .ok (.bipush 87, 2) := by decide +kernel
theorem dX9_layBits_46 : decode cX9_layBits 46 = .ok (.if_icmp .eq 21, 3) := by decide +kernel
theorem dX9_layBits_49 : decode cX9_layBits 49 = .ok (.iload_n 2, 1) := by decide +kernel
theorem dX9_layBits_50 : decode cX9_layBits 50 = .ok (.bipush 71, 2) := by decide +kernel
theorem dX9_layBits_52 : decode cX9_layBits 52 = .ok (.if_icmp .eq 15, 3) := by decide +kernel
theorem dX9_layBits_55 : decode cX9_layBits 55 = .ok (.iload_n 2, 1) := by decide +kernel
theorem dX9_layBits_56 : decode cX9_layBits 56 = .ok (.bipush 70, 2) := by decide +kernel
theorem dX9_layBits_58 : decode cX9_layBits 58 = .ok (.if_icmp .eq 9, 3) := by decide +kernel
theorem dX9_layBits_61 : decode cX9_layBits 61 = .ok (.iload_n 2, 1) := by decide +kernel
theorem dX9_layBits_62 : decode cX9_layBits 62 = .ok (.bipush 85, 2) := by decide +kernel
theorem dX9_layBits_64 : decode cX9_layBits 64 = .ok (.if_icmp .ne 57, 3) := by decide +kernel
theorem dX9_layBits_67 : decode cX9_layBits 67 = .ok (.aload_n 0, 1) := by decide +kernel
theorem dX9_layBits_68 : decode cX9_layBits 68 = .ok (.getfield 39, 3) := by decide +kernel
theorem dX9_layBits_71 : decode cX9_layBits 71 = .ok (.iload_n 1, 1) := by decide +kernel
theorem dX9_layBits_72 : decode cX9_layBits 72 = .ok (.aload_n 0, 1) := by decide +kernel
theorem dX9_layBits_73 : decode cX9_layBits 73 = .ok (.getfield 185, 3) := by decide +kernel
theorem dX9_layBits_76 : decode cX9_layBits 76 = .ok (.iastore, 1) := by decide +kernel
theorem dX9_layBits_77 : decode cX9_layBits 77 = .ok (.aload_n 0, 1) := by decide +kernel
theorem dX9_layBits_78 : decode cX9_layBits 78 = .ok (.dup, 1) := by decide +kernel
theorem dX9_layBits_79 : decode cX9_layBits 79 = .ok (.getfield 191, 3) := by decide +kernel
theorem dX9_layBits_82 : decode cX9_layBits 82 = .ok (.iload_n 2, 1) := by decide +kernel
theorem dX9_layBits_83 : decode cX9_layBits 83 = .ok (.bipush 87, 2) := by decide +kernel
theorem dX9_layBits_85 : decode cX9_layBits 85 = .ok (.if_icmp .eq 9, 3) := by decide +kernel
theorem dX9_layBits_88 : decode cX9_layBits 88 = .ok (.iload_n 2, 1) := by decide +kernel
theorem dX9_layBits_89 : decode cX9_layBits 89 = .ok (.bipush 71, 2) := by decide +kernel
theorem dX9_layBits_91 : decode cX9_layBits 91 = .ok (.if_icmp .ne 12, 3) := by decide +kernel
theorem dX9_layBits_94 : decode cX9_layBits 94 = .ok (.iconst 1, 1) := by decide +kernel
theorem dX9_layBits_95 : decode cX9_layBits 95 = .ok (.aload_n 0, 1) := by decide +kernel
theorem dX9_layBits_96 : decode cX9_layBits 96 = .ok (.getfield 185, 3) := by decide +kernel
theorem dX9_layBits_99 : decode cX9_layBits 99 = .ok (.ishl, 1) := by decide +kernel
theorem dX9_layBits_100 : decode cX9_layBits 100 = .ok (.goto 4, 3) := by decide +kernel
theorem dX9_layBits_103 : decode cX9_layBits 103 = .ok (.iconst 0, 1) := by decide +kernel
theorem dX9_layBits_104 : decode cX9_layBits 104 = .ok (.ior, 1) := by decide +kernel
theorem dX9_layBits_105 : decode cX9_layBits 105 = .ok (.putfield 191, 3) := by decide +kernel
theorem dX9_layBits_108 : decode cX9_layBits 108 = .ok (.aload_n 0, 1) := by decide +kernel
theorem dX9_layBits_109 : decode cX9_layBits 109 = .ok (.dup, 1) := by decide +kernel
theorem dX9_layBits_110 : decode cX9_layBits 110 = .ok (.getfield 185, 3) := by decide +kernel
theorem dX9_layBits_113 : decode cX9_layBits 113 = .ok (.iconst 1, 1) := by decide +kernel
theorem dX9_layBits_114 : decode cX9_layBits 114 = .ok (.iadd, 1) := by decide +kernel
theorem dX9_layBits_115 : decode cX9_layBits 115 = .ok (.putfield 185, 3) := by decide +kernel
theorem dX9_layBits_118 : decode cX9_layBits 118 = .ok (.goto 72, 3) := by decide +kernel
theorem dX9_layBits_121 : decode cX9_layBits 121 = .ok (.iload_n 2, 1) := by decide +kernel
theorem dX9_layBits_122 : decode cX9_layBits 122 = .ok (.bipush 89, 2) := by decide +kernel
theorem dX9_layBits_124 : decode cX9_layBits 124 = .ok (.if_icmp .eq 21, 3) := by decide +kernel
theorem dX9_layBits_127 : decode cX9_layBits 127 = .ok (.iload_n 2, 1) := by decide +kernel
theorem dX9_layBits_128 : decode cX9_layBits 128 = .ok (.bipush 72, 2) := by decide +kernel
theorem dX9_layBits_130 : decode cX9_layBits 130 = .ok (.if_icmp .eq 15, 3) := by decide +kernel
theorem dX9_layBits_133 : decode cX9_layBits 133 = .ok (.iload_n 2, 1) := by decide +kernel
theorem dX9_layBits_134 : decode cX9_layBits 134 = .ok (.bipush 79, 2) := by decide +kernel
theorem dX9_layBits_136 : decode cX9_layBits 136 = .ok (.if_icmp .eq 9, 3) := by decide +kernel
theorem dX9_layBits_139 : decode cX9_layBits 139 = .ok (.iload_n 2, 1) := by decide +kernel
theorem dX9_layBits_140 : decode cX9_layBits 140 = .ok (.bipush 83, 2) := by decide +kernel
theorem dX9_layBits_142 : decode cX9_layBits 142 = .ok (.if_icmp .ne 48, 3) := by decide +kernel
theorem dX9_layBits_145 : decode cX9_layBits 145 = .ok (.aload_n 0, 1) := by decide +kernel
theorem dX9_layBits_146 : decode cX9_layBits 146 = .ok (.getfield 39, 3) := by decide +kernel
theorem dX9_layBits_149 : decode cX9_layBits 149 = .ok (.iload_n 1, 1) := by decide +kernel
theorem dX9_layBits_150 : decode cX9_layBits 150 = .ok (.aload_n 0, 1) := by decide +kernel
theorem dX9_layBits_151 : decode cX9_layBits 151 = .ok (.getfield 188, 3) := by decide +kernel
theorem dX9_layBits_154 : decode cX9_layBits 154 = .ok (.iastore, 1) := by decide +kernel
theorem dX9_layBits_155 : decode cX9_layBits 155 = .ok (.aload_n 0, 1) := by decide +kernel
theorem dX9_layBits_156 : decode cX9_layBits 156 = .ok (.dup, 1) := by decide +kernel
theorem dX9_layBits_157 : decode cX9_layBits 157 = .ok (.getfield 194, 3) := by decide +kernel
theorem dX9_layBits_160 : decode cX9_layBits 160 = .ok (.iload_n 2, 1) := by decide +kernel
theorem dX9_layBits_161 : decode cX9_layBits 161 = .ok (.bipush 72, 2) := by decide +kernel
theorem dX9_layBits_163 : decode cX9_layBits 163 = .ok (.if_icmp .ne 12, 3) := by decide +kernel
theorem dX9_layBits_166 : decode cX9_layBits 166 = .ok (.iconst 1, 1) := by decide +kernel
theorem dX9_layBits_167 : decode cX9_layBits 167 = .ok (.aload_n 0, 1) := by decide +kernel
theorem dX9_layBits_168 : decode cX9_layBits 168 = .ok (.getfield 188, 3) := by decide +kernel
theorem dX9_layBits_171 : decode cX9_layBits 171 = .ok (.ishl, 1) := by decide +kernel
theorem dX9_layBits_172 : decode cX9_layBits 172 = .ok (.goto 4, 3) := by decide +kernel
theorem dX9_layBits_175 : decode cX9_layBits 175 = .ok (.iconst 0, 1) := by decide +kernel
theorem dX9_layBits_176 : decode cX9_layBits 176 = .ok (.ior, 1) := by decide +kernel
theorem dX9_layBits_177 : decode cX9_layBits 177 = .ok (.putfield 194, 3) := by decide +kernel
theorem dX9_layBits_180 : decode cX9_layBits 180 = .ok (.aload_n 0, 1) := by decide +kernel
theorem dX9_layBits_181 : decode cX9_layBits 181 = .ok (.dup, 1) := by decide +kernel
theorem dX9_layBits_182 : decode cX9_layBits 182 = .ok (.getfield 188, 3) := by decide +kernel
theorem dX9_layBits_185 : decode cX9_layBits 185 = .ok (.iconst 1, 1) := by decide +kernel
theorem dX9_layBits_186 : decode cX9_layBits 186 = .ok (.iadd, 1) := by decide +kernel
theorem dX9_layBits_187 : decode cX9_layBits 187 = .ok (.putfield 188, 3) := by decide +kernel
theorem dX9_layBits_190 : decode cX9_layBits 190 = .ok (.iinc 1 1, 3) := by decide +kernel
theorem dX9_layBits_193 : decode cX9_layBits 193 = .ok (.goto (-171), 3) := by decide +kernel
theorem dX9_layBits_196 : decode cX9_layBits 196 = .ok (.return_, 1) := by decide +kernel
theorem dX9_look_0 : decode cX9_look 0 = .ok (.aload_n 0, 1) := by decide +kernel
theorem dX9_look_1 : decode cX9_look 1 = .ok (.iconst 0, 1) := by decide +kernel
theorem dX9_look_2 : decode cX9_look 2 = .ok (.putfield 197, 3) := by decide +kernel
theorem dX9_look_5 : decode cX9_look 5 = .ok (.aload_n 0, 1) := by decide +kernel
theorem dX9_look_6 : decode cX9_look 6 = .ok (.iconst 0, 1) := by decide +kernel
theorem dX9_look_7 : decode cX9_look 7 = .ok (.putfield 200, 3) := by decide +kernel
theorem dX9_look_10 : decode cX9_look 10 = .ok (.iconst 0, 1) := by decide +kernel
theorem dX9_look_11 : decode cX9_look 11 = .ok (.istore 4, 2) := by decide +kernel
theorem dX9_look_13 : decode cX9_look 13 = .ok (.iload 4, 2) := by decide +kernel
theorem dX9_look_15 : decode cX9_look 15 = .ok (.aload_n 0, 1) := by decide +kernel
theorem dX9_look_16 : decode cX9_look 16 = .ok (.getfield 143, 3) := by decide +kernel
theorem dX9_look_19 : decode cX9_look 19 = .ok (.if_icmp .ge 589, 3) := by decide +kernel
theorem dX9_look_22 : decode cX9_look 22 = .ok (.aload_n 0, 1) := by decide +kernel
theorem dX9_look_23 : decode cX9_look 23 = .ok (.getfield 13, 3) := by decide +kernel
theorem dX9_look_26 : decode cX9_look 26 = .ok (.iload 4, 2) := by decide +kernel
theorem dX9_look_28 : decode cX9_look 28 = .ok (.iaload, 1) := by decide +kernel
theorem dX9_look_29 : decode cX9_look 29 = .ok (.istore 5, 2) := by decide +kernel
theorem dX9_look_31 : decode cX9_look 31 = .ok (.aload_n 0, 1) := by decide +kernel
theorem dX9_look_32 : decode cX9_look 32 = .ok (.getfield 17, 3) := by decide +kernel
theorem dX9_look_35 : decode cX9_look 35 = .ok (.iload 4, 2) := by decide +kernel
theorem dX9_look_37 : decode cX9_look 37 = .ok (.iaload, 1) := by decide +kernel
theorem dX9_look_38 : decode cX9_look 38 = .ok (.bipush (-9), 2) := by decide +kernel
theorem dX9_look_40 : decode cX9_look 40 = .ok (.if_icmp .eq 22, 3) := by decide +kernel
theorem dX9_look_43 : decode cX9_look 43 = .ok (.aload_n 0, 1) := by decide +kernel
theorem dX9_look_44 : decode cX9_look 44 = .ok (.getfield 42, 3) := by decide +kernel
theorem dX9_look_47 : decode cX9_look 47 = .ok (.aload_n 0, 1) := by decide +kernel
theorem dX9_look_48 : decode cX9_look 48 = .ok (.getfield 17, 3) := by decide +kernel
theorem dX9_look_51 : decode cX9_look 51 = .ok (.iload 4, 2) := by decide +kernel
theorem dX9_look_53 : decode cX9_look 53 = .ok (.iaload, 1) := by decide +kernel
theorem dX9_look_54 : decode cX9_look 54 = .ok (.baload, 1) := by decide +kernel
theorem dX9_look_55 : decode cX9_look 55 = .ok (.ifCond .eq 7, 3) := by decide +kernel
theorem dX9_look_58 : decode cX9_look 58 = .ok (.iconst 1, 1) := by decide +kernel
theorem dX9_look_59 : decode cX9_look 59 = .ok (.goto 4, 3) := by decide +kernel
theorem dX9_look_62 : decode cX9_look 62 = .ok (.iconst 0, 1) := by decide +kernel
theorem dX9_look_63 : decode cX9_look 63 = .ok (.istore 6, 2) := by decide +kernel
theorem dX9_look_65 : decode cX9_look 65 = .ok (.aload_n 0, 1) := by decide +kernel
theorem dX9_look_66 : decode cX9_look 66 = .ok (.getfield 20, 3) := by decide +kernel
theorem dX9_look_69 : decode cX9_look 69 = .ok (.iload 4, 2) := by decide +kernel
theorem dX9_look_71 : decode cX9_look 71 = .ok (.iaload, 1) := by decide +kernel
theorem dX9_look_72 : decode cX9_look 72 = .ok (.bipush (-9), 2) := by decide +kernel
theorem dX9_look_74 : decode cX9_look 74 = .ok (.if_icmp .eq 22, 3) := by decide +kernel
theorem dX9_look_77 : decode cX9_look 77 = .ok (.aload_n 0, 1) := by decide +kernel
theorem dX9_look_78 : decode cX9_look 78 = .ok (.getfield 42, 3) := by decide +kernel
theorem dX9_look_81 : decode cX9_look 81 = .ok (.aload_n 0, 1) := by decide +kernel
theorem dX9_look_82 : decode cX9_look 82 = .ok (.getfield 20, 3) := by decide +kernel
theorem dX9_look_85 : decode cX9_look 85 = .ok (.iload 4, 2) := by decide +kernel
theorem dX9_look_87 : decode cX9_look 87 = .ok (.iaload, 1) := by decide +kernel
theorem dX9_look_88 : decode cX9_look 88 = .ok (.baload, 1) := by decide +kernel
theorem dX9_look_89 : decode cX9_look 89 = .ok (.ifCond .eq 7, 3) := by decide +kernel
theorem dX9_look_92 : decode cX9_look 92 = .ok (.iconst 1, 1) := by decide +kernel
theorem dX9_look_93 : decode cX9_look 93 = .ok (.goto 4, 3) := by decide +kernel
theorem dX9_look_96 : decode cX9_look 96 = .ok (.iconst 0, 1) := by decide +kernel
theorem dX9_look_97 : decode cX9_look 97 = .ok (.istore 7, 2) := by decide +kernel
theorem dX9_look_99 : decode cX9_look 99 = .ok (.iload_n 3, 1) := by decide +kernel
theorem dX9_look_100 : decode cX9_look 100 = .ok (.aload_n 0, 1) := by decide +kernel
theorem dX9_look_101 : decode cX9_look 101 = .ok (.getfield 39, 3) := by decide +kernel
theorem dX9_look_104 : decode cX9_look 104 = .ok (.iload 4, 2) := by decide +kernel
theorem dX9_look_106 : decode cX9_look 106 = .ok (.iaload, 1) := by decide +kernel
theorem dX9_look_107 : decode cX9_look 107 = .ok (.ishr, 1) := by decide +kernel
theorem dX9_look_108 : decode cX9_look 108 = .ok (.iconst 1, 1) := by decide +kernel
theorem dX9_look_109 : decode cX9_look 109 = .ok (.iand, 1) := by decide +kernel
theorem dX9_look_110 : decode cX9_look 110 = .ok (.iconst 1, 1) := by decide +kernel
theorem dX9_look_111 : decode cX9_look 111 = .ok (.if_icmp .ne 7, 3) := by decide +kernel
theorem dX9_look_114 : decode cX9_look 114 = .ok (.iconst 1, 1) := by decide +kernel
theorem dX9_look_115 : decode cX9_look 115 = .ok (.goto 4, 3) := by decide +kernel
theorem dX9_look_118 : decode cX9_look 118 = .ok (.iconst 0, 1) := by decide +kernel
theorem dX9_look_119 : decode cX9_look 119 = .ok (.istore 8, 2) := by decide +kernel
theorem dX9_look_121 : decode cX9_look 121 = .ok (.iload_n 2, 1) := by decide +kernel
theorem dX9_look_122 : decode cX9_look 122 = .ok (.aload_n 0, 1) := by decide +kernel
theorem dX9_look_123 : decode cX9_look 123 = .ok (.getfield 39, 3) := by decide +kernel
theorem dX9_look_126 : decode cX9_look 126 = .ok (.iload 4, 2) := by decide +kernel
theorem dX9_look_128 : decode cX9_look 128 = .ok (.iaload, 1) := by decide +kernel
theorem dX9_look_129 : decode cX9_look 129 = .ok (.ishr, 1) := by decide +kernel
theorem dX9_look_130 : decode cX9_look 130 = .ok (.iconst 1, 1) := by decide +kernel
theorem dX9_look_131 : decode cX9_look 131 = .ok (.iand, 1) := by decide +kernel
theorem dX9_look_132 : decode cX9_look 132 = .ok (.iconst 1, 1) := by decide +kernel
theorem dX9_look_133 : decode cX9_look 133 = .ok (.if_icmp .ne 7, 3) := by decide +kernel
theorem dX9_look_136 : decode cX9_look 136 = .ok (.iconst 1, 1) := by decide +kernel
theorem dX9_look_137 : decode cX9_look 137 = .ok (.goto 4, 3) := by decide +kernel
theorem dX9_look_140 : decode cX9_look 140 = .ok (.iconst 0, 1) := by decide +kernel
theorem dX9_look_141 : decode cX9_look 141 = .ok (.istore 9, 2) := by decide +kernel
theorem dX9_look_143 : decode cX9_look 143 = .ok (.iload 5, 2) := by decide +kernel
theorem dX9_look_145 : decode cX9_look 145 = .ok (.bipush 46, 2) := by decide +kernel
theorem dX9_look_147 : decode cX9_look 147 = .ok (.if_icmp .eq 12, 3) := by decide +kernel
theorem dX9_look_150 : decode cX9_look 150 = .ok (.iload 5, 2) := by decide +kernel
theorem dX9_look_152 : decode cX9_look 152 = .ok (.bipush 97, 2) := by decide +kernel
theorem dX9_look_154 : decode cX9_look 154 = .ok (.isub, 1) := by decide +kernel
theorem dX9_look_155 : decode cX9_look 155 = .ok (.iload_n 1, 1) := by decide +kernel
theorem dX9_look_156 : decode cX9_look 156 = .ok (.if_icmp .ne 7, 3) := by decide +kernel
theorem dX9_look_159 : decode cX9_look 159 = .ok (.iconst 1, 1) := by decide +kernel
theorem dX9_look_160 : decode cX9_look 160 = .ok (.goto 4, 3) := by decide +kernel
theorem dX9_look_163 : decode cX9_look 163 = .ok (.iconst 0, 1) := by decide +kernel
theorem dX9_look_164 : decode cX9_look 164 = .ok (.istore 10, 2) := by decide +kernel
theorem dX9_look_166 : decode cX9_look 166 = .ok (.iconst 0, 1) := by decide +kernel
theorem dX9_look_167 : decode cX9_look 167 = .ok (.istore 11, 2) := by decide +kernel
theorem dX9_look_169 : decode cX9_look 169 = .ok (.iconst 0, 1) := by decide +kernel
theorem dX9_look_170 : decode cX9_look 170 = .ok (.istore 12, 2) := by decide +kernel
theorem dX9_look_172 : decode cX9_look 172 = .ok (.iload 5, 2) := by decide +kernel
theorem dX9_look_174 : decode cX9_look 174 = .ok (.lookupswitch 365 #[(33, 114), (38, 129), (47, 149), (62, 169), (70, 224), (71, 200), (72, 288), (78, 189), (79, 312), (83, 336), (85, 248), (87, 189), (89, 277)], 114) := by decide +kernel
theorem dX9_look_288 : decode cX9_look 288 = .ok (.iload 6, 2) := by decide +kernel
theorem dX9_look_290 : decode cX9_look 290 = .ok (.ifCond .ne 7, 3) := by decide +kernel
theorem dX9_look_293 : decode cX9_look 293 = .ok (.iconst 1, 1) := by decide +kernel
theorem dX9_look_294 : decode cX9_look 294 = .ok (.goto 4, 3) := by decide +kernel
theorem dX9_look_297 : decode cX9_look 297 = .ok (.iconst 0, 1) := by decide +kernel
theorem dX9_look_298 : decode cX9_look 298 = .ok (.istore 10, 2) := by decide +kernel
theorem dX9_look_300 : decode cX9_look 300 = .ok (.goto 239, 3) := by decide +kernel
theorem dX9_look_303 : decode cX9_look 303 = .ok (.iload 6, 2) := by decide +kernel
theorem dX9_look_305 : decode cX9_look 305 = .ok (.ifCond .eq 12, 3) := by decide +kernel
theorem dX9_look_308 : decode cX9_look 308 = .ok (.iload 7, 2) := by decide +kernel
theorem dX9_look_310 : decode cX9_look 310 = .ok (.ifCond .eq 7, 3) := by decide +kernel
theorem dX9_look_313 : decode cX9_look 313 = .ok (.iconst 1, 1) := by decide +kernel
theorem dX9_look_314 : decode cX9_look 314 = .ok (.goto 4, 3) := by decide +kernel
theorem dX9_look_317 : decode cX9_look 317 = .ok (.iconst 0, 1) := by decide +kernel
theorem dX9_look_318 : decode cX9_look 318 = .ok (.istore 10, 2) := by decide +kernel
theorem dX9_look_320 : decode cX9_look 320 = .ok (.goto 219, 3) := by decide +kernel
theorem dX9_look_323 : decode cX9_look 323 = .ok (.iload 6, 2) := by decide +kernel
theorem dX9_look_325 : decode cX9_look 325 = .ok (.ifCond .ne 8, 3) := by decide +kernel
theorem dX9_look_328 : decode cX9_look 328 = .ok (.iload 7, 2) := by decide +kernel
theorem dX9_look_330 : decode cX9_look 330 = .ok (.ifCond .eq 7, 3) := by decide +kernel
theorem dX9_look_333 : decode cX9_look 333 = .ok (.iconst 1, 1) := by decide +kernel
theorem dX9_look_334 : decode cX9_look 334 = .ok (.goto 4, 3) := by decide +kernel
theorem dX9_look_337 : decode cX9_look 337 = .ok (.iconst 0, 1) := by decide +kernel
theorem dX9_look_338 : decode cX9_look 338 = .ok (.istore 10, 2) := by decide +kernel
theorem dX9_look_340 : decode cX9_look 340 = .ok (.goto 199, 3) := by decide +kernel
theorem dX9_look_343 : decode cX9_look 343 = .ok (.iload 6, 2) := by decide +kernel
theorem dX9_look_345 : decode cX9_look 345 = .ok (.ifCond .eq 8, 3) := by decide +kernel
theorem dX9_look_348 : decode cX9_look 348 = .ok (.iload 7, 2) := by decide +kernel
theorem dX9_look_350 : decode cX9_look 350 = .ok (.ifCond .eq 7, 3) := by decide +kernel
theorem dX9_look_353 : decode cX9_look 353 = .ok (.iconst 1, 1) := by decide +kernel
theorem dX9_look_354 : decode cX9_look 354 = .ok (.goto 4, 3) := by decide +kernel
theorem dX9_look_357 : decode cX9_look 357 = .ok (.iconst 0, 1) := by decide +kernel
theorem dX9_look_358 : decode cX9_look 358 = .ok (.istore 10, 2) := by decide +kernel
theorem dX9_look_360 : decode cX9_look 360 = .ok (.goto 179, 3) := by decide +kernel
theorem dX9_look_363 : decode cX9_look 363 = .ok (.iload 8, 2) := by decide +kernel
theorem dX9_look_365 : decode cX9_look 365 = .ok (.istore 10, 2) := by decide +kernel
theorem dX9_look_367 : decode cX9_look 367 = .ok (.iload 6, 2) := by decide +kernel
theorem dX9_look_369 : decode cX9_look 369 = .ok (.istore 11, 2) := by decide +kernel
theorem dX9_look_371 : decode cX9_look 371 = .ok (.goto 168, 3) := by decide +kernel
theorem dX9_look_374 : decode cX9_look 374 = .ok (.iload 6, 2) := by decide +kernel
theorem dX9_look_376 : decode cX9_look 376 = .ok (.ifCond .eq 12, 3) := by decide +kernel
theorem dX9_look_379 : decode cX9_look 379 = .ok (.iload 8, 2) := by decide +kernel
theorem dX9_look_381 : decode cX9_look 381 = .ok (.ifCond .eq 7, 3) := by decide +kernel
theorem dX9_look_384 : decode cX9_look 384 = .ok (.iconst 1, 1) := by decide +kernel
theorem dX9_look_385 : decode cX9_look 385 = .ok (.goto 4, 3) := by decide +kernel
theorem dX9_look_388 : decode cX9_look 388 = .ok (.iconst 0, 1) := by decide +kernel
theorem dX9_look_389 : decode cX9_look 389 = .ok (.istore 10, 2) := by decide +kernel
theorem dX9_look_391 : decode cX9_look 391 = .ok (.iload 10, 2) := by decide +kernel
theorem dX9_look_393 : decode cX9_look 393 = .ok (.istore 11, 2) := by decide +kernel
theorem dX9_look_395 : decode cX9_look 395 = .ok (.goto 144, 3) := by decide +kernel
theorem dX9_look_398 : decode cX9_look 398 = .ok (.iload 6, 2) := by decide +kernel
theorem dX9_look_400 : decode cX9_look 400 = .ok (.ifCond .ne 8, 3) := by decide +kernel
theorem dX9_look_403 : decode cX9_look 403 = .ok (.iload 8, 2) := by decide +kernel
theorem dX9_look_405 : decode cX9_look 405 = .ok (.ifCond .eq 7, 3) := by decide +kernel
theorem dX9_look_408 : decode cX9_look 408 = .ok (.iconst 1, 1) := by decide +kernel
theorem dX9_look_409 : decode cX9_look 409 = .ok (.goto 4, 3) := by decide +kernel
theorem dX9_look_412 : decode cX9_look 412 = .ok (.iconst 0, 1) := by decide +kernel
theorem dX9_look_413 : decode cX9_look 413 = .ok (.istore 10, 2) := by decide +kernel
theorem dX9_look_415 : decode cX9_look 415 = .ok (.iload 10, 2) := by decide +kernel
theorem dX9_look_417 : decode cX9_look 417 = .ok (.istore 11, 2) := by decide +kernel
theorem dX9_look_419 : decode cX9_look 419 = .ok (.goto 120, 3) := by decide +kernel
theorem dX9_look_422 : decode cX9_look 422 = .ok (.iload 7, 2) := by decide +kernel
theorem dX9_look_424 : decode cX9_look 424 = .ok (.ifCond .ne 13, 3) := by decide +kernel
theorem dX9_look_427 : decode cX9_look 427 = .ok (.iload 6, 2) := by decide +kernel
theorem dX9_look_429 : decode cX9_look 429 = .ok (.ifCond .eq 12, 3) := by decide +kernel
theorem dX9_look_432 : decode cX9_look 432 = .ok (.iload 8, 2) := by decide +kernel
theorem dX9_look_434 : decode cX9_look 434 = .ok (.ifCond .eq 7, 3) := by decide +kernel
theorem dX9_look_437 : decode cX9_look 437 = .ok (.iconst 1, 1) := by decide +kernel
theorem dX9_look_438 : decode cX9_look 438 = .ok (.goto 4, 3) := by decide +kernel
theorem dX9_look_441 : decode cX9_look 441 = .ok (.iconst 0, 1) := by decide +kernel
theorem dX9_look_442 : decode cX9_look 442 = .ok (.istore 10, 2) := by decide +kernel
theorem dX9_look_444 : decode cX9_look 444 = .ok (.iload 10, 2) := by decide +kernel
theorem dX9_look_446 : decode cX9_look 446 = .ok (.istore 11, 2) := by decide +kernel
theorem dX9_look_448 : decode cX9_look 448 = .ok (.goto 91, 3) := by decide +kernel
theorem dX9_look_451 : decode cX9_look 451 = .ok (.iload 9, 2) := by decide +kernel
theorem dX9_look_453 : decode cX9_look 453 = .ok (.istore 10, 2) := by decide +kernel
theorem dX9_look_455 : decode cX9_look 455 = .ok (.iload 6, 2) := by decide +kernel
theorem dX9_look_457 : decode cX9_look 457 = .ok (.istore 12, 2) := by decide +kernel
theorem dX9_look_459 : decode cX9_look 459 = .ok (.goto 80, 3) := by decide +kernel
theorem dX9_look_462 : decode cX9_look 462 = .ok (.iload 6, 2) := by decide +kernel
theorem dX9_look_464 : decode cX9_look 464 = .ok (.ifCond .eq 12, 3) := by decide +kernel
theorem dX9_look_467 : decode cX9_look 467 = .ok (.iload 9, 2) := by decide +kernel
theorem dX9_look_469 : decode cX9_look 469 = .ok (.ifCond .eq 7, 3) := by decide +kernel
theorem dX9_look_472 : decode cX9_look 472 = .ok (.iconst 1, 1) := by decide +kernel
theorem dX9_look_473 : decode cX9_look 473 = .ok (.goto 4, 3) := by decide +kernel
theorem dX9_look_476 : decode cX9_look 476 = .ok (.iconst 0, 1) := by decide +kernel
theorem dX9_look_477 : decode cX9_look 477 = .ok (.istore 10, 2) := by decide +kernel
theorem dX9_look_479 : decode cX9_look 479 = .ok (.iload 10, 2) := by decide +kernel
theorem dX9_look_481 : decode cX9_look 481 = .ok (.istore 12, 2) := by decide +kernel
theorem dX9_look_483 : decode cX9_look 483 = .ok (.goto 56, 3) := by decide +kernel
theorem dX9_look_486 : decode cX9_look 486 = .ok (.iload 6, 2) := by decide +kernel
theorem dX9_look_488 : decode cX9_look 488 = .ok (.ifCond .ne 8, 3) := by decide +kernel
theorem dX9_look_491 : decode cX9_look 491 = .ok (.iload 9, 2) := by decide +kernel
theorem dX9_look_493 : decode cX9_look 493 = .ok (.ifCond .eq 7, 3) := by decide +kernel
theorem dX9_look_496 : decode cX9_look 496 = .ok (.iconst 1, 1) := by decide +kernel
theorem dX9_look_497 : decode cX9_look 497 = .ok (.goto 4, 3) := by decide +kernel
theorem dX9_look_500 : decode cX9_look 500 = .ok (.iconst 0, 1) := by decide +kernel
theorem dX9_look_501 : decode cX9_look 501 = .ok (.istore 10, 2) := by decide +kernel
theorem dX9_look_503 : decode cX9_look 503 = .ok (.iload 10, 2) := by decide +kernel
theorem dX9_look_505 : decode cX9_look 505 = .ok (.istore 12, 2) := by decide +kernel
theorem dX9_look_507 : decode cX9_look 507 = .ok (.goto 32, 3) := by decide +kernel
theorem dX9_look_510 : decode cX9_look 510 = .ok (.iload 7, 2) := by decide +kernel
theorem dX9_look_512 : decode cX9_look 512 = .ok (.ifCond .ne 13, 3) := by decide +kernel
theorem dX9_look_515 : decode cX9_look 515 = .ok (.iload 6, 2) := by decide +kernel
theorem dX9_look_517 : decode cX9_look 517 = .ok (.ifCond .eq 12, 3) := by decide +kernel
theorem dX9_look_520 : decode cX9_look 520 = .ok (.iload 9, 2) := by decide +kernel
theorem dX9_look_522 : decode cX9_look 522 = .ok (.ifCond .eq 7, 3) := by decide +kernel
theorem dX9_look_525 : decode cX9_look 525 = .ok (.iconst 1, 1) := by decide +kernel
theorem dX9_look_526 : decode cX9_look 526 = .ok (.goto 4, 3) := by decide +kernel
theorem dX9_look_529 : decode cX9_look 529 = .ok (.iconst 0, 1) := by decide +kernel
theorem dX9_look_530 : decode cX9_look 530 = .ok (.istore 10, 2) := by decide +kernel
theorem dX9_look_532 : decode cX9_look 532 = .ok (.iload 10, 2) := by decide +kernel
theorem dX9_look_534 : decode cX9_look 534 = .ok (.istore 12, 2) := by decide +kernel
theorem dX9_look_536 : decode cX9_look 536 = .ok (.goto 3, 3) := by decide +kernel
theorem dX9_look_539 : decode cX9_look 539 = .ok (.aload_n 0, 1) := by decide +kernel
theorem dX9_look_540 : decode cX9_look 540 = .ok (.getfield 42, 3) := by decide +kernel
theorem dX9_look_543 : decode cX9_look 543 = .ok (.iload 4, 2) := by decide +kernel
theorem dX9_look_545 : decode cX9_look 545 = .ok (.iload 10, 2) := by decide +kernel
theorem dX9_look_547 : decode cX9_look 547 = .ok (.bastore, 1) := by decide +kernel
theorem dX9_look_548 : decode cX9_look 548 = .ok (.aload_n 0, 1) := by decide +kernel
theorem dX9_look_549 : decode cX9_look 549 = .ok (.dup, 1) := by decide +kernel
theorem dX9_look_550 : decode cX9_look 550 = .ok (.getfield 200, 3) := by decide +kernel
theorem dX9_look_553 : decode cX9_look 553 = .ok (.iload 11, 2) := by decide +kernel
theorem dX9_look_555 : decode cX9_look 555 = .ok (.ifCond .eq 15, 3) := by decide +kernel
theorem dX9_look_558 : decode cX9_look 558 = .ok (.iconst 1, 1) := by decide +kernel
theorem dX9_look_559 : decode cX9_look 559 = .ok (.aload_n 0, 1) := by decide +kernel
theorem dX9_look_560 : decode cX9_look 560 = .ok (.getfield 39, 3) := by decide +kernel
theorem dX9_look_563 : decode cX9_look 563 = .ok (.iload 4, 2) := by decide +kernel
theorem dX9_look_565 : decode cX9_look 565 = .ok (.iaload, 1) := by decide +kernel
theorem dX9_look_566 : decode cX9_look 566 = .ok (.ishl, 1) := by decide +kernel
theorem dX9_look_567 : decode cX9_look 567 = .ok (.goto 4, 3) := by decide +kernel
theorem dX9_look_570 : decode cX9_look 570 = .ok (.iconst 0, 1) := by decide +kernel
theorem dX9_look_571 : decode cX9_look 571 = .ok (.ior, 1) := by decide +kernel
theorem dX9_look_572 : decode cX9_look 572 = .ok (.putfield 200, 3) := by decide +kernel
theorem dX9_look_575 : decode cX9_look 575 = .ok (.aload_n 0, 1) := by decide +kernel
theorem dX9_look_576 : decode cX9_look 576 = .ok (.dup, 1) := by decide +kernel
theorem dX9_look_577 : decode cX9_look 577 = .ok (.getfield 197, 3) := by decide +kernel
theorem dX9_look_580 : decode cX9_look 580 = .ok (.iload 12, 2) := by decide +kernel
theorem dX9_look_582 : decode cX9_look 582 = .ok (.ifCond .eq 15, 3) := by decide +kernel
theorem dX9_look_585 : decode cX9_look 585 = .ok (.iconst 1, 1) := by decide +kernel
theorem dX9_look_586 : decode cX9_look 586 = .ok (.aload_n 0, 1) := by decide +kernel
theorem dX9_look_587 : decode cX9_look 587 = .ok (.getfield 39, 3) := by decide +kernel
theorem dX9_look_590 : decode cX9_look 590 = .ok (.iload 4, 2) := by decide +kernel
theorem dX9_look_592 : decode cX9_look 592 = .ok (.iaload, 1) := by decide +kernel
theorem dX9_look_593 : decode cX9_look 593 = .ok (.ishl, 1) := by decide +kernel
theorem dX9_look_594 : decode cX9_look 594 = .ok (.goto 4, 3) := by decide +kernel
theorem dX9_look_597 : decode cX9_look 597 = .ok (.iconst 0, 1) := by decide +kernel
theorem dX9_look_598 : decode cX9_look 598 = .ok (.ior, 1) := by decide +kernel
theorem dX9_look_599 : decode cX9_look 599 = .ok (.putfield 197, 3) := by decide +kernel
theorem dX9_look_602 : decode cX9_look 602 = .ok (.iinc 4 1, 3) := by decide +kernel
theorem dX9_look_605 : decode cX9_look 605 = .ok (.goto (-592), 3) := by decide +kernel
theorem dX9_look_608 : decode cX9_look 608 = .ok (.return_, 1) := by decide +kernel
theorem dX9_wide_0 : decode cX9_wide 0 = .ok (.iconst 1, 1) := by decide +kernel
theorem dX9_wide_1 : decode cX9_wide 1 = .ok (.aload_n 0, 1) := by decide +kernel
theorem dX9_wide_2 : decode cX9_wide 2 = .ok (.getfield 185, 3) := by decide +kernel
theorem dX9_wide_5 : decode cX9_wide 5 = .ok (.ishl, 1) := by decide +kernel
theorem dX9_wide_6 : decode cX9_wide 6 = .ok (.ireturn, 1) := by decide +kernel
theorem dX9_spot_0 : decode cX9_spot 0 = .ok (.iconst 4, 1) := by decide +kernel
theorem dX9_spot_1 : decode cX9_spot 1 = .ok (.iload_n 1, 1) := by decide +kernel
theorem dX9_spot_2 : decode cX9_spot 2 = .ok (.imul, 1) := by decide +kernel
theorem dX9_spot_3 : decode cX9_spot 3 = .ok (.iload_n 2, 1) := by decide +kernel
theorem dX9_spot_4 : decode cX9_spot 4 = .ok (.iadd, 1) := by decide +kernel
theorem dX9_spot_5 : decode cX9_spot 5 = .ok (.aload_n 0, 1) := by decide +kernel
theorem dX9_spot_6 : decode cX9_spot 6 = .ok (.invokevirtual 203, 3) := by decide +kernel
theorem dX9_spot_9 : decode cX9_spot 9 = .ok (.imul, 1) := by decide +kernel
theorem dX9_spot_10 : decode cX9_spot 10 = .ok (.iload_n 3, 1) := by decide +kernel
theorem dX9_spot_11 : decode cX9_spot 11 = .ok (.iadd, 1) := by decide +kernel
theorem dX9_spot_12 : decode cX9_spot 12 = .ok (.ireturn, 1) := by decide +kernel
theorem dX9_prepare_0 : decode cX9_prepare 0 = .ok (.aload_n 0, 1) := by decide +kernel
theorem dX9_prepare_1 : decode cX9_prepare 1 = .ok (.invokevirtual 207, 3) := by decide +kernel
theorem dX9_prepare_4 : decode cX9_prepare 4 = .ok (.iconst 1, 1) := by decide +kernel
theorem dX9_prepare_5 : decode cX9_prepare 5 = .ok (.aload_n 0, 1) := by decide +kernel
theorem dX9_prepare_6 : decode cX9_prepare 6 = .ok (.getfield 188, 3) := by decide +kernel
theorem dX9_prepare_9 : decode cX9_prepare 9 = .ok (.ishl, 1) := by decide +kernel
theorem dX9_prepare_10 : decode cX9_prepare 10 = .ok (.istore_n 1, 1) := by decide +kernel
theorem dX9_prepare_11 : decode cX9_prepare 11 = .ok (.iconst 0, 1) := by decide +kernel
theorem dX9_prepare_12 : decode cX9_prepare 12 = .ok (.istore_n 2, 1) := by decide +kernel
theorem dX9_prepare_13 : decode cX9_prepare 13 = .ok (.iload_n 2, 1) := by decide +kernel
theorem dX9_prepare_14 : decode cX9_prepare 14 = .ok (.iload_n 1, 1) := by decide +kernel
theorem dX9_prepare_15 : decode cX9_prepare 15 = .ok (.if_icmp .ge 103, 3) := by decide +kernel
theorem dX9_prepare_18 : decode cX9_prepare 18 = .ok (.iconst 0, 1) := by decide +kernel
theorem dX9_prepare_19 : decode cX9_prepare 19 = .ok (.istore_n 3, 1) := by decide +kernel
theorem dX9_prepare_20 : decode cX9_prepare 20 = .ok (.iload_n 3, 1) := by decide +kernel
theorem dX9_prepare_21 : decode cX9_prepare 21 = .ok (.iconst 4, 1) := by decide +kernel
theorem dX9_prepare_22 : decode cX9_prepare 22 = .ok (.if_icmp .ge 90, 3) := by decide +kernel
theorem dX9_prepare_25 : decode cX9_prepare 25 = .ok (.iconst 0, 1) := by decide +kernel
theorem dX9_prepare_26 : decode cX9_prepare 26 = .ok (.istore 4, 2) := by decide +kernel
theorem dX9_prepare_28 : decode cX9_prepare 28 = .ok (.iload 4, 2) := by decide +kernel
theorem dX9_prepare_30 : decode cX9_prepare 30 = .ok (.aload_n 0, 1) := by decide +kernel
theorem dX9_prepare_31 : decode cX9_prepare 31 = .ok (.invokevirtual 203, 3) := by decide +kernel
theorem dX9_prepare_34 : decode cX9_prepare 34 = .ok (.if_icmp .ge 72, 3) := by decide +kernel
theorem dX9_prepare_37 : decode cX9_prepare 37 = .ok (.aload_n 0, 1) := by decide +kernel
theorem dX9_prepare_38 : decode cX9_prepare 38 = .ok (.iload_n 3, 1) := by decide +kernel
theorem dX9_prepare_39 : decode cX9_prepare 39 = .ok (.iload_n 2, 1) := by decide +kernel
theorem dX9_prepare_40 : decode cX9_prepare 40 = .ok (.iload 4, 2) := by decide +kernel
theorem dX9_prepare_42 : decode cX9_prepare 42 = .ok (.invokevirtual 210, 3) := by decide +kernel
theorem dX9_prepare_45 : decode cX9_prepare 45 = .ok (.aload_n 0, 1) := by decide +kernel
theorem dX9_prepare_46 : decode cX9_prepare 46 = .ok (.getfield 48, 3) := by decide +kernel
theorem dX9_prepare_49 : decode cX9_prepare 49 = .ok (.aload_n 0, 1) := by decide +kernel
theorem dX9_prepare_50 : decode cX9_prepare 50 = .ok (.iload_n 2, 1) := by decide +kernel
theorem dX9_prepare_51 : decode cX9_prepare 51 = .ok (.iload_n 3, 1) := by decide +kernel
theorem dX9_prepare_52 : decode cX9_prepare 52 = .ok (.iload 4, 2) := by decide +kernel
theorem dX9_prepare_54 : decode cX9_prepare 54 = .ok (.invokevirtual 214, 3) := by decide +kernel
theorem dX9_prepare_57 : decode cX9_prepare 57 = .ok (.aload_n 0, 1) := by decide +kernel
theorem dX9_prepare_58 : decode cX9_prepare 58 = .ok (.getfield 200, 3) := by decide +kernel
theorem dX9_prepare_61 : decode cX9_prepare 61 = .ok (.iastore, 1) := by decide +kernel
theorem dX9_prepare_62 : decode cX9_prepare 62 = .ok (.aload_n 0, 1) := by decide +kernel
theorem dX9_prepare_63 : decode cX9_prepare 63 = .ok (.getfield 51, 3) := by decide +kernel
theorem dX9_prepare_66 : decode cX9_prepare 66 = .ok (.aload_n 0, 1) := by decide +kernel
theorem dX9_prepare_67 : decode cX9_prepare 67 = .ok (.iload_n 2, 1) := by decide +kernel
theorem dX9_prepare_68 : decode cX9_prepare 68 = .ok (.iload_n 3, 1) := by decide +kernel
theorem dX9_prepare_69 : decode cX9_prepare 69 = .ok (.iload 4, 2) := by decide +kernel
theorem dX9_prepare_71 : decode cX9_prepare 71 = .ok (.invokevirtual 214, 3) := by decide +kernel
theorem dX9_prepare_74 : decode cX9_prepare 74 = .ok (.aload_n 0, 1) := by decide +kernel
theorem dX9_prepare_75 : decode cX9_prepare 75 = .ok (.getfield 42, 3) := by decide +kernel
theorem dX9_prepare_78 : decode cX9_prepare 78 = .ok (.aload_n 0, 1) := by decide +kernel
theorem dX9_prepare_79 : decode cX9_prepare 79 = .ok (.getfield 143, 3) := by decide +kernel
theorem dX9_prepare_82 : decode cX9_prepare 82 = .ok (.iconst 1, 1) := by decide +kernel
theorem dX9_prepare_83 : decode cX9_prepare 83 = .ok (.isub, 1) := by decide +kernel
theorem dX9_prepare_84 : decode cX9_prepare 84 = .ok (.baload, 1) := by decide +kernel
theorem dX9_prepare_85 : decode cX9_prepare 85 = .ok (.bastore, 1) := by decide +kernel
theorem dX9_prepare_86 : decode cX9_prepare 86 = .ok (.aload_n 0, 1) := by decide +kernel
theorem dX9_prepare_87 : decode cX9_prepare 87 = .ok (.getfield 45, 3) := by decide +kernel
theorem dX9_prepare_90 : decode cX9_prepare 90 = .ok (.iconst 4, 1) := by decide +kernel
theorem dX9_prepare_91 : decode cX9_prepare 91 = .ok (.iload_n 2, 1) := by decide +kernel
theorem dX9_prepare_92 : decode cX9_prepare 92 = .ok (.imul, 1) := by decide +kernel
theorem dX9_prepare_93 : decode cX9_prepare 93 = .ok (.iload_n 3, 1) := by decide +kernel
theorem dX9_prepare_94 : decode cX9_prepare 94 = .ok (.iadd, 1) := by decide +kernel
theorem dX9_prepare_95 : decode cX9_prepare 95 = .ok (.aload_n 0, 1) := by decide +kernel
theorem dX9_prepare_96 : decode cX9_prepare 96 = .ok (.getfield 197, 3) := by decide +kernel
theorem dX9_prepare_99 : decode cX9_prepare 99 = .ok (.iastore, 1) := by decide +kernel
theorem dX9_prepare_100 : decode cX9_prepare 100 = .ok (.iinc 4 1, 3) := by decide +kernel
theorem dX9_prepare_103 : decode cX9_prepare 103 = .ok (.goto (-75), 3) := by decide +kernel
theorem dX9_prepare_106 : decode cX9_prepare 106 = .ok (.iinc 3 1, 3) := by decide +kernel
theorem dX9_prepare_109 : decode cX9_prepare 109 = .ok (.goto (-89), 3) := by decide +kernel
theorem dX9_prepare_112 : decode cX9_prepare 112 = .ok (.iinc 2 1, 3) := by decide +kernel
theorem dX9_prepare_115 : decode cX9_prepare 115 = .ok (.goto (-102), 3) := by decide +kernel
theorem dX9_prepare_118 : decode cX9_prepare 118 = .ok (.iconst 0, 1) := by decide +kernel
theorem dX9_prepare_119 : decode cX9_prepare 119 = .ok (.istore_n 2, 1) := by decide +kernel
theorem dX9_prepare_120 : decode cX9_prepare 120 = .ok (.iload_n 2, 1) := by decide +kernel
theorem dX9_prepare_121 : decode cX9_prepare 121 = .ok (.iload_n 1, 1) := by decide +kernel
theorem dX9_prepare_122 : decode cX9_prepare 122 = .ok (.if_icmp .ge 51, 3) := by decide +kernel
theorem dX9_prepare_125 : decode cX9_prepare 125 = .ok (.iconst 0, 1) := by decide +kernel
theorem dX9_prepare_126 : decode cX9_prepare 126 = .ok (.istore_n 3, 1) := by decide +kernel
theorem dX9_prepare_127 : decode cX9_prepare 127 = .ok (.iload_n 3, 1) := by decide +kernel
theorem dX9_prepare_128 : decode cX9_prepare 128 = .ok (.aload_n 0, 1) := by decide +kernel
theorem dX9_prepare_129 : decode cX9_prepare 129 = .ok (.invokevirtual 203, 3) := by decide +kernel
theorem dX9_prepare_132 : decode cX9_prepare 132 = .ok (.if_icmp .ge 35, 3) := by decide +kernel
theorem dX9_prepare_135 : decode cX9_prepare 135 = .ok (.aload_n 0, 1) := by decide +kernel
theorem dX9_prepare_136 : decode cX9_prepare 136 = .ok (.getfield 54, 3) := by decide +kernel
theorem dX9_prepare_139 : decode cX9_prepare 139 = .ok (.iload_n 2, 1) := by decide +kernel
theorem dX9_prepare_140 : decode cX9_prepare 140 = .ok (.aload_n 0, 1) := by decide +kernel
theorem dX9_prepare_141 : decode cX9_prepare 141 = .ok (.invokevirtual 203, 3) := by decide +kernel
theorem dX9_prepare_144 : decode cX9_prepare 144 = .ok (.imul, 1) := by decide +kernel
theorem dX9_prepare_145 : decode cX9_prepare 145 = .ok (.iload_n 3, 1) := by decide +kernel
theorem dX9_prepare_146 : decode cX9_prepare 146 = .ok (.iadd, 1) := by decide +kernel
theorem dX9_prepare_147 : decode cX9_prepare 147 = .ok (.iload_n 3, 1) := by decide +kernel
theorem dX9_prepare_148 : decode cX9_prepare 148 = .ok (.aload_n 0, 1) := by decide +kernel
theorem dX9_prepare_149 : decode cX9_prepare 149 = .ok (.getfield 191, 3) := by decide +kernel
theorem dX9_prepare_152 : decode cX9_prepare 152 = .ok (.if_icmp .ne 7, 3) := by decide +kernel
theorem dX9_prepare_155 : decode cX9_prepare 155 = .ok (.iconst 1, 1) := by decide +kernel
theorem dX9_prepare_156 : decode cX9_prepare 156 = .ok (.goto 4, 3) := by decide +kernel
theorem dX9_prepare_159 : decode cX9_prepare 159 = .ok (.iconst 0, 1) := by decide +kernel
theorem dX9_prepare_160 : decode cX9_prepare 160 = .ok (.bastore, 1) := by decide +kernel
theorem dX9_prepare_161 : decode cX9_prepare 161 = .ok (.iinc 3 1, 3) := by decide +kernel
theorem dX9_prepare_164 : decode cX9_prepare 164 = .ok (.goto (-37), 3) := by decide +kernel
theorem dX9_prepare_167 : decode cX9_prepare 167 = .ok (.iinc 2 1, 3) := by decide +kernel
theorem dX9_prepare_170 : decode cX9_prepare 170 = .ok (.goto (-50), 3) := by decide +kernel
theorem dX9_prepare_173 : decode cX9_prepare 173 = .ok (.iconst 1, 1) := by decide +kernel
theorem dX9_prepare_174 : decode cX9_prepare 174 = .ok (.istore_n 2, 1) := by decide +kernel
theorem dX9_prepare_175 : decode cX9_prepare 175 = .ok (.iload_n 2, 1) := by decide +kernel
theorem dX9_prepare_176 : decode cX9_prepare 176 = .ok (.ifCond .eq 108, 3) := by decide +kernel
theorem dX9_prepare_179 : decode cX9_prepare 179 = .ok (.iconst 0, 1) := by decide +kernel
theorem dX9_prepare_180 : decode cX9_prepare 180 = .ok (.istore_n 2, 1) := by decide +kernel
theorem dX9_prepare_181 : decode cX9_prepare 181 = .ok (.iconst 0, 1) := by decide +kernel
theorem dX9_prepare_182 : decode cX9_prepare 182 = .ok (.istore_n 3, 1) := by decide +kernel
theorem dX9_prepare_183 : decode cX9_prepare 183 = .ok (.iload_n 3, 1) := by decide +kernel
theorem dX9_prepare_184 : decode cX9_prepare 184 = .ok (.iconst 4, 1) := by decide +kernel
theorem dX9_prepare_185 : decode cX9_prepare 185 = .ok (.iload_n 1, 1) := by decide +kernel
theorem dX9_prepare_186 : decode cX9_prepare 186 = .ok (.imul, 1) := by decide +kernel
theorem dX9_prepare_187 : decode cX9_prepare 187 = .ok (.if_icmp .ge 94, 3) := by decide +kernel
theorem dX9_prepare_190 : decode cX9_prepare 190 = .ok (.iconst 0, 1) := by decide +kernel
theorem dX9_prepare_191 : decode cX9_prepare 191 = .ok (.istore 4, 2) := by decide +kernel
theorem dX9_prepare_193 : decode cX9_prepare 193 = .ok (.iload 4, 2) := by decide +kernel
theorem dX9_prepare_195 : decode cX9_prepare 195 = .ok (.aload_n 0, 1) := by decide +kernel
theorem dX9_prepare_196 : decode cX9_prepare 196 = .ok (.invokevirtual 203, 3) := by decide +kernel
theorem dX9_prepare_199 : decode cX9_prepare 199 = .ok (.if_icmp .ge 76, 3) := by decide +kernel
theorem dX9_prepare_202 : decode cX9_prepare 202 = .ok (.iload_n 3, 1) := by decide +kernel
theorem dX9_prepare_203 : decode cX9_prepare 203 = .ok (.iconst 4, 1) := by decide +kernel
theorem dX9_prepare_204 : decode cX9_prepare 204 = .ok (.idiv, 1) := by decide +kernel
theorem dX9_prepare_205 : decode cX9_prepare 205 = .ok (.aload_n 0, 1) := by decide +kernel
theorem dX9_prepare_206 : decode cX9_prepare 206 = .ok (.invokevirtual 203, 3) := by decide +kernel
theorem dX9_prepare_209 : decode cX9_prepare 209 = .ok (.imul, 1) := by decide +kernel
theorem dX9_prepare_210 : decode cX9_prepare 210 = .ok (.aload_n 0, 1) := by decide +kernel
theorem dX9_prepare_211 : decode cX9_prepare 211 = .ok (.getfield 48, 3) := by decide +kernel
theorem dX9_prepare_214 : decode cX9_prepare 214 = .ok (.iload_n 3, 1) := by decide +kernel
theorem dX9_prepare_215 : decode cX9_prepare 215 = .ok (.aload_n 0, 1) := by decide +kernel
theorem dX9_prepare_216 : decode cX9_prepare 216 = .ok (.invokevirtual 203, 3) := by decide +kernel
theorem dX9_prepare_219 : decode cX9_prepare 219 = .ok (.imul, 1) := by decide +kernel
theorem dX9_prepare_220 : decode cX9_prepare 220 = .ok (.iload 4, 2) := by decide +kernel
theorem dX9_prepare_222 : decode cX9_prepare 222 = .ok (.iadd, 1) := by decide +kernel
theorem dX9_prepare_223 : decode cX9_prepare 223 = .ok (.iaload, 1) := by decide +kernel
theorem dX9_prepare_224 : decode cX9_prepare 224 = .ok (.iadd, 1) := by decide +kernel
theorem dX9_prepare_225 : decode cX9_prepare 225 = .ok (.istore 5, 2) := by decide +kernel
theorem dX9_prepare_227 : decode cX9_prepare 227 = .ok (.aload_n 0, 1) := by decide +kernel
theorem dX9_prepare_228 : decode cX9_prepare 228 = .ok (.getfield 54, 3) := by decide +kernel
theorem dX9_prepare_231 : decode cX9_prepare 231 = .ok (.aload_n 0, 1) := by decide +kernel
theorem dX9_prepare_232 : decode cX9_prepare 232 = .ok (.getfield 45, 3) := by decide +kernel
theorem dX9_prepare_235 : decode cX9_prepare 235 = .ok (.iload_n 3, 1) := by decide +kernel
theorem dX9_prepare_236 : decode cX9_prepare 236 = .ok (.iaload, 1) := by decide +kernel
theorem dX9_prepare_237 : decode cX9_prepare 237 = .ok (.aload_n 0, 1) := by decide +kernel
theorem dX9_prepare_238 : decode cX9_prepare 238 = .ok (.invokevirtual 203, 3) := by decide +kernel
theorem dX9_prepare_241 : decode cX9_prepare 241 = .ok (.imul, 1) := by decide +kernel
theorem dX9_prepare_242 : decode cX9_prepare 242 = .ok (.iload 4, 2) := by decide +kernel
theorem dX9_prepare_244 : decode cX9_prepare 244 = .ok (.iadd, 1) := by decide +kernel
theorem dX9_prepare_245 : decode cX9_prepare 245 = .ok (.baload, 1) := by decide +kernel
theorem dX9_prepare_246 : decode cX9_prepare 246 = .ok (.ifCond .eq 23, 3) := by decide +kernel
theorem dX9_prepare_249 : decode cX9_prepare 249 = .ok (.aload_n 0, 1) := by decide +kernel
theorem dX9_prepare_250 : decode cX9_prepare 250 = .ok (.getfield 54, 3) := by decide +kernel
theorem dX9_prepare_253 : decode cX9_prepare 253 = .ok (.iload 5, 2) := by decide +kernel
theorem dX9_prepare_255 : decode cX9_prepare 255 = .ok (.baload, 1) := by decide +kernel
theorem dX9_prepare_256 : decode cX9_prepare 256 = .ok (.ifCond .ne 13, 3) := by decide +kernel
theorem dX9_prepare_259 : decode cX9_prepare 259 = .ok (.aload_n 0, 1) := by decide +kernel
theorem dX9_prepare_260 : decode cX9_prepare 260 = .ok (.getfield 54, 3) := by decide +kernel
theorem dX9_prepare_263 : decode cX9_prepare 263 = .ok (.iload 5, 2) := by decide +kernel
theorem dX9_prepare_265 : decode cX9_prepare 265 = .ok (.iconst 1, 1) := by decide +kernel
theorem dX9_prepare_266 : decode cX9_prepare 266 = .ok (.bastore, 1) := by decide +kernel
theorem dX9_prepare_267 : decode cX9_prepare 267 = .ok (.iconst 1, 1) := by decide +kernel
theorem dX9_prepare_268 : decode cX9_prepare 268 = .ok (.istore_n 2, 1) := by decide +kernel
theorem dX9_prepare_269 : decode cX9_prepare 269 = .ok (.iinc 4 1, 3) := by decide +kernel
theorem dX9_prepare_272 : decode cX9_prepare 272 = .ok (.goto (-79), 3) := by decide +kernel
theorem dX9_prepare_275 : decode cX9_prepare 275 = .ok (.iinc 3 1, 3) := by decide +kernel
theorem dX9_prepare_278 : decode cX9_prepare 278 = .ok (.goto (-95), 3) := by decide +kernel
theorem dX9_prepare_281 : decode cX9_prepare 281 = .ok (.goto (-106), 3) := by decide +kernel
theorem dX9_prepare_284 : decode cX9_prepare 284 = .ok (.return_, 1) := by decide +kernel
theorem dX9_state_0 : decode cX9_state 0 = .ok (.iconst 0, 1) := by decide +kernel
theorem dX9_state_1 : decode cX9_state 1 = .ok (.istore_n 2, 1) := by decide +kernel
theorem dX9_state_2 : decode cX9_state 2 = .ok (.iload_n 2, 1) := by decide +kernel
theorem dX9_state_3 : decode cX9_state 3 = .ok (.aload_n 0, 1) := by decide +kernel
theorem dX9_state_4 : decode cX9_state 4 = .ok (.getfield 67, 3) := by decide +kernel
theorem dX9_state_7 : decode cX9_state 7 = .ok (.iload_n 1, 1) := by decide +kernel
theorem dX9_state_8 : decode cX9_state 8 = .ok (.iaload, 1) := by decide +kernel
theorem dX9_state_9 : decode cX9_state 9 = .ok (.if_icmp .ge 85, 3) := by decide +kernel
theorem dX9_state_12 : decode cX9_state 12 = .ok (.aload_n 0, 1) := by decide +kernel
theorem dX9_state_13 : decode cX9_state 13 = .ok (.getfield 70, 3) := by decide +kernel
theorem dX9_state_16 : decode cX9_state 16 = .ok (.bipush 61, 2) := by decide +kernel
theorem dX9_state_18 : decode cX9_state 18 = .ok (.iload_n 1, 1) := by decide +kernel
theorem dX9_state_19 : decode cX9_state 19 = .ok (.imul, 1) := by decide +kernel
theorem dX9_state_20 : decode cX9_state 20 = .ok (.iload_n 2, 1) := by decide +kernel
theorem dX9_state_21 : decode cX9_state 21 = .ok (.iadd, 1) := by decide +kernel
theorem dX9_state_22 : decode cX9_state 22 = .ok (.iaload, 1) := by decide +kernel
theorem dX9_state_23 : decode cX9_state 23 = .ok (.istore_n 3, 1) := by decide +kernel
theorem dX9_state_24 : decode cX9_state 24 = .ok (.iconst 1, 1) := by decide +kernel
theorem dX9_state_25 : decode cX9_state 25 = .ok (.istore 4, 2) := by decide +kernel
theorem dX9_state_27 : decode cX9_state 27 = .ok (.iconst 0, 1) := by decide +kernel
theorem dX9_state_28 : decode cX9_state 28 = .ok (.istore 5, 2) := by decide +kernel
theorem dX9_state_30 : decode cX9_state 30 = .ok (.iload 5, 2) := by decide +kernel
theorem dX9_state_32 : decode cX9_state 32 = .ok (.aload_n 0, 1) := by decide +kernel
theorem dX9_state_33 : decode cX9_state 33 = .ok (.invokevirtual 203, 3) := by decide +kernel
theorem dX9_state_36 : decode cX9_state 36 = .ok (.if_icmp .ge 45, 3) := by decide +kernel
theorem dX9_state_39 : decode cX9_state 39 = .ok (.iload 4, 2) := by decide +kernel
theorem dX9_state_41 : decode cX9_state 41 = .ok (.ifCond .eq 40, 3) := by decide +kernel
theorem dX9_state_44 : decode cX9_state 44 = .ok (.aload_n 0, 1) := by decide +kernel
theorem dX9_state_45 : decode cX9_state 45 = .ok (.getfield 61, 3) := by decide +kernel
theorem dX9_state_48 : decode cX9_state 48 = .ok (.iload_n 3, 1) := by decide +kernel
theorem dX9_state_49 : decode cX9_state 49 = .ok (.aload_n 0, 1) := by decide +kernel
theorem dX9_state_50 : decode cX9_state 50 = .ok (.invokevirtual 203, 3) := by decide +kernel
theorem dX9_state_53 : decode cX9_state 53 = .ok (.imul, 1) := by decide +kernel
theorem dX9_state_54 : decode cX9_state 54 = .ok (.iload 5, 2) := by decide +kernel
theorem dX9_state_56 : decode cX9_state 56 = .ok (.iadd, 1) := by decide +kernel
theorem dX9_state_57 : decode cX9_state 57 = .ok (.baload, 1) := by decide +kernel
theorem dX9_state_58 : decode cX9_state 58 = .ok (.aload_n 0, 1) := by decide +kernel
theorem dX9_state_59 : decode cX9_state 59 = .ok (.getfield 73, 3) := by decide +kernel
theorem dX9_state_62 : decode cX9_state 62 = .ok (.iload 5, 2) := by decide +kernel
theorem dX9_state_64 : decode cX9_state 64 = .ok (.baload, 1) := by decide +kernel
theorem dX9_state_65 : decode cX9_state 65 = .ok (.if_icmp .ne 7, 3) := by decide +kernel
theorem dX9_state_68 : decode cX9_state 68 = .ok (.iconst 1, 1) := by decide +kernel
theorem dX9_state_69 : decode cX9_state 69 = .ok (.goto 4, 3) := by decide +kernel
theorem dX9_state_72 : decode cX9_state 72 = .ok (.iconst 0, 1) := by decide +kernel
theorem dX9_state_73 : decode cX9_state 73 = .ok (.istore 4, 2) := by decide +kernel
theorem dX9_state_75 : decode cX9_state 75 = .ok (.iinc 5 1, 3) := by decide +kernel
theorem dX9_state_78 : decode cX9_state 78 = .ok (.goto (-48), 3) := by decide +kernel
theorem dX9_state_81 : decode cX9_state 81 = .ok (.iload 4, 2) := by decide +kernel
theorem dX9_state_83 : decode cX9_state 83 = .ok (.ifCond .eq 5, 3) := by decide +kernel
theorem dX9_state_86 : decode cX9_state 86 = .ok (.iload_n 3, 1) := by decide +kernel
theorem dX9_state_87 : decode cX9_state 87 = .ok (.ireturn, 1) := by decide +kernel
theorem dX9_state_88 : decode cX9_state 88 = .ok (.iinc 2 1, 3) := by decide +kernel
theorem dX9_state_91 : decode cX9_state 91 = .ok (.goto (-89), 3) := by decide +kernel
theorem dX9_state_94 : decode cX9_state 94 = .ok (.aload_n 0, 1) := by decide +kernel
theorem dX9_state_95 : decode cX9_state 95 = .ok (.getfield 67, 3) := by decide +kernel
theorem dX9_state_98 : decode cX9_state 98 = .ok (.iload_n 1, 1) := by decide +kernel
theorem dX9_state_99 : decode cX9_state 99 = .ok (.iaload, 1) := by decide +kernel
theorem dX9_state_100 : decode cX9_state 100 = .ok (.bipush 60, 2) := by decide +kernel
theorem dX9_state_102 : decode cX9_state 102 = .ok (.if_icmp .ne 6, 3) := by decide +kernel
theorem dX9_state_105 : decode cX9_state 105 = .ok (.bipush (-9), 2) := by decide +kernel
theorem dX9_state_107 : decode cX9_state 107 = .ok (.ireturn, 1) := by decide +kernel
theorem dX9_state_108 : decode cX9_state 108 = .ok (.aload_n 0, 1) := by decide +kernel
theorem dX9_state_109 : decode cX9_state 109 = .ok (.getfield 218, 3) := by decide +kernel
theorem dX9_state_112 : decode cX9_state 112 = .ok (.istore_n 2, 1) := by decide +kernel
theorem dX9_state_113 : decode cX9_state 113 = .ok (.aload_n 0, 1) := by decide +kernel
theorem dX9_state_114 : decode cX9_state 114 = .ok (.dup, 1) := by decide +kernel
theorem dX9_state_115 : decode cX9_state 115 = .ok (.getfield 218, 3) := by decide +kernel
theorem dX9_state_118 : decode cX9_state 118 = .ok (.iconst 1, 1) := by decide +kernel
theorem dX9_state_119 : decode cX9_state 119 = .ok (.iadd, 1) := by decide +kernel
theorem dX9_state_120 : decode cX9_state 120 = .ok (.putfield 218, 3) := by decide +kernel
theorem dX9_state_123 : decode cX9_state 123 = .ok (.aload_n 0, 1) := by decide +kernel
theorem dX9_state_124 : decode cX9_state 124 = .ok (.getfield 70, 3) := by decide +kernel
theorem dX9_state_127 : decode cX9_state 127 = .ok (.bipush 61, 2) := by decide +kernel
theorem dX9_state_129 : decode cX9_state 129 = .ok (.iload_n 1, 1) := by decide +kernel
theorem dX9_state_130 : decode cX9_state 130 = .ok (.imul, 1) := by decide +kernel
theorem dX9_state_131 : decode cX9_state 131 = .ok (.aload_n 0, 1) := by decide +kernel
theorem dX9_state_132 : decode cX9_state 132 = .ok (.getfield 67, 3) := by decide +kernel
theorem dX9_state_135 : decode cX9_state 135 = .ok (.iload_n 1, 1) := by decide +kernel
theorem dX9_state_136 : decode cX9_state 136 = .ok (.iaload, 1) := by decide +kernel
theorem dX9_state_137 : decode cX9_state 137 = .ok (.iadd, 1) := by decide +kernel
theorem dX9_state_138 : decode cX9_state 138 = .ok (.iload_n 2, 1) := by decide +kernel
theorem dX9_state_139 : decode cX9_state 139 = .ok (.iastore, 1) := by decide +kernel
theorem dX9_state_140 : decode cX9_state 140 = .ok (.aload_n 0, 1) := by decide +kernel
theorem dX9_state_141 : decode cX9_state 141 = .ok (.getfield 67, 3) := by decide +kernel
theorem dX9_state_144 : decode cX9_state 144 = .ok (.iload_n 1, 1) := by decide +kernel
theorem dX9_state_145 : decode cX9_state 145 = .ok (.dup2, 1) := by decide +kernel
theorem dX9_state_146 : decode cX9_state 146 = .ok (.iaload, 1) := by decide +kernel
theorem dX9_state_147 : decode cX9_state 147 = .ok (.iconst 1, 1) := by decide +kernel
theorem dX9_state_148 : decode cX9_state 148 = .ok (.iadd, 1) := by decide +kernel
theorem dX9_state_149 : decode cX9_state 149 = .ok (.iastore, 1) := by decide +kernel
theorem dX9_state_150 : decode cX9_state 150 = .ok (.aload_n 0, 1) := by decide +kernel
theorem dX9_state_151 : decode cX9_state 151 = .ok (.getfield 57, 3) := by decide +kernel
theorem dX9_state_154 : decode cX9_state 154 = .ok (.iload_n 2, 1) := by decide +kernel
theorem dX9_state_155 : decode cX9_state 155 = .ok (.iload_n 1, 1) := by decide +kernel
theorem dX9_state_156 : decode cX9_state 156 = .ok (.iastore, 1) := by decide +kernel
theorem dX9_state_157 : decode cX9_state 157 = .ok (.iconst 0, 1) := by decide +kernel
theorem dX9_state_158 : decode cX9_state 158 = .ok (.istore_n 3, 1) := by decide +kernel
theorem dX9_state_159 : decode cX9_state 159 = .ok (.iload_n 3, 1) := by decide +kernel
theorem dX9_state_160 : decode cX9_state 160 = .ok (.aload_n 0, 1) := by decide +kernel
theorem dX9_state_161 : decode cX9_state 161 = .ok (.invokevirtual 203, 3) := by decide +kernel
theorem dX9_state_164 : decode cX9_state 164 = .ok (.if_icmp .ge 28, 3) := by decide +kernel
theorem dX9_state_167 : decode cX9_state 167 = .ok (.aload_n 0, 1) := by decide +kernel
theorem dX9_state_168 : decode cX9_state 168 = .ok (.getfield 61, 3) := by decide +kernel
theorem dX9_state_171 : decode cX9_state 171 = .ok (.iload_n 2, 1) := by decide +kernel
theorem dX9_state_172 : decode cX9_state 172 = .ok (.aload_n 0, 1) := by decide +kernel
theorem dX9_state_173 : decode cX9_state 173 = .ok (.invokevirtual 203, 3) := by decide +kernel
theorem dX9_state_176 : decode cX9_state 176 = .ok (.imul, 1) := by decide +kernel
theorem dX9_state_177 : decode cX9_state 177 = .ok (.iload_n 3, 1) := by decide +kernel
theorem dX9_state_178 : decode cX9_state 178 = .ok (.iadd, 1) := by decide +kernel
theorem dX9_state_179 : decode cX9_state 179 = .ok (.aload_n 0, 1) := by decide +kernel
theorem dX9_state_180 : decode cX9_state 180 = .ok (.getfield 73, 3) := by decide +kernel
theorem dX9_state_183 : decode cX9_state 183 = .ok (.iload_n 3, 1) := by decide +kernel
theorem dX9_state_184 : decode cX9_state 184 = .ok (.baload, 1) := by decide +kernel
theorem dX9_state_185 : decode cX9_state 185 = .ok (.bastore, 1) := by decide +kernel
theorem dX9_state_186 : decode cX9_state 186 = .ok (.iinc 3 1, 3) := by decide +kernel
theorem dX9_state_189 : decode cX9_state 189 = .ok (.goto (-30), 3) := by decide +kernel
theorem dX9_state_192 : decode cX9_state 192 = .ok (.iload_n 2, 1) := by decide +kernel
theorem dX9_state_193 : decode cX9_state 193 = .ok (.ireturn, 1) := by decide +kernel
theorem dX9_meet_0 : decode cX9_meet 0 = .ok (.iconst 0, 1) := by decide +kernel
theorem dX9_meet_1 : decode cX9_meet 1 = .ok (.istore_n 1, 1) := by decide +kernel
theorem dX9_meet_2 : decode cX9_meet 2 = .ok (.iload_n 1, 1) := by decide +kernel
theorem dX9_meet_3 : decode cX9_meet 3 = .ok (.sipush 256, 3) := by decide +kernel
theorem dX9_meet_6 : decode cX9_meet 6 = .ok (.if_icmp .ge 16, 3) := by decide +kernel
theorem dX9_meet_9 : decode cX9_meet 9 = .ok (.aload_n 0, 1) := by decide +kernel
theorem dX9_meet_10 : decode cX9_meet 10 = .ok (.getfield 67, 3) := by decide +kernel
theorem dX9_meet_13 : decode cX9_meet 13 = .ok (.iload_n 1, 1) := by decide +kernel
theorem dX9_meet_14 : decode cX9_meet 14 = .ok (.iconst 0, 1) := by decide +kernel
theorem dX9_meet_15 : decode cX9_meet 15 = .ok (.iastore, 1) := by decide +kernel
theorem dX9_meet_16 : decode cX9_meet 16 = .ok (.iinc 1 1, 3) := by decide +kernel
theorem dX9_meet_19 : decode cX9_meet 19 = .ok (.goto (-17), 3) := by decide +kernel
theorem dX9_meet_22 : decode cX9_meet 22 = .ok (.aload_n 0, 1) := by decide +kernel
theorem dX9_meet_23 : decode cX9_meet 23 = .ok (.iconst 1, 1) := by decide +kernel
theorem dX9_meet_24 : decode cX9_meet 24 = .ok (.putfield 218, 3) := by decide +kernel
theorem dX9_meet_27 : decode cX9_meet 27 = .ok (.iconst 0, 1) := by decide +kernel
theorem dX9_meet_28 : decode cX9_meet 28 = .ok (.istore_n 1, 1) := by decide +kernel
theorem dX9_meet_29 : decode cX9_meet 29 = .ok (.iload_n 1, 1) := by decide +kernel
theorem dX9_meet_30 : decode cX9_meet 30 = .ok (.aload_n 0, 1) := by decide +kernel
theorem dX9_meet_31 : decode cX9_meet 31 = .ok (.getfield 218, 3) := by decide +kernel
theorem dX9_meet_34 : decode cX9_meet 34 = .ok (.if_icmp .ge 181, 3) := by decide +kernel
theorem dX9_meet_37 : decode cX9_meet 37 = .ok (.iconst 0, 1) := by decide +kernel
theorem dX9_meet_38 : decode cX9_meet 38 = .ok (.istore_n 2, 1) := by decide +kernel
theorem dX9_meet_39 : decode cX9_meet 39 = .ok (.iload_n 2, 1) := by decide +kernel
theorem dX9_meet_40 : decode cX9_meet 40 = .ok (.iconst 4, 1) := by decide +kernel
theorem dX9_meet_41 : decode cX9_meet 41 = .ok (.if_icmp .ge 168, 3) := by decide +kernel
theorem dX9_meet_44 : decode cX9_meet 44 = .ok (.iload_n 1, 1) := by decide +kernel
theorem dX9_meet_45 : decode cX9_meet 45 = .ok (.ifCond .ne 10, 3) := by decide +kernel
theorem dX9_meet_48 : decode cX9_meet 48 = .ok (.aload_n 0, 1) := by decide +kernel
theorem dX9_meet_49 : decode cX9_meet 49 = .ok (.getfield 194, 3) := by decide +kernel
theorem dX9_meet_52 : decode cX9_meet 52 = .ok (.goto 9, 3) := by decide +kernel
theorem dX9_meet_55 : decode cX9_meet 55 = .ok (.aload_n 0, 1) := by decide +kernel
theorem dX9_meet_56 : decode cX9_meet 56 = .ok (.getfield 57, 3) := by decide +kernel
theorem dX9_meet_59 : decode cX9_meet 59 = .ok (.iload_n 1, 1) := by decide +kernel
theorem dX9_meet_60 : decode cX9_meet 60 = .ok (.iaload, 1) := by decide +kernel
theorem dX9_meet_61 : decode cX9_meet 61 = .ok (.istore_n 3, 1) := by decide +kernel
theorem dX9_meet_62 : decode cX9_meet 62 = .ok (.aload_n 0, 1) := by decide +kernel
theorem dX9_meet_63 : decode cX9_meet 63 = .ok (.getfield 45, 3) := by decide +kernel
theorem dX9_meet_66 : decode cX9_meet 66 = .ok (.iconst 4, 1) := by decide +kernel
theorem dX9_meet_67 : decode cX9_meet 67 = .ok (.iload_n 3, 1) := by decide +kernel
theorem dX9_meet_68 : decode cX9_meet 68 = .ok (.imul, 1) := by decide +kernel
theorem dX9_meet_69 : decode cX9_meet 69 = .ok (.iload_n 2, 1) := by decide +kernel
theorem dX9_meet_70 : decode cX9_meet 70 = .ok (.iadd, 1) := by decide +kernel
theorem dX9_meet_71 : decode cX9_meet 71 = .ok (.iaload, 1) := by decide +kernel
theorem dX9_meet_72 : decode cX9_meet 72 = .ok (.istore 4, 2) := by decide +kernel
theorem dX9_meet_74 : decode cX9_meet 74 = .ok (.iconst 0, 1) := by decide +kernel
theorem dX9_meet_75 : decode cX9_meet 75 = .ok (.istore 5, 2) := by decide +kernel
theorem dX9_meet_77 : decode cX9_meet 77 = .ok (.iload 5, 2) := by decide +kernel
theorem dX9_meet_79 : decode cX9_meet 79 = .ok (.aload_n 0, 1) := by decide +kernel
theorem dX9_meet_80 : decode cX9_meet 80 = .ok (.invokevirtual 203, 3) := by decide +kernel
theorem dX9_meet_83 : decode cX9_meet 83 = .ok (.if_icmp .ge 91, 3) := by decide +kernel
theorem dX9_meet_86 : decode cX9_meet 86 = .ok (.iload_n 1, 1) := by decide +kernel
theorem dX9_meet_87 : decode cX9_meet 87 = .ok (.ifCond .ne 19, 3) := by decide +kernel
theorem dX9_meet_90 : decode cX9_meet 90 = .ok (.aload_n 0, 1) := by decide +kernel
theorem dX9_meet_91 : decode cX9_meet 91 = .ok (.getfield 51, 3) := by decide +kernel
theorem dX9_meet_94 : decode cX9_meet 94 = .ok (.aload_n 0, 1) := by decide +kernel
theorem dX9_meet_95 : decode cX9_meet 95 = .ok (.iload_n 3, 1) := by decide +kernel
theorem dX9_meet_96 : decode cX9_meet 96 = .ok (.iload_n 2, 1) := by decide +kernel
theorem dX9_meet_97 : decode cX9_meet 97 = .ok (.iload 5, 2) := by decide +kernel
theorem dX9_meet_99 : decode cX9_meet 99 = .ok (.invokevirtual 214, 3) := by decide +kernel
theorem dX9_meet_102 : decode cX9_meet 102 = .ok (.baload, 1) := by decide +kernel
theorem dX9_meet_103 : decode cX9_meet 103 = .ok (.goto 28, 3) := by decide +kernel
theorem dX9_meet_106 : decode cX9_meet 106 = .ok (.aload_n 0, 1) := by decide +kernel
theorem dX9_meet_107 : decode cX9_meet 107 = .ok (.getfield 61, 3) := by decide +kernel
theorem dX9_meet_110 : decode cX9_meet 110 = .ok (.iload_n 1, 1) := by decide +kernel
theorem dX9_meet_111 : decode cX9_meet 111 = .ok (.aload_n 0, 1) := by decide +kernel
theorem dX9_meet_112 : decode cX9_meet 112 = .ok (.invokevirtual 203, 3) := by decide +kernel
theorem dX9_meet_115 : decode cX9_meet 115 = .ok (.imul, 1) := by decide +kernel
theorem dX9_meet_116 : decode cX9_meet 116 = .ok (.aload_n 0, 1) := by decide +kernel
theorem dX9_meet_117 : decode cX9_meet 117 = .ok (.getfield 48, 3) := by decide +kernel
theorem dX9_meet_120 : decode cX9_meet 120 = .ok (.aload_n 0, 1) := by decide +kernel
theorem dX9_meet_121 : decode cX9_meet 121 = .ok (.iload_n 3, 1) := by decide +kernel
theorem dX9_meet_122 : decode cX9_meet 122 = .ok (.iload_n 2, 1) := by decide +kernel
theorem dX9_meet_123 : decode cX9_meet 123 = .ok (.iload 5, 2) := by decide +kernel
theorem dX9_meet_125 : decode cX9_meet 125 = .ok (.invokevirtual 214, 3) := by decide +kernel
theorem dX9_meet_128 : decode cX9_meet 128 = .ok (.iaload, 1) := by decide +kernel
theorem dX9_meet_129 : decode cX9_meet 129 = .ok (.iadd, 1) := by decide +kernel
theorem dX9_meet_130 : decode cX9_meet 130 = .ok (.baload, 1) := by decide +kernel
theorem dX9_meet_131 : decode cX9_meet 131 = .ok (.istore 6, 2) := by decide +kernel
theorem dX9_meet_133 : decode cX9_meet 133 = .ok (.aload_n 0, 1) := by decide +kernel
theorem dX9_meet_134 : decode cX9_meet 134 = .ok (.getfield 73, 3) := by decide +kernel
theorem dX9_meet_137 : decode cX9_meet 137 = .ok (.iload 5, 2) := by decide +kernel
theorem dX9_meet_139 : decode cX9_meet 139 = .ok (.aload_n 0, 1) := by decide +kernel
theorem dX9_meet_140 : decode cX9_meet 140 = .ok (.getfield 54, 3) := by decide +kernel
theorem dX9_meet_143 : decode cX9_meet 143 = .ok (.iload 4, 2) := by decide +kernel
theorem dX9_meet_145 : decode cX9_meet 145 = .ok (.aload_n 0, 1) := by decide +kernel
theorem dX9_meet_146 : decode cX9_meet 146 = .ok (.invokevirtual 203, 3) := by decide +kernel
theorem dX9_meet_149 : decode cX9_meet 149 = .ok (.imul, 1) := by decide +kernel
theorem dX9_meet_150 : decode cX9_meet 150 = .ok (.iload 5, 2) := by decide +kernel
theorem dX9_meet_152 : decode cX9_meet 152 = .ok (.iadd, 1) := by decide +kernel
theorem dX9_meet_153 : decode cX9_meet 153 = .ok (.baload, 1) := by decide +kernel
theorem dX9_meet_154 : decode cX9_meet 154 = .ok (.ifCond .eq 12, 3) := by decide +kernel
theorem dX9_meet_157 : decode cX9_meet 157 = .ok (.iload 6, 2) := by decide +kernel
theorem dX9_meet_159 : decode cX9_meet 159 = .ok (.ifCond .eq 7, 3) := by decide +kernel
theorem dX9_meet_162 : decode cX9_meet 162 = .ok (.iconst 1, 1) := by decide +kernel
theorem dX9_meet_163 : decode cX9_meet 163 = .ok (.goto 4, 3) := by decide +kernel
theorem dX9_meet_166 : decode cX9_meet 166 = .ok (.iconst 0, 1) := by decide +kernel
theorem dX9_meet_167 : decode cX9_meet 167 = .ok (.bastore, 1) := by decide +kernel
theorem dX9_meet_168 : decode cX9_meet 168 = .ok (.iinc 5 1, 3) := by decide +kernel
theorem dX9_meet_171 : decode cX9_meet 171 = .ok (.goto (-94), 3) := by decide +kernel
theorem dX9_meet_174 : decode cX9_meet 174 = .ok (.aload_n 0, 1) := by decide +kernel
theorem dX9_meet_175 : decode cX9_meet 175 = .ok (.iload 4, 2) := by decide +kernel
theorem dX9_meet_177 : decode cX9_meet 177 = .ok (.invokevirtual 221, 3) := by decide +kernel
theorem dX9_meet_180 : decode cX9_meet 180 = .ok (.istore 5, 2) := by decide +kernel
theorem dX9_meet_182 : decode cX9_meet 182 = .ok (.iload 5, 2) := by decide +kernel
theorem dX9_meet_184 : decode cX9_meet 184 = .ok (.bipush (-9), 2) := by decide +kernel
theorem dX9_meet_186 : decode cX9_meet 186 = .ok (.if_icmp .ne 5, 3) := by decide +kernel
theorem dX9_meet_189 : decode cX9_meet 189 = .ok (.iconst 0, 1) := by decide +kernel
theorem dX9_meet_190 : decode cX9_meet 190 = .ok (.ireturn, 1) := by decide +kernel
theorem dX9_meet_191 : decode cX9_meet 191 = .ok (.aload_n 0, 1) := by decide +kernel
theorem dX9_meet_192 : decode cX9_meet 192 = .ok (.getfield 64, 3) := by decide +kernel
theorem dX9_meet_195 : decode cX9_meet 195 = .ok (.iconst 4, 1) := by decide +kernel
theorem dX9_meet_196 : decode cX9_meet 196 = .ok (.iload_n 1, 1) := by decide +kernel
theorem dX9_meet_197 : decode cX9_meet 197 = .ok (.imul, 1) := by decide +kernel
theorem dX9_meet_198 : decode cX9_meet 198 = .ok (.iload_n 2, 1) := by decide +kernel
theorem dX9_meet_199 : decode cX9_meet 199 = .ok (.iadd, 1) := by decide +kernel
theorem dX9_meet_200 : decode cX9_meet 200 = .ok (.iload 5, 2) := by decide +kernel
theorem dX9_meet_202 : decode cX9_meet 202 = .ok (.iastore, 1) := by decide +kernel
theorem dX9_meet_203 : decode cX9_meet 203 = .ok (.iinc 2 1, 3) := by decide +kernel
theorem dX9_meet_206 : decode cX9_meet 206 = .ok (.goto (-167), 3) := by decide +kernel
theorem dX9_meet_209 : decode cX9_meet 209 = .ok (.iinc 1 1, 3) := by decide +kernel
theorem dX9_meet_212 : decode cX9_meet 212 = .ok (.goto (-183), 3) := by decide +kernel
theorem dX9_meet_215 : decode cX9_meet 215 = .ok (.iconst 1, 1) := by decide +kernel
theorem dX9_meet_216 : decode cX9_meet 216 = .ok (.ireturn, 1) := by decide +kernel
theorem dX9_isKept_0 : decode cX9_isKept 0 = .ok (.iload_n 1, 1) := by decide +kernel
theorem dX9_isKept_1 : decode cX9_isKept 1 = .ok (.ifCond .eq 22, 3) := by decide +kernel
theorem dX9_isKept_4 : decode cX9_isKept 4 = .ok (.aload_n 0, 1) := by decide +kernel
theorem dX9_isKept_5 : decode cX9_isKept 5 = .ok (.getfield 61, 3) := by decide +kernel
theorem dX9_isKept_8 : decode cX9_isKept 8 = .ok (.iload_n 1, 1) := by decide +kernel
theorem dX9_isKept_9 : decode cX9_isKept 9 = .ok (.aload_n 0, 1) := by decide +kernel
theorem dX9_isKept_10 : decode cX9_isKept 10 = .ok (.invokevirtual 203, 3) := by decide +kernel
theorem dX9_isKept_13 : decode cX9_isKept 13 = .ok (.imul, 1) := by decide +kernel
theorem dX9_isKept_14 : decode cX9_isKept 14 = .ok (.aload_n 0, 1) := by decide +kernel
theorem dX9_isKept_15 : decode cX9_isKept 15 = .ok (.getfield 191, 3) := by decide +kernel
theorem dX9_isKept_18 : decode cX9_isKept 18 = .ok (.iadd, 1) := by decide +kernel
theorem dX9_isKept_19 : decode cX9_isKept 19 = .ok (.baload, 1) := by decide +kernel
theorem dX9_isKept_20 : decode cX9_isKept 20 = .ok (.ifCond .eq 7, 3) := by decide +kernel
theorem dX9_isKept_23 : decode cX9_isKept 23 = .ok (.iconst 1, 1) := by decide +kernel
theorem dX9_isKept_24 : decode cX9_isKept 24 = .ok (.goto 4, 3) := by decide +kernel
theorem dX9_isKept_27 : decode cX9_isKept 27 = .ok (.iconst 0, 1) := by decide +kernel
theorem dX9_isKept_28 : decode cX9_isKept 28 = .ok (.ireturn, 1) := by decide +kernel
theorem dX9_isLike_0 : decode cX9_isLike 0 = .ok (.aload_n 0, 1) := by decide +kernel
theorem dX9_isLike_1 : decode cX9_isLike 1 = .ok (.getfield 76, 3) := by decide +kernel
theorem dX9_isLike_4 : decode cX9_isLike 4 = .ok (.iload_n 1, 1) := by decide +kernel
theorem dX9_isLike_5 : decode cX9_isLike 5 = .ok (.iaload, 1) := by decide +kernel
theorem dX9_isLike_6 : decode cX9_isLike 6 = .ok (.aload_n 0, 1) := by decide +kernel
theorem dX9_isLike_7 : decode cX9_isLike 7 = .ok (.getfield 76, 3) := by decide +kernel
theorem dX9_isLike_10 : decode cX9_isLike 10 = .ok (.iload_n 2, 1) := by decide +kernel
theorem dX9_isLike_11 : decode cX9_isLike 11 = .ok (.iaload, 1) := by decide +kernel
theorem dX9_isLike_12 : decode cX9_isLike 12 = .ok (.if_icmp .ne 7, 3) := by decide +kernel
theorem dX9_isLike_15 : decode cX9_isLike 15 = .ok (.iconst 1, 1) := by decide +kernel
theorem dX9_isLike_16 : decode cX9_isLike 16 = .ok (.goto 4, 3) := by decide +kernel
theorem dX9_isLike_19 : decode cX9_isLike 19 = .ok (.iconst 0, 1) := by decide +kernel
theorem dX9_isLike_20 : decode cX9_isLike 20 = .ok (.istore_n 3, 1) := by decide +kernel
theorem dX9_isLike_21 : decode cX9_isLike 21 = .ok (.iconst 0, 1) := by decide +kernel
theorem dX9_isLike_22 : decode cX9_isLike 22 = .ok (.istore 4, 2) := by decide +kernel
theorem dX9_isLike_24 : decode cX9_isLike 24 = .ok (.iload 4, 2) := by decide +kernel
theorem dX9_isLike_26 : decode cX9_isLike 26 = .ok (.iconst 4, 1) := by decide +kernel
theorem dX9_isLike_27 : decode cX9_isLike 27 = .ok (.if_icmp .ge 54, 3) := by decide +kernel
theorem dX9_isLike_30 : decode cX9_isLike 30 = .ok (.iload_n 3, 1) := by decide +kernel
theorem dX9_isLike_31 : decode cX9_isLike 31 = .ok (.ifCond .eq 50, 3) := by decide +kernel
theorem dX9_isLike_34 : decode cX9_isLike 34 = .ok (.aload_n 0, 1) := by decide +kernel
theorem dX9_isLike_35 : decode cX9_isLike 35 = .ok (.getfield 76, 3) := by decide +kernel
theorem dX9_isLike_38 : decode cX9_isLike 38 = .ok (.aload_n 0, 1) := by decide +kernel
theorem dX9_isLike_39 : decode cX9_isLike 39 = .ok (.getfield 64, 3) := by decide +kernel
theorem dX9_isLike_42 : decode cX9_isLike 42 = .ok (.iconst 4, 1) := by decide +kernel
theorem dX9_isLike_43 : decode cX9_isLike 43 = .ok (.iload_n 1, 1) := by decide +kernel
theorem dX9_isLike_44 : decode cX9_isLike 44 = .ok (.imul, 1) := by decide +kernel
theorem dX9_isLike_45 : decode cX9_isLike 45 = .ok (.iload 4, 2) := by decide +kernel
theorem dX9_isLike_47 : decode cX9_isLike 47 = .ok (.iadd, 1) := by decide +kernel
theorem dX9_isLike_48 : decode cX9_isLike 48 = .ok (.iaload, 1) := by decide +kernel
theorem dX9_isLike_49 : decode cX9_isLike 49 = .ok (.iaload, 1) := by decide +kernel
theorem dX9_isLike_50 : decode cX9_isLike 50 = .ok (.aload_n 0, 1) := by decide +kernel
theorem dX9_isLike_51 : decode cX9_isLike 51 = .ok (.getfield 76, 3) := by decide +kernel
theorem dX9_isLike_54 : decode cX9_isLike 54 = .ok (.aload_n 0, 1) := by decide +kernel
theorem dX9_isLike_55 : decode cX9_isLike 55 = .ok (.getfield 64, 3) := by decide +kernel
theorem dX9_isLike_58 : decode cX9_isLike 58 = .ok (.iconst 4, 1) := by decide +kernel
theorem dX9_isLike_59 : decode cX9_isLike 59 = .ok (.iload_n 2, 1) := by decide +kernel
theorem dX9_isLike_60 : decode cX9_isLike 60 = .ok (.imul, 1) := by decide +kernel
theorem dX9_isLike_61 : decode cX9_isLike 61 = .ok (.iload 4, 2) := by decide +kernel
theorem dX9_isLike_63 : decode cX9_isLike 63 = .ok (.iadd, 1) := by decide +kernel
theorem dX9_isLike_64 : decode cX9_isLike 64 = .ok (.iaload, 1) := by decide +kernel
theorem dX9_isLike_65 : decode cX9_isLike 65 = .ok (.iaload, 1) := by decide +kernel
theorem dX9_isLike_66 : decode cX9_isLike 66 = .ok (.if_icmp .ne 7, 3) := by decide +kernel
theorem dX9_isLike_69 : decode cX9_isLike 69 = .ok (.iconst 1, 1) := by decide +kernel
theorem dX9_isLike_70 : decode cX9_isLike 70 = .ok (.goto 4, 3) := by decide +kernel
theorem dX9_isLike_73 : decode cX9_isLike 73 = .ok (.iconst 0, 1) := by decide +kernel
theorem dX9_isLike_74 : decode cX9_isLike 74 = .ok (.istore_n 3, 1) := by decide +kernel
theorem dX9_isLike_75 : decode cX9_isLike 75 = .ok (.iinc 4 1, 3) := by decide +kernel
theorem dX9_isLike_78 : decode cX9_isLike 78 = .ok (.goto (-54), 3) := by decide +kernel
theorem dX9_isLike_81 : decode cX9_isLike 81 = .ok (.iload_n 3, 1) := by decide +kernel
theorem dX9_isLike_82 : decode cX9_isLike 82 = .ok (.ireturn, 1) := by decide +kernel
theorem dX9_part_0 : decode cX9_part 0 = .ok (.iconst 0, 1) := by decide +kernel
theorem dX9_part_1 : decode cX9_part 1 = .ok (.istore_n 1, 1) := by decide +kernel
theorem dX9_part_2 : decode cX9_part 2 = .ok (.iconst 0, 1) := by decide +kernel
theorem dX9_part_3 : decode cX9_part 3 = .ok (.istore_n 2, 1) := by decide +kernel
theorem dX9_part_4 : decode cX9_part 4 = .ok (.iload_n 2, 1) := by decide +kernel
theorem dX9_part_5 : decode cX9_part 5 = .ok (.aload_n 0, 1) := by decide +kernel
theorem dX9_part_6 : decode cX9_part 6 = .ok (.getfield 218, 3) := by decide +kernel
theorem dX9_part_9 : decode cX9_part 9 = .ok (.if_icmp .ge 66, 3) := by decide +kernel
theorem dX9_part_12 : decode cX9_part 12 = .ok (.iconst 0, 1) := by decide +kernel
theorem dX9_part_13 : decode cX9_part 13 = .ok (.istore_n 3, 1) := by decide +kernel
theorem dX9_part_14 : decode cX9_part 14 = .ok (.iload_n 3, 1) := by decide +kernel
theorem dX9_part_15 : decode cX9_part 15 = .ok (.iload_n 1, 1) := by decide +kernel
theorem dX9_part_16 : decode cX9_part 16 = .ok (.if_icmp .ge 23, 3) := by decide +kernel
theorem dX9_part_19 : decode cX9_part 19 = .ok (.aload_n 0, 1) := by decide +kernel
theorem dX9_part_20 : decode cX9_part 20 = .ok (.aload_n 0, 1) := by decide +kernel
theorem dX9_part_21 : decode cX9_part 21 = .ok (.getfield 82, 3) := by decide +kernel
theorem dX9_part_24 : decode cX9_part 24 = .ok (.iload_n 3, 1) := by decide +kernel
theorem dX9_part_25 : decode cX9_part 25 = .ok (.iaload, 1) := by decide +kernel
theorem dX9_part_26 : decode cX9_part 26 = .ok (.iload_n 2, 1) := by decide +kernel
theorem dX9_part_27 : decode cX9_part 27 = .ok (.invokevirtual 224, 3) := by decide +kernel
theorem dX9_part_30 : decode cX9_part 30 = .ok (.ifCond .ne 9, 3) := by decide +kernel
theorem dX9_part_33 : decode cX9_part 33 = .ok (.iinc 3 1, 3) := by decide +kernel
theorem dX9_part_36 : decode cX9_part 36 = .ok (.goto (-22), 3) := by decide +kernel
