theorem dX0_init_0 : decode cX0_init 0 = .ok (.aload_n 0, 1) := by decide +kernel
theorem dX0_init_1 : decode cX0_init 1 = .ok (.invokespecial 3, 3) := by decide +kernel
theorem dX0_init_4 : decode cX0_init 4 = .ok (.aload_n 0, 1) := by decide +kernel
theorem dX0_init_5 : decode cX0_init 5 = .ok (.sipush 1024, 3) := by decide +kernel
theorem dX0_init_8 : decode cX0_init 8 = .ok (.newarray .int, 2) := by decide +kernel
theorem dX0_init_10 : decode cX0_init 10 = .ok (.putfield 9, 3) := by decide +kernel
theorem dX0_init_13 : decode cX0_init 13 = .ok (.aload_n 0, 1) := by decide +kernel
theorem dX0_init_14 : decode cX0_init 14 = .ok (.sipush 1024, 3) := by decide +kernel
theorem dX0_init_17 : decode cX0_init 17 = .ok (.newarray .boolean, 2) := by decide +kernel
theorem dX0_init_19 : decode cX0_init 19 = .ok (.putfield 15, 3) := by decide +kernel
theorem dX0_init_22 : decode cX0_init 22 = .ok (.aload_n 0, 1) := by decide +kernel
theorem dX0_init_23 : decode cX0_init 23 = .ok (.sipush 256, 3) := by decide +kernel
theorem dX0_init_26 : decode cX0_init 26 = .ok (.newarray .boolean, 2) := by decide +kernel
theorem dX0_init_28 : decode cX0_init 28 = .ok (.putfield 19, 3) := by decide +kernel
theorem dX0_init_31 : decode cX0_init 31 = .ok (.aload_n 0, 1) := by decide +kernel
theorem dX0_init_32 : decode cX0_init 32 = .ok (.iconst 0, 1) := by decide +kernel
theorem dX0_init_33 : decode cX0_init 33 = .ok (.putfield 22, 3) := by decide +kernel
theorem dX0_init_36 : decode cX0_init 36 = .ok (.aload_n 0, 1) := by decide +kernel
theorem dX0_init_37 : decode cX0_init 37 = .ok (.iconst 0, 1) := by decide +kernel
theorem dX0_init_38 : decode cX0_init 38 = .ok (.putfield 26, 3) := by decide +kernel
theorem dX0_init_41 : decode cX0_init 41 = .ok (.aload_n 0, 1) := by decide +kernel
theorem dX0_init_42 : decode cX0_init 42 = .ok (.iconst 0, 1) := by decide +kernel
theorem dX0_init_43 : decode cX0_init 43 = .ok (.putfield 29, 3) := by decide +kernel
theorem dX0_init_46 : decode cX0_init 46 = .ok (.return_, 1) := by decide +kernel
theorem dX0_make_0 : decode cX0_make 0 = .ok (.aload_n 1, 1) := by decide +kernel
theorem dX0_make_1 : decode cX0_make 1 = .ok (.invokevirtual 32, 3) := by decide +kernel
theorem dX0_make_4 : decode cX0_make 4 = .ok (.aload_n 0, 1) := by decide +kernel
theorem dX0_make_5 : decode cX0_make 5 = .ok (.aload_n 1, 1) := by decide +kernel
theorem dX0_make_6 : decode cX0_make 6 = .ok (.invokevirtual 37, 3) := by decide +kernel
theorem dX0_make_9 : decode cX0_make 9 = .ok (.putfield 22, 3) := by decide +kernel
theorem dX0_make_12 : decode cX0_make 12 = .ok (.aload_n 0, 1) := by decide +kernel
theorem dX0_make_13 : decode cX0_make 13 = .ok (.aload_n 1, 1) := by decide +kernel
theorem dX0_make_14 : decode cX0_make 14 = .ok (.invokevirtual 40, 3) := by decide +kernel
theorem dX0_make_17 : decode cX0_make 17 = .ok (.putfield 26, 3) := by decide +kernel
theorem dX0_make_20 : decode cX0_make 20 = .ok (.aload_n 0, 1) := by decide +kernel
theorem dX0_make_21 : decode cX0_make 21 = .ok (.aload_n 1, 1) := by decide +kernel
theorem dX0_make_22 : decode cX0_make 22 = .ok (.invokevirtual 42, 3) := by decide +kernel
theorem dX0_make_25 : decode cX0_make 25 = .ok (.putfield 29, 3) := by decide +kernel
theorem dX0_make_28 : decode cX0_make 28 = .ok (.iconst 0, 1) := by decide +kernel
theorem dX0_make_29 : decode cX0_make 29 = .ok (.istore_n 2, 1) := by decide +kernel
theorem dX0_make_30 : decode cX0_make 30 = .ok (.iload_n 2, 1) := by decide +kernel
theorem dX0_make_31 : decode cX0_make 31 = .ok (.aload_n 0, 1) := by decide +kernel
theorem dX0_make_32 : decode cX0_make 32 = .ok (.invokevirtual 45, 3) := by decide +kernel
theorem dX0_make_35 : decode cX0_make 35 = .ok (.if_icmp .ge 66, 3) := by decide +kernel
theorem dX0_make_38 : decode cX0_make 38 = .ok (.iconst 0, 1) := by decide +kernel
theorem dX0_make_39 : decode cX0_make 39 = .ok (.istore_n 3, 1) := by decide +kernel
theorem dX0_make_40 : decode cX0_make 40 = .ok (.iload_n 3, 1) := by decide +kernel
theorem dX0_make_41 : decode cX0_make 41 = .ok (.iconst 4, 1) := by decide +kernel
theorem dX0_make_42 : decode cX0_make 42 = .ok (.if_icmp .ge 53, 3) := by decide +kernel
theorem dX0_make_45 : decode cX0_make 45 = .ok (.aload_n 1, 1) := by decide +kernel
theorem dX0_make_46 : decode cX0_make 46 = .ok (.iload_n 3, 1) := by decide +kernel
theorem dX0_make_47 : decode cX0_make 47 = .ok (.iload_n 2, 1) := by decide +kernel
theorem dX0_make_48 : decode cX0_make 48 = .ok (.invokevirtual 48, 3) := by decide +kernel
theorem dX0_make_51 : decode cX0_make 51 = .ok (.istore 4, 2) := by decide +kernel
theorem dX0_make_53 : decode cX0_make 53 = .ok (.aload_n 0, 1) := by decide +kernel
theorem dX0_make_54 : decode cX0_make 54 = .ok (.getfield 9, 3) := by decide +kernel
theorem dX0_make_57 : decode cX0_make 57 = .ok (.iload_n 2, 1) := by decide +kernel
theorem dX0_make_58 : decode cX0_make 58 = .ok (.iconst 4, 1) := by decide +kernel
theorem dX0_make_59 : decode cX0_make 59 = .ok (.imul, 1) := by decide +kernel
theorem dX0_make_60 : decode cX0_make 60 = .ok (.iload_n 3, 1) := by decide +kernel
theorem dX0_make_61 : decode cX0_make 61 = .ok (.iadd, 1) := by decide +kernel
theorem dX0_make_62 : decode cX0_make 62 = .ok (.aload_n 1, 1) := by decide +kernel
theorem dX0_make_63 : decode cX0_make 63 = .ok (.iload 4, 2) := by decide +kernel
theorem dX0_make_65 : decode cX0_make 65 = .ok (.invokevirtual 52, 3) := by decide +kernel
theorem dX0_make_68 : decode cX0_make 68 = .ok (.invokestatic 56, 3) := by decide +kernel
theorem dX0_make_71 : decode cX0_make 71 = .ok (.aload_n 0, 1) := by decide +kernel
theorem dX0_make_72 : decode cX0_make 72 = .ok (.getfield 15, 3) := by decide +kernel
theorem dX0_make_75 : decode cX0_make 75 = .ok (.iload_n 2, 1) := by decide +kernel
theorem dX0_make_76 : decode cX0_make 76 = .ok (.iconst 4, 1) := by decide +kernel
theorem dX0_make_77 : decode cX0_make 77 = .ok (.imul, 1) := by decide +kernel
theorem dX0_make_78 : decode cX0_make 78 = .ok (.iload_n 3, 1) := by decide +kernel
theorem dX0_make_79 : decode cX0_make 79 = .ok (.iadd, 1) := by decide +kernel
theorem dX0_make_80 : decode cX0_make 80 = .ok (.aload_n 1, 1) := by decide +kernel
theorem dX0_make_81 : decode cX0_make 81 = .ok (.iload 4, 2) := by decide +kernel
theorem dX0_make_83 : decode cX0_make 83 = .ok (.invokevirtual 60, 3) := by decide +kernel
theorem dX0_make_86 : decode cX0_make 86 = .ok (.invokestatic 64, 3) := by decide +kernel
theorem dX0_make_89 : decode cX0_make 89 = .ok (.iinc 3 1, 3) := by decide +kernel
theorem dX0_make_92 : decode cX0_make 92 = .ok (.goto (-52), 3) := by decide +kernel
theorem dX0_make_95 : decode cX0_make 95 = .ok (.iinc 2 1, 3) := by decide +kernel
theorem dX0_make_98 : decode cX0_make 98 = .ok (.goto (-68), 3) := by decide +kernel
theorem dX0_make_101 : decode cX0_make 101 = .ok (.aload_n 0, 1) := by decide +kernel
theorem dX0_make_102 : decode cX0_make 102 = .ok (.invokevirtual 68, 3) := by decide +kernel
theorem dX0_make_105 : decode cX0_make 105 = .ok (.return_, 1) := by decide +kernel
theorem dX0_all_0 : decode cX0_all 0 = .ok (.sipush 256, 3) := by decide +kernel
theorem dX0_all_3 : decode cX0_all 3 = .ok (.iconst 1, 1) := by decide +kernel
theorem dX0_all_4 : decode cX0_all 4 = .ok (.aload_n 0, 1) := by decide +kernel
theorem dX0_all_5 : decode cX0_all 5 = .ok (.getfield 22, 3) := by decide +kernel
theorem dX0_all_8 : decode cX0_all 8 = .ok (.aload_n 0, 1) := by decide +kernel
theorem dX0_all_9 : decode cX0_all 9 = .ok (.getfield 26, 3) := by decide +kernel
theorem dX0_all_12 : decode cX0_all 12 = .ok (.iadd, 1) := by decide +kernel
theorem dX0_all_13 : decode cX0_all 13 = .ok (.ishl, 1) := by decide +kernel
theorem dX0_all_14 : decode cX0_all 14 = .ok (.invokestatic 71, 3) := by decide +kernel
theorem dX0_all_17 : decode cX0_all 17 = .ok (.ireturn, 1) := by decide +kernel
theorem dX0_futures_0 : decode cX0_futures 0 = .ok (.sipush 256, 3) := by decide +kernel
theorem dX0_futures_3 : decode cX0_futures 3 = .ok (.iconst 1, 1) := by decide +kernel
theorem dX0_futures_4 : decode cX0_futures 4 = .ok (.aload_n 0, 1) := by decide +kernel
theorem dX0_futures_5 : decode cX0_futures 5 = .ok (.getfield 22, 3) := by decide +kernel
theorem dX0_futures_8 : decode cX0_futures 8 = .ok (.ishl, 1) := by decide +kernel
theorem dX0_futures_9 : decode cX0_futures 9 = .ok (.invokestatic 71, 3) := by decide +kernel
theorem dX0_futures_12 : decode cX0_futures 12 = .ok (.ireturn, 1) := by decide +kernel
theorem dX0_pasts_0 : decode cX0_pasts 0 = .ok (.sipush 256, 3) := by decide +kernel
theorem dX0_pasts_3 : decode cX0_pasts 3 = .ok (.iconst 1, 1) := by decide +kernel
theorem dX0_pasts_4 : decode cX0_pasts 4 = .ok (.aload_n 0, 1) := by decide +kernel
theorem dX0_pasts_5 : decode cX0_pasts 5 = .ok (.getfield 26, 3) := by decide +kernel
theorem dX0_pasts_8 : decode cX0_pasts 8 = .ok (.ishl, 1) := by decide +kernel
theorem dX0_pasts_9 : decode cX0_pasts 9 = .ok (.invokestatic 71, 3) := by decide +kernel
theorem dX0_pasts_12 : decode cX0_pasts 12 = .ok (.ireturn, 1) := by decide +kernel
theorem dX0_futureOf_0 : decode cX0_futureOf 0 = .ok (.iload_n 1, 1) := by decide +kernel
theorem dX0_futureOf_1 : decode cX0_futureOf 1 = .ok (.aload_n 0, 1) := by decide +kernel
theorem dX0_futureOf_2 : decode cX0_futureOf 2 = .ok (.invokevirtual 76, 3) := by decide +kernel
theorem dX0_futureOf_5 : decode cX0_futureOf 5 = .ok (.iconst 1, 1) := by decide +kernel
theorem dX0_futureOf_6 : decode cX0_futureOf 6 = .ok (.isub, 1) := by decide +kernel
theorem dX0_futureOf_7 : decode cX0_futureOf 7 = .ok (.iand, 1) := by decide +kernel
theorem dX0_futureOf_8 : decode cX0_futureOf 8 = .ok (.ireturn, 1) := by decide +kernel
theorem dX0_pastOf_0 : decode cX0_pastOf 0 = .ok (.iload_n 1, 1) := by decide +kernel
theorem dX0_pastOf_1 : decode cX0_pastOf 1 = .ok (.aload_n 0, 1) := by decide +kernel
theorem dX0_pastOf_2 : decode cX0_pastOf 2 = .ok (.getfield 22, 3) := by decide +kernel
theorem dX0_pastOf_5 : decode cX0_pastOf 5 = .ok (.ishr, 1) := by decide +kernel
theorem dX0_pastOf_6 : decode cX0_pastOf 6 = .ok (.ireturn, 1) := by decide +kernel
theorem dX0_both_0 : decode cX0_both 0 = .ok (.iload_n 1, 1) := by decide +kernel
theorem dX0_both_1 : decode cX0_both 1 = .ok (.aload_n 0, 1) := by decide +kernel
theorem dX0_both_2 : decode cX0_both 2 = .ok (.getfield 22, 3) := by decide +kernel
theorem dX0_both_5 : decode cX0_both 5 = .ok (.ishl, 1) := by decide +kernel
theorem dX0_both_6 : decode cX0_both 6 = .ok (.iload_n 2, 1) := by decide +kernel
theorem dX0_both_7 : decode cX0_both 7 = .ok (.ior, 1) := by decide +kernel
theorem dX0_both_8 : decode cX0_both 8 = .ok (.ireturn, 1) := by decide +kernel
theorem dX0_noPlace_0 : decode cX0_noPlace 0 = .ok (.aload_n 0, 1) := by decide +kernel
theorem dX0_noPlace_1 : decode cX0_noPlace 1 = .ok (.getfield 29, 3) := by decide +kernel
theorem dX0_noPlace_4 : decode cX0_noPlace 4 = .ok (.ireturn, 1) := by decide +kernel
theorem dX0_turn_0 : decode cX0_turn 0 = .ok (.aload_n 0, 1) := by decide +kernel
theorem dX0_turn_1 : decode cX0_turn 1 = .ok (.getfield 9, 3) := by decide +kernel
theorem dX0_turn_4 : decode cX0_turn 4 = .ok (.iload_n 1, 1) := by decide +kernel
theorem dX0_turn_5 : decode cX0_turn 5 = .ok (.iconst 4, 1) := by decide +kernel
theorem dX0_turn_6 : decode cX0_turn 6 = .ok (.imul, 1) := by decide +kernel
theorem dX0_turn_7 : decode cX0_turn 7 = .ok (.iload_n 2, 1) := by decide +kernel
theorem dX0_turn_8 : decode cX0_turn 8 = .ok (.iadd, 1) := by decide +kernel
theorem dX0_turn_9 : decode cX0_turn 9 = .ok (.invokestatic 79, 3) := by decide +kernel
theorem dX0_turn_12 : decode cX0_turn 12 = .ok (.ireturn, 1) := by decide +kernel
theorem dX0_keeps_0 : decode cX0_keeps 0 = .ok (.aload_n 0, 1) := by decide +kernel
theorem dX0_keeps_1 : decode cX0_keeps 1 = .ok (.getfield 15, 3) := by decide +kernel
theorem dX0_keeps_4 : decode cX0_keeps 4 = .ok (.iload_n 1, 1) := by decide +kernel
theorem dX0_keeps_5 : decode cX0_keeps 5 = .ok (.iconst 4, 1) := by decide +kernel
theorem dX0_keeps_6 : decode cX0_keeps 6 = .ok (.imul, 1) := by decide +kernel
theorem dX0_keeps_7 : decode cX0_keeps 7 = .ok (.iload_n 2, 1) := by decide +kernel
theorem dX0_keeps_8 : decode cX0_keeps 8 = .ok (.iadd, 1) := by decide +kernel
theorem dX0_keeps_9 : decode cX0_keeps 9 = .ok (.invokestatic 83, 3) := by decide +kernel
theorem dX0_keeps_12 : decode cX0_keeps 12 = .ok (.ireturn, 1) := by decide +kernel
theorem dX0_isPossible_0 : decode cX0_isPossible 0 = .ok (.aload_n 0, 1) := by decide +kernel
theorem dX0_isPossible_1 : decode cX0_isPossible 1 = .ok (.getfield 19, 3) := by decide +kernel
theorem dX0_isPossible_4 : decode cX0_isPossible 4 = .ok (.iload_n 1, 1) := by decide +kernel
theorem dX0_isPossible_5 : decode cX0_isPossible 5 = .ok (.invokestatic 83, 3) := by decide +kernel
theorem dX0_isPossible_8 : decode cX0_isPossible 8 = .ok (.ireturn, 1) := by decide +kernel
theorem dX0_findPossible_0 : decode cX0_findPossible 0 = .ok (.iconst 0, 1) := by decide +kernel
theorem dX0_findPossible_1 : decode cX0_findPossible 1 = .ok (.istore_n 1, 1) := by decide +kernel
theorem dX0_findPossible_2 : decode cX0_findPossible 2 = .ok (.iload_n 1, 1) := by decide +kernel
theorem dX0_findPossible_3 : decode cX0_findPossible 3 = .ok (.aload_n 0, 1) := by decide +kernel
theorem dX0_findPossible_4 : decode cX0_findPossible 4 = .ok (.invokevirtual 45, 3) := by decide +kernel
theorem dX0_findPossible_7 : decode cX0_findPossible 7 = .ok (.if_icmp .ge 38, 3) := by decide +kernel
theorem dX0_findPossible_10 : decode cX0_findPossible 10 = .ok (.aload_n 0, 1) := by decide +kernel
theorem dX0_findPossible_11 : decode cX0_findPossible 11 = .ok (.getfield 19, 3) := by decide +kernel
theorem dX0_findPossible_14 : decode cX0_findPossible 14 = .ok (.iload_n 1, 1) := by decide +kernel
theorem dX0_findPossible_15 : decode cX0_findPossible 15 = .ok (.aload_n 0, 1) := by decide +kernel
theorem dX0_findPossible_16 : decode cX0_findPossible 16 = .ok (.iload_n 1, 1) := by decide +kernel
theorem dX0_findPossible_17 : decode cX0_findPossible 17 = .ok (.invokevirtual 87, 3) := by decide +kernel
theorem dX0_findPossible_20 : decode cX0_findPossible 20 = .ok (.aload_n 0, 1) := by decide +kernel
theorem dX0_findPossible_21 : decode cX0_findPossible 21 = .ok (.aload_n 0, 1) := by decide +kernel
theorem dX0_findPossible_22 : decode cX0_findPossible 22 = .ok (.getfield 29, 3) := by decide +kernel
theorem dX0_findPossible_25 : decode cX0_findPossible 25 = .ok (.invokevirtual 87, 3) := by decide +kernel
theorem dX0_findPossible_28 : decode cX0_findPossible 28 = .ok (.if_icmp .ne 7, 3) := by decide +kernel
theorem dX0_findPossible_31 : decode cX0_findPossible 31 = .ok (.iconst 1, 1) := by decide +kernel
theorem dX0_findPossible_32 : decode cX0_findPossible 32 = .ok (.goto 4, 3) := by decide +kernel
theorem dX0_findPossible_35 : decode cX0_findPossible 35 = .ok (.iconst 0, 1) := by decide +kernel
theorem dX0_findPossible_36 : decode cX0_findPossible 36 = .ok (.invokestatic 64, 3) := by decide +kernel
theorem dX0_findPossible_39 : decode cX0_findPossible 39 = .ok (.iinc 1 1, 3) := by decide +kernel
theorem dX0_findPossible_42 : decode cX0_findPossible 42 = .ok (.goto (-40), 3) := by decide +kernel
theorem dX0_findPossible_45 : decode cX0_findPossible 45 = .ok (.iconst 1, 1) := by decide +kernel
theorem dX0_findPossible_46 : decode cX0_findPossible 46 = .ok (.istore_n 1, 1) := by decide +kernel
theorem dX0_findPossible_47 : decode cX0_findPossible 47 = .ok (.iconst 0, 1) := by decide +kernel
theorem dX0_findPossible_48 : decode cX0_findPossible 48 = .ok (.istore_n 2, 1) := by decide +kernel
theorem dX0_findPossible_49 : decode cX0_findPossible 49 = .ok (.iload_n 2, 1) := by decide +kernel
theorem dX0_findPossible_50 : decode cX0_findPossible 50 = .ok (.sipush 256, 3) := by decide +kernel
theorem dX0_findPossible_53 : decode cX0_findPossible 53 = .ok (.if_icmp .ge 39, 3) := by decide +kernel
theorem dX0_findPossible_56 : decode cX0_findPossible 56 = .ok (.iload_n 1, 1) := by decide +kernel
theorem dX0_findPossible_57 : decode cX0_findPossible 57 = .ok (.ifCond .eq 35, 3) := by decide +kernel
theorem dX0_findPossible_60 : decode cX0_findPossible 60 = .ok (.iconst 0, 1) := by decide +kernel
theorem dX0_findPossible_61 : decode cX0_findPossible 61 = .ok (.istore_n 1, 1) := by decide +kernel
theorem dX0_findPossible_62 : decode cX0_findPossible 62 = .ok (.iconst 0, 1) := by decide +kernel
theorem dX0_findPossible_63 : decode cX0_findPossible 63 = .ok (.istore_n 3, 1) := by decide +kernel
theorem dX0_findPossible_64 : decode cX0_findPossible 64 = .ok (.iload_n 3, 1) := by decide +kernel
theorem dX0_findPossible_65 : decode cX0_findPossible 65 = .ok (.aload_n 0, 1) := by decide +kernel
theorem dX0_findPossible_66 : decode cX0_findPossible 66 = .ok (.invokevirtual 45, 3) := by decide +kernel
theorem dX0_findPossible_69 : decode cX0_findPossible 69 = .ok (.if_icmp .ge 17, 3) := by decide +kernel
theorem dX0_findPossible_72 : decode cX0_findPossible 72 = .ok (.iload_n 1, 1) := by decide +kernel
theorem dX0_findPossible_73 : decode cX0_findPossible 73 = .ok (.aload_n 0, 1) := by decide +kernel
theorem dX0_findPossible_74 : decode cX0_findPossible 74 = .ok (.iload_n 3, 1) := by decide +kernel
theorem dX0_findPossible_75 : decode cX0_findPossible 75 = .ok (.invokevirtual 90, 3) := by decide +kernel
theorem dX0_findPossible_78 : decode cX0_findPossible 78 = .ok (.ior, 1) := by decide +kernel
theorem dX0_findPossible_79 : decode cX0_findPossible 79 = .ok (.istore_n 1, 1) := by decide +kernel
theorem dX0_findPossible_80 : decode cX0_findPossible 80 = .ok (.iinc 3 1, 3) := by decide +kernel
theorem dX0_findPossible_83 : decode cX0_findPossible 83 = .ok (.goto (-19), 3) := by decide +kernel
theorem dX0_findPossible_86 : decode cX0_findPossible 86 = .ok (.iinc 2 1, 3) := by decide +kernel
theorem dX0_findPossible_89 : decode cX0_findPossible 89 = .ok (.goto (-40), 3) := by decide +kernel
theorem dX0_findPossible_92 : decode cX0_findPossible 92 = .ok (.return_, 1) := by decide +kernel
theorem dX0_addPossible_0 : decode cX0_addPossible 0 = .ok (.iconst 0, 1) := by decide +kernel
theorem dX0_addPossible_1 : decode cX0_addPossible 1 = .ok (.istore_n 2, 1) := by decide +kernel
theorem dX0_addPossible_2 : decode cX0_addPossible 2 = .ok (.iconst 0, 1) := by decide +kernel
theorem dX0_addPossible_3 : decode cX0_addPossible 3 = .ok (.istore_n 3, 1) := by decide +kernel
theorem dX0_addPossible_4 : decode cX0_addPossible 4 = .ok (.iload_n 3, 1) := by decide +kernel
theorem dX0_addPossible_5 : decode cX0_addPossible 5 = .ok (.iconst 4, 1) := by decide +kernel
theorem dX0_addPossible_6 : decode cX0_addPossible 6 = .ok (.if_icmp .ge 81, 3) := by decide +kernel
theorem dX0_addPossible_9 : decode cX0_addPossible 9 = .ok (.aload_n 0, 1) := by decide +kernel
theorem dX0_addPossible_10 : decode cX0_addPossible 10 = .ok (.iload_n 1, 1) := by decide +kernel
theorem dX0_addPossible_11 : decode cX0_addPossible 11 = .ok (.iload_n 3, 1) := by decide +kernel
theorem dX0_addPossible_12 : decode cX0_addPossible 12 = .ok (.invokevirtual 93, 3) := by decide +kernel
theorem dX0_addPossible_15 : decode cX0_addPossible 15 = .ok (.istore 4, 2) := by decide +kernel
theorem dX0_addPossible_17 : decode cX0_addPossible 17 = .ok (.aload_n 0, 1) := by decide +kernel
theorem dX0_addPossible_18 : decode cX0_addPossible 18 = .ok (.aload_n 0, 1) := by decide +kernel
theorem dX0_addPossible_19 : decode cX0_addPossible 19 = .ok (.iload 4, 2) := by decide +kernel
theorem dX0_addPossible_21 : decode cX0_addPossible 21 = .ok (.invokevirtual 96, 3) := by decide +kernel
theorem dX0_addPossible_24 : decode cX0_addPossible 24 = .ok (.aload_n 0, 1) := by decide +kernel
theorem dX0_addPossible_25 : decode cX0_addPossible 25 = .ok (.iload_n 1, 1) := by decide +kernel
theorem dX0_addPossible_26 : decode cX0_addPossible 26 = .ok (.invokevirtual 87, 3) := by decide +kernel
theorem dX0_addPossible_29 : decode cX0_addPossible 29 = .ok (.invokevirtual 99, 3) := by decide +kernel
theorem dX0_addPossible_32 : decode cX0_addPossible 32 = .ok (.istore 5, 2) := by decide +kernel
theorem dX0_addPossible_34 : decode cX0_addPossible 34 = .ok (.aload_n 0, 1) := by decide +kernel
theorem dX0_addPossible_35 : decode cX0_addPossible 35 = .ok (.aload_n 0, 1) := by decide +kernel
theorem dX0_addPossible_36 : decode cX0_addPossible 36 = .ok (.iload_n 1, 1) := by decide +kernel
theorem dX0_addPossible_37 : decode cX0_addPossible 37 = .ok (.invokevirtual 96, 3) := by decide +kernel
theorem dX0_addPossible_40 : decode cX0_addPossible 40 = .ok (.aload_n 0, 1) := by decide +kernel
theorem dX0_addPossible_41 : decode cX0_addPossible 41 = .ok (.iload 4, 2) := by decide +kernel
theorem dX0_addPossible_43 : decode cX0_addPossible 43 = .ok (.invokevirtual 87, 3) := by decide +kernel
theorem dX0_addPossible_46 : decode cX0_addPossible 46 = .ok (.invokevirtual 99, 3) := by decide +kernel
theorem dX0_addPossible_49 : decode cX0_addPossible 49 = .ok (.istore 6, 2) := by decide +kernel
theorem dX0_addPossible_51 : decode cX0_addPossible 51 = .ok (.aload_n 0, 1) := by decide +kernel
theorem dX0_addPossible_52 : decode cX0_addPossible 52 = .ok (.iload 5, 2) := by decide +kernel
theorem dX0_addPossible_54 : decode cX0_addPossible 54 = .ok (.invokevirtual 102, 3) := by decide +kernel
theorem dX0_addPossible_57 : decode cX0_addPossible 57 = .ok (.ifCond .eq 24, 3) := by decide +kernel
theorem dX0_addPossible_60 : decode cX0_addPossible 60 = .ok (.aload_n 0, 1) := by decide +kernel
theorem dX0_addPossible_61 : decode cX0_addPossible 61 = .ok (.iload 6, 2) := by decide +kernel
theorem dX0_addPossible_63 : decode cX0_addPossible 63 = .ok (.invokevirtual 102, 3) := by decide +kernel
theorem dX0_addPossible_66 : decode cX0_addPossible 66 = .ok (.ifCond .ne 15, 3) := by decide +kernel
theorem dX0_addPossible_69 : decode cX0_addPossible 69 = .ok (.aload_n 0, 1) := by decide +kernel
theorem dX0_addPossible_70 : decode cX0_addPossible 70 = .ok (.getfield 19, 3) := by decide +kernel
theorem dX0_addPossible_73 : decode cX0_addPossible 73 = .ok (.iload 6, 2) := by decide +kernel
theorem dX0_addPossible_75 : decode cX0_addPossible 75 = .ok (.iconst 1, 1) := by decide +kernel
theorem dX0_addPossible_76 : decode cX0_addPossible 76 = .ok (.invokestatic 64, 3) := by decide +kernel
theorem dX0_addPossible_79 : decode cX0_addPossible 79 = .ok (.iconst 1, 1) := by decide +kernel
theorem dX0_addPossible_80 : decode cX0_addPossible 80 = .ok (.istore_n 2, 1) := by decide +kernel
theorem dX0_addPossible_81 : decode cX0_addPossible 81 = .ok (.iinc 3 1, 3) := by decide +kernel
theorem dX0_addPossible_84 : decode cX0_addPossible 84 = .ok (.goto (-80), 3) := by decide +kernel
theorem dX0_addPossible_87 : decode cX0_addPossible 87 = .ok (.iload_n 2, 1) := by decide +kernel
theorem dX0_addPossible_88 : decode cX0_addPossible 88 = .ok (.ireturn, 1) := by decide +kernel
theorem dX1_init_0 : decode cX1_init 0 = .ok (.aload_n 0, 1) := by decide +kernel
theorem dX1_init_1 : decode cX1_init 1 = .ok (.invokespecial 3, 3) := by decide +kernel
theorem dX1_init_4 : decode cX1_init 4 = .ok (.aload_n 0, 1) := by decide +kernel
theorem dX1_init_5 : decode cX1_init 5 = .ok (.bipush 16, 2) := by decide +kernel
theorem dX1_init_7 : decode cX1_init 7 = .ok (.newarray .long, 2) := by decide +kernel
theorem dX1_init_9 : decode cX1_init 9 = .ok (.putfield 9, 3) := by decide +kernel
theorem dX1_init_12 : decode cX1_init 12 = .ok (.aload_n 0, 1) := by decide +kernel
theorem dX1_init_13 : decode cX1_init 13 = .ok (.bipush 16, 2) := by decide +kernel
theorem dX1_init_15 : decode cX1_init 15 = .ok (.newarray .int, 2) := by decide +kernel
theorem dX1_init_17 : decode cX1_init 17 = .ok (.putfield 15, 3) := by decide +kernel
theorem dX1_init_20 : decode cX1_init 20 = .ok (.return_, 1) := by decide +kernel
theorem dX1_restart_0 : decode cX1_restart 0 = .ok (.iconst 0, 1) := by decide +kernel
theorem dX1_restart_1 : decode cX1_restart 1 = .ok (.istore_n 1, 1) := by decide +kernel
theorem dX1_restart_2 : decode cX1_restart 2 = .ok (.iload_n 1, 1) := by decide +kernel
theorem dX1_restart_3 : decode cX1_restart 3 = .ok (.bipush 16, 2) := by decide +kernel
theorem dX1_restart_5 : decode cX1_restart 5 = .ok (.if_icmp .ge 14, 3) := by decide +kernel
theorem dX1_restart_8 : decode cX1_restart 8 = .ok (.aload_n 0, 1) := by decide +kernel
theorem dX1_restart_9 : decode cX1_restart 9 = .ok (.iload_n 1, 1) := by decide +kernel
theorem dX1_restart_10 : decode cX1_restart 10 = .ok (.invokevirtual 19, 3) := by decide +kernel
theorem dX1_restart_13 : decode cX1_restart 13 = .ok (.iinc 1 1, 3) := by decide +kernel
theorem dX1_restart_16 : decode cX1_restart 16 = .ok (.goto (-14), 3) := by decide +kernel
theorem dX1_restart_19 : decode cX1_restart 19 = .ok (.return_, 1) := by decide +kernel
theorem dX1_restart__0 : decode cX1_restart_ 0 = .ok (.aload_n 0, 1) := by decide +kernel
theorem dX1_restart__1 : decode cX1_restart_ 1 = .ok (.getfield 9, 3) := by decide +kernel
theorem dX1_restart__4 : decode cX1_restart_ 4 = .ok (.iload_n 1, 1) := by decide +kernel
theorem dX1_restart__5 : decode cX1_restart_ 5 = .ok (.lconst 1, 1) := by decide +kernel
theorem dX1_restart__6 : decode cX1_restart_ 6 = .ok (.invokestatic 23, 3) := by decide +kernel
theorem dX1_restart__9 : decode cX1_restart_ 9 = .ok (.aload_n 0, 1) := by decide +kernel
theorem dX1_restart__10 : decode cX1_restart_ 10 = .ok (.getfield 15, 3) := by decide +kernel
theorem dX1_restart__13 : decode cX1_restart_ 13 = .ok (.iload_n 1, 1) := by decide +kernel
theorem dX1_restart__14 : decode cX1_restart_ 14 = .ok (.iconst 0, 1) := by decide +kernel
theorem dX1_restart__15 : decode cX1_restart_ 15 = .ok (.invokestatic 27, 3) := by decide +kernel
theorem dX1_restart__18 : decode cX1_restart_ 18 = .ok (.return_, 1) := by decide +kernel
theorem dX1_step_0 : decode cX1_step 0 = .ok (.aload_n 0, 1) := by decide +kernel
theorem dX1_step_1 : decode cX1_step 1 = .ok (.aload_n 1, 1) := by decide +kernel
theorem dX1_step_2 : decode cX1_step 2 = .ok (.iload_n 2, 1) := by decide +kernel
theorem dX1_step_3 : decode cX1_step 3 = .ok (.invokevirtual 31, 3) := by decide +kernel
theorem dX1_step_6 : decode cX1_step 6 = .ok (.ifCond .ne 42, 3) := by decide +kernel
theorem dX1_step_9 : decode cX1_step 9 = .ok (.aload_n 0, 1) := by decide +kernel
theorem dX1_step_10 : decode cX1_step 10 = .ok (.getfield 9, 3) := by decide +kernel
theorem dX1_step_13 : decode cX1_step 13 = .ok (.iload_n 2, 1) := by decide +kernel
theorem dX1_step_14 : decode cX1_step 14 = .ok (.aload_n 1, 1) := by decide +kernel
theorem dX1_step_15 : decode cX1_step 15 = .ok (.aload_n 0, 1) := by decide +kernel
theorem dX1_step_16 : decode cX1_step 16 = .ok (.getfield 9, 3) := by decide +kernel
theorem dX1_step_19 : decode cX1_step 19 = .ok (.iload_n 2, 1) := by decide +kernel
theorem dX1_step_20 : decode cX1_step 20 = .ok (.invokestatic 35, 3) := by decide +kernel
theorem dX1_step_23 : decode cX1_step 23 = .ok (.iload_n 3, 1) := by decide +kernel
theorem dX1_step_24 : decode cX1_step 24 = .ok (.invokestatic 39, 3) := by decide +kernel
theorem dX1_step_27 : decode cX1_step 27 = .ok (.invokestatic 23, 3) := by decide +kernel
theorem dX1_step_30 : decode cX1_step 30 = .ok (.aload_n 0, 1) := by decide +kernel
theorem dX1_step_31 : decode cX1_step 31 = .ok (.getfield 15, 3) := by decide +kernel
theorem dX1_step_34 : decode cX1_step 34 = .ok (.iload_n 2, 1) := by decide +kernel
theorem dX1_step_35 : decode cX1_step 35 = .ok (.aload_n 0, 1) := by decide +kernel
theorem dX1_step_36 : decode cX1_step 36 = .ok (.getfield 15, 3) := by decide +kernel
theorem dX1_step_39 : decode cX1_step 39 = .ok (.iload_n 2, 1) := by decide +kernel
theorem dX1_step_40 : decode cX1_step 40 = .ok (.invokestatic 43, 3) := by decide +kernel
theorem dX1_step_43 : decode cX1_step 43 = .ok (.iconst 1, 1) := by decide +kernel
theorem dX1_step_44 : decode cX1_step 44 = .ok (.iadd, 1) := by decide +kernel
theorem dX1_step_45 : decode cX1_step 45 = .ok (.invokestatic 27, 3) := by decide +kernel
theorem dX1_step_48 : decode cX1_step 48 = .ok (.aload_n 0, 1) := by decide +kernel
theorem dX1_step_49 : decode cX1_step 49 = .ok (.aload_n 1, 1) := by decide +kernel
theorem dX1_step_50 : decode cX1_step 50 = .ok (.iload_n 2, 1) := by decide +kernel
theorem dX1_step_51 : decode cX1_step 51 = .ok (.invokevirtual 47, 3) := by decide +kernel
theorem dX1_step_54 : decode cX1_step 54 = .ok (.ireturn, 1) := by decide +kernel
theorem dX1_lose_0 : decode cX1_lose 0 = .ok (.aload_n 0, 1) := by decide +kernel
theorem dX1_lose_1 : decode cX1_lose 1 = .ok (.getfield 9, 3) := by decide +kernel
theorem dX1_lose_4 : decode cX1_lose 4 = .ok (.iload_n 2, 1) := by decide +kernel
theorem dX1_lose_5 : decode cX1_lose 5 = .ok (.invokestatic 35, 3) := by decide +kernel
theorem dX1_lose_8 : decode cX1_lose 8 = .ok (.lstore 4, 2) := by decide +kernel
theorem dX1_lose_10 : decode cX1_lose 10 = .ok (.iconst 1, 1) := by decide +kernel
theorem dX1_lose_11 : decode cX1_lose 11 = .ok (.istore 6, 2) := by decide +kernel
theorem dX1_lose_13 : decode cX1_lose 13 = .ok (.iconst 0, 1) := by decide +kernel
theorem dX1_lose_14 : decode cX1_lose 14 = .ok (.istore 7, 2) := by decide +kernel
theorem dX1_lose_16 : decode cX1_lose 16 = .ok (.iload 7, 2) := by decide +kernel
theorem dX1_lose_18 : decode cX1_lose 18 = .ok (.iload_n 3, 1) := by decide +kernel
theorem dX1_lose_19 : decode cX1_lose 19 = .ok (.if_icmp .ge 65, 3) := by decide +kernel
theorem dX1_lose_22 : decode cX1_lose 22 = .ok (.iload 6, 2) := by decide +kernel
theorem dX1_lose_24 : decode cX1_lose 24 = .ok (.ifCond .eq 60, 3) := by decide +kernel
theorem dX1_lose_27 : decode cX1_lose 27 = .ok (.lload 4, 2) := by decide +kernel
theorem dX1_lose_29 : decode cX1_lose 29 = .ok (.lstore 8, 2) := by decide +kernel
theorem dX1_lose_31 : decode cX1_lose 31 = .ok (.iconst 0, 1) := by decide +kernel
theorem dX1_lose_32 : decode cX1_lose 32 = .ok (.istore 10, 2) := by decide +kernel
theorem dX1_lose_34 : decode cX1_lose 34 = .ok (.iload 10, 2) := by decide +kernel
theorem dX1_lose_36 : decode cX1_lose 36 = .ok (.iconst 4, 1) := by decide +kernel
theorem dX1_lose_37 : decode cX1_lose 37 = .ok (.if_icmp .ge 22, 3) := by decide +kernel
theorem dX1_lose_40 : decode cX1_lose 40 = .ok (.lload 8, 2) := by decide +kernel
theorem dX1_lose_42 : decode cX1_lose 42 = .ok (.aload_n 1, 1) := by decide +kernel
theorem dX1_lose_43 : decode cX1_lose 43 = .ok (.lload 4, 2) := by decide +kernel
theorem dX1_lose_45 : decode cX1_lose 45 = .ok (.iload 10, 2) := by decide +kernel
theorem dX1_lose_47 : decode cX1_lose 47 = .ok (.invokestatic 39, 3) := by decide +kernel
theorem dX1_lose_50 : decode cX1_lose 50 = .ok (.lor, 1) := by decide +kernel
theorem dX1_lose_51 : decode cX1_lose 51 = .ok (.lstore 8, 2) := by decide +kernel
theorem dX1_lose_53 : decode cX1_lose 53 = .ok (.iinc 10 1, 3) := by decide +kernel
theorem dX1_lose_56 : decode cX1_lose 56 = .ok (.goto (-22), 3) := by decide +kernel
theorem dX1_lose_59 : decode cX1_lose 59 = .ok (.lload 8, 2) := by decide +kernel
theorem dX1_lose_61 : decode cX1_lose 61 = .ok (.lload 4, 2) := by decide +kernel
theorem dX1_lose_63 : decode cX1_lose 63 = .ok (.lcmp, 1) := by decide +kernel
theorem dX1_lose_64 : decode cX1_lose 64 = .ok (.ifCond .eq 7, 3) := by decide +kernel
theorem dX1_lose_67 : decode cX1_lose 67 = .ok (.iconst 1, 1) := by decide +kernel
theorem dX1_lose_68 : decode cX1_lose 68 = .ok (.goto 4, 3) := by decide +kernel
theorem dX1_lose_71 : decode cX1_lose 71 = .ok (.iconst 0, 1) := by decide +kernel
theorem dX1_lose_72 : decode cX1_lose 72 = .ok (.istore 6, 2) := by decide +kernel
theorem dX1_lose_74 : decode cX1_lose 74 = .ok (.lload 8, 2) := by decide +kernel
theorem dX1_lose_76 : decode cX1_lose 76 = .ok (.lstore 4, 2) := by decide +kernel
theorem dX1_lose_78 : decode cX1_lose 78 = .ok (.iinc 7 1, 3) := by decide +kernel
theorem dX1_lose_81 : decode cX1_lose 81 = .ok (.goto (-65), 3) := by decide +kernel
theorem dX1_lose_84 : decode cX1_lose 84 = .ok (.aload_n 0, 1) := by decide +kernel
theorem dX1_lose_85 : decode cX1_lose 85 = .ok (.getfield 9, 3) := by decide +kernel
theorem dX1_lose_88 : decode cX1_lose 88 = .ok (.iload_n 2, 1) := by decide +kernel
theorem dX1_lose_89 : decode cX1_lose 89 = .ok (.lload 4, 2) := by decide +kernel
theorem dX1_lose_91 : decode cX1_lose 91 = .ok (.invokestatic 23, 3) := by decide +kernel
theorem dX1_lose_94 : decode cX1_lose 94 = .ok (.aload_n 0, 1) := by decide +kernel
theorem dX1_lose_95 : decode cX1_lose 95 = .ok (.aload_n 1, 1) := by decide +kernel
theorem dX1_lose_96 : decode cX1_lose 96 = .ok (.iload_n 2, 1) := by decide +kernel
theorem dX1_lose_97 : decode cX1_lose 97 = .ok (.invokevirtual 47, 3) := by decide +kernel
theorem dX1_lose_100 : decode cX1_lose 100 = .ok (.ireturn, 1) := by decide +kernel
theorem dX1_stepped_0 : decode cX1_stepped 0 = .ok (.lconst 0, 1) := by decide +kernel
theorem dX1_stepped_1 : decode cX1_stepped 1 = .ok (.lstore 4, 2) := by decide +kernel
theorem dX1_stepped_3 : decode cX1_stepped 3 = .ok (.iconst 0, 1) := by decide +kernel
theorem dX1_stepped_4 : decode cX1_stepped 4 = .ok (.istore 6, 2) := by decide +kernel
theorem dX1_stepped_6 : decode cX1_stepped 6 = .ok (.iload 6, 2) := by decide +kernel
theorem dX1_stepped_8 : decode cX1_stepped 8 = .ok (.aload_n 0, 1) := by decide +kernel
theorem dX1_stepped_9 : decode cX1_stepped 9 = .ok (.invokevirtual 51, 3) := by decide +kernel
theorem dX1_stepped_12 : decode cX1_stepped 12 = .ok (.if_icmp .ge 32, 3) := by decide +kernel
theorem dX1_stepped_15 : decode cX1_stepped 15 = .ok (.lload_n 1, 1) := by decide +kernel
theorem dX1_stepped_16 : decode cX1_stepped 16 = .ok (.iload 6, 2) := by decide +kernel
theorem dX1_stepped_18 : decode cX1_stepped 18 = .ok (.invokestatic 57, 3) := by decide +kernel
theorem dX1_stepped_21 : decode cX1_stepped 21 = .ok (.ifCond .eq 17, 3) := by decide +kernel
theorem dX1_stepped_24 : decode cX1_stepped 24 = .ok (.lload 4, 2) := by decide +kernel
theorem dX1_stepped_26 : decode cX1_stepped 26 = .ok (.lconst 1, 1) := by decide +kernel
theorem dX1_stepped_27 : decode cX1_stepped 27 = .ok (.aload_n 0, 1) := by decide +kernel
theorem dX1_stepped_28 : decode cX1_stepped 28 = .ok (.iload 6, 2) := by decide +kernel
theorem dX1_stepped_30 : decode cX1_stepped 30 = .ok (.iload_n 3, 1) := by decide +kernel
theorem dX1_stepped_31 : decode cX1_stepped 31 = .ok (.invokevirtual 61, 3) := by decide +kernel
theorem dX1_stepped_34 : decode cX1_stepped 34 = .ok (.lshl, 1) := by decide +kernel
theorem dX1_stepped_35 : decode cX1_stepped 35 = .ok (.lor, 1) := by decide +kernel
theorem dX1_stepped_36 : decode cX1_stepped 36 = .ok (.lstore 4, 2) := by decide +kernel
theorem dX1_stepped_38 : decode cX1_stepped 38 = .ok (.iinc 6 1, 3) := by decide +kernel
theorem dX1_stepped_41 : decode cX1_stepped 41 = .ok (.goto (-35), 3) := by decide +kernel
theorem dX1_stepped_44 : decode cX1_stepped 44 = .ok (.lload 4, 2) := by decide +kernel
theorem dX1_stepped_46 : decode cX1_stepped 46 = .ok (.lreturn, 1) := by decide +kernel
theorem dX1_verdictOf_0 : decode cX1_verdictOf 0 = .ok (.aload_n 0, 1) := by decide +kernel
theorem dX1_verdictOf_1 : decode cX1_verdictOf 1 = .ok (.getfield 9, 3) := by decide +kernel
theorem dX1_verdictOf_4 : decode cX1_verdictOf 4 = .ok (.iload_n 2, 1) := by decide +kernel
theorem dX1_verdictOf_5 : decode cX1_verdictOf 5 = .ok (.invokestatic 35, 3) := by decide +kernel
theorem dX1_verdictOf_8 : decode cX1_verdictOf 8 = .ok (.lstore_n 3, 1) := by decide +kernel
theorem dX1_verdictOf_9 : decode cX1_verdictOf 9 = .ok (.bipush (-9), 2) := by decide +kernel
theorem dX1_verdictOf_11 : decode cX1_verdictOf 11 = .ok (.istore 5, 2) := by decide +kernel
theorem dX1_verdictOf_13 : decode cX1_verdictOf 13 = .ok (.iconst 1, 1) := by decide +kernel
theorem dX1_verdictOf_14 : decode cX1_verdictOf 14 = .ok (.istore 6, 2) := by decide +kernel
theorem dX1_verdictOf_16 : decode cX1_verdictOf 16 = .ok (.iconst 0, 1) := by decide +kernel
theorem dX1_verdictOf_17 : decode cX1_verdictOf 17 = .ok (.istore 7, 2) := by decide +kernel
theorem dX1_verdictOf_19 : decode cX1_verdictOf 19 = .ok (.iconst 0, 1) := by decide +kernel
theorem dX1_verdictOf_20 : decode cX1_verdictOf 20 = .ok (.istore 8, 2) := by decide +kernel
theorem dX1_verdictOf_22 : decode cX1_verdictOf 22 = .ok (.iconst 0, 1) := by decide +kernel
theorem dX1_verdictOf_23 : decode cX1_verdictOf 23 = .ok (.istore 9, 2) := by decide +kernel
theorem dX1_verdictOf_25 : decode cX1_verdictOf 25 = .ok (.iload 9, 2) := by decide +kernel
theorem dX1_verdictOf_27 : decode cX1_verdictOf 27 = .ok (.aload_n 1, 1) := by decide +kernel
theorem dX1_verdictOf_28 : decode cX1_verdictOf 28 = .ok (.invokevirtual 51, 3) := by decide +kernel
theorem dX1_verdictOf_31 : decode cX1_verdictOf 31 = .ok (.if_icmp .ge 86, 3) := by decide +kernel
theorem dX1_verdictOf_34 : decode cX1_verdictOf 34 = .ok (.lload_n 3, 1) := by decide +kernel
theorem dX1_verdictOf_35 : decode cX1_verdictOf 35 = .ok (.iload 9, 2) := by decide +kernel
theorem dX1_verdictOf_37 : decode cX1_verdictOf 37 = .ok (.invokestatic 57, 3) := by decide +kernel
theorem dX1_verdictOf_40 : decode cX1_verdictOf 40 = .ok (.ifCond .eq 71, 3) := by decide +kernel
theorem dX1_verdictOf_43 : decode cX1_verdictOf 43 = .ok (.aload_n 1, 1) := by decide +kernel
theorem dX1_verdictOf_44 : decode cX1_verdictOf 44 = .ok (.iload 9, 2) := by decide +kernel
theorem dX1_verdictOf_46 : decode cX1_verdictOf 46 = .ok (.invokevirtual 65, 3) := by decide +kernel
theorem dX1_verdictOf_49 : decode cX1_verdictOf 49 = .ok (.istore 10, 2) := by decide +kernel
theorem dX1_verdictOf_51 : decode cX1_verdictOf 51 = .ok (.iload 6, 2) := by decide +kernel
theorem dX1_verdictOf_53 : decode cX1_verdictOf 53 = .ok (.ifCond .eq 21, 3) := by decide +kernel
theorem dX1_verdictOf_56 : decode cX1_verdictOf 56 = .ok (.iload 5, 2) := by decide +kernel
theorem dX1_verdictOf_58 : decode cX1_verdictOf 58 = .ok (.bipush (-9), 2) := by decide +kernel
theorem dX1_verdictOf_60 : decode cX1_verdictOf 60 = .ok (.if_icmp .eq 10, 3) := by decide +kernel
theorem dX1_verdictOf_63 : decode cX1_verdictOf 63 = .ok (.iload 5, 2) := by decide +kernel
theorem dX1_verdictOf_65 : decode cX1_verdictOf 65 = .ok (.iload 10, 2) := by decide +kernel
theorem dX1_verdictOf_67 : decode cX1_verdictOf 67 = .ok (.if_icmp .ne 7, 3) := by decide +kernel
theorem dX1_verdictOf_70 : decode cX1_verdictOf 70 = .ok (.iconst 1, 1) := by decide +kernel
theorem dX1_verdictOf_71 : decode cX1_verdictOf 71 = .ok (.goto 4, 3) := by decide +kernel
theorem dX1_verdictOf_74 : decode cX1_verdictOf 74 = .ok (.iconst 0, 1) := by decide +kernel
theorem dX1_verdictOf_75 : decode cX1_verdictOf 75 = .ok (.istore 6, 2) := by decide +kernel
theorem dX1_verdictOf_77 : decode cX1_verdictOf 77 = .ok (.iload 10, 2) := by decide +kernel
theorem dX1_verdictOf_79 : decode cX1_verdictOf 79 = .ok (.istore 5, 2) := by decide +kernel
theorem dX1_verdictOf_81 : decode cX1_verdictOf 81 = .ok (.iload 7, 2) := by decide +kernel
theorem dX1_verdictOf_83 : decode cX1_verdictOf 83 = .ok (.aload_n 1, 1) := by decide +kernel
theorem dX1_verdictOf_84 : decode cX1_verdictOf 84 = .ok (.iload 9, 2) := by decide +kernel
theorem dX1_verdictOf_86 : decode cX1_verdictOf 86 = .ok (.invokevirtual 68, 3) := by decide +kernel
theorem dX1_verdictOf_89 : decode cX1_verdictOf 89 = .ok (.ior, 1) := by decide +kernel
theorem dX1_verdictOf_90 : decode cX1_verdictOf 90 = .ok (.istore 7, 2) := by decide +kernel
theorem dX1_verdictOf_92 : decode cX1_verdictOf 92 = .ok (.iload 8, 2) := by decide +kernel
theorem dX1_verdictOf_94 : decode cX1_verdictOf 94 = .ok (.aload_n 1, 1) := by decide +kernel
theorem dX1_verdictOf_95 : decode cX1_verdictOf 95 = .ok (.iload 9, 2) := by decide +kernel
theorem dX1_verdictOf_97 : decode cX1_verdictOf 97 = .ok (.invokevirtual 68, 3) := by decide +kernel
theorem dX1_verdictOf_100 : decode cX1_verdictOf 100 = .ok (.ifCond .ne 7, 3) := by decide +kernel
theorem dX1_verdictOf_103 : decode cX1_verdictOf 103 = .ok (.iconst 1, 1) := by decide +kernel
theorem dX1_verdictOf_104 : decode cX1_verdictOf 104 = .ok (.goto 4, 3) := by decide +kernel
theorem dX1_verdictOf_107 : decode cX1_verdictOf 107 = .ok (.iconst 0, 1) := by decide +kernel
theorem dX1_verdictOf_108 : decode cX1_verdictOf 108 = .ok (.ior, 1) := by decide +kernel
theorem dX1_verdictOf_109 : decode cX1_verdictOf 109 = .ok (.istore 8, 2) := by decide +kernel
theorem dX1_verdictOf_111 : decode cX1_verdictOf 111 = .ok (.iinc 9 1, 3) := by decide +kernel
theorem dX1_verdictOf_114 : decode cX1_verdictOf 114 = .ok (.goto (-89), 3) := by decide +kernel
theorem dX1_verdictOf_117 : decode cX1_verdictOf 117 = .ok (.iload 6, 2) := by decide +kernel
theorem dX1_verdictOf_119 : decode cX1_verdictOf 119 = .ok (.ifCond .eq 6, 3) := by decide +kernel
theorem dX1_verdictOf_122 : decode cX1_verdictOf 122 = .ok (.iload 5, 2) := by decide +kernel
theorem dX1_verdictOf_124 : decode cX1_verdictOf 124 = .ok (.ireturn, 1) := by decide +kernel
theorem dX1_verdictOf_125 : decode cX1_verdictOf 125 = .ok (.iload 7, 2) := by decide +kernel
theorem dX1_verdictOf_127 : decode cX1_verdictOf 127 = .ok (.ifCond .eq 12, 3) := by decide +kernel
theorem dX1_verdictOf_130 : decode cX1_verdictOf 130 = .ok (.iload 8, 2) := by decide +kernel
theorem dX1_verdictOf_132 : decode cX1_verdictOf 132 = .ok (.ifCond .eq 7, 3) := by decide +kernel
theorem dX1_verdictOf_135 : decode cX1_verdictOf 135 = .ok (.iconst 4, 1) := by decide +kernel
theorem dX1_verdictOf_136 : decode cX1_verdictOf 136 = .ok (.goto 13, 3) := by decide +kernel
theorem dX1_verdictOf_139 : decode cX1_verdictOf 139 = .ok (.iload 7, 2) := by decide +kernel
theorem dX1_verdictOf_141 : decode cX1_verdictOf 141 = .ok (.ifCond .eq 7, 3) := by decide +kernel
theorem dX1_verdictOf_144 : decode cX1_verdictOf 144 = .ok (.iconst 1, 1) := by decide +kernel
theorem dX1_verdictOf_145 : decode cX1_verdictOf 145 = .ok (.goto 4, 3) := by decide +kernel
theorem dX1_verdictOf_148 : decode cX1_verdictOf 148 = .ok (.iconst 0, 1) := by decide +kernel
theorem dX1_verdictOf_149 : decode cX1_verdictOf 149 = .ok (.ireturn, 1) := by decide +kernel
theorem dX1_isLetGo_0 : decode cX1_isLetGo 0 = .ok (.aload_n 0, 1) := by decide +kernel
theorem dX1_isLetGo_1 : decode cX1_isLetGo 1 = .ok (.aload_n 1, 1) := by decide +kernel
theorem dX1_isLetGo_2 : decode cX1_isLetGo 2 = .ok (.iload_n 2, 1) := by decide +kernel
theorem dX1_isLetGo_3 : decode cX1_isLetGo 3 = .ok (.invokevirtual 47, 3) := by decide +kernel
theorem dX1_isLetGo_6 : decode cX1_isLetGo 6 = .ok (.istore_n 3, 1) := by decide +kernel
theorem dX1_isLetGo_7 : decode cX1_isLetGo 7 = .ok (.iload_n 3, 1) := by decide +kernel
theorem dX1_isLetGo_8 : decode cX1_isLetGo 8 = .ok (.iconst 2, 1) := by decide +kernel
theorem dX1_isLetGo_9 : decode cX1_isLetGo 9 = .ok (.if_icmp .eq 8, 3) := by decide +kernel
theorem dX1_isLetGo_12 : decode cX1_isLetGo 12 = .ok (.iload_n 3, 1) := by decide +kernel
theorem dX1_isLetGo_13 : decode cX1_isLetGo 13 = .ok (.iconst 3, 1) := by decide +kernel
theorem dX1_isLetGo_14 : decode cX1_isLetGo 14 = .ok (.if_icmp .ne 7, 3) := by decide +kernel
theorem dX1_isLetGo_17 : decode cX1_isLetGo 17 = .ok (.iconst 1, 1) := by decide +kernel
theorem dX1_isLetGo_18 : decode cX1_isLetGo 18 = .ok (.goto 4, 3) := by decide +kernel
theorem dX1_isLetGo_21 : decode cX1_isLetGo 21 = .ok (.iconst 0, 1) := by decide +kernel
theorem dX1_isLetGo_22 : decode cX1_isLetGo 22 = .ok (.ireturn, 1) := by decide +kernel
theorem dX1_letGo_0 : decode cX1_letGo 0 = .ok (.iconst 0, 1) := by decide +kernel
theorem dX1_letGo_1 : decode cX1_letGo 1 = .ok (.istore_n 2, 1) := by decide +kernel
theorem dX1_letGo_2 : decode cX1_letGo 2 = .ok (.iconst 0, 1) := by decide +kernel
theorem dX1_letGo_3 : decode cX1_letGo 3 = .ok (.istore_n 3, 1) := by decide +kernel
theorem dX1_letGo_4 : decode cX1_letGo 4 = .ok (.iload_n 3, 1) := by decide +kernel
theorem dX1_letGo_5 : decode cX1_letGo 5 = .ok (.bipush 16, 2) := by decide +kernel
theorem dX1_letGo_7 : decode cX1_letGo 7 = .ok (.if_icmp .ge 26, 3) := by decide +kernel
theorem dX1_letGo_10 : decode cX1_letGo 10 = .ok (.iload_n 2, 1) := by decide +kernel
theorem dX1_letGo_11 : decode cX1_letGo 11 = .ok (.aload_n 0, 1) := by decide +kernel
theorem dX1_letGo_12 : decode cX1_letGo 12 = .ok (.aload_n 1, 1) := by decide +kernel
theorem dX1_letGo_13 : decode cX1_letGo 13 = .ok (.iload_n 3, 1) := by decide +kernel
theorem dX1_letGo_14 : decode cX1_letGo 14 = .ok (.invokevirtual 31, 3) := by decide +kernel
theorem dX1_letGo_17 : decode cX1_letGo 17 = .ok (.ifCond .eq 7, 3) := by decide +kernel
theorem dX1_letGo_20 : decode cX1_letGo 20 = .ok (.iconst 1, 1) := by decide +kernel
theorem dX1_letGo_21 : decode cX1_letGo 21 = .ok (.goto 4, 3) := by decide +kernel
theorem dX1_letGo_24 : decode cX1_letGo 24 = .ok (.iconst 0, 1) := by decide +kernel
theorem dX1_letGo_25 : decode cX1_letGo 25 = .ok (.iadd, 1) := by decide +kernel
theorem dX1_letGo_26 : decode cX1_letGo 26 = .ok (.istore_n 2, 1) := by decide +kernel
theorem dX1_letGo_27 : decode cX1_letGo 27 = .ok (.iinc 3 1, 3) := by decide +kernel
theorem dX1_letGo_30 : decode cX1_letGo 30 = .ok (.goto (-26), 3) := by decide +kernel
theorem dX1_letGo_33 : decode cX1_letGo 33 = .ok (.iload_n 2, 1) := by decide +kernel
theorem dX1_letGo_34 : decode cX1_letGo 34 = .ok (.ireturn, 1) := by decide +kernel
theorem dX1_statesOf_0 : decode cX1_statesOf 0 = .ok (.aload_n 0, 1) := by decide +kernel
theorem dX1_statesOf_1 : decode cX1_statesOf 1 = .ok (.getfield 9, 3) := by decide +kernel
theorem dX1_statesOf_4 : decode cX1_statesOf 4 = .ok (.iload_n 1, 1) := by decide +kernel
theorem dX1_statesOf_5 : decode cX1_statesOf 5 = .ok (.invokestatic 35, 3) := by decide +kernel
theorem dX1_statesOf_8 : decode cX1_statesOf 8 = .ok (.invokestatic 72, 3) := by decide +kernel
theorem dX1_statesOf_11 : decode cX1_statesOf 11 = .ok (.ireturn, 1) := by decide +kernel
theorem dX1_stateAt_0 : decode cX1_stateAt 0 = .ok (.aload_n 0, 1) := by decide +kernel
theorem dX1_stateAt_1 : decode cX1_stateAt 1 = .ok (.getfield 9, 3) := by decide +kernel
theorem dX1_stateAt_4 : decode cX1_stateAt 4 = .ok (.iload_n 1, 1) := by decide +kernel
theorem dX1_stateAt_5 : decode cX1_stateAt 5 = .ok (.invokestatic 35, 3) := by decide +kernel
theorem dX1_stateAt_8 : decode cX1_stateAt 8 = .ok (.lstore_n 3, 1) := by decide +kernel
theorem dX1_stateAt_9 : decode cX1_stateAt 9 = .ok (.iload_n 2, 1) := by decide +kernel
theorem dX1_stateAt_10 : decode cX1_stateAt 10 = .ok (.istore 5, 2) := by decide +kernel
theorem dX1_stateAt_12 : decode cX1_stateAt 12 = .ok (.iconst 0, 1) := by decide +kernel
theorem dX1_stateAt_13 : decode cX1_stateAt 13 = .ok (.istore 6, 2) := by decide +kernel
theorem dX1_stateAt_15 : decode cX1_stateAt 15 = .ok (.iload 6, 2) := by decide +kernel
theorem dX1_stateAt_17 : decode cX1_stateAt 17 = .ok (.bipush 60, 2) := by decide +kernel
theorem dX1_stateAt_19 : decode cX1_stateAt 19 = .ok (.if_icmp .ge 29, 3) := by decide +kernel
theorem dX1_stateAt_22 : decode cX1_stateAt 22 = .ok (.lload_n 3, 1) := by decide +kernel
theorem dX1_stateAt_23 : decode cX1_stateAt 23 = .ok (.iload 6, 2) := by decide +kernel
theorem dX1_stateAt_25 : decode cX1_stateAt 25 = .ok (.invokestatic 57, 3) := by decide +kernel
theorem dX1_stateAt_28 : decode cX1_stateAt 28 = .ok (.ifCond .eq 14, 3) := by decide +kernel
theorem dX1_stateAt_31 : decode cX1_stateAt 31 = .ok (.iload 5, 2) := by decide +kernel
theorem dX1_stateAt_33 : decode cX1_stateAt 33 = .ok (.ifCond .ne 6, 3) := by decide +kernel
theorem dX1_stateAt_36 : decode cX1_stateAt 36 = .ok (.iload 6, 2) := by decide +kernel
theorem dX1_stateAt_38 : decode cX1_stateAt 38 = .ok (.ireturn, 1) := by decide +kernel
theorem dX1_stateAt_39 : decode cX1_stateAt 39 = .ok (.iinc 5 (-1), 3) := by decide +kernel
theorem dX1_stateAt_42 : decode cX1_stateAt 42 = .ok (.iinc 6 1, 3) := by decide +kernel
theorem dX1_stateAt_45 : decode cX1_stateAt 45 = .ok (.goto (-30), 3) := by decide +kernel
theorem dX1_stateAt_48 : decode cX1_stateAt 48 = .ok (.bipush (-9), 2) := by decide +kernel
theorem dX1_stateAt_50 : decode cX1_stateAt 50 = .ok (.ireturn, 1) := by decide +kernel
theorem dX1_eventsOf_0 : decode cX1_eventsOf 0 = .ok (.aload_n 0, 1) := by decide +kernel
theorem dX1_eventsOf_1 : decode cX1_eventsOf 1 = .ok (.getfield 15, 3) := by decide +kernel
theorem dX1_eventsOf_4 : decode cX1_eventsOf 4 = .ok (.iload_n 1, 1) := by decide +kernel
theorem dX1_eventsOf_5 : decode cX1_eventsOf 5 = .ok (.invokestatic 43, 3) := by decide +kernel
theorem dX1_eventsOf_8 : decode cX1_eventsOf 8 = .ok (.ireturn, 1) := by decide +kernel
theorem dX2_init_0 : decode cX2_init 0 = .ok (.aload_n 0, 1) := by decide +kernel
theorem dX2_init_1 : decode cX2_init 1 = .ok (.invokespecial 3, 3) := by decide +kernel
theorem dX2_init_4 : decode cX2_init 4 = .ok (.aload_n 0, 1) := by decide +kernel
theorem dX2_init_5 : decode cX2_init 5 = .ok (.sipush 1921, 3) := by decide +kernel
theorem dX2_init_8 : decode cX2_init 8 = .ok (.newarray .int, 2) := by decide +kernel
theorem dX2_init_10 : decode cX2_init 10 = .ok (.putfield 9, 3) := by decide +kernel
theorem dX2_init_13 : decode cX2_init 13 = .ok (.aload_n 0, 1) := by decide +kernel
theorem dX2_init_14 : decode cX2_init 14 = .ok (.sipush 1921, 3) := by decide +kernel
theorem dX2_init_17 : decode cX2_init 17 = .ok (.newarray .int, 2) := by decide +kernel
theorem dX2_init_19 : decode cX2_init 19 = .ok (.putfield 15, 3) := by decide +kernel
theorem dX2_init_22 : decode cX2_init 22 = .ok (.aload_n 0, 1) := by decide +kernel
theorem dX2_init_23 : decode cX2_init 23 = .ok (.bipush 60, 2) := by decide +kernel
theorem dX2_init_25 : decode cX2_init 25 = .ok (.newarray .int, 2) := by decide +kernel
theorem dX2_init_27 : decode cX2_init 27 = .ok (.putfield 18, 3) := by decide +kernel
theorem dX2_init_30 : decode cX2_init 30 = .ok (.aload_n 0, 1) := by decide +kernel
theorem dX2_init_31 : decode cX2_init 31 = .ok (.bipush 60, 2) := by decide +kernel
theorem dX2_init_33 : decode cX2_init 33 = .ok (.newarray .int, 2) := by decide +kernel
theorem dX2_init_35 : decode cX2_init 35 = .ok (.putfield 21, 3) := by decide +kernel
theorem dX2_init_38 : decode cX2_init 38 = .ok (.aload_n 0, 1) := by decide +kernel
theorem dX2_init_39 : decode cX2_init 39 = .ok (.bipush 60, 2) := by decide +kernel
theorem dX2_init_41 : decode cX2_init 41 = .ok (.newarray .int, 2) := by decide +kernel
theorem dX2_init_43 : decode cX2_init 43 = .ok (.putfield 24, 3) := by decide +kernel
theorem dX2_init_46 : decode cX2_init 46 = .ok (.aload_n 0, 1) := by decide +kernel
theorem dX2_init_47 : decode cX2_init 47 = .ok (.bipush 60, 2) := by decide +kernel
theorem dX2_init_49 : decode cX2_init 49 = .ok (.newarray .int, 2) := by decide +kernel
theorem dX2_init_51 : decode cX2_init 51 = .ok (.putfield 27, 3) := by decide +kernel
theorem dX2_init_54 : decode cX2_init 54 = .ok (.aload_n 0, 1) := by decide +kernel
theorem dX2_init_55 : decode cX2_init 55 = .ok (.iconst 0, 1) := by decide +kernel
theorem dX2_init_56 : decode cX2_init 56 = .ok (.putfield 30, 3) := by decide +kernel
theorem dX2_init_59 : decode cX2_init 59 = .ok (.return_, 1) := by decide +kernel
theorem dX2_lessen_0 : decode cX2_lessen 0 = .ok (.iconst 0, 1) := by decide +kernel
theorem dX2_lessen_1 : decode cX2_lessen 1 = .ok (.istore_n 2, 1) := by decide +kernel
theorem dX2_lessen_2 : decode cX2_lessen 2 = .ok (.iload_n 2, 1) := by decide +kernel
theorem dX2_lessen_3 : decode cX2_lessen 3 = .ok (.aload_n 1, 1) := by decide +kernel
theorem dX2_lessen_4 : decode cX2_lessen 4 = .ok (.invokevirtual 34, 3) := by decide +kernel
theorem dX2_lessen_7 : decode cX2_lessen 7 = .ok (.if_icmp .ge 30, 3) := by decide +kernel
theorem dX2_lessen_10 : decode cX2_lessen 10 = .ok (.aload_n 0, 1) := by decide +kernel
theorem dX2_lessen_11 : decode cX2_lessen 11 = .ok (.getfield 9, 3) := by decide +kernel
theorem dX2_lessen_14 : decode cX2_lessen 14 = .ok (.iload_n 2, 1) := by decide +kernel
theorem dX2_lessen_15 : decode cX2_lessen 15 = .ok (.aload_n 1, 1) := by decide +kernel
theorem dX2_lessen_16 : decode cX2_lessen 16 = .ok (.iload_n 2, 1) := by decide +kernel
theorem dX2_lessen_17 : decode cX2_lessen 17 = .ok (.invokevirtual 40, 3) := by decide +kernel
theorem dX2_lessen_20 : decode cX2_lessen 20 = .ok (.ifCond .eq 7, 3) := by decide +kernel
theorem dX2_lessen_23 : decode cX2_lessen 23 = .ok (.iconst 1, 1) := by decide +kernel
theorem dX2_lessen_24 : decode cX2_lessen 24 = .ok (.goto 4, 3) := by decide +kernel
theorem dX2_lessen_27 : decode cX2_lessen 27 = .ok (.iconst 0, 1) := by decide +kernel
theorem dX2_lessen_28 : decode cX2_lessen 28 = .ok (.invokestatic 44, 3) := by decide +kernel
theorem dX2_lessen_31 : decode cX2_lessen 31 = .ok (.iinc 2 1, 3) := by decide +kernel
theorem dX2_lessen_34 : decode cX2_lessen 34 = .ok (.goto (-32), 3) := by decide +kernel
theorem dX2_lessen_37 : decode cX2_lessen 37 = .ok (.aload_n 0, 1) := by decide +kernel
theorem dX2_lessen_38 : decode cX2_lessen 38 = .ok (.iconst 0, 1) := by decide +kernel
theorem dX2_lessen_39 : decode cX2_lessen 39 = .ok (.putfield 30, 3) := by decide +kernel
theorem dX2_lessen_42 : decode cX2_lessen 42 = .ok (.iconst 0, 1) := by decide +kernel
theorem dX2_lessen_43 : decode cX2_lessen 43 = .ok (.istore_n 2, 1) := by decide +kernel
theorem dX2_lessen_44 : decode cX2_lessen 44 = .ok (.iload_n 2, 1) := by decide +kernel
theorem dX2_lessen_45 : decode cX2_lessen 45 = .ok (.bipush 60, 2) := by decide +kernel
theorem dX2_lessen_47 : decode cX2_lessen 47 = .ok (.if_icmp .gt 34, 3) := by decide +kernel
theorem dX2_lessen_50 : decode cX2_lessen 50 = .ok (.aload_n 0, 1) := by decide +kernel
theorem dX2_lessen_51 : decode cX2_lessen 51 = .ok (.getfield 30, 3) := by decide +kernel
theorem dX2_lessen_54 : decode cX2_lessen 54 = .ok (.istore_n 3, 1) := by decide +kernel
theorem dX2_lessen_55 : decode cX2_lessen 55 = .ok (.aload_n 0, 1) := by decide +kernel
theorem dX2_lessen_56 : decode cX2_lessen 56 = .ok (.aload_n 1, 1) := by decide +kernel
theorem dX2_lessen_57 : decode cX2_lessen 57 = .ok (.invokevirtual 48, 3) := by decide +kernel
theorem dX2_lessen_60 : decode cX2_lessen 60 = .ok (.ifCond .ne 5, 3) := by decide +kernel
theorem dX2_lessen_63 : decode cX2_lessen 63 = .ok (.iconst 0, 1) := by decide +kernel
theorem dX2_lessen_64 : decode cX2_lessen 64 = .ok (.ireturn, 1) := by decide +kernel
theorem dX2_lessen_65 : decode cX2_lessen 65 = .ok (.aload_n 0, 1) := by decide +kernel
theorem dX2_lessen_66 : decode cX2_lessen 66 = .ok (.getfield 30, 3) := by decide +kernel
theorem dX2_lessen_69 : decode cX2_lessen 69 = .ok (.iload_n 3, 1) := by decide +kernel
theorem dX2_lessen_70 : decode cX2_lessen 70 = .ok (.if_icmp .ne 5, 3) := by decide +kernel
theorem dX2_lessen_73 : decode cX2_lessen 73 = .ok (.iconst 1, 1) := by decide +kernel
theorem dX2_lessen_74 : decode cX2_lessen 74 = .ok (.ireturn, 1) := by decide +kernel
theorem dX2_lessen_75 : decode cX2_lessen 75 = .ok (.iinc 2 1, 3) := by decide +kernel
theorem dX2_lessen_78 : decode cX2_lessen 78 = .ok (.goto (-34), 3) := by decide +kernel
theorem dX2_lessen_81 : decode cX2_lessen 81 = .ok (.iconst 1, 1) := by decide +kernel
theorem dX2_lessen_82 : decode cX2_lessen 82 = .ok (.ireturn, 1) := by decide +kernel
theorem dX2_split_0 : decode cX2_split 0 = .ok (.aload_n 0, 1) := by decide +kernel
theorem dX2_split_1 : decode cX2_split 1 = .ok (.iconst 0, 1) := by decide +kernel
theorem dX2_split_2 : decode cX2_split 2 = .ok (.putfield 30, 3) := by decide +kernel
theorem dX2_split_5 : decode cX2_split 5 = .ok (.iconst 0, 1) := by decide +kernel
theorem dX2_split_6 : decode cX2_split 6 = .ok (.istore_n 2, 1) := by decide +kernel
theorem dX2_split_7 : decode cX2_split 7 = .ok (.iload_n 2, 1) := by decide +kernel
theorem dX2_split_8 : decode cX2_split 8 = .ok (.aload_n 1, 1) := by decide +kernel
theorem dX2_split_9 : decode cX2_split 9 = .ok (.invokevirtual 34, 3) := by decide +kernel
theorem dX2_split_12 : decode cX2_split 12 = .ok (.if_icmp .ge 38, 3) := by decide +kernel
theorem dX2_split_15 : decode cX2_split 15 = .ok (.aload_n 0, 1) := by decide +kernel
theorem dX2_split_16 : decode cX2_split 16 = .ok (.aload_n 0, 1) := by decide +kernel
theorem dX2_split_17 : decode cX2_split 17 = .ok (.aload_n 1, 1) := by decide +kernel
theorem dX2_split_18 : decode cX2_split 18 = .ok (.iload_n 2, 1) := by decide +kernel
theorem dX2_split_19 : decode cX2_split 19 = .ok (.invokevirtual 52, 3) := by decide +kernel
theorem dX2_split_22 : decode cX2_split 22 = .ok (.iload_n 2, 1) := by decide +kernel
theorem dX2_split_23 : decode cX2_split 23 = .ok (.invokevirtual 56, 3) := by decide +kernel
theorem dX2_split_26 : decode cX2_split 26 = .ok (.istore_n 3, 1) := by decide +kernel
theorem dX2_split_27 : decode cX2_split 27 = .ok (.iload_n 3, 1) := by decide +kernel
theorem dX2_split_28 : decode cX2_split 28 = .ok (.bipush (-9), 2) := by decide +kernel
theorem dX2_split_30 : decode cX2_split 30 = .ok (.if_icmp .ne 5, 3) := by decide +kernel
theorem dX2_split_33 : decode cX2_split 33 = .ok (.iconst 0, 1) := by decide +kernel
theorem dX2_split_34 : decode cX2_split 34 = .ok (.ireturn, 1) := by decide +kernel
theorem dX2_split_35 : decode cX2_split 35 = .ok (.aload_n 0, 1) := by decide +kernel
theorem dX2_split_36 : decode cX2_split 36 = .ok (.getfield 15, 3) := by decide +kernel
theorem dX2_split_39 : decode cX2_split 39 = .ok (.iload_n 2, 1) := by decide +kernel
theorem dX2_split_40 : decode cX2_split 40 = .ok (.iload_n 3, 1) := by decide +kernel
theorem dX2_split_41 : decode cX2_split 41 = .ok (.invokestatic 44, 3) := by decide +kernel
theorem dX2_split_44 : decode cX2_split 44 = .ok (.iinc 2 1, 3) := by decide +kernel
theorem dX2_split_47 : decode cX2_split 47 = .ok (.goto (-40), 3) := by decide +kernel
theorem dX2_split_50 : decode cX2_split 50 = .ok (.aload_n 0, 1) := by decide +kernel
theorem dX2_split_51 : decode cX2_split 51 = .ok (.getfield 9, 3) := by decide +kernel
theorem dX2_split_54 : decode cX2_split 54 = .ok (.astore_n 2, 1) := by decide +kernel
theorem dX2_split_55 : decode cX2_split 55 = .ok (.aload_n 0, 1) := by decide +kernel
theorem dX2_split_56 : decode cX2_split 56 = .ok (.aload_n 0, 1) := by decide +kernel
theorem dX2_split_57 : decode cX2_split 57 = .ok (.getfield 15, 3) := by decide +kernel
theorem dX2_split_60 : decode cX2_split 60 = .ok (.putfield 9, 3) := by decide +kernel
theorem dX2_split_63 : decode cX2_split 63 = .ok (.aload_n 0, 1) := by decide +kernel
theorem dX2_split_64 : decode cX2_split 64 = .ok (.aload_n 2, 1) := by decide +kernel
theorem dX2_split_65 : decode cX2_split 65 = .ok (.putfield 15, 3) := by decide +kernel
theorem dX2_split_68 : decode cX2_split 68 = .ok (.iconst 1, 1) := by decide +kernel
theorem dX2_split_69 : decode cX2_split 69 = .ok (.ireturn, 1) := by decide +kernel
theorem dX2_markOf_0 : decode cX2_markOf 0 = .ok (.aload_n 0, 1) := by decide +kernel
theorem dX2_markOf_1 : decode cX2_markOf 1 = .ok (.getfield 9, 3) := by decide +kernel
theorem dX2_markOf_4 : decode cX2_markOf 4 = .ok (.iload_n 2, 1) := by decide +kernel
theorem dX2_markOf_5 : decode cX2_markOf 5 = .ok (.invokestatic 60, 3) := by decide +kernel
theorem dX2_markOf_8 : decode cX2_markOf 8 = .ok (.istore_n 3, 1) := by decide +kernel
theorem dX2_markOf_9 : decode cX2_markOf 9 = .ok (.iconst 0, 1) := by decide +kernel
theorem dX2_markOf_10 : decode cX2_markOf 10 = .ok (.istore 4, 2) := by decide +kernel
theorem dX2_markOf_12 : decode cX2_markOf 12 = .ok (.iload 4, 2) := by decide +kernel
theorem dX2_markOf_14 : decode cX2_markOf 14 = .ok (.iconst 4, 1) := by decide +kernel
theorem dX2_markOf_15 : decode cX2_markOf 15 = .ok (.if_icmp .ge 29, 3) := by decide +kernel
theorem dX2_markOf_18 : decode cX2_markOf 18 = .ok (.iload_n 3, 1) := by decide +kernel
theorem dX2_markOf_19 : decode cX2_markOf 19 = .ok (.bipush 6, 2) := by decide +kernel
theorem dX2_markOf_21 : decode cX2_markOf 21 = .ok (.ishl, 1) := by decide +kernel
theorem dX2_markOf_22 : decode cX2_markOf 22 = .ok (.aload_n 0, 1) := by decide +kernel
theorem dX2_markOf_23 : decode cX2_markOf 23 = .ok (.getfield 9, 3) := by decide +kernel
theorem dX2_markOf_26 : decode cX2_markOf 26 = .ok (.aload_n 1, 1) := by decide +kernel
theorem dX2_markOf_27 : decode cX2_markOf 27 = .ok (.iload_n 2, 1) := by decide +kernel
theorem dX2_markOf_28 : decode cX2_markOf 28 = .ok (.iload 4, 2) := by decide +kernel
theorem dX2_markOf_30 : decode cX2_markOf 30 = .ok (.invokevirtual 64, 3) := by decide +kernel
theorem dX2_markOf_33 : decode cX2_markOf 33 = .ok (.invokestatic 60, 3) := by decide +kernel
theorem dX2_markOf_36 : decode cX2_markOf 36 = .ok (.ior, 1) := by decide +kernel
theorem dX2_markOf_37 : decode cX2_markOf 37 = .ok (.istore_n 3, 1) := by decide +kernel
theorem dX2_markOf_38 : decode cX2_markOf 38 = .ok (.iinc 4 1, 3) := by decide +kernel
theorem dX2_markOf_41 : decode cX2_markOf 41 = .ok (.goto (-29), 3) := by decide +kernel
theorem dX2_markOf_44 : decode cX2_markOf 44 = .ok (.iload_n 3, 1) := by decide +kernel
theorem dX2_markOf_45 : decode cX2_markOf 45 = .ok (.ireturn, 1) := by decide +kernel
theorem dX2_groupOfMark_0 : decode cX2_groupOfMark 0 = .ok (.iconst 0, 1) := by decide +kernel
theorem dX2_groupOfMark_1 : decode cX2_groupOfMark 1 = .ok (.istore_n 3, 1) := by decide +kernel
theorem dX2_groupOfMark_2 : decode cX2_groupOfMark 2 = .ok (.iload_n 3, 1) := by decide +kernel
theorem dX2_groupOfMark_3 : decode cX2_groupOfMark 3 = .ok (.aload_n 0, 1) := by decide +kernel
theorem dX2_groupOfMark_4 : decode cX2_groupOfMark 4 = .ok (.getfield 30, 3) := by decide +kernel
theorem dX2_groupOfMark_7 : decode cX2_groupOfMark 7 = .ok (.if_icmp .ge 23, 3) := by decide +kernel
theorem dX2_groupOfMark_10 : decode cX2_groupOfMark 10 = .ok (.aload_n 0, 1) := by decide +kernel
theorem dX2_groupOfMark_11 : decode cX2_groupOfMark 11 = .ok (.getfield 18, 3) := by decide +kernel
theorem dX2_groupOfMark_14 : decode cX2_groupOfMark 14 = .ok (.iload_n 3, 1) := by decide +kernel
theorem dX2_groupOfMark_15 : decode cX2_groupOfMark 15 = .ok (.invokestatic 60, 3) := by decide +kernel
theorem dX2_groupOfMark_18 : decode cX2_groupOfMark 18 = .ok (.iload_n 1, 1) := by decide +kernel
theorem dX2_groupOfMark_19 : decode cX2_groupOfMark 19 = .ok (.if_icmp .ne 5, 3) := by decide +kernel
theorem dX2_groupOfMark_22 : decode cX2_groupOfMark 22 = .ok (.iload_n 3, 1) := by decide +kernel
theorem dX2_groupOfMark_23 : decode cX2_groupOfMark 23 = .ok (.ireturn, 1) := by decide +kernel
theorem dX2_groupOfMark_24 : decode cX2_groupOfMark 24 = .ok (.iinc 3 1, 3) := by decide +kernel
theorem dX2_groupOfMark_27 : decode cX2_groupOfMark 27 = .ok (.goto (-25), 3) := by decide +kernel
theorem dX2_groupOfMark_30 : decode cX2_groupOfMark 30 = .ok (.aload_n 0, 1) := by decide +kernel
theorem dX2_groupOfMark_31 : decode cX2_groupOfMark 31 = .ok (.getfield 30, 3) := by decide +kernel
theorem dX2_groupOfMark_34 : decode cX2_groupOfMark 34 = .ok (.bipush 60, 2) := by decide +kernel
theorem dX2_groupOfMark_36 : decode cX2_groupOfMark 36 = .ok (.if_icmp .lt 6, 3) := by decide +kernel
theorem dX2_groupOfMark_39 : decode cX2_groupOfMark 39 = .ok (.bipush (-9), 2) := by decide +kernel
theorem dX2_groupOfMark_41 : decode cX2_groupOfMark 41 = .ok (.ireturn, 1) := by decide +kernel
theorem dX2_groupOfMark_42 : decode cX2_groupOfMark 42 = .ok (.aload_n 0, 1) := by decide +kernel
theorem dX2_groupOfMark_43 : decode cX2_groupOfMark 43 = .ok (.getfield 18, 3) := by decide +kernel
theorem dX2_groupOfMark_46 : decode cX2_groupOfMark 46 = .ok (.aload_n 0, 1) := by decide +kernel
theorem dX2_groupOfMark_47 : decode cX2_groupOfMark 47 = .ok (.getfield 30, 3) := by decide +kernel
theorem dX2_groupOfMark_50 : decode cX2_groupOfMark 50 = .ok (.iload_n 1, 1) := by decide +kernel
theorem dX2_groupOfMark_51 : decode cX2_groupOfMark 51 = .ok (.invokestatic 44, 3) := by decide +kernel
theorem dX2_groupOfMark_54 : decode cX2_groupOfMark 54 = .ok (.aload_n 0, 1) := by decide +kernel
theorem dX2_groupOfMark_55 : decode cX2_groupOfMark 55 = .ok (.getfield 21, 3) := by decide +kernel
theorem dX2_groupOfMark_58 : decode cX2_groupOfMark 58 = .ok (.aload_n 0, 1) := by decide +kernel
theorem dX2_groupOfMark_59 : decode cX2_groupOfMark 59 = .ok (.getfield 30, 3) := by decide +kernel
theorem dX2_groupOfMark_62 : decode cX2_groupOfMark 62 = .ok (.iload_n 2, 1) := by decide +kernel
theorem dX2_groupOfMark_63 : decode cX2_groupOfMark 63 = .ok (.invokestatic 44, 3) := by decide +kernel
theorem dX2_groupOfMark_66 : decode cX2_groupOfMark 66 = .ok (.aload_n 0, 1) := by decide +kernel
theorem dX2_groupOfMark_67 : decode cX2_groupOfMark 67 = .ok (.dup, 1) := by decide +kernel
theorem dX2_groupOfMark_68 : decode cX2_groupOfMark 68 = .ok (.getfield 30, 3) := by decide +kernel
theorem dX2_groupOfMark_71 : decode cX2_groupOfMark 71 = .ok (.iconst 1, 1) := by decide +kernel
theorem dX2_groupOfMark_72 : decode cX2_groupOfMark 72 = .ok (.iadd, 1) := by decide +kernel
theorem dX2_groupOfMark_73 : decode cX2_groupOfMark 73 = .ok (.putfield 30, 3) := by decide +kernel
theorem dX2_groupOfMark_76 : decode cX2_groupOfMark 76 = .ok (.aload_n 0, 1) := by decide +kernel
theorem dX2_groupOfMark_77 : decode cX2_groupOfMark 77 = .ok (.getfield 30, 3) := by decide +kernel
theorem dX2_groupOfMark_80 : decode cX2_groupOfMark 80 = .ok (.iconst 1, 1) := by decide +kernel
theorem dX2_groupOfMark_81 : decode cX2_groupOfMark 81 = .ok (.isub, 1) := by decide +kernel
theorem dX2_groupOfMark_82 : decode cX2_groupOfMark 82 = .ok (.ireturn, 1) := by decide +kernel
theorem dX2_putInto_0 : decode cX2_putInto 0 = .ok (.iconst 0, 1) := by decide +kernel
theorem dX2_putInto_1 : decode cX2_putInto 1 = .ok (.istore_n 3, 1) := by decide +kernel
theorem dX2_putInto_2 : decode cX2_putInto 2 = .ok (.iload_n 3, 1) := by decide +kernel
theorem dX2_putInto_3 : decode cX2_putInto 3 = .ok (.aload_n 0, 1) := by decide +kernel
theorem dX2_putInto_4 : decode cX2_putInto 4 = .ok (.getfield 30, 3) := by decide +kernel
theorem dX2_putInto_7 : decode cX2_putInto 7 = .ok (.if_icmp .ge 19, 3) := by decide +kernel
theorem dX2_putInto_10 : decode cX2_putInto 10 = .ok (.aload_n 0, 1) := by decide +kernel
theorem dX2_putInto_11 : decode cX2_putInto 11 = .ok (.getfield 24, 3) := by decide +kernel
theorem dX2_putInto_14 : decode cX2_putInto 14 = .ok (.iload_n 3, 1) := by decide +kernel
theorem dX2_putInto_15 : decode cX2_putInto 15 = .ok (.bipush (-9), 2) := by decide +kernel
theorem dX2_putInto_17 : decode cX2_putInto 17 = .ok (.invokestatic 44, 3) := by decide +kernel
theorem dX2_putInto_20 : decode cX2_putInto 20 = .ok (.iinc 3 1, 3) := by decide +kernel
theorem dX2_putInto_23 : decode cX2_putInto 23 = .ok (.goto (-21), 3) := by decide +kernel
theorem dX2_putInto_26 : decode cX2_putInto 26 = .ok (.aload_n 1, 1) := by decide +kernel
theorem dX2_putInto_27 : decode cX2_putInto 27 = .ok (.invokevirtual 67, 3) := by decide +kernel
theorem dX2_putInto_30 : decode cX2_putInto 30 = .ok (.aload_n 0, 1) := by decide +kernel
theorem dX2_putInto_31 : decode cX2_putInto 31 = .ok (.aload_n 1, 1) := by decide +kernel
theorem dX2_putInto_32 : decode cX2_putInto 32 = .ok (.aload_n 2, 1) := by decide +kernel
theorem dX2_putInto_33 : decode cX2_putInto 33 = .ok (.aload_n 0, 1) := by decide +kernel
theorem dX2_putInto_34 : decode cX2_putInto 34 = .ok (.getfield 9, 3) := by decide +kernel
theorem dX2_putInto_37 : decode cX2_putInto 37 = .ok (.iconst 0, 1) := by decide +kernel
theorem dX2_putInto_38 : decode cX2_putInto 38 = .ok (.invokestatic 60, 3) := by decide +kernel
theorem dX2_putInto_41 : decode cX2_putInto 41 = .ok (.invokevirtual 72, 3) := by decide +kernel
theorem dX2_putInto_44 : decode cX2_putInto 44 = .ok (.pop, 1) := by decide +kernel
theorem dX2_putInto_45 : decode cX2_putInto 45 = .ok (.iconst 0, 1) := by decide +kernel
theorem dX2_putInto_46 : decode cX2_putInto 46 = .ok (.istore_n 3, 1) := by decide +kernel
theorem dX2_putInto_47 : decode cX2_putInto 47 = .ok (.iload_n 3, 1) := by decide +kernel
theorem dX2_putInto_48 : decode cX2_putInto 48 = .ok (.aload_n 1, 1) := by decide +kernel
theorem dX2_putInto_49 : decode cX2_putInto 49 = .ok (.invokevirtual 76, 3) := by decide +kernel
theorem dX2_putInto_52 : decode cX2_putInto 52 = .ok (.if_icmp .ge 79, 3) := by decide +kernel
theorem dX2_putInto_55 : decode cX2_putInto 55 = .ok (.iload_n 3, 1) := by decide +kernel
theorem dX2_putInto_56 : decode cX2_putInto 56 = .ok (.bipush 60, 2) := by decide +kernel
theorem dX2_putInto_58 : decode cX2_putInto 58 = .ok (.if_icmp .ge 73, 3) := by decide +kernel
theorem dX2_putInto_61 : decode cX2_putInto 61 = .ok (.aload_n 0, 1) := by decide +kernel
theorem dX2_putInto_62 : decode cX2_putInto 62 = .ok (.getfield 21, 3) := by decide +kernel
theorem dX2_putInto_65 : decode cX2_putInto 65 = .ok (.aload_n 0, 1) := by decide +kernel
theorem dX2_putInto_66 : decode cX2_putInto 66 = .ok (.getfield 27, 3) := by decide +kernel
theorem dX2_putInto_69 : decode cX2_putInto 69 = .ok (.iload_n 3, 1) := by decide +kernel
theorem dX2_putInto_70 : decode cX2_putInto 70 = .ok (.invokestatic 60, 3) := by decide +kernel
theorem dX2_putInto_73 : decode cX2_putInto 73 = .ok (.invokestatic 60, 3) := by decide +kernel
theorem dX2_putInto_76 : decode cX2_putInto 76 = .ok (.istore 4, 2) := by decide +kernel
theorem dX2_putInto_78 : decode cX2_putInto 78 = .ok (.iconst 0, 1) := by decide +kernel
theorem dX2_putInto_79 : decode cX2_putInto 79 = .ok (.istore 5, 2) := by decide +kernel
theorem dX2_putInto_81 : decode cX2_putInto 81 = .ok (.iload 5, 2) := by decide +kernel
theorem dX2_putInto_83 : decode cX2_putInto 83 = .ok (.iconst 4, 1) := by decide +kernel
theorem dX2_putInto_84 : decode cX2_putInto 84 = .ok (.if_icmp .ge 41, 3) := by decide +kernel
theorem dX2_putInto_87 : decode cX2_putInto 87 = .ok (.aload_n 0, 1) := by decide +kernel
theorem dX2_putInto_88 : decode cX2_putInto 88 = .ok (.getfield 9, 3) := by decide +kernel
theorem dX2_putInto_91 : decode cX2_putInto 91 = .ok (.aload_n 2, 1) := by decide +kernel
theorem dX2_putInto_92 : decode cX2_putInto 92 = .ok (.iload 4, 2) := by decide +kernel
theorem dX2_putInto_94 : decode cX2_putInto 94 = .ok (.iload 5, 2) := by decide +kernel
theorem dX2_putInto_96 : decode cX2_putInto 96 = .ok (.invokevirtual 64, 3) := by decide +kernel
theorem dX2_putInto_99 : decode cX2_putInto 99 = .ok (.invokestatic 60, 3) := by decide +kernel
theorem dX2_putInto_102 : decode cX2_putInto 102 = .ok (.istore 6, 2) := by decide +kernel
theorem dX2_putInto_104 : decode cX2_putInto 104 = .ok (.aload_n 1, 1) := by decide +kernel
theorem dX2_putInto_105 : decode cX2_putInto 105 = .ok (.iload_n 3, 1) := by decide +kernel
theorem dX2_putInto_106 : decode cX2_putInto 106 = .ok (.iload 5, 2) := by decide +kernel
theorem dX2_putInto_108 : decode cX2_putInto 108 = .ok (.aload_n 0, 1) := by decide +kernel
theorem dX2_putInto_109 : decode cX2_putInto 109 = .ok (.aload_n 1, 1) := by decide +kernel
theorem dX2_putInto_110 : decode cX2_putInto 110 = .ok (.aload_n 2, 1) := by decide +kernel
theorem dX2_putInto_111 : decode cX2_putInto 111 = .ok (.iload 6, 2) := by decide +kernel
theorem dX2_putInto_113 : decode cX2_putInto 113 = .ok (.invokevirtual 72, 3) := by decide +kernel
theorem dX2_putInto_116 : decode cX2_putInto 116 = .ok (.invokevirtual 77, 3) := by decide +kernel
theorem dX2_putInto_119 : decode cX2_putInto 119 = .ok (.iinc 5 1, 3) := by decide +kernel
theorem dX2_putInto_122 : decode cX2_putInto 122 = .ok (.goto (-41), 3) := by decide +kernel
theorem dX2_putInto_125 : decode cX2_putInto 125 = .ok (.iinc 3 1, 3) := by decide +kernel
theorem dX2_putInto_128 : decode cX2_putInto 128 = .ok (.goto (-81), 3) := by decide +kernel
theorem dX2_putInto_131 : decode cX2_putInto 131 = .ok (.aload_n 1, 1) := by decide +kernel
theorem dX2_putInto_132 : decode cX2_putInto 132 = .ok (.invokevirtual 81, 3) := by decide +kernel
theorem dX2_putInto_135 : decode cX2_putInto 135 = .ok (.return_, 1) := by decide +kernel
theorem dX2_meet_0 : decode cX2_meet 0 = .ok (.aload_n 0, 1) := by decide +kernel
theorem dX2_meet_1 : decode cX2_meet 1 = .ok (.getfield 24, 3) := by decide +kernel
theorem dX2_meet_4 : decode cX2_meet 4 = .ok (.iload_n 3, 1) := by decide +kernel
theorem dX2_meet_5 : decode cX2_meet 5 = .ok (.invokestatic 60, 3) := by decide +kernel
theorem dX2_meet_8 : decode cX2_meet 8 = .ok (.istore 4, 2) := by decide +kernel
theorem dX2_meet_10 : decode cX2_meet 10 = .ok (.iload 4, 2) := by decide +kernel
theorem dX2_meet_12 : decode cX2_meet 12 = .ok (.bipush (-9), 2) := by decide +kernel
theorem dX2_meet_14 : decode cX2_meet 14 = .ok (.if_icmp .ne 41, 3) := by decide +kernel
theorem dX2_meet_17 : decode cX2_meet 17 = .ok (.aload_n 1, 1) := by decide +kernel
theorem dX2_meet_18 : decode cX2_meet 18 = .ok (.aload_n 2, 1) := by decide +kernel
theorem dX2_meet_19 : decode cX2_meet 19 = .ok (.aload_n 0, 1) := by decide +kernel
theorem dX2_meet_20 : decode cX2_meet 20 = .ok (.getfield 21, 3) := by decide +kernel
theorem dX2_meet_23 : decode cX2_meet 23 = .ok (.iload_n 3, 1) := by decide +kernel
theorem dX2_meet_24 : decode cX2_meet 24 = .ok (.invokestatic 60, 3) := by decide +kernel
theorem dX2_meet_27 : decode cX2_meet 27 = .ok (.invokevirtual 40, 3) := by decide +kernel
theorem dX2_meet_30 : decode cX2_meet 30 = .ok (.invokevirtual 84, 3) := by decide +kernel
theorem dX2_meet_33 : decode cX2_meet 33 = .ok (.istore 4, 2) := by decide +kernel
theorem dX2_meet_35 : decode cX2_meet 35 = .ok (.aload_n 0, 1) := by decide +kernel
theorem dX2_meet_36 : decode cX2_meet 36 = .ok (.getfield 24, 3) := by decide +kernel
theorem dX2_meet_39 : decode cX2_meet 39 = .ok (.iload_n 3, 1) := by decide +kernel
theorem dX2_meet_40 : decode cX2_meet 40 = .ok (.iload 4, 2) := by decide +kernel
theorem dX2_meet_42 : decode cX2_meet 42 = .ok (.invokestatic 44, 3) := by decide +kernel
theorem dX2_meet_45 : decode cX2_meet 45 = .ok (.aload_n 0, 1) := by decide +kernel
theorem dX2_meet_46 : decode cX2_meet 46 = .ok (.getfield 27, 3) := by decide +kernel
theorem dX2_meet_49 : decode cX2_meet 49 = .ok (.iload 4, 2) := by decide +kernel
theorem dX2_meet_51 : decode cX2_meet 51 = .ok (.iload_n 3, 1) := by decide +kernel
theorem dX2_meet_52 : decode cX2_meet 52 = .ok (.invokestatic 44, 3) := by decide +kernel
theorem dX2_meet_55 : decode cX2_meet 55 = .ok (.iload 4, 2) := by decide +kernel
theorem dX2_meet_57 : decode cX2_meet 57 = .ok (.ireturn, 1) := by decide +kernel
theorem dX3_init_0 : decode cX3_init 0 = .ok (.aload_n 0, 1) := by decide +kernel
theorem dX3_init_1 : decode cX3_init 1 = .ok (.invokespecial 3, 3) := by decide +kernel
theorem dX3_init_4 : decode cX3_init 4 = .ok (.aload_n 0, 1) := by decide +kernel
theorem dX3_init_5 : decode cX3_init 5 = .ok (.sipush 3600, 3) := by decide +kernel
theorem dX3_init_8 : decode cX3_init 8 = .ok (.newarray .int, 2) := by decide +kernel
theorem dX3_init_10 : decode cX3_init 10 = .ok (.putfield 9, 3) := by decide +kernel
theorem dX3_init_13 : decode cX3_init 13 = .ok (.aload_n 0, 1) := by decide +kernel
theorem dX3_init_14 : decode cX3_init 14 = .ok (.sipush 3600, 3) := by decide +kernel
theorem dX3_init_17 : decode cX3_init 17 = .ok (.newarray .int, 2) := by decide +kernel
theorem dX3_init_19 : decode cX3_init 19 = .ok (.putfield 15, 3) := by decide +kernel
theorem dX3_init_22 : decode cX3_init 22 = .ok (.aload_n 0, 1) := by decide +kernel
theorem dX3_init_23 : decode cX3_init 23 = .ok (.iconst 0, 1) := by decide +kernel
theorem dX3_init_24 : decode cX3_init 24 = .ok (.putfield 18, 3) := by decide +kernel
theorem dX3_init_27 : decode cX3_init 27 = .ok (.aload_n 0, 1) := by decide +kernel
theorem dX3_init_28 : decode cX3_init 28 = .ok (.iconst 0, 1) := by decide +kernel
theorem dX3_init_29 : decode cX3_init 29 = .ok (.putfield 22, 3) := by decide +kernel
theorem dX3_init_32 : decode cX3_init 32 = .ok (.aload_n 0, 1) := by decide +kernel
theorem dX3_init_33 : decode cX3_init 33 = .ok (.iconst 0, 1) := by decide +kernel
theorem dX3_init_34 : decode cX3_init 34 = .ok (.putfield 26, 3) := by decide +kernel
theorem dX3_init_37 : decode cX3_init 37 = .ok (.aload_n 0, 1) := by decide +kernel
theorem dX3_init_38 : decode cX3_init 38 = .ok (.iconst 0, 1) := by decide +kernel
theorem dX3_init_39 : decode cX3_init 39 = .ok (.putfield 29, 3) := by decide +kernel
theorem dX3_init_42 : decode cX3_init 42 = .ok (.aload_n 0, 1) := by decide +kernel
theorem dX3_init_43 : decode cX3_init 43 = .ok (.bipush (-9), 2) := by decide +kernel
theorem dX3_init_45 : decode cX3_init 45 = .ok (.putfield 32, 3) := by decide +kernel
theorem dX3_init_48 : decode cX3_init 48 = .ok (.return_, 1) := by decide +kernel
theorem dX3_meet_0 : decode cX3_meet 0 = .ok (.iconst 0, 1) := by decide +kernel
theorem dX3_meet_1 : decode cX3_meet 1 = .ok (.istore_n 3, 1) := by decide +kernel
theorem dX3_meet_2 : decode cX3_meet 2 = .ok (.iload_n 3, 1) := by decide +kernel
theorem dX3_meet_3 : decode cX3_meet 3 = .ok (.aload_n 1, 1) := by decide +kernel
theorem dX3_meet_4 : decode cX3_meet 4 = .ok (.invokevirtual 35, 3) := by decide +kernel
theorem dX3_meet_7 : decode cX3_meet 7 = .ok (.bipush 60, 2) := by decide +kernel
theorem dX3_meet_9 : decode cX3_meet 9 = .ok (.imul, 1) := by decide +kernel
theorem dX3_meet_10 : decode cX3_meet 10 = .ok (.if_icmp .ge 19, 3) := by decide +kernel
theorem dX3_meet_13 : decode cX3_meet 13 = .ok (.aload_n 0, 1) := by decide +kernel
theorem dX3_meet_14 : decode cX3_meet 14 = .ok (.getfield 9, 3) := by decide +kernel
theorem dX3_meet_17 : decode cX3_meet 17 = .ok (.iload_n 3, 1) := by decide +kernel
theorem dX3_meet_18 : decode cX3_meet 18 = .ok (.bipush (-9), 2) := by decide +kernel
theorem dX3_meet_20 : decode cX3_meet 20 = .ok (.invokestatic 41, 3) := by decide +kernel
theorem dX3_meet_23 : decode cX3_meet 23 = .ok (.iinc 3 1, 3) := by decide +kernel
theorem dX3_meet_26 : decode cX3_meet 26 = .ok (.goto (-24), 3) := by decide +kernel
theorem dX3_meet_29 : decode cX3_meet 29 = .ok (.aload_n 0, 1) := by decide +kernel
theorem dX3_meet_30 : decode cX3_meet 30 = .ok (.iconst 0, 1) := by decide +kernel
theorem dX3_meet_31 : decode cX3_meet 31 = .ok (.putfield 18, 3) := by decide +kernel
theorem dX3_meet_34 : decode cX3_meet 34 = .ok (.aload_n 0, 1) := by decide +kernel
theorem dX3_meet_35 : decode cX3_meet 35 = .ok (.iconst 0, 1) := by decide +kernel
theorem dX3_meet_36 : decode cX3_meet 36 = .ok (.putfield 22, 3) := by decide +kernel
theorem dX3_meet_39 : decode cX3_meet 39 = .ok (.aload_n 0, 1) := by decide +kernel
theorem dX3_meet_40 : decode cX3_meet 40 = .ok (.iconst 0, 1) := by decide +kernel
theorem dX3_meet_41 : decode cX3_meet 41 = .ok (.putfield 26, 3) := by decide +kernel
theorem dX3_meet_44 : decode cX3_meet 44 = .ok (.aload_n 0, 1) := by decide +kernel
theorem dX3_meet_45 : decode cX3_meet 45 = .ok (.iconst 0, 1) := by decide +kernel
theorem dX3_meet_46 : decode cX3_meet 46 = .ok (.putfield 29, 3) := by decide +kernel
theorem dX3_meet_49 : decode cX3_meet 49 = .ok (.aload_n 0, 1) := by decide +kernel
theorem dX3_meet_50 : decode cX3_meet 50 = .ok (.bipush (-9), 2) := by decide +kernel
theorem dX3_meet_52 : decode cX3_meet 52 = .ok (.putfield 32, 3) := by decide +kernel
theorem dX3_meet_55 : decode cX3_meet 55 = .ok (.aload_n 0, 1) := by decide +kernel
theorem dX3_meet_56 : decode cX3_meet 56 = .ok (.aload_n 1, 1) := by decide +kernel
theorem dX3_meet_57 : decode cX3_meet 57 = .ok (.aload_n 2, 1) := by decide +kernel
theorem dX3_meet_58 : decode cX3_meet 58 = .ok (.iconst 0, 1) := by decide +kernel
theorem dX3_meet_59 : decode cX3_meet 59 = .ok (.iconst 1, 1) := by decide +kernel
theorem dX3_meet_60 : decode cX3_meet 60 = .ok (.invokevirtual 45, 3) := by decide +kernel
theorem dX3_meet_63 : decode cX3_meet 63 = .ok (.iconst 0, 1) := by decide +kernel
theorem dX3_meet_64 : decode cX3_meet 64 = .ok (.istore_n 3, 1) := by decide +kernel
theorem dX3_meet_65 : decode cX3_meet 65 = .ok (.iload_n 3, 1) := by decide +kernel
theorem dX3_meet_66 : decode cX3_meet 66 = .ok (.aload_n 0, 1) := by decide +kernel
theorem dX3_meet_67 : decode cX3_meet 67 = .ok (.getfield 18, 3) := by decide +kernel
theorem dX3_meet_70 : decode cX3_meet 70 = .ok (.if_icmp .ge 47, 3) := by decide +kernel
theorem dX3_meet_73 : decode cX3_meet 73 = .ok (.iload_n 3, 1) := by decide +kernel
theorem dX3_meet_74 : decode cX3_meet 74 = .ok (.aload_n 0, 1) := by decide +kernel
theorem dX3_meet_75 : decode cX3_meet 75 = .ok (.getfield 15, 3) := by decide +kernel
theorem dX3_meet_78 : decode cX3_meet 78 = .ok (.arraylength, 1) := by decide +kernel
theorem dX3_meet_79 : decode cX3_meet 79 = .ok (.if_icmp .ge 38, 3) := by decide +kernel
theorem dX3_meet_82 : decode cX3_meet 82 = .ok (.aload_n 0, 1) := by decide +kernel
theorem dX3_meet_83 : decode cX3_meet 83 = .ok (.getfield 15, 3) := by decide +kernel
theorem dX3_meet_86 : decode cX3_meet 86 = .ok (.iload_n 3, 1) := by decide +kernel
theorem dX3_meet_87 : decode cX3_meet 87 = .ok (.invokestatic 49, 3) := by decide +kernel
theorem dX3_meet_90 : decode cX3_meet 90 = .ok (.istore 4, 2) := by decide +kernel
theorem dX3_meet_92 : decode cX3_meet 92 = .ok (.aload_n 0, 1) := by decide +kernel
theorem dX3_meet_93 : decode cX3_meet 93 = .ok (.aload_n 1, 1) := by decide +kernel
theorem dX3_meet_94 : decode cX3_meet 94 = .ok (.aload_n 2, 1) := by decide +kernel
theorem dX3_meet_95 : decode cX3_meet 95 = .ok (.iload 4, 2) := by decide +kernel
theorem dX3_meet_97 : decode cX3_meet 97 = .ok (.aload_n 0, 1) := by decide +kernel
theorem dX3_meet_98 : decode cX3_meet 98 = .ok (.getfield 9, 3) := by decide +kernel
theorem dX3_meet_101 : decode cX3_meet 101 = .ok (.iload 4, 2) := by decide +kernel
theorem dX3_meet_103 : decode cX3_meet 103 = .ok (.invokestatic 49, 3) := by decide +kernel
theorem dX3_meet_106 : decode cX3_meet 106 = .ok (.iconst 1, 1) := by decide +kernel
theorem dX3_meet_107 : decode cX3_meet 107 = .ok (.iadd, 1) := by decide +kernel
theorem dX3_meet_108 : decode cX3_meet 108 = .ok (.invokevirtual 45, 3) := by decide +kernel
theorem dX3_meet_111 : decode cX3_meet 111 = .ok (.iinc 3 1, 3) := by decide +kernel
theorem dX3_meet_114 : decode cX3_meet 114 = .ok (.goto (-49), 3) := by decide +kernel
theorem dX3_meet_117 : decode cX3_meet 117 = .ok (.return_, 1) := by decide +kernel
theorem dX3_walk_0 : decode cX3_walk 0 = .ok (.iconst 0, 1) := by decide +kernel
theorem dX3_walk_1 : decode cX3_walk 1 = .ok (.istore 5, 2) := by decide +kernel
theorem dX3_walk_3 : decode cX3_walk 3 = .ok (.iload 5, 2) := by decide +kernel
theorem dX3_walk_5 : decode cX3_walk 5 = .ok (.iconst 4, 1) := by decide +kernel
theorem dX3_walk_6 : decode cX3_walk 6 = .ok (.if_icmp .ge 109, 3) := by decide +kernel
theorem dX3_walk_9 : decode cX3_walk 9 = .ok (.aload_n 1, 1) := by decide +kernel
theorem dX3_walk_10 : decode cX3_walk 10 = .ok (.iload_n 3, 1) := by decide +kernel
theorem dX3_walk_11 : decode cX3_walk 11 = .ok (.bipush 60, 2) := by decide +kernel
theorem dX3_walk_13 : decode cX3_walk 13 = .ok (.idiv, 1) := by decide +kernel
theorem dX3_walk_14 : decode cX3_walk 14 = .ok (.iload 5, 2) := by decide +kernel
theorem dX3_walk_16 : decode cX3_walk 16 = .ok (.invokevirtual 53, 3) := by decide +kernel
theorem dX3_walk_19 : decode cX3_walk 19 = .ok (.istore 6, 2) := by decide +kernel
theorem dX3_walk_21 : decode cX3_walk 21 = .ok (.aload_n 2, 1) := by decide +kernel
theorem dX3_walk_22 : decode cX3_walk 22 = .ok (.iload_n 3, 1) := by decide +kernel
theorem dX3_walk_23 : decode cX3_walk 23 = .ok (.bipush 60, 2) := by decide +kernel
theorem dX3_walk_25 : decode cX3_walk 25 = .ok (.irem, 1) := by decide +kernel
theorem dX3_walk_26 : decode cX3_walk 26 = .ok (.iload 5, 2) := by decide +kernel
theorem dX3_walk_28 : decode cX3_walk 28 = .ok (.invokevirtual 53, 3) := by decide +kernel
theorem dX3_walk_31 : decode cX3_walk 31 = .ok (.istore 7, 2) := by decide +kernel
theorem dX3_walk_33 : decode cX3_walk 33 = .ok (.iload 6, 2) := by decide +kernel
theorem dX3_walk_35 : decode cX3_walk 35 = .ok (.bipush 60, 2) := by decide +kernel
theorem dX3_walk_37 : decode cX3_walk 37 = .ok (.imul, 1) := by decide +kernel
theorem dX3_walk_38 : decode cX3_walk 38 = .ok (.iload 7, 2) := by decide +kernel
theorem dX3_walk_40 : decode cX3_walk 40 = .ok (.iadd, 1) := by decide +kernel
theorem dX3_walk_41 : decode cX3_walk 41 = .ok (.istore 8, 2) := by decide +kernel
theorem dX3_walk_43 : decode cX3_walk 43 = .ok (.aload_n 0, 1) := by decide +kernel
theorem dX3_walk_44 : decode cX3_walk 44 = .ok (.getfield 9, 3) := by decide +kernel
theorem dX3_walk_47 : decode cX3_walk 47 = .ok (.iload 8, 2) := by decide +kernel
theorem dX3_walk_49 : decode cX3_walk 49 = .ok (.invokestatic 49, 3) := by decide +kernel
theorem dX3_walk_52 : decode cX3_walk 52 = .ok (.bipush (-9), 2) := by decide +kernel
theorem dX3_walk_54 : decode cX3_walk 54 = .ok (.if_icmp .ne 55, 3) := by decide +kernel
theorem dX3_walk_57 : decode cX3_walk 57 = .ok (.aload_n 0, 1) := by decide +kernel
theorem dX3_walk_58 : decode cX3_walk 58 = .ok (.getfield 9, 3) := by decide +kernel
theorem dX3_walk_61 : decode cX3_walk 61 = .ok (.iload 8, 2) := by decide +kernel
theorem dX3_walk_63 : decode cX3_walk 63 = .ok (.iload 4, 2) := by decide +kernel
theorem dX3_walk_65 : decode cX3_walk 65 = .ok (.invokestatic 41, 3) := by decide +kernel
theorem dX3_walk_68 : decode cX3_walk 68 = .ok (.aload_n 0, 1) := by decide +kernel
theorem dX3_walk_69 : decode cX3_walk 69 = .ok (.getfield 15, 3) := by decide +kernel
theorem dX3_walk_72 : decode cX3_walk 72 = .ok (.aload_n 0, 1) := by decide +kernel
theorem dX3_walk_73 : decode cX3_walk 73 = .ok (.getfield 18, 3) := by decide +kernel
theorem dX3_walk_76 : decode cX3_walk 76 = .ok (.iload 8, 2) := by decide +kernel
theorem dX3_walk_78 : decode cX3_walk 78 = .ok (.invokestatic 41, 3) := by decide +kernel
theorem dX3_walk_81 : decode cX3_walk 81 = .ok (.aload_n 0, 1) := by decide +kernel
theorem dX3_walk_82 : decode cX3_walk 82 = .ok (.dup, 1) := by decide +kernel
theorem dX3_walk_83 : decode cX3_walk 83 = .ok (.getfield 18, 3) := by decide +kernel
theorem dX3_walk_86 : decode cX3_walk 86 = .ok (.iconst 1, 1) := by decide +kernel
theorem dX3_walk_87 : decode cX3_walk 87 = .ok (.iadd, 1) := by decide +kernel
theorem dX3_walk_88 : decode cX3_walk 88 = .ok (.putfield 18, 3) := by decide +kernel
theorem dX3_walk_91 : decode cX3_walk 91 = .ok (.aload_n 0, 1) := by decide +kernel
theorem dX3_walk_92 : decode cX3_walk 92 = .ok (.aload_n 1, 1) := by decide +kernel
theorem dX3_walk_93 : decode cX3_walk 93 = .ok (.iload 6, 2) := by decide +kernel
theorem dX3_walk_95 : decode cX3_walk 95 = .ok (.invokevirtual 57, 3) := by decide +kernel
theorem dX3_walk_98 : decode cX3_walk 98 = .ok (.aload_n 2, 1) := by decide +kernel
theorem dX3_walk_99 : decode cX3_walk 99 = .ok (.iload 7, 2) := by decide +kernel
theorem dX3_walk_101 : decode cX3_walk 101 = .ok (.invokevirtual 57, 3) := by decide +kernel
theorem dX3_walk_104 : decode cX3_walk 104 = .ok (.iload 4, 2) := by decide +kernel
theorem dX3_walk_106 : decode cX3_walk 106 = .ok (.invokevirtual 61, 3) := by decide +kernel
theorem dX3_walk_109 : decode cX3_walk 109 = .ok (.iinc 5 1, 3) := by decide +kernel
theorem dX3_walk_112 : decode cX3_walk 112 = .ok (.goto (-109), 3) := by decide +kernel
theorem dX3_walk_115 : decode cX3_walk 115 = .ok (.return_, 1) := by decide +kernel
theorem dX3_look_0 : decode cX3_look 0 = .ok (.aload_n 0, 1) := by decide +kernel
theorem dX3_look_1 : decode cX3_look 1 = .ok (.dup, 1) := by decide +kernel
theorem dX3_look_2 : decode cX3_look 2 = .ok (.getfield 22, 3) := by decide +kernel
theorem dX3_look_5 : decode cX3_look 5 = .ok (.iload_n 1, 1) := by decide +kernel
theorem dX3_look_6 : decode cX3_look 6 = .ok (.ifCond .eq 11, 3) := by decide +kernel
theorem dX3_look_9 : decode cX3_look 9 = .ok (.iload_n 2, 1) := by decide +kernel
theorem dX3_look_10 : decode cX3_look 10 = .ok (.ifCond .eq 7, 3) := by decide +kernel
theorem dX3_look_13 : decode cX3_look 13 = .ok (.iconst 1, 1) := by decide +kernel
theorem dX3_look_14 : decode cX3_look 14 = .ok (.goto 4, 3) := by decide +kernel
theorem dX3_look_17 : decode cX3_look 17 = .ok (.iconst 0, 1) := by decide +kernel
theorem dX3_look_18 : decode cX3_look 18 = .ok (.ior, 1) := by decide +kernel
theorem dX3_look_19 : decode cX3_look 19 = .ok (.putfield 22, 3) := by decide +kernel
theorem dX3_look_22 : decode cX3_look 22 = .ok (.aload_n 0, 1) := by decide +kernel
theorem dX3_look_23 : decode cX3_look 23 = .ok (.dup, 1) := by decide +kernel
theorem dX3_look_24 : decode cX3_look 24 = .ok (.getfield 26, 3) := by decide +kernel
theorem dX3_look_27 : decode cX3_look 27 = .ok (.iload_n 1, 1) := by decide +kernel
theorem dX3_look_28 : decode cX3_look 28 = .ok (.ifCond .eq 11, 3) := by decide +kernel
theorem dX3_look_31 : decode cX3_look 31 = .ok (.iload_n 2, 1) := by decide +kernel
theorem dX3_look_32 : decode cX3_look 32 = .ok (.ifCond .ne 7, 3) := by decide +kernel
theorem dX3_look_35 : decode cX3_look 35 = .ok (.iconst 1, 1) := by decide +kernel
theorem dX3_look_36 : decode cX3_look 36 = .ok (.goto 4, 3) := by decide +kernel
theorem dX3_look_39 : decode cX3_look 39 = .ok (.iconst 0, 1) := by decide +kernel
theorem dX3_look_40 : decode cX3_look 40 = .ok (.ior, 1) := by decide +kernel
theorem dX3_look_41 : decode cX3_look 41 = .ok (.putfield 26, 3) := by decide +kernel
theorem dX3_look_44 : decode cX3_look 44 = .ok (.aload_n 0, 1) := by decide +kernel
theorem dX3_look_45 : decode cX3_look 45 = .ok (.dup, 1) := by decide +kernel
theorem dX3_look_46 : decode cX3_look 46 = .ok (.getfield 29, 3) := by decide +kernel
theorem dX3_look_49 : decode cX3_look 49 = .ok (.iload_n 2, 1) := by decide +kernel
theorem dX3_look_50 : decode cX3_look 50 = .ok (.ifCond .eq 11, 3) := by decide +kernel
theorem dX3_look_53 : decode cX3_look 53 = .ok (.iload_n 1, 1) := by decide +kernel
theorem dX3_look_54 : decode cX3_look 54 = .ok (.ifCond .ne 7, 3) := by decide +kernel
theorem dX3_look_57 : decode cX3_look 57 = .ok (.iconst 1, 1) := by decide +kernel
theorem dX3_look_58 : decode cX3_look 58 = .ok (.goto 4, 3) := by decide +kernel
theorem dX3_look_61 : decode cX3_look 61 = .ok (.iconst 0, 1) := by decide +kernel
theorem dX3_look_62 : decode cX3_look 62 = .ok (.ior, 1) := by decide +kernel
theorem dX3_look_63 : decode cX3_look 63 = .ok (.putfield 29, 3) := by decide +kernel
theorem dX3_look_66 : decode cX3_look 66 = .ok (.iload_n 1, 1) := by decide +kernel
theorem dX3_look_67 : decode cX3_look 67 = .ok (.iload_n 2, 1) := by decide +kernel
theorem dX3_look_68 : decode cX3_look 68 = .ok (.if_icmp .eq 17, 3) := by decide +kernel
theorem dX3_look_71 : decode cX3_look 71 = .ok (.aload_n 0, 1) := by decide +kernel
theorem dX3_look_72 : decode cX3_look 72 = .ok (.getfield 32, 3) := by decide +kernel
theorem dX3_look_75 : decode cX3_look 75 = .ok (.bipush (-9), 2) := by decide +kernel
theorem dX3_look_77 : decode cX3_look 77 = .ok (.if_icmp .ne 8, 3) := by decide +kernel
theorem dX3_look_80 : decode cX3_look 80 = .ok (.aload_n 0, 1) := by decide +kernel
theorem dX3_look_81 : decode cX3_look 81 = .ok (.iload_n 3, 1) := by decide +kernel
theorem dX3_look_82 : decode cX3_look 82 = .ok (.putfield 32, 3) := by decide +kernel
theorem dX3_look_85 : decode cX3_look 85 = .ok (.return_, 1) := by decide +kernel
theorem dX3_shortestApart_0 : decode cX3_shortestApart 0 = .ok (.aload_n 0, 1) := by decide +kernel
theorem dX3_shortestApart_1 : decode cX3_shortestApart 1 = .ok (.getfield 32, 3) := by decide +kernel
theorem dX3_shortestApart_4 : decode cX3_shortestApart 4 = .ok (.ireturn, 1) := by decide +kernel
theorem dX3_relation_0 : decode cX3_relation 0 = .ok (.aload_n 0, 1) := by decide +kernel
theorem dX3_relation_1 : decode cX3_relation 1 = .ok (.getfield 26, 3) := by decide +kernel
theorem dX3_relation_4 : decode cX3_relation 4 = .ok (.ifCond .ne 12, 3) := by decide +kernel
theorem dX3_relation_7 : decode cX3_relation 7 = .ok (.aload_n 0, 1) := by decide +kernel
theorem dX3_relation_8 : decode cX3_relation 8 = .ok (.getfield 29, 3) := by decide +kernel
theorem dX3_relation_11 : decode cX3_relation 11 = .ok (.ifCond .ne 5, 3) := by decide +kernel
theorem dX3_relation_14 : decode cX3_relation 14 = .ok (.iconst 1, 1) := by decide +kernel
theorem dX3_relation_15 : decode cX3_relation 15 = .ok (.ireturn, 1) := by decide +kernel
theorem dX3_relation_16 : decode cX3_relation 16 = .ok (.aload_n 0, 1) := by decide +kernel
theorem dX3_relation_17 : decode cX3_relation 17 = .ok (.getfield 22, 3) := by decide +kernel
theorem dX3_relation_20 : decode cX3_relation 20 = .ok (.ifCond .ne 5, 3) := by decide +kernel
theorem dX3_relation_23 : decode cX3_relation 23 = .ok (.iconst 2, 1) := by decide +kernel
theorem dX3_relation_24 : decode cX3_relation 24 = .ok (.ireturn, 1) := by decide +kernel
theorem dX3_relation_25 : decode cX3_relation 25 = .ok (.aload_n 0, 1) := by decide +kernel
theorem dX3_relation_26 : decode cX3_relation 26 = .ok (.getfield 26, 3) := by decide +kernel
theorem dX3_relation_29 : decode cX3_relation 29 = .ok (.ifCond .ne 5, 3) := by decide +kernel
theorem dX3_relation_32 : decode cX3_relation 32 = .ok (.iconst 3, 1) := by decide +kernel
theorem dX3_relation_33 : decode cX3_relation 33 = .ok (.ireturn, 1) := by decide +kernel
theorem dX3_relation_34 : decode cX3_relation 34 = .ok (.aload_n 0, 1) := by decide +kernel
theorem dX3_relation_35 : decode cX3_relation 35 = .ok (.getfield 29, 3) := by decide +kernel
theorem dX3_relation_38 : decode cX3_relation 38 = .ok (.ifCond .eq 7, 3) := by decide +kernel
theorem dX3_relation_41 : decode cX3_relation 41 = .ok (.iconst 0, 1) := by decide +kernel
theorem dX3_relation_42 : decode cX3_relation 42 = .ok (.goto 4, 3) := by decide +kernel
theorem dX3_relation_45 : decode cX3_relation 45 = .ok (.iconst 4, 1) := by decide +kernel
theorem dX3_relation_46 : decode cX3_relation 46 = .ok (.ireturn, 1) := by decide +kernel
theorem dX4_init_0 : decode cX4_init 0 = .ok (.aload_n 0, 1) := by decide +kernel
theorem dX4_init_1 : decode cX4_init 1 = .ok (.invokespecial 3, 3) := by decide +kernel
theorem dX4_init_4 : decode cX4_init 4 = .ok (.aload_n 0, 1) := by decide +kernel
theorem dX4_init_5 : decode cX4_init 5 = .ok (.sipush 1921, 3) := by decide +kernel
theorem dX4_init_8 : decode cX4_init 8 = .ok (.newarray .int, 2) := by decide +kernel
theorem dX4_init_10 : decode cX4_init 10 = .ok (.putfield 9, 3) := by decide +kernel
theorem dX4_init_13 : decode cX4_init 13 = .ok (.aload_n 0, 1) := by decide +kernel
theorem dX4_init_14 : decode cX4_init 14 = .ok (.sipush 7684, 3) := by decide +kernel
theorem dX4_init_17 : decode cX4_init 17 = .ok (.newarray .long, 2) := by decide +kernel
theorem dX4_init_19 : decode cX4_init 19 = .ok (.putfield 15, 3) := by decide +kernel
theorem dX4_init_22 : decode cX4_init 22 = .ok (.aload_n 0, 1) := by decide +kernel
theorem dX4_init_23 : decode cX4_init 23 = .ok (.sipush 7684, 3) := by decide +kernel
theorem dX4_init_26 : decode cX4_init 26 = .ok (.newarray .int, 2) := by decide +kernel
theorem dX4_init_28 : decode cX4_init 28 = .ok (.putfield 19, 3) := by decide +kernel
theorem dX4_init_31 : decode cX4_init 31 = .ok (.aload_n 0, 1) := by decide +kernel
theorem dX4_init_32 : decode cX4_init 32 = .ok (.sipush 1921, 3) := by decide +kernel
theorem dX4_init_35 : decode cX4_init 35 = .ok (.newarray .boolean, 2) := by decide +kernel
theorem dX4_init_37 : decode cX4_init 37 = .ok (.putfield 22, 3) := by decide +kernel
theorem dX4_init_40 : decode cX4_init 40 = .ok (.aload_n 0, 1) := by decide +kernel
theorem dX4_init_41 : decode cX4_init 41 = .ok (.sipush 256, 3) := by decide +kernel
theorem dX4_init_44 : decode cX4_init 44 = .ok (.newarray .int, 2) := by decide +kernel
theorem dX4_init_46 : decode cX4_init 46 = .ok (.putfield 26, 3) := by decide +kernel
theorem dX4_init_49 : decode cX4_init 49 = .ok (.aload_n 0, 1) := by decide +kernel
theorem dX4_init_50 : decode cX4_init 50 = .ok (.sipush 1921, 3) := by decide +kernel
theorem dX4_init_53 : decode cX4_init 53 = .ok (.newarray .int, 2) := by decide +kernel
theorem dX4_init_55 : decode cX4_init 55 = .ok (.putfield 29, 3) := by decide +kernel
theorem dX4_init_58 : decode cX4_init 58 = .ok (.aload_n 0, 1) := by decide +kernel
theorem dX4_init_59 : decode cX4_init 59 = .ok (.iconst 4, 1) := by decide +kernel
theorem dX4_init_60 : decode cX4_init 60 = .ok (.newarray .long, 2) := by decide +kernel
theorem dX4_init_62 : decode cX4_init 62 = .ok (.putfield 32, 3) := by decide +kernel
theorem dX4_init_65 : decode cX4_init 65 = .ok (.aload_n 0, 1) := by decide +kernel
theorem dX4_init_66 : decode cX4_init 66 = .ok (.iconst 0, 1) := by decide +kernel
theorem dX4_init_67 : decode cX4_init 67 = .ok (.putfield 35, 3) := by decide +kernel
theorem dX4_init_70 : decode cX4_init 70 = .ok (.aload_n 0, 1) := by decide +kernel
theorem dX4_init_71 : decode cX4_init 71 = .ok (.iconst 0, 1) := by decide +kernel
theorem dX4_init_72 : decode cX4_init 72 = .ok (.putfield 39, 3) := by decide +kernel
theorem dX4_init_75 : decode cX4_init 75 = .ok (.aload_n 0, 1) := by decide +kernel
theorem dX4_init_76 : decode cX4_init 76 = .ok (.iconst 0, 1) := by decide +kernel
theorem dX4_init_77 : decode cX4_init 77 = .ok (.putfield 42, 3) := by decide +kernel
theorem dX4_init_80 : decode cX4_init 80 = .ok (.aload_n 0, 1) := by decide +kernel
theorem dX4_init_81 : decode cX4_init 81 = .ok (.iconst 0, 1) := by decide +kernel
theorem dX4_init_82 : decode cX4_init 82 = .ok (.putfield 45, 3) := by decide +kernel
theorem dX4_init_85 : decode cX4_init 85 = .ok (.return_, 1) := by decide +kernel
theorem dX4_make_0 : decode cX4_make 0 = .ok (.aload_n 0, 1) := by decide +kernel
theorem dX4_make_1 : decode cX4_make 1 = .ok (.aload_n 1, 1) := by decide +kernel
theorem dX4_make_2 : decode cX4_make 2 = .ok (.invokevirtual 48, 3) := by decide +kernel
theorem dX4_make_5 : decode cX4_make 5 = .ok (.iconst 0, 1) := by decide +kernel
theorem dX4_make_6 : decode cX4_make 6 = .ok (.istore_n 2, 1) := by decide +kernel
theorem dX4_make_7 : decode cX4_make 7 = .ok (.iload_n 2, 1) := by decide +kernel
theorem dX4_make_8 : decode cX4_make 8 = .ok (.aload_n 0, 1) := by decide +kernel
theorem dX4_make_9 : decode cX4_make 9 = .ok (.getfield 45, 3) := by decide +kernel
theorem dX4_make_12 : decode cX4_make 12 = .ok (.if_icmp .ge 79, 3) := by decide +kernel
theorem dX4_make_15 : decode cX4_make 15 = .ok (.iload_n 2, 1) := by decide +kernel
theorem dX4_make_16 : decode cX4_make 16 = .ok (.sipush 1921, 3) := by decide +kernel
theorem dX4_make_19 : decode cX4_make 19 = .ok (.if_icmp .ge 72, 3) := by decide +kernel
theorem dX4_make_22 : decode cX4_make 22 = .ok (.iconst 0, 1) := by decide +kernel
theorem dX4_make_23 : decode cX4_make 23 = .ok (.istore_n 3, 1) := by decide +kernel
theorem dX4_make_24 : decode cX4_make 24 = .ok (.iload_n 3, 1) := by decide +kernel
theorem dX4_make_25 : decode cX4_make 25 = .ok (.iconst 4, 1) := by decide +kernel
theorem dX4_make_26 : decode cX4_make 26 = .ok (.if_icmp .ge 59, 3) := by decide +kernel
theorem dX4_make_29 : decode cX4_make 29 = .ok (.aload_n 0, 1) := by decide +kernel
theorem dX4_make_30 : decode cX4_make 30 = .ok (.aload_n 1, 1) := by decide +kernel
theorem dX4_make_31 : decode cX4_make 31 = .ok (.iload_n 2, 1) := by decide +kernel
theorem dX4_make_32 : decode cX4_make 32 = .ok (.iload_n 3, 1) := by decide +kernel
theorem dX4_make_33 : decode cX4_make 33 = .ok (.invokevirtual 52, 3) := by decide +kernel
theorem dX4_make_36 : decode cX4_make 36 = .ok (.aload_n 0, 1) := by decide +kernel
theorem dX4_make_37 : decode cX4_make 37 = .ok (.invokevirtual 56, 3) := by decide +kernel
theorem dX4_make_40 : decode cX4_make 40 = .ok (.istore 4, 2) := by decide +kernel
theorem dX4_make_42 : decode cX4_make 42 = .ok (.iload 4, 2) := by decide +kernel
theorem dX4_make_44 : decode cX4_make 44 = .ok (.bipush (-9), 2) := by decide +kernel
theorem dX4_make_46 : decode cX4_make 46 = .ok (.if_icmp .ne 10, 3) := by decide +kernel
theorem dX4_make_49 : decode cX4_make 49 = .ok (.aload_n 0, 1) := by decide +kernel
theorem dX4_make_50 : decode cX4_make 50 = .ok (.aload_n 1, 1) := by decide +kernel
theorem dX4_make_51 : decode cX4_make 51 = .ok (.invokevirtual 60, 3) := by decide +kernel
theorem dX4_make_54 : decode cX4_make 54 = .ok (.istore 4, 2) := by decide +kernel
theorem dX4_make_56 : decode cX4_make 56 = .ok (.iload 4, 2) := by decide +kernel
theorem dX4_make_58 : decode cX4_make 58 = .ok (.bipush (-9), 2) := by decide +kernel
theorem dX4_make_60 : decode cX4_make 60 = .ok (.if_icmp .ne 5, 3) := by decide +kernel
theorem dX4_make_63 : decode cX4_make 63 = .ok (.iconst 0, 1) := by decide +kernel
theorem dX4_make_64 : decode cX4_make 64 = .ok (.ireturn, 1) := by decide +kernel
theorem dX4_make_65 : decode cX4_make 65 = .ok (.aload_n 0, 1) := by decide +kernel
theorem dX4_make_66 : decode cX4_make 66 = .ok (.getfield 19, 3) := by decide +kernel
theorem dX4_make_69 : decode cX4_make 69 = .ok (.iload_n 2, 1) := by decide +kernel
theorem dX4_make_70 : decode cX4_make 70 = .ok (.iconst 4, 1) := by decide +kernel
theorem dX4_make_71 : decode cX4_make 71 = .ok (.imul, 1) := by decide +kernel
theorem dX4_make_72 : decode cX4_make 72 = .ok (.iload_n 3, 1) := by decide +kernel
theorem dX4_make_73 : decode cX4_make 73 = .ok (.iadd, 1) := by decide +kernel
theorem dX4_make_74 : decode cX4_make 74 = .ok (.iload 4, 2) := by decide +kernel
theorem dX4_make_76 : decode cX4_make 76 = .ok (.invokestatic 64, 3) := by decide +kernel
theorem dX4_make_79 : decode cX4_make 79 = .ok (.iinc 3 1, 3) := by decide +kernel
theorem dX4_make_82 : decode cX4_make 82 = .ok (.goto (-58), 3) := by decide +kernel
theorem dX4_make_85 : decode cX4_make 85 = .ok (.iinc 2 1, 3) := by decide +kernel
theorem dX4_make_88 : decode cX4_make 88 = .ok (.goto (-81), 3) := by decide +kernel
theorem dX4_make_91 : decode cX4_make 91 = .ok (.iconst 1, 1) := by decide +kernel
theorem dX4_make_92 : decode cX4_make 92 = .ok (.ireturn, 1) := by decide +kernel
theorem dX4_size_0 : decode cX4_size 0 = .ok (.aload_n 0, 1) := by decide +kernel
theorem dX4_size_1 : decode cX4_size 1 = .ok (.getfield 45, 3) := by decide +kernel
theorem dX4_size_4 : decode cX4_size 4 = .ok (.ireturn, 1) := by decide +kernel
theorem dX4_next_0 : decode cX4_next 0 = .ok (.aload_n 0, 1) := by decide +kernel
theorem dX4_next_1 : decode cX4_next 1 = .ok (.getfield 19, 3) := by decide +kernel
theorem dX4_next_4 : decode cX4_next 4 = .ok (.iload_n 1, 1) := by decide +kernel
theorem dX4_next_5 : decode cX4_next 5 = .ok (.iconst 4, 1) := by decide +kernel
theorem dX4_next_6 : decode cX4_next 6 = .ok (.imul, 1) := by decide +kernel
theorem dX4_next_7 : decode cX4_next 7 = .ok (.iload_n 2, 1) := by decide +kernel
theorem dX4_next_8 : decode cX4_next 8 = .ok (.iadd, 1) := by decide +kernel
theorem dX4_next_9 : decode cX4_next 9 = .ok (.invokestatic 68, 3) := by decide +kernel
theorem dX4_next_12 : decode cX4_next 12 = .ok (.ireturn, 1) := by decide +kernel
theorem dX4_isKept_0 : decode cX4_isKept 0 = .ok (.aload_n 0, 1) := by decide +kernel
theorem dX4_isKept_1 : decode cX4_isKept 1 = .ok (.getfield 22, 3) := by decide +kernel
theorem dX4_isKept_4 : decode cX4_isKept 4 = .ok (.iload_n 1, 1) := by decide +kernel
theorem dX4_isKept_5 : decode cX4_isKept 5 = .ok (.invokestatic 72, 3) := by decide +kernel
theorem dX4_isKept_8 : decode cX4_isKept 8 = .ok (.ireturn, 1) := by decide +kernel
theorem dX4_begin_0 : decode cX4_begin 0 = .ok (.aload_n 0, 1) := by decide +kernel
theorem dX4_begin_1 : decode cX4_begin 1 = .ok (.iconst 4, 1) := by decide +kernel
theorem dX4_begin_2 : decode cX4_begin 2 = .ok (.aload_n 1, 1) := by decide +kernel
theorem dX4_begin_3 : decode cX4_begin 3 = .ok (.invokevirtual 76, 3) := by decide +kernel
theorem dX4_begin_6 : decode cX4_begin 6 = .ok (.bipush 63, 2) := by decide +kernel
theorem dX4_begin_8 : decode cX4_begin 8 = .ok (.iadd, 1) := by decide +kernel
theorem dX4_begin_9 : decode cX4_begin 9 = .ok (.bipush 64, 2) := by decide +kernel
theorem dX4_begin_11 : decode cX4_begin 11 = .ok (.idiv, 1) := by decide +kernel
theorem dX4_begin_12 : decode cX4_begin 12 = .ok (.invokestatic 81, 3) := by decide +kernel
theorem dX4_begin_15 : decode cX4_begin 15 = .ok (.putfield 39, 3) := by decide +kernel
theorem dX4_begin_18 : decode cX4_begin 18 = .ok (.aload_n 0, 1) := by decide +kernel
theorem dX4_begin_19 : decode cX4_begin 19 = .ok (.iconst 1, 1) := by decide +kernel
theorem dX4_begin_20 : decode cX4_begin 20 = .ok (.sipush 1920, 3) := by decide +kernel
theorem dX4_begin_23 : decode cX4_begin 23 = .ok (.bipush 60, 2) := by decide +kernel
theorem dX4_begin_25 : decode cX4_begin 25 = .ok (.aload_n 1, 1) := by decide +kernel
theorem dX4_begin_26 : decode cX4_begin 26 = .ok (.invokevirtual 87, 3) := by decide +kernel
theorem dX4_begin_29 : decode cX4_begin 29 = .ok (.imul, 1) := by decide +kernel
theorem dX4_begin_30 : decode cX4_begin 30 = .ok (.invokestatic 81, 3) := by decide +kernel
theorem dX4_begin_33 : decode cX4_begin 33 = .ok (.iadd, 1) := by decide +kernel
theorem dX4_begin_34 : decode cX4_begin 34 = .ok (.putfield 42, 3) := by decide +kernel
theorem dX4_begin_37 : decode cX4_begin 37 = .ok (.iconst 0, 1) := by decide +kernel
theorem dX4_begin_38 : decode cX4_begin 38 = .ok (.istore_n 2, 1) := by decide +kernel
theorem dX4_begin_39 : decode cX4_begin 39 = .ok (.iload_n 2, 1) := by decide +kernel
theorem dX4_begin_40 : decode cX4_begin 40 = .ok (.aload_n 1, 1) := by decide +kernel
theorem dX4_begin_41 : decode cX4_begin 41 = .ok (.invokevirtual 87, 3) := by decide +kernel
theorem dX4_begin_44 : decode cX4_begin 44 = .ok (.if_icmp .ge 19, 3) := by decide +kernel
theorem dX4_begin_47 : decode cX4_begin 47 = .ok (.aload_n 0, 1) := by decide +kernel
theorem dX4_begin_48 : decode cX4_begin 48 = .ok (.getfield 26, 3) := by decide +kernel
theorem dX4_begin_51 : decode cX4_begin 51 = .ok (.iload_n 2, 1) := by decide +kernel
theorem dX4_begin_52 : decode cX4_begin 52 = .ok (.bipush (-9), 2) := by decide +kernel
theorem dX4_begin_54 : decode cX4_begin 54 = .ok (.invokestatic 64, 3) := by decide +kernel
theorem dX4_begin_57 : decode cX4_begin 57 = .ok (.iinc 2 1, 3) := by decide +kernel
theorem dX4_begin_60 : decode cX4_begin 60 = .ok (.goto (-21), 3) := by decide +kernel
theorem dX4_begin_63 : decode cX4_begin 63 = .ok (.aload_n 0, 1) := by decide +kernel
theorem dX4_begin_64 : decode cX4_begin 64 = .ok (.iconst 1, 1) := by decide +kernel
theorem dX4_begin_65 : decode cX4_begin 65 = .ok (.putfield 45, 3) := by decide +kernel
theorem dX4_begin_68 : decode cX4_begin 68 = .ok (.aload_n 0, 1) := by decide +kernel
theorem dX4_begin_69 : decode cX4_begin 69 = .ok (.getfield 9, 3) := by decide +kernel
theorem dX4_begin_72 : decode cX4_begin 72 = .ok (.iconst 0, 1) := by decide +kernel
theorem dX4_begin_73 : decode cX4_begin 73 = .ok (.aload_n 1, 1) := by decide +kernel
theorem dX4_begin_74 : decode cX4_begin 74 = .ok (.aload_n 1, 1) := by decide +kernel
theorem dX4_begin_75 : decode cX4_begin 75 = .ok (.invokevirtual 89, 3) := by decide +kernel
theorem dX4_begin_78 : decode cX4_begin 78 = .ok (.invokevirtual 92, 3) := by decide +kernel
theorem dX4_begin_81 : decode cX4_begin 81 = .ok (.invokestatic 64, 3) := by decide +kernel
theorem dX4_begin_84 : decode cX4_begin 84 = .ok (.aload_n 0, 1) := by decide +kernel
theorem dX4_begin_85 : decode cX4_begin 85 = .ok (.getfield 22, 3) := by decide +kernel
theorem dX4_begin_88 : decode cX4_begin 88 = .ok (.iconst 0, 1) := by decide +kernel
theorem dX4_begin_89 : decode cX4_begin 89 = .ok (.iconst 1, 1) := by decide +kernel
theorem dX4_begin_90 : decode cX4_begin 90 = .ok (.invokestatic 96, 3) := by decide +kernel
theorem dX4_begin_93 : decode cX4_begin 93 = .ok (.return_, 1) := by decide +kernel
theorem dX4_follow_0 : decode cX4_follow 0 = .ok (.iconst 0, 1) := by decide +kernel
theorem dX4_follow_1 : decode cX4_follow 1 = .ok (.istore 4, 2) := by decide +kernel
theorem dX4_follow_3 : decode cX4_follow 3 = .ok (.iload 4, 2) := by decide +kernel
theorem dX4_follow_5 : decode cX4_follow 5 = .ok (.aload_n 0, 1) := by decide +kernel
theorem dX4_follow_6 : decode cX4_follow 6 = .ok (.getfield 39, 3) := by decide +kernel
theorem dX4_follow_9 : decode cX4_follow 9 = .ok (.if_icmp .ge 19, 3) := by decide +kernel
theorem dX4_follow_12 : decode cX4_follow 12 = .ok (.aload_n 0, 1) := by decide +kernel
theorem dX4_follow_13 : decode cX4_follow 13 = .ok (.getfield 32, 3) := by decide +kernel
theorem dX4_follow_16 : decode cX4_follow 16 = .ok (.iload 4, 2) := by decide +kernel
theorem dX4_follow_18 : decode cX4_follow 18 = .ok (.lconst 0, 1) := by decide +kernel
theorem dX4_follow_19 : decode cX4_follow 19 = .ok (.invokestatic 100, 3) := by decide +kernel
theorem dX4_follow_22 : decode cX4_follow 22 = .ok (.iinc 4 1, 3) := by decide +kernel
theorem dX4_follow_25 : decode cX4_follow 25 = .ok (.goto (-22), 3) := by decide +kernel
theorem dX4_follow_28 : decode cX4_follow 28 = .ok (.aload_n 0, 1) := by decide +kernel
theorem dX4_follow_29 : decode cX4_follow 29 = .ok (.getfield 9, 3) := by decide +kernel
theorem dX4_follow_32 : decode cX4_follow 32 = .ok (.iload_n 2, 1) := by decide +kernel
theorem dX4_follow_33 : decode cX4_follow 33 = .ok (.invokestatic 68, 3) := by decide +kernel
theorem dX4_follow_36 : decode cX4_follow 36 = .ok (.istore 4, 2) := by decide +kernel
theorem dX4_follow_38 : decode cX4_follow 38 = .ok (.aload_n 0, 1) := by decide +kernel
theorem dX4_follow_39 : decode cX4_follow 39 = .ok (.aload_n 1, 1) := by decide +kernel
theorem dX4_follow_40 : decode cX4_follow 40 = .ok (.aload_n 1, 1) := by decide +kernel
theorem dX4_follow_41 : decode cX4_follow 41 = .ok (.aload_n 1, 1) := by decide +kernel
theorem dX4_follow_42 : decode cX4_follow 42 = .ok (.iload 4, 2) := by decide +kernel
theorem dX4_follow_44 : decode cX4_follow 44 = .ok (.iconst 0, 1) := by decide +kernel
theorem dX4_follow_45 : decode cX4_follow 45 = .ok (.invokevirtual 104, 3) := by decide +kernel
theorem dX4_follow_48 : decode cX4_follow 48 = .ok (.iload_n 3, 1) := by decide +kernel
theorem dX4_follow_49 : decode cX4_follow 49 = .ok (.invokevirtual 107, 3) := by decide +kernel
theorem dX4_follow_52 : decode cX4_follow 52 = .ok (.invokevirtual 92, 3) := by decide +kernel
theorem dX4_follow_55 : decode cX4_follow 55 = .ok (.putfield 35, 3) := by decide +kernel
theorem dX4_follow_58 : decode cX4_follow 58 = .ok (.iconst 0, 1) := by decide +kernel
theorem dX4_follow_59 : decode cX4_follow 59 = .ok (.istore 5, 2) := by decide +kernel
theorem dX4_follow_61 : decode cX4_follow 61 = .ok (.iload 5, 2) := by decide +kernel
theorem dX4_follow_63 : decode cX4_follow 63 = .ok (.aload_n 1, 1) := by decide +kernel
theorem dX4_follow_64 : decode cX4_follow 64 = .ok (.invokevirtual 76, 3) := by decide +kernel
theorem dX4_follow_67 : decode cX4_follow 67 = .ok (.if_icmp .ge 111, 3) := by decide +kernel
theorem dX4_follow_70 : decode cX4_follow 70 = .ok (.aload_n 1, 1) := by decide +kernel
theorem dX4_follow_71 : decode cX4_follow 71 = .ok (.iload 4, 2) := by decide +kernel
theorem dX4_follow_73 : decode cX4_follow 73 = .ok (.iload 5, 2) := by decide +kernel
theorem dX4_follow_75 : decode cX4_follow 75 = .ok (.invokevirtual 104, 3) := by decide +kernel
theorem dX4_follow_78 : decode cX4_follow 78 = .ok (.istore 6, 2) := by decide +kernel
theorem dX4_follow_80 : decode cX4_follow 80 = .ok (.aload_n 1, 1) := by decide +kernel
theorem dX4_follow_81 : decode cX4_follow 81 = .ok (.aload_n 1, 1) := by decide +kernel
theorem dX4_follow_82 : decode cX4_follow 82 = .ok (.aload_n 0, 1) := by decide +kernel
theorem dX4_follow_83 : decode cX4_follow 83 = .ok (.getfield 35, 3) := by decide +kernel
theorem dX4_follow_86 : decode cX4_follow 86 = .ok (.iload 5, 2) := by decide +kernel
theorem dX4_follow_88 : decode cX4_follow 88 = .ok (.invokevirtual 104, 3) := by decide +kernel
theorem dX4_follow_91 : decode cX4_follow 91 = .ok (.invokevirtual 110, 3) := by decide +kernel
theorem dX4_follow_94 : decode cX4_follow 94 = .ok (.ifCond .ne 6, 3) := by decide +kernel
theorem dX4_follow_97 : decode cX4_follow 97 = .ok (.goto 75, 3) := by decide +kernel
theorem dX4_follow_100 : decode cX4_follow 100 = .ok (.aload_n 1, 1) := by decide +kernel
theorem dX4_follow_101 : decode cX4_follow 101 = .ok (.aload_n 1, 1) := by decide +kernel
theorem dX4_follow_102 : decode cX4_follow 102 = .ok (.iload 6, 2) := by decide +kernel
theorem dX4_follow_104 : decode cX4_follow 104 = .ok (.iload_n 3, 1) := by decide +kernel
theorem dX4_follow_105 : decode cX4_follow 105 = .ok (.invokevirtual 107, 3) := by decide +kernel
theorem dX4_follow_108 : decode cX4_follow 108 = .ok (.invokevirtual 114, 3) := by decide +kernel
theorem dX4_follow_111 : decode cX4_follow 111 = .ok (.istore 7, 2) := by decide +kernel
theorem dX4_follow_113 : decode cX4_follow 113 = .ok (.iload_n 2, 1) := by decide +kernel
theorem dX4_follow_114 : decode cX4_follow 114 = .ok (.ifCond .ne 16, 3) := by decide +kernel
theorem dX4_follow_117 : decode cX4_follow 117 = .ok (.aload_n 1, 1) := by decide +kernel
theorem dX4_follow_118 : decode cX4_follow 118 = .ok (.iload 6, 2) := by decide +kernel
theorem dX4_follow_120 : decode cX4_follow 120 = .ok (.iload_n 3, 1) := by decide +kernel
theorem dX4_follow_121 : decode cX4_follow 121 = .ok (.invokevirtual 117, 3) := by decide +kernel
theorem dX4_follow_124 : decode cX4_follow 124 = .ok (.ifCond .eq 48, 3) := by decide +kernel
theorem dX4_follow_127 : decode cX4_follow 127 = .ok (.goto 13, 3) := by decide +kernel
theorem dX4_follow_130 : decode cX4_follow 130 = .ok (.aload_n 0, 1) := by decide +kernel
theorem dX4_follow_131 : decode cX4_follow 131 = .ok (.iload_n 2, 1) := by decide +kernel
theorem dX4_follow_132 : decode cX4_follow 132 = .ok (.iload 7, 2) := by decide +kernel
theorem dX4_follow_134 : decode cX4_follow 134 = .ok (.invokevirtual 121, 3) := by decide +kernel
theorem dX4_follow_137 : decode cX4_follow 137 = .ok (.ifCond .eq 35, 3) := by decide +kernel
theorem dX4_follow_140 : decode cX4_follow 140 = .ok (.aload_n 0, 1) := by decide +kernel
theorem dX4_follow_141 : decode cX4_follow 141 = .ok (.getfield 32, 3) := by decide +kernel
theorem dX4_follow_144 : decode cX4_follow 144 = .ok (.iload 5, 2) := by decide +kernel
theorem dX4_follow_146 : decode cX4_follow 146 = .ok (.bipush 64, 2) := by decide +kernel
theorem dX4_follow_148 : decode cX4_follow 148 = .ok (.idiv, 1) := by decide +kernel
theorem dX4_follow_149 : decode cX4_follow 149 = .ok (.aload_n 0, 1) := by decide +kernel
theorem dX4_follow_150 : decode cX4_follow 150 = .ok (.getfield 32, 3) := by decide +kernel
theorem dX4_follow_153 : decode cX4_follow 153 = .ok (.iload 5, 2) := by decide +kernel
theorem dX4_follow_155 : decode cX4_follow 155 = .ok (.bipush 64, 2) := by decide +kernel
theorem dX4_follow_157 : decode cX4_follow 157 = .ok (.idiv, 1) := by decide +kernel
theorem dX4_follow_158 : decode cX4_follow 158 = .ok (.invokestatic 124, 3) := by decide +kernel
theorem dX4_follow_161 : decode cX4_follow 161 = .ok (.lconst 1, 1) := by decide +kernel
theorem dX4_follow_162 : decode cX4_follow 162 = .ok (.iload 5, 2) := by decide +kernel
theorem dX4_follow_164 : decode cX4_follow 164 = .ok (.bipush 64, 2) := by decide +kernel
theorem dX4_follow_166 : decode cX4_follow 166 = .ok (.irem, 1) := by decide +kernel
theorem dX4_follow_167 : decode cX4_follow 167 = .ok (.lshl, 1) := by decide +kernel
theorem dX4_follow_168 : decode cX4_follow 168 = .ok (.lor, 1) := by decide +kernel
theorem dX4_follow_169 : decode cX4_follow 169 = .ok (.invokestatic 100, 3) := by decide +kernel
theorem dX4_follow_172 : decode cX4_follow 172 = .ok (.iinc 5 1, 3) := by decide +kernel
theorem dX4_follow_175 : decode cX4_follow 175 = .ok (.goto (-114), 3) := by decide +kernel
theorem dX4_follow_178 : decode cX4_follow 178 = .ok (.return_, 1) := by decide +kernel
theorem dX4_isIn_0 : decode cX4_isIn 0 = .ok (.aload_n 0, 1) := by decide +kernel
theorem dX4_isIn_1 : decode cX4_isIn 1 = .ok (.getfield 15, 3) := by decide +kernel
theorem dX4_isIn_4 : decode cX4_isIn 4 = .ok (.iload_n 1, 1) := by decide +kernel
theorem dX4_isIn_5 : decode cX4_isIn 5 = .ok (.iconst 4, 1) := by decide +kernel
theorem dX4_isIn_6 : decode cX4_isIn 6 = .ok (.imul, 1) := by decide +kernel
theorem dX4_isIn_7 : decode cX4_isIn 7 = .ok (.iload_n 2, 1) := by decide +kernel
theorem dX4_isIn_8 : decode cX4_isIn 8 = .ok (.bipush 64, 2) := by decide +kernel
theorem dX4_isIn_10 : decode cX4_isIn 10 = .ok (.idiv, 1) := by decide +kernel
theorem dX4_isIn_11 : decode cX4_isIn 11 = .ok (.iadd, 1) := by decide +kernel
theorem dX4_isIn_12 : decode cX4_isIn 12 = .ok (.invokestatic 124, 3) := by decide +kernel
theorem dX4_isIn_15 : decode cX4_isIn 15 = .ok (.iload_n 2, 1) := by decide +kernel
theorem dX4_isIn_16 : decode cX4_isIn 16 = .ok (.bipush 64, 2) := by decide +kernel
theorem dX4_isIn_18 : decode cX4_isIn 18 = .ok (.irem, 1) := by decide +kernel
theorem dX4_isIn_19 : decode cX4_isIn 19 = .ok (.invokestatic 128, 3) := by decide +kernel
theorem dX4_isIn_22 : decode cX4_isIn 22 = .ok (.ireturn, 1) := by decide +kernel
theorem dX4_findWork_0 : decode cX4_findWork 0 = .ok (.aload_n 0, 1) := by decide +kernel
theorem dX4_findWork_1 : decode cX4_findWork 1 = .ok (.getfield 26, 3) := by decide +kernel
theorem dX4_findWork_4 : decode cX4_findWork 4 = .ok (.aload_n 0, 1) := by decide +kernel
theorem dX4_findWork_5 : decode cX4_findWork 5 = .ok (.getfield 35, 3) := by decide +kernel
theorem dX4_findWork_8 : decode cX4_findWork 8 = .ok (.invokestatic 68, 3) := by decide +kernel
theorem dX4_findWork_11 : decode cX4_findWork 11 = .ok (.istore_n 1, 1) := by decide +kernel
theorem dX4_findWork_12 : decode cX4_findWork 12 = .ok (.iconst 0, 1) := by decide +kernel
theorem dX4_findWork_13 : decode cX4_findWork 13 = .ok (.istore_n 2, 1) := by decide +kernel
theorem dX4_findWork_14 : decode cX4_findWork 14 = .ok (.iload_n 2, 1) := by decide +kernel
theorem dX4_findWork_15 : decode cX4_findWork 15 = .ok (.sipush 1921, 3) := by decide +kernel
theorem dX4_findWork_18 : decode cX4_findWork 18 = .ok (.if_icmp .ge 34, 3) := by decide +kernel
theorem dX4_findWork_21 : decode cX4_findWork 21 = .ok (.iload_n 1, 1) := by decide +kernel
theorem dX4_findWork_22 : decode cX4_findWork 22 = .ok (.bipush (-9), 2) := by decide +kernel
theorem dX4_findWork_24 : decode cX4_findWork 24 = .ok (.if_icmp .eq 28, 3) := by decide +kernel
theorem dX4_findWork_27 : decode cX4_findWork 27 = .ok (.aload_n 0, 1) := by decide +kernel
theorem dX4_findWork_28 : decode cX4_findWork 28 = .ok (.iload_n 1, 1) := by decide +kernel
theorem dX4_findWork_29 : decode cX4_findWork 29 = .ok (.invokevirtual 132, 3) := by decide +kernel
theorem dX4_findWork_32 : decode cX4_findWork 32 = .ok (.ifCond .eq 5, 3) := by decide +kernel
theorem dX4_findWork_35 : decode cX4_findWork 35 = .ok (.iload_n 1, 1) := by decide +kernel
theorem dX4_findWork_36 : decode cX4_findWork 36 = .ok (.ireturn, 1) := by decide +kernel
theorem dX4_findWork_37 : decode cX4_findWork 37 = .ok (.aload_n 0, 1) := by decide +kernel
theorem dX4_findWork_38 : decode cX4_findWork 38 = .ok (.getfield 29, 3) := by decide +kernel
theorem dX4_findWork_41 : decode cX4_findWork 41 = .ok (.iload_n 1, 1) := by decide +kernel
theorem dX4_findWork_42 : decode cX4_findWork 42 = .ok (.invokestatic 68, 3) := by decide +kernel
theorem dX4_findWork_45 : decode cX4_findWork 45 = .ok (.istore_n 1, 1) := by decide +kernel
theorem dX4_findWork_46 : decode cX4_findWork 46 = .ok (.iinc 2 1, 3) := by decide +kernel
theorem dX4_findWork_49 : decode cX4_findWork 49 = .ok (.goto (-35), 3) := by decide +kernel
theorem dX4_findWork_52 : decode cX4_findWork 52 = .ok (.bipush (-9), 2) := by decide +kernel
theorem dX4_findWork_54 : decode cX4_findWork 54 = .ok (.ireturn, 1) := by decide +kernel
theorem dX4_isWork_0 : decode cX4_isWork 0 = .ok (.iconst 0, 1) := by decide +kernel
theorem dX4_isWork_1 : decode cX4_isWork 1 = .ok (.istore_n 2, 1) := by decide +kernel
theorem dX4_isWork_2 : decode cX4_isWork 2 = .ok (.iload_n 2, 1) := by decide +kernel
theorem dX4_isWork_3 : decode cX4_isWork 3 = .ok (.aload_n 0, 1) := by decide +kernel
theorem dX4_isWork_4 : decode cX4_isWork 4 = .ok (.getfield 39, 3) := by decide +kernel
theorem dX4_isWork_7 : decode cX4_isWork 7 = .ok (.if_icmp .ge 35, 3) := by decide +kernel
theorem dX4_isWork_10 : decode cX4_isWork 10 = .ok (.aload_n 0, 1) := by decide +kernel
theorem dX4_isWork_11 : decode cX4_isWork 11 = .ok (.getfield 15, 3) := by decide +kernel
theorem dX4_isWork_14 : decode cX4_isWork 14 = .ok (.iload_n 1, 1) := by decide +kernel
theorem dX4_isWork_15 : decode cX4_isWork 15 = .ok (.iconst 4, 1) := by decide +kernel
theorem dX4_isWork_16 : decode cX4_isWork 16 = .ok (.imul, 1) := by decide +kernel
theorem dX4_isWork_17 : decode cX4_isWork 17 = .ok (.iload_n 2, 1) := by decide +kernel
theorem dX4_isWork_18 : decode cX4_isWork 18 = .ok (.iadd, 1) := by decide +kernel
theorem dX4_isWork_19 : decode cX4_isWork 19 = .ok (.invokestatic 124, 3) := by decide +kernel
theorem dX4_isWork_22 : decode cX4_isWork 22 = .ok (.aload_n 0, 1) := by decide +kernel
theorem dX4_isWork_23 : decode cX4_isWork 23 = .ok (.getfield 32, 3) := by decide +kernel
theorem dX4_isWork_26 : decode cX4_isWork 26 = .ok (.iload_n 2, 1) := by decide +kernel
theorem dX4_isWork_27 : decode cX4_isWork 27 = .ok (.invokestatic 124, 3) := by decide +kernel
theorem dX4_isWork_30 : decode cX4_isWork 30 = .ok (.lcmp, 1) := by decide +kernel
theorem dX4_isWork_31 : decode cX4_isWork 31 = .ok (.ifCond .eq 5, 3) := by decide +kernel
theorem dX4_isWork_34 : decode cX4_isWork 34 = .ok (.iconst 0, 1) := by decide +kernel
theorem dX4_isWork_35 : decode cX4_isWork 35 = .ok (.ireturn, 1) := by decide +kernel
theorem dX4_isWork_36 : decode cX4_isWork 36 = .ok (.iinc 2 1, 3) := by decide +kernel
theorem dX4_isWork_39 : decode cX4_isWork 39 = .ok (.goto (-37), 3) := by decide +kernel
theorem dX4_isWork_42 : decode cX4_isWork 42 = .ok (.iconst 1, 1) := by decide +kernel
theorem dX4_isWork_43 : decode cX4_isWork 43 = .ok (.ireturn, 1) := by decide +kernel
theorem dX4_addWork_0 : decode cX4_addWork 0 = .ok (.aload_n 0, 1) := by decide +kernel
theorem dX4_addWork_1 : decode cX4_addWork 1 = .ok (.getfield 45, 3) := by decide +kernel
theorem dX4_addWork_4 : decode cX4_addWork 4 = .ok (.aload_n 0, 1) := by decide +kernel
theorem dX4_addWork_5 : decode cX4_addWork 5 = .ok (.getfield 42, 3) := by decide +kernel
theorem dX4_addWork_8 : decode cX4_addWork 8 = .ok (.if_icmp .lt 6, 3) := by decide +kernel
theorem dX4_addWork_11 : decode cX4_addWork 11 = .ok (.bipush (-9), 2) := by decide +kernel
theorem dX4_addWork_13 : decode cX4_addWork 13 = .ok (.ireturn, 1) := by decide +kernel
theorem dX4_addWork_14 : decode cX4_addWork 14 = .ok (.aload_n 0, 1) := by decide +kernel
theorem dX4_addWork_15 : decode cX4_addWork 15 = .ok (.getfield 45, 3) := by decide +kernel
theorem dX4_addWork_18 : decode cX4_addWork 18 = .ok (.istore_n 2, 1) := by decide +kernel
theorem dX4_addWork_19 : decode cX4_addWork 19 = .ok (.aload_n 0, 1) := by decide +kernel
theorem dX4_addWork_20 : decode cX4_addWork 20 = .ok (.getfield 9, 3) := by decide +kernel
theorem dX4_addWork_23 : decode cX4_addWork 23 = .ok (.iload_n 2, 1) := by decide +kernel
theorem dX4_addWork_24 : decode cX4_addWork 24 = .ok (.aload_n 0, 1) := by decide +kernel
theorem dX4_addWork_25 : decode cX4_addWork 25 = .ok (.getfield 35, 3) := by decide +kernel
theorem dX4_addWork_28 : decode cX4_addWork 28 = .ok (.invokestatic 64, 3) := by decide +kernel
theorem dX4_addWork_31 : decode cX4_addWork 31 = .ok (.iconst 0, 1) := by decide +kernel
theorem dX4_addWork_32 : decode cX4_addWork 32 = .ok (.istore_n 3, 1) := by decide +kernel
theorem dX4_addWork_33 : decode cX4_addWork 33 = .ok (.iload_n 3, 1) := by decide +kernel
theorem dX4_addWork_34 : decode cX4_addWork 34 = .ok (.aload_n 0, 1) := by decide +kernel
theorem dX4_addWork_35 : decode cX4_addWork 35 = .ok (.getfield 39, 3) := by decide +kernel
theorem dX4_addWork_38 : decode cX4_addWork 38 = .ok (.if_icmp .ge 29, 3) := by decide +kernel
theorem dX4_addWork_41 : decode cX4_addWork 41 = .ok (.aload_n 0, 1) := by decide +kernel
theorem dX4_addWork_42 : decode cX4_addWork 42 = .ok (.getfield 15, 3) := by decide +kernel
theorem dX4_addWork_45 : decode cX4_addWork 45 = .ok (.iload_n 2, 1) := by decide +kernel
theorem dX4_addWork_46 : decode cX4_addWork 46 = .ok (.iconst 4, 1) := by decide +kernel
theorem dX4_addWork_47 : decode cX4_addWork 47 = .ok (.imul, 1) := by decide +kernel
theorem dX4_addWork_48 : decode cX4_addWork 48 = .ok (.iload_n 3, 1) := by decide +kernel
theorem dX4_addWork_49 : decode cX4_addWork 49 = .ok (.iadd, 1) := by decide +kernel
theorem dX4_addWork_50 : decode cX4_addWork 50 = .ok (.aload_n 0, 1) := by decide +kernel
theorem dX4_addWork_51 : decode cX4_addWork 51 = .ok (.getfield 32, 3) := by decide +kernel
theorem dX4_addWork_54 : decode cX4_addWork 54 = .ok (.iload_n 3, 1) := by decide +kernel
theorem dX4_addWork_55 : decode cX4_addWork 55 = .ok (.invokestatic 124, 3) := by decide +kernel
theorem dX4_addWork_58 : decode cX4_addWork 58 = .ok (.invokestatic 100, 3) := by decide +kernel
theorem dX4_addWork_61 : decode cX4_addWork 61 = .ok (.iinc 3 1, 3) := by decide +kernel
theorem dX4_addWork_64 : decode cX4_addWork 64 = .ok (.goto (-31), 3) := by decide +kernel
theorem dX4_addWork_67 : decode cX4_addWork 67 = .ok (.aload_n 0, 1) := by decide +kernel
theorem dX4_addWork_68 : decode cX4_addWork 68 = .ok (.getfield 22, 3) := by decide +kernel
theorem dX4_addWork_71 : decode cX4_addWork 71 = .ok (.iload_n 2, 1) := by decide +kernel
theorem dX4_addWork_72 : decode cX4_addWork 72 = .ok (.aload_n 0, 1) := by decide +kernel
theorem dX4_addWork_73 : decode cX4_addWork 73 = .ok (.iload_n 2, 1) := by decide +kernel
theorem dX4_addWork_74 : decode cX4_addWork 74 = .ok (.aload_n 1, 1) := by decide +kernel
theorem dX4_addWork_75 : decode cX4_addWork 75 = .ok (.aload_n 1, 1) := by decide +kernel
theorem dX4_addWork_76 : decode cX4_addWork 76 = .ok (.invokevirtual 89, 3) := by decide +kernel
theorem dX4_addWork_79 : decode cX4_addWork 79 = .ok (.invokevirtual 114, 3) := by decide +kernel
theorem dX4_addWork_82 : decode cX4_addWork 82 = .ok (.invokevirtual 121, 3) := by decide +kernel
theorem dX4_addWork_85 : decode cX4_addWork 85 = .ok (.invokestatic 96, 3) := by decide +kernel
theorem dX4_addWork_88 : decode cX4_addWork 88 = .ok (.aload_n 0, 1) := by decide +kernel
theorem dX4_addWork_89 : decode cX4_addWork 89 = .ok (.getfield 29, 3) := by decide +kernel
theorem dX4_addWork_92 : decode cX4_addWork 92 = .ok (.iload_n 2, 1) := by decide +kernel
theorem dX4_addWork_93 : decode cX4_addWork 93 = .ok (.aload_n 0, 1) := by decide +kernel
theorem dX4_addWork_94 : decode cX4_addWork 94 = .ok (.getfield 26, 3) := by decide +kernel
theorem dX4_addWork_97 : decode cX4_addWork 97 = .ok (.aload_n 0, 1) := by decide +kernel
theorem dX4_addWork_98 : decode cX4_addWork 98 = .ok (.getfield 35, 3) := by decide +kernel
theorem dX4_addWork_101 : decode cX4_addWork 101 = .ok (.invokestatic 68, 3) := by decide +kernel
theorem dX4_addWork_104 : decode cX4_addWork 104 = .ok (.invokestatic 64, 3) := by decide +kernel
theorem dX4_addWork_107 : decode cX4_addWork 107 = .ok (.aload_n 0, 1) := by decide +kernel
theorem dX4_addWork_108 : decode cX4_addWork 108 = .ok (.getfield 26, 3) := by decide +kernel
theorem dX4_addWork_111 : decode cX4_addWork 111 = .ok (.aload_n 0, 1) := by decide +kernel
theorem dX4_addWork_112 : decode cX4_addWork 112 = .ok (.getfield 35, 3) := by decide +kernel
theorem dX4_addWork_115 : decode cX4_addWork 115 = .ok (.iload_n 2, 1) := by decide +kernel
theorem dX4_addWork_116 : decode cX4_addWork 116 = .ok (.invokestatic 64, 3) := by decide +kernel
theorem dX4_addWork_119 : decode cX4_addWork 119 = .ok (.aload_n 0, 1) := by decide +kernel
theorem dX4_addWork_120 : decode cX4_addWork 120 = .ok (.dup, 1) := by decide +kernel
theorem dX4_addWork_121 : decode cX4_addWork 121 = .ok (.getfield 45, 3) := by decide +kernel
theorem dX4_addWork_124 : decode cX4_addWork 124 = .ok (.iconst 1, 1) := by decide +kernel
theorem dX4_addWork_125 : decode cX4_addWork 125 = .ok (.iadd, 1) := by decide +kernel
theorem dX4_addWork_126 : decode cX4_addWork 126 = .ok (.putfield 45, 3) := by decide +kernel
theorem dX4_addWork_129 : decode cX4_addWork 129 = .ok (.iload_n 2, 1) := by decide +kernel
theorem dX4_addWork_130 : decode cX4_addWork 130 = .ok (.ireturn, 1) := by decide +kernel
theorem dX5_init_0 : decode cX5_init 0 = .ok (.aload_n 0, 1) := by decide +kernel
theorem dX5_init_1 : decode cX5_init 1 = .ok (.invokespecial 3, 3) := by decide +kernel
theorem dX5_init_4 : decode cX5_init 4 = .ok (.aload_n 0, 1) := by decide +kernel
theorem dX5_init_5 : decode cX5_init 5 = .ok (.new 9, 3) := by decide +kernel
theorem dX5_init_8 : decode cX5_init 8 = .ok (.dup, 1) := by decide +kernel
theorem dX5_init_9 : decode cX5_init 9 = .ok (.invokespecial 11, 3) := by decide +kernel
theorem dX5_init_12 : decode cX5_init 12 = .ok (.putfield 12, 3) := by decide +kernel
theorem dX5_init_15 : decode cX5_init 15 = .ok (.aload_n 0, 1) := by decide +kernel
theorem dX5_init_16 : decode cX5_init 16 = .ok (.iconst 0, 1) := by decide +kernel
theorem dX5_init_17 : decode cX5_init 17 = .ok (.newarray .int, 2) := by decide +kernel
theorem dX5_init_19 : decode cX5_init 19 = .ok (.putfield 18, 3) := by decide +kernel
theorem dX5_init_22 : decode cX5_init 22 = .ok (.aload_n 0, 1) := by decide +kernel
theorem dX5_init_23 : decode cX5_init 23 = .ok (.iconst 0, 1) := by decide +kernel
theorem dX5_init_24 : decode cX5_init 24 = .ok (.putfield 22, 3) := by decide +kernel
theorem dX5_init_27 : decode cX5_init 27 = .ok (.aload_n 0, 1) := by decide +kernel
theorem dX5_init_28 : decode cX5_init 28 = .ok (.iconst 0, 1) := by decide +kernel
theorem dX5_init_29 : decode cX5_init 29 = .ok (.putfield 26, 3) := by decide +kernel
theorem dX5_init_32 : decode cX5_init 32 = .ok (.aload_n 0, 1) := by decide +kernel
theorem dX5_init_33 : decode cX5_init 33 = .ok (.iconst 0, 1) := by decide +kernel
theorem dX5_init_34 : decode cX5_init 34 = .ok (.putfield 29, 3) := by decide +kernel
theorem dX5_init_37 : decode cX5_init 37 = .ok (.aload_n 0, 1) := by decide +kernel
theorem dX5_init_38 : decode cX5_init 38 = .ok (.iconst 0, 1) := by decide +kernel
theorem dX5_init_39 : decode cX5_init 39 = .ok (.putfield 32, 3) := by decide +kernel
theorem dX5_init_42 : decode cX5_init 42 = .ok (.aload_n 0, 1) := by decide +kernel
theorem dX5_init_43 : decode cX5_init 43 = .ok (.iconst 0, 1) := by decide +kernel
theorem dX5_init_44 : decode cX5_init 44 = .ok (.putfield 35, 3) := by decide +kernel
theorem dX5_init_47 : decode cX5_init 47 = .ok (.aload_n 0, 1) := by decide +kernel
theorem dX5_init_48 : decode cX5_init 48 = .ok (.iconst 0, 1) := by decide +kernel
theorem dX5_init_49 : decode cX5_init 49 = .ok (.putfield 38, 3) := by decide +kernel
theorem dX5_init_52 : decode cX5_init 52 = .ok (.aload_n 0, 1) := by decide +kernel
theorem dX5_init_53 : decode cX5_init 53 = .ok (.iconst 0, 1) := by decide +kernel
theorem dX5_init_54 : decode cX5_init 54 = .ok (.putfield 41, 3) := by decide +kernel
theorem dX5_init_57 : decode cX5_init 57 = .ok (.return_, 1) := by decide +kernel
theorem dX5_rule_0 : decode cX5_rule 0 = .ok (.aload_n 0, 1) := by decide +kernel
theorem dX5_rule_1 : decode cX5_rule 1 = .ok (.getfield 12, 3) := by decide +kernel
theorem dX5_rule_4 : decode cX5_rule 4 = .ok (.areturn, 1) := by decide +kernel
theorem dX5_faultKind_0 : decode cX5_faultKind 0 = .ok (.aload_n 0, 1) := by decide +kernel
theorem dX5_faultKind_1 : decode cX5_faultKind 1 = .ok (.getfield 38, 3) := by decide +kernel
theorem dX5_faultKind_4 : decode cX5_faultKind 4 = .ok (.ireturn, 1) := by decide +kernel
theorem dX5_faultByte_0 : decode cX5_faultByte 0 = .ok (.aload_n 0, 1) := by decide +kernel
theorem dX5_faultByte_1 : decode cX5_faultByte 1 = .ok (.getfield 41, 3) := by decide +kernel
theorem dX5_faultByte_4 : decode cX5_faultByte 4 = .ok (.ireturn, 1) := by decide +kernel
theorem dX5_reads_0 : decode cX5_reads 0 = .ok (.aload_n 0, 1) := by decide +kernel
theorem dX5_reads_1 : decode cX5_reads 1 = .ok (.aload_n 1, 1) := by decide +kernel
theorem dX5_reads_2 : decode cX5_reads 2 = .ok (.putfield 18, 3) := by decide +kernel
theorem dX5_reads_5 : decode cX5_reads 5 = .ok (.aload_n 0, 1) := by decide +kernel
theorem dX5_reads_6 : decode cX5_reads 6 = .ok (.iload_n 2, 1) := by decide +kernel
theorem dX5_reads_7 : decode cX5_reads 7 = .ok (.putfield 22, 3) := by decide +kernel
theorem dX5_reads_10 : decode cX5_reads 10 = .ok (.aload_n 0, 1) := by decide +kernel
theorem dX5_reads_11 : decode cX5_reads 11 = .ok (.iconst 0, 1) := by decide +kernel
theorem dX5_reads_12 : decode cX5_reads 12 = .ok (.putfield 26, 3) := by decide +kernel
theorem dX5_reads_15 : decode cX5_reads 15 = .ok (.aload_n 0, 1) := by decide +kernel
theorem dX5_reads_16 : decode cX5_reads 16 = .ok (.iconst 0, 1) := by decide +kernel
theorem dX5_reads_17 : decode cX5_reads 17 = .ok (.putfield 29, 3) := by decide +kernel
theorem dX5_reads_20 : decode cX5_reads 20 = .ok (.aload_n 0, 1) := by decide +kernel
theorem dX5_reads_21 : decode cX5_reads 21 = .ok (.iconst 0, 1) := by decide +kernel
theorem dX5_reads_22 : decode cX5_reads 22 = .ok (.putfield 32, 3) := by decide +kernel
theorem dX5_reads_25 : decode cX5_reads 25 = .ok (.aload_n 0, 1) := by decide +kernel
theorem dX5_reads_26 : decode cX5_reads 26 = .ok (.iconst 0, 1) := by decide +kernel
theorem dX5_reads_27 : decode cX5_reads 27 = .ok (.putfield 38, 3) := by decide +kernel
theorem dX5_reads_30 : decode cX5_reads 30 = .ok (.aload_n 0, 1) := by decide +kernel
theorem dX5_reads_31 : decode cX5_reads 31 = .ok (.iconst 0, 1) := by decide +kernel
theorem dX5_reads_32 : decode cX5_reads 32 = .ok (.putfield 41, 3) := by decide +kernel
theorem dX5_reads_35 : decode cX5_reads 35 = .ok (.aload_n 0, 1) := by decide +kernel
theorem dX5_reads_36 : decode cX5_reads 36 = .ok (.getfield 12, 3) := by decide +kernel
theorem dX5_reads_39 : decode cX5_reads 39 = .ok (.invokevirtual 44, 3) := by decide +kernel
theorem dX5_reads_42 : decode cX5_reads 42 = .ok (.aload_n 0, 1) := by decide +kernel
theorem dX5_reads_43 : decode cX5_reads 43 = .ok (.invokevirtual 47, 3) := by decide +kernel
theorem dX5_reads_46 : decode cX5_reads 46 = .ok (.pop, 1) := by decide +kernel
theorem dX5_reads_47 : decode cX5_reads 47 = .ok (.aload_n 0, 1) := by decide +kernel
theorem dX5_reads_48 : decode cX5_reads 48 = .ok (.invokevirtual 51, 3) := by decide +kernel
theorem dX5_reads_51 : decode cX5_reads 51 = .ok (.ifCond .ne 15, 3) := by decide +kernel
theorem dX5_reads_54 : decode cX5_reads 54 = .ok (.aload_n 0, 1) := by decide +kernel
theorem dX5_reads_55 : decode cX5_reads 55 = .ok (.invokevirtual 55, 3) := by decide +kernel
theorem dX5_reads_58 : decode cX5_reads 58 = .ok (.iconst (-1), 1) := by decide +kernel
theorem dX5_reads_59 : decode cX5_reads 59 = .ok (.if_icmp .eq 7, 3) := by decide +kernel
theorem dX5_reads_62 : decode cX5_reads 62 = .ok (.aload_n 0, 1) := by decide +kernel
theorem dX5_reads_63 : decode cX5_reads 63 = .ok (.invokevirtual 58, 3) := by decide +kernel
theorem dX5_reads_66 : decode cX5_reads 66 = .ok (.aload_n 0, 1) := by decide +kernel
theorem dX5_reads_67 : decode cX5_reads 67 = .ok (.invokevirtual 51, 3) := by decide +kernel
theorem dX5_reads_70 : decode cX5_reads 70 = .ok (.ifCond .ne 27, 3) := by decide +kernel
theorem dX5_reads_73 : decode cX5_reads 73 = .ok (.aload_n 0, 1) := by decide +kernel
theorem dX5_reads_74 : decode cX5_reads 74 = .ok (.getfield 12, 3) := by decide +kernel
theorem dX5_reads_77 : decode cX5_reads 77 = .ok (.invokevirtual 61, 3) := by decide +kernel
theorem dX5_reads_80 : decode cX5_reads 80 = .ok (.istore_n 3, 1) := by decide +kernel
theorem dX5_reads_81 : decode cX5_reads 81 = .ok (.iload_n 3, 1) := by decide +kernel
theorem dX5_reads_82 : decode cX5_reads 82 = .ok (.bipush (-9), 2) := by decide +kernel
theorem dX5_reads_84 : decode cX5_reads 84 = .ok (.if_icmp .eq 13, 3) := by decide +kernel
theorem dX5_reads_87 : decode cX5_reads 87 = .ok (.aload_n 0, 1) := by decide +kernel
theorem dX5_reads_88 : decode cX5_reads 88 = .ok (.iconst 2, 1) := by decide +kernel
theorem dX5_reads_89 : decode cX5_reads 89 = .ok (.putfield 38, 3) := by decide +kernel
theorem dX5_reads_92 : decode cX5_reads 92 = .ok (.aload_n 0, 1) := by decide +kernel
theorem dX5_reads_93 : decode cX5_reads 93 = .ok (.iload_n 3, 1) := by decide +kernel
theorem dX5_reads_94 : decode cX5_reads 94 = .ok (.putfield 41, 3) := by decide +kernel
theorem dX5_reads_97 : decode cX5_reads 97 = .ok (.aload_n 0, 1) := by decide +kernel
theorem dX5_reads_98 : decode cX5_reads 98 = .ok (.invokevirtual 51, 3) := by decide +kernel
theorem dX5_reads_101 : decode cX5_reads 101 = .ok (.ifCond .ne 7, 3) := by decide +kernel
theorem dX5_reads_104 : decode cX5_reads 104 = .ok (.iconst 1, 1) := by decide +kernel
theorem dX5_reads_105 : decode cX5_reads 105 = .ok (.goto 4, 3) := by decide +kernel
theorem dX5_reads_108 : decode cX5_reads 108 = .ok (.iconst 0, 1) := by decide +kernel
theorem dX5_reads_109 : decode cX5_reads 109 = .ok (.ireturn, 1) := by decide +kernel
theorem dX5_failed_0 : decode cX5_failed 0 = .ok (.aload_n 0, 1) := by decide +kernel
theorem dX5_failed_1 : decode cX5_failed 1 = .ok (.getfield 38, 3) := by decide +kernel
theorem dX5_failed_4 : decode cX5_failed 4 = .ok (.ifCond .eq 7, 3) := by decide +kernel
theorem dX5_failed_7 : decode cX5_failed 7 = .ok (.iconst 1, 1) := by decide +kernel
theorem dX5_failed_8 : decode cX5_failed 8 = .ok (.goto 4, 3) := by decide +kernel
theorem dX5_failed_11 : decode cX5_failed 11 = .ok (.iconst 0, 1) := by decide +kernel
theorem dX5_failed_12 : decode cX5_failed 12 = .ok (.ireturn, 1) := by decide +kernel
theorem dX5_failHere_0 : decode cX5_failHere 0 = .ok (.aload_n 0, 1) := by decide +kernel
theorem dX5_failHere_1 : decode cX5_failHere 1 = .ok (.invokevirtual 51, 3) := by decide +kernel
theorem dX5_failHere_4 : decode cX5_failHere 4 = .ok (.ifCond .ne 16, 3) := by decide +kernel
theorem dX5_failHere_7 : decode cX5_failHere 7 = .ok (.aload_n 0, 1) := by decide +kernel
theorem dX5_failHere_8 : decode cX5_failHere 8 = .ok (.iconst 1, 1) := by decide +kernel
theorem dX5_failHere_9 : decode cX5_failHere 9 = .ok (.putfield 38, 3) := by decide +kernel
theorem dX5_failHere_12 : decode cX5_failHere 12 = .ok (.aload_n 0, 1) := by decide +kernel
theorem dX5_failHere_13 : decode cX5_failHere 13 = .ok (.aload_n 0, 1) := by decide +kernel
theorem dX5_failHere_14 : decode cX5_failHere 14 = .ok (.getfield 26, 3) := by decide +kernel
theorem dX5_failHere_17 : decode cX5_failHere 17 = .ok (.putfield 41, 3) := by decide +kernel
theorem dX5_failHere_20 : decode cX5_failHere 20 = .ok (.return_, 1) := by decide +kernel
theorem dX5_here_0 : decode cX5_here 0 = .ok (.iconst 0, 1) := by decide +kernel
theorem dX5_here_1 : decode cX5_here 1 = .ok (.istore_n 1, 1) := by decide +kernel
theorem dX5_here_2 : decode cX5_here 2 = .ok (.iload_n 1, 1) := by decide +kernel
theorem dX5_here_3 : decode cX5_here 3 = .ok (.bipush 60, 2) := by decide +kernel
theorem dX5_here_5 : decode cX5_here 5 = .ok (.if_icmp .ge 46, 3) := by decide +kernel
theorem dX5_here_8 : decode cX5_here 8 = .ok (.aload_n 0, 1) := by decide +kernel
theorem dX5_here_9 : decode cX5_here 9 = .ok (.getfield 26, 3) := by decide +kernel
theorem dX5_here_12 : decode cX5_here 12 = .ok (.aload_n 0, 1) := by decide +kernel
theorem dX5_here_13 : decode cX5_here 13 = .ok (.getfield 22, 3) := by decide +kernel
theorem dX5_here_16 : decode cX5_here 16 = .ok (.if_icmp .ge 35, 3) := by decide +kernel
theorem dX5_here_19 : decode cX5_here 19 = .ok (.aload_n 0, 1) := by decide +kernel
theorem dX5_here_20 : decode cX5_here 20 = .ok (.getfield 18, 3) := by decide +kernel
theorem dX5_here_23 : decode cX5_here 23 = .ok (.aload_n 0, 1) := by decide +kernel
theorem dX5_here_24 : decode cX5_here 24 = .ok (.getfield 26, 3) := by decide +kernel
theorem dX5_here_27 : decode cX5_here 27 = .ok (.invokestatic 64, 3) := by decide +kernel
theorem dX5_here_30 : decode cX5_here 30 = .ok (.bipush 32, 2) := by decide +kernel
theorem dX5_here_32 : decode cX5_here 32 = .ok (.if_icmp .ne 19, 3) := by decide +kernel
theorem dX5_here_35 : decode cX5_here 35 = .ok (.aload_n 0, 1) := by decide +kernel
theorem dX5_here_36 : decode cX5_here 36 = .ok (.dup, 1) := by decide +kernel
theorem dX5_here_37 : decode cX5_here 37 = .ok (.getfield 26, 3) := by decide +kernel
theorem dX5_here_40 : decode cX5_here 40 = .ok (.iconst 1, 1) := by decide +kernel
theorem dX5_here_41 : decode cX5_here 41 = .ok (.iadd, 1) := by decide +kernel
theorem dX5_here_42 : decode cX5_here 42 = .ok (.putfield 26, 3) := by decide +kernel
theorem dX5_here_45 : decode cX5_here 45 = .ok (.iinc 1 1, 3) := by decide +kernel
theorem dX5_here_48 : decode cX5_here 48 = .ok (.goto (-46), 3) := by decide +kernel
theorem dX5_here_51 : decode cX5_here 51 = .ok (.aload_n 0, 1) := by decide +kernel
theorem dX5_here_52 : decode cX5_here 52 = .ok (.getfield 26, 3) := by decide +kernel
theorem dX5_here_55 : decode cX5_here 55 = .ok (.aload_n 0, 1) := by decide +kernel
theorem dX5_here_56 : decode cX5_here 56 = .ok (.getfield 22, 3) := by decide +kernel
theorem dX5_here_59 : decode cX5_here 59 = .ok (.if_icmp .ge 17, 3) := by decide +kernel
theorem dX5_here_62 : decode cX5_here 62 = .ok (.aload_n 0, 1) := by decide +kernel
theorem dX5_here_63 : decode cX5_here 63 = .ok (.getfield 18, 3) := by decide +kernel
theorem dX5_here_66 : decode cX5_here 66 = .ok (.aload_n 0, 1) := by decide +kernel
theorem dX5_here_67 : decode cX5_here 67 = .ok (.getfield 26, 3) := by decide +kernel
theorem dX5_here_70 : decode cX5_here 70 = .ok (.invokestatic 64, 3) := by decide +kernel
theorem dX5_here_73 : decode cX5_here 73 = .ok (.goto 4, 3) := by decide +kernel
theorem dX5_here_76 : decode cX5_here 76 = .ok (.iconst (-1), 1) := by decide +kernel
theorem dX5_here_77 : decode cX5_here 77 = .ok (.ireturn, 1) := by decide +kernel
theorem dX5_takes_0 : decode cX5_takes 0 = .ok (.aload_n 0, 1) := by decide +kernel
theorem dX5_takes_1 : decode cX5_takes 1 = .ok (.invokevirtual 51, 3) := by decide +kernel
theorem dX5_takes_4 : decode cX5_takes 4 = .ok (.ifCond .ne 22, 3) := by decide +kernel
theorem dX5_takes_7 : decode cX5_takes 7 = .ok (.aload_n 0, 1) := by decide +kernel
theorem dX5_takes_8 : decode cX5_takes 8 = .ok (.invokevirtual 55, 3) := by decide +kernel
theorem dX5_takes_11 : decode cX5_takes 11 = .ok (.iload_n 1, 1) := by decide +kernel
theorem dX5_takes_12 : decode cX5_takes 12 = .ok (.if_icmp .ne 14, 3) := by decide +kernel
theorem dX5_takes_15 : decode cX5_takes 15 = .ok (.aload_n 0, 1) := by decide +kernel
theorem dX5_takes_16 : decode cX5_takes 16 = .ok (.invokevirtual 68, 3) := by decide +kernel
theorem dX5_takes_19 : decode cX5_takes 19 = .ok (.ifCond .eq 7, 3) := by decide +kernel
theorem dX5_takes_22 : decode cX5_takes 22 = .ok (.iconst 1, 1) := by decide +kernel
theorem dX5_takes_23 : decode cX5_takes 23 = .ok (.goto 4, 3) := by decide +kernel
theorem dX5_takes_26 : decode cX5_takes 26 = .ok (.iconst 0, 1) := by decide +kernel
theorem dX5_takes_27 : decode cX5_takes 27 = .ok (.ireturn, 1) := by decide +kernel
theorem dX5_beginsNode_0 : decode cX5_beginsNode 0 = .ok (.aload_n 0, 1) := by decide +kernel
theorem dX5_beginsNode_1 : decode cX5_beginsNode 1 = .ok (.getfield 29, 3) := by decide +kernel
theorem dX5_beginsNode_4 : decode cX5_beginsNode 4 = .ok (.bipush 9, 2) := by decide +kernel
theorem dX5_beginsNode_6 : decode cX5_beginsNode 6 = .ok (.if_icmp .lt 9, 3) := by decide +kernel
theorem dX5_beginsNode_9 : decode cX5_beginsNode 9 = .ok (.aload_n 0, 1) := by decide +kernel
theorem dX5_beginsNode_10 : decode cX5_beginsNode 10 = .ok (.invokevirtual 58, 3) := by decide +kernel
theorem dX5_beginsNode_13 : decode cX5_beginsNode 13 = .ok (.iconst 0, 1) := by decide +kernel
theorem dX5_beginsNode_14 : decode cX5_beginsNode 14 = .ok (.ireturn, 1) := by decide +kernel
theorem dX5_beginsNode_15 : decode cX5_beginsNode 15 = .ok (.aload_n 0, 1) := by decide +kernel
theorem dX5_beginsNode_16 : decode cX5_beginsNode 16 = .ok (.dup, 1) := by decide +kernel
theorem dX5_beginsNode_17 : decode cX5_beginsNode 17 = .ok (.getfield 29, 3) := by decide +kernel
theorem dX5_beginsNode_20 : decode cX5_beginsNode 20 = .ok (.iconst 1, 1) := by decide +kernel
theorem dX5_beginsNode_21 : decode cX5_beginsNode 21 = .ok (.iadd, 1) := by decide +kernel
theorem dX5_beginsNode_22 : decode cX5_beginsNode 22 = .ok (.putfield 29, 3) := by decide +kernel
theorem dX5_beginsNode_25 : decode cX5_beginsNode 25 = .ok (.aload_n 0, 1) := by decide +kernel
theorem dX5_beginsNode_26 : decode cX5_beginsNode 26 = .ok (.aload_n 0, 1) := by decide +kernel
theorem dX5_beginsNode_27 : decode cX5_beginsNode 27 = .ok (.getfield 26, 3) := by decide +kernel
theorem dX5_beginsNode_30 : decode cX5_beginsNode 30 = .ok (.putfield 35, 3) := by decide +kernel
theorem dX5_beginsNode_33 : decode cX5_beginsNode 33 = .ok (.aload_n 0, 1) := by decide +kernel
theorem dX5_beginsNode_34 : decode cX5_beginsNode 34 = .ok (.dup, 1) := by decide +kernel
theorem dX5_beginsNode_35 : decode cX5_beginsNode 35 = .ok (.getfield 26, 3) := by decide +kernel
theorem dX5_beginsNode_38 : decode cX5_beginsNode 38 = .ok (.iconst 1, 1) := by decide +kernel
theorem dX5_beginsNode_39 : decode cX5_beginsNode 39 = .ok (.iadd, 1) := by decide +kernel
theorem dX5_beginsNode_40 : decode cX5_beginsNode 40 = .ok (.putfield 26, 3) := by decide +kernel
theorem dX5_beginsNode_43 : decode cX5_beginsNode 43 = .ok (.iconst 1, 1) := by decide +kernel
theorem dX5_beginsNode_44 : decode cX5_beginsNode 44 = .ok (.ireturn, 1) := by decide +kernel
theorem dX5_made_0 : decode cX5_made 0 = .ok (.aload_n 0, 1) := by decide +kernel
theorem dX5_made_1 : decode cX5_made 1 = .ok (.invokevirtual 51, 3) := by decide +kernel
theorem dX5_made_4 : decode cX5_made 4 = .ok (.ifCond .eq 8, 3) := by decide +kernel
theorem dX5_made_7 : decode cX5_made 7 = .ok (.bipush (-9), 2) := by decide +kernel
theorem dX5_made_9 : decode cX5_made 9 = .ok (.goto 15, 3) := by decide +kernel
theorem dX5_made_12 : decode cX5_made 12 = .ok (.aload_n 0, 1) := by decide +kernel
theorem dX5_made_13 : decode cX5_made 13 = .ok (.getfield 12, 3) := by decide +kernel
theorem dX5_made_16 : decode cX5_made 16 = .ok (.iload_n 1, 1) := by decide +kernel
theorem dX5_made_17 : decode cX5_made 17 = .ok (.iload_n 2, 1) := by decide +kernel
theorem dX5_made_18 : decode cX5_made 18 = .ok (.iload_n 3, 1) := by decide +kernel
theorem dX5_made_19 : decode cX5_made 19 = .ok (.iload 4, 2) := by decide +kernel
theorem dX5_made_21 : decode cX5_made 21 = .ok (.invokevirtual 71, 3) := by decide +kernel
theorem dX5_made_24 : decode cX5_made 24 = .ok (.ireturn, 1) := by decide +kernel
theorem dX5_readRule_0 : decode cX5_readRule 0 = .ok (.aload_n 0, 1) := by decide +kernel
theorem dX5_readRule_1 : decode cX5_readRule 1 = .ok (.invokevirtual 75, 3) := by decide +kernel
theorem dX5_readRule_4 : decode cX5_readRule 4 = .ok (.istore_n 1, 1) := by decide +kernel
theorem dX5_readRule_5 : decode cX5_readRule 5 = .ok (.aload_n 0, 1) := by decide +kernel
theorem dX5_readRule_6 : decode cX5_readRule 6 = .ok (.bipush 62, 2) := by decide +kernel
theorem dX5_readRule_8 : decode cX5_readRule 8 = .ok (.invokevirtual 78, 3) := by decide +kernel
theorem dX5_readRule_11 : decode cX5_readRule 11 = .ok (.ifCond .ne 5, 3) := by decide +kernel
theorem dX5_readRule_14 : decode cX5_readRule 14 = .ok (.iload_n 1, 1) := by decide +kernel
theorem dX5_readRule_15 : decode cX5_readRule 15 = .ok (.ireturn, 1) := by decide +kernel
theorem dX5_readRule_16 : decode cX5_readRule 16 = .ok (.aload_n 0, 1) := by decide +kernel
theorem dX5_readRule_17 : decode cX5_readRule 17 = .ok (.getfield 35, 3) := by decide +kernel
theorem dX5_readRule_20 : decode cX5_readRule 20 = .ok (.istore_n 2, 1) := by decide +kernel
theorem dX5_readRule_21 : decode cX5_readRule 21 = .ok (.aload_n 0, 1) := by decide +kernel
theorem dX5_readRule_22 : decode cX5_readRule 22 = .ok (.invokevirtual 47, 3) := by decide +kernel
theorem dX5_readRule_25 : decode cX5_readRule 25 = .ok (.istore_n 3, 1) := by decide +kernel
theorem dX5_readRule_26 : decode cX5_readRule 26 = .ok (.aload_n 0, 1) := by decide +kernel
theorem dX5_readRule_27 : decode cX5_readRule 27 = .ok (.bipush 62, 2) := by decide +kernel
theorem dX5_readRule_29 : decode cX5_readRule 29 = .ok (.iload_n 1, 1) := by decide +kernel
theorem dX5_readRule_30 : decode cX5_readRule 30 = .ok (.iload_n 3, 1) := by decide +kernel
theorem dX5_readRule_31 : decode cX5_readRule 31 = .ok (.iload_n 2, 1) := by decide +kernel
theorem dX5_readRule_32 : decode cX5_readRule 32 = .ok (.invokevirtual 82, 3) := by decide +kernel
theorem dX5_readRule_35 : decode cX5_readRule 35 = .ok (.ireturn, 1) := by decide +kernel
theorem dX5_readEither_0 : decode cX5_readEither 0 = .ok (.aload_n 0, 1) := by decide +kernel
theorem dX5_readEither_1 : decode cX5_readEither 1 = .ok (.invokevirtual 85, 3) := by decide +kernel
theorem dX5_readEither_4 : decode cX5_readEither 4 = .ok (.istore_n 1, 1) := by decide +kernel
theorem dX5_readEither_5 : decode cX5_readEither 5 = .ok (.iconst 0, 1) := by decide +kernel
theorem dX5_readEither_6 : decode cX5_readEither 6 = .ok (.istore_n 2, 1) := by decide +kernel
theorem dX5_readEither_7 : decode cX5_readEither 7 = .ok (.iload_n 2, 1) := by decide +kernel
theorem dX5_readEither_8 : decode cX5_readEither 8 = .ok (.bipush 9, 2) := by decide +kernel
theorem dX5_readEither_10 : decode cX5_readEither 10 = .ok (.if_icmp .ge 40, 3) := by decide +kernel
theorem dX5_readEither_13 : decode cX5_readEither 13 = .ok (.aload_n 0, 1) := by decide +kernel
theorem dX5_readEither_14 : decode cX5_readEither 14 = .ok (.bipush 47, 2) := by decide +kernel
theorem dX5_readEither_16 : decode cX5_readEither 16 = .ok (.invokevirtual 78, 3) := by decide +kernel
theorem dX5_readEither_19 : decode cX5_readEither 19 = .ok (.ifCond .eq 31, 3) := by decide +kernel
theorem dX5_readEither_22 : decode cX5_readEither 22 = .ok (.aload_n 0, 1) := by decide +kernel
theorem dX5_readEither_23 : decode cX5_readEither 23 = .ok (.getfield 35, 3) := by decide +kernel
theorem dX5_readEither_26 : decode cX5_readEither 26 = .ok (.istore_n 3, 1) := by decide +kernel
theorem dX5_readEither_27 : decode cX5_readEither 27 = .ok (.aload_n 0, 1) := by decide +kernel
theorem dX5_readEither_28 : decode cX5_readEither 28 = .ok (.invokevirtual 85, 3) := by decide +kernel
theorem dX5_readEither_31 : decode cX5_readEither 31 = .ok (.istore 4, 2) := by decide +kernel
theorem dX5_readEither_33 : decode cX5_readEither 33 = .ok (.aload_n 0, 1) := by decide +kernel
theorem dX5_readEither_34 : decode cX5_readEither 34 = .ok (.bipush 47, 2) := by decide +kernel
theorem dX5_readEither_36 : decode cX5_readEither 36 = .ok (.iload_n 1, 1) := by decide +kernel
theorem dX5_readEither_37 : decode cX5_readEither 37 = .ok (.iload 4, 2) := by decide +kernel
theorem dX5_readEither_39 : decode cX5_readEither 39 = .ok (.iload_n 3, 1) := by decide +kernel
theorem dX5_readEither_40 : decode cX5_readEither 40 = .ok (.invokevirtual 82, 3) := by decide +kernel
theorem dX5_readEither_43 : decode cX5_readEither 43 = .ok (.istore_n 1, 1) := by decide +kernel
theorem dX5_readEither_44 : decode cX5_readEither 44 = .ok (.iinc 2 1, 3) := by decide +kernel
theorem dX5_readEither_47 : decode cX5_readEither 47 = .ok (.goto (-40), 3) := by decide +kernel
theorem dX5_readEither_50 : decode cX5_readEither 50 = .ok (.iload_n 1, 1) := by decide +kernel
theorem dX5_readEither_51 : decode cX5_readEither 51 = .ok (.ireturn, 1) := by decide +kernel
theorem dX5_readBoth_0 : decode cX5_readBoth 0 = .ok (.aload_n 0, 1) := by decide +kernel
theorem dX5_readBoth_1 : decode cX5_readBoth 1 = .ok (.invokevirtual 88, 3) := by decide +kernel
theorem dX5_readBoth_4 : decode cX5_readBoth 4 = .ok (.istore_n 1, 1) := by decide +kernel
theorem dX5_readBoth_5 : decode cX5_readBoth 5 = .ok (.iconst 0, 1) := by decide +kernel
theorem dX5_readBoth_6 : decode cX5_readBoth 6 = .ok (.istore_n 2, 1) := by decide +kernel
theorem dX5_readBoth_7 : decode cX5_readBoth 7 = .ok (.iload_n 2, 1) := by decide +kernel
theorem dX5_readBoth_8 : decode cX5_readBoth 8 = .ok (.bipush 9, 2) := by decide +kernel
theorem dX5_readBoth_10 : decode cX5_readBoth 10 = .ok (.if_icmp .ge 40, 3) := by decide +kernel
theorem dX5_readBoth_13 : decode cX5_readBoth 13 = .ok (.aload_n 0, 1) := by decide +kernel
theorem dX5_readBoth_14 : decode cX5_readBoth 14 = .ok (.bipush 38, 2) := by decide +kernel
theorem dX5_readBoth_16 : decode cX5_readBoth 16 = .ok (.invokevirtual 78, 3) := by decide +kernel
theorem dX5_readBoth_19 : decode cX5_readBoth 19 = .ok (.ifCond .eq 31, 3) := by decide +kernel
theorem dX5_readBoth_22 : decode cX5_readBoth 22 = .ok (.aload_n 0, 1) := by decide +kernel
theorem dX5_readBoth_23 : decode cX5_readBoth 23 = .ok (.getfield 35, 3) := by decide +kernel
theorem dX5_readBoth_26 : decode cX5_readBoth 26 = .ok (.istore_n 3, 1) := by decide +kernel
theorem dX5_readBoth_27 : decode cX5_readBoth 27 = .ok (.aload_n 0, 1) := by decide +kernel
theorem dX5_readBoth_28 : decode cX5_readBoth 28 = .ok (.invokevirtual 88, 3) := by decide +kernel
theorem dX5_readBoth_31 : decode cX5_readBoth 31 = .ok (.istore 4, 2) := by decide +kernel
theorem dX5_readBoth_33 : decode cX5_readBoth 33 = .ok (.aload_n 0, 1) := by decide +kernel
theorem dX5_readBoth_34 : decode cX5_readBoth 34 = .ok (.bipush 38, 2) := by decide +kernel
theorem dX5_readBoth_36 : decode cX5_readBoth 36 = .ok (.iload_n 1, 1) := by decide +kernel
theorem dX5_readBoth_37 : decode cX5_readBoth 37 = .ok (.iload 4, 2) := by decide +kernel
theorem dX5_readBoth_39 : decode cX5_readBoth 39 = .ok (.iload_n 3, 1) := by decide +kernel
theorem dX5_readBoth_40 : decode cX5_readBoth 40 = .ok (.invokevirtual 82, 3) := by decide +kernel
theorem dX5_readBoth_43 : decode cX5_readBoth 43 = .ok (.istore_n 1, 1) := by decide +kernel
theorem dX5_readBoth_44 : decode cX5_readBoth 44 = .ok (.iinc 2 1, 3) := by decide +kernel
theorem dX5_readBoth_47 : decode cX5_readBoth 47 = .ok (.goto (-40), 3) := by decide +kernel
theorem dX5_readBoth_50 : decode cX5_readBoth 50 = .ok (.iload_n 1, 1) := by decide +kernel
theorem dX5_readBoth_51 : decode cX5_readBoth 51 = .ok (.ireturn, 1) := by decide +kernel
theorem dX5_readPair_0 : decode cX5_readPair 0 = .ok (.aload_n 0, 1) := by decide +kernel
theorem dX5_readPair_1 : decode cX5_readPair 1 = .ok (.invokevirtual 91, 3) := by decide +kernel
theorem dX5_readPair_4 : decode cX5_readPair 4 = .ok (.istore_n 1, 1) := by decide +kernel
theorem dX5_readPair_5 : decode cX5_readPair 5 = .ok (.aload_n 0, 1) := by decide +kernel
theorem dX5_readPair_6 : decode cX5_readPair 6 = .ok (.bipush 85, 2) := by decide +kernel
theorem dX5_readPair_8 : decode cX5_readPair 8 = .ok (.invokevirtual 78, 3) := by decide +kernel
theorem dX5_readPair_11 : decode cX5_readPair 11 = .ok (.ifCond .eq 8, 3) := by decide +kernel
theorem dX5_readPair_14 : decode cX5_readPair 14 = .ok (.bipush 85, 2) := by decide +kernel
theorem dX5_readPair_16 : decode cX5_readPair 16 = .ok (.goto 18, 3) := by decide +kernel
theorem dX5_readPair_19 : decode cX5_readPair 19 = .ok (.aload_n 0, 1) := by decide +kernel
theorem dX5_readPair_20 : decode cX5_readPair 20 = .ok (.bipush 83, 2) := by decide +kernel
theorem dX5_readPair_22 : decode cX5_readPair 22 = .ok (.invokevirtual 78, 3) := by decide +kernel
theorem dX5_readPair_25 : decode cX5_readPair 25 = .ok (.ifCond .eq 8, 3) := by decide +kernel
theorem dX5_readPair_28 : decode cX5_readPair 28 = .ok (.bipush 83, 2) := by decide +kernel
theorem dX5_readPair_30 : decode cX5_readPair 30 = .ok (.goto 4, 3) := by decide +kernel
theorem dX5_readPair_33 : decode cX5_readPair 33 = .ok (.iconst (-1), 1) := by decide +kernel
theorem dX5_readPair_34 : decode cX5_readPair 34 = .ok (.istore_n 2, 1) := by decide +kernel
theorem dX5_readPair_35 : decode cX5_readPair 35 = .ok (.iload_n 2, 1) := by decide +kernel
theorem dX5_readPair_36 : decode cX5_readPair 36 = .ok (.iconst (-1), 1) := by decide +kernel
theorem dX5_readPair_37 : decode cX5_readPair 37 = .ok (.if_icmp .ne 5, 3) := by decide +kernel
theorem dX5_readPair_40 : decode cX5_readPair 40 = .ok (.iload_n 1, 1) := by decide +kernel
theorem dX5_readPair_41 : decode cX5_readPair 41 = .ok (.ireturn, 1) := by decide +kernel
theorem dX5_readPair_42 : decode cX5_readPair 42 = .ok (.aload_n 0, 1) := by decide +kernel
theorem dX5_readPair_43 : decode cX5_readPair 43 = .ok (.getfield 35, 3) := by decide +kernel
theorem dX5_readPair_46 : decode cX5_readPair 46 = .ok (.istore_n 3, 1) := by decide +kernel
theorem dX5_readPair_47 : decode cX5_readPair 47 = .ok (.aload_n 0, 1) := by decide +kernel
theorem dX5_readPair_48 : decode cX5_readPair 48 = .ok (.invokevirtual 88, 3) := by decide +kernel
theorem dX5_readPair_51 : decode cX5_readPair 51 = .ok (.istore 4, 2) := by decide +kernel
theorem dX5_readPair_53 : decode cX5_readPair 53 = .ok (.aload_n 0, 1) := by decide +kernel
theorem dX5_readPair_54 : decode cX5_readPair 54 = .ok (.iload_n 2, 1) := by decide +kernel
theorem dX5_readPair_55 : decode cX5_readPair 55 = .ok (.iload_n 1, 1) := by decide +kernel
theorem dX5_readPair_56 : decode cX5_readPair 56 = .ok (.iload 4, 2) := by decide +kernel
theorem dX5_readPair_58 : decode cX5_readPair 58 = .ok (.iload_n 3, 1) := by decide +kernel
theorem dX5_readPair_59 : decode cX5_readPair 59 = .ok (.invokevirtual 82, 3) := by decide +kernel
theorem dX5_readPair_62 : decode cX5_readPair 62 = .ok (.ireturn, 1) := by decide +kernel
theorem dX5_readOne_0 : decode cX5_readOne 0 = .ok (.aload_n 0, 1) := by decide +kernel
theorem dX5_readOne_1 : decode cX5_readOne 1 = .ok (.invokevirtual 55, 3) := by decide +kernel
theorem dX5_readOne_4 : decode cX5_readOne 4 = .ok (.istore_n 1, 1) := by decide +kernel
theorem dX5_readOne_5 : decode cX5_readOne 5 = .ok (.iload_n 1, 1) := by decide +kernel
theorem dX5_readOne_6 : decode cX5_readOne 6 = .ok (.bipush 40, 2) := by decide +kernel
theorem dX5_readOne_8 : decode cX5_readOne 8 = .ok (.if_icmp .ne 8, 3) := by decide +kernel
theorem dX5_readOne_11 : decode cX5_readOne 11 = .ok (.aload_n 0, 1) := by decide +kernel
theorem dX5_readOne_12 : decode cX5_readOne 12 = .ok (.invokevirtual 94, 3) := by decide +kernel
theorem dX5_readOne_15 : decode cX5_readOne 15 = .ok (.ireturn, 1) := by decide +kernel
theorem dX5_readOne_16 : decode cX5_readOne 16 = .ok (.iload_n 1, 1) := by decide +kernel
theorem dX5_readOne_17 : decode cX5_readOne 17 = .ok (.bipush 46, 2) := by decide +kernel
theorem dX5_readOne_19 : decode cX5_readOne 19 = .ok (.if_icmp .eq 15, 3) := by decide +kernel
theorem dX5_readOne_22 : decode cX5_readOne 22 = .ok (.iload_n 1, 1) := by decide +kernel
theorem dX5_readOne_23 : decode cX5_readOne 23 = .ok (.bipush 97, 2) := by decide +kernel
theorem dX5_readOne_25 : decode cX5_readOne 25 = .ok (.if_icmp .lt 13, 3) := by decide +kernel
theorem dX5_readOne_28 : decode cX5_readOne 28 = .ok (.iload_n 1, 1) := by decide +kernel
theorem dX5_readOne_29 : decode cX5_readOne 29 = .ok (.bipush 101, 2) := by decide +kernel
theorem dX5_readOne_31 : decode cX5_readOne 31 = .ok (.if_icmp .ge 7, 3) := by decide +kernel
theorem dX5_readOne_34 : decode cX5_readOne 34 = .ok (.iconst 1, 1) := by decide +kernel
theorem dX5_readOne_35 : decode cX5_readOne 35 = .ok (.goto 4, 3) := by decide +kernel
theorem dX5_readOne_38 : decode cX5_readOne 38 = .ok (.iconst 0, 1) := by decide +kernel
theorem dX5_readOne_39 : decode cX5_readOne 39 = .ok (.istore_n 2, 1) := by decide +kernel
theorem dX5_readOne_40 : decode cX5_readOne 40 = .ok (.iload_n 2, 1) := by decide +kernel
theorem dX5_readOne_41 : decode cX5_readOne 41 = .ok (.ifCond .ne 17, 3) := by decide +kernel
theorem dX5_readOne_44 : decode cX5_readOne 44 = .ok (.iload_n 1, 1) := by decide +kernel
theorem dX5_readOne_45 : decode cX5_readOne 45 = .ok (.invokestatic 97, 3) := by decide +kernel
theorem dX5_readOne_48 : decode cX5_readOne 48 = .ok (.ifCond .ne 10, 3) := by decide +kernel
theorem dX5_readOne_51 : decode cX5_readOne 51 = .ok (.aload_n 0, 1) := by decide +kernel
theorem dX5_readOne_52 : decode cX5_readOne 52 = .ok (.invokevirtual 58, 3) := by decide +kernel
theorem dX5_readOne_55 : decode cX5_readOne 55 = .ok (.bipush (-9), 2) := by decide +kernel
theorem dX5_readOne_57 : decode cX5_readOne 57 = .ok (.ireturn, 1) := by decide +kernel
theorem dX5_readOne_58 : decode cX5_readOne 58 = .ok (.aload_n 0, 1) := by decide +kernel
theorem dX5_readOne_59 : decode cX5_readOne 59 = .ok (.invokevirtual 68, 3) := by decide +kernel
theorem dX5_readOne_62 : decode cX5_readOne 62 = .ok (.ifCond .ne 6, 3) := by decide +kernel
theorem dX5_readOne_65 : decode cX5_readOne 65 = .ok (.bipush (-9), 2) := by decide +kernel
theorem dX5_readOne_67 : decode cX5_readOne 67 = .ok (.ireturn, 1) := by decide +kernel
theorem dX5_readOne_68 : decode cX5_readOne 68 = .ok (.aload_n 0, 1) := by decide +kernel
theorem dX5_readOne_69 : decode cX5_readOne 69 = .ok (.getfield 35, 3) := by decide +kernel
theorem dX5_readOne_72 : decode cX5_readOne 72 = .ok (.istore_n 3, 1) := by decide +kernel
theorem dX5_readOne_73 : decode cX5_readOne 73 = .ok (.aload_n 0, 1) := by decide +kernel
theorem dX5_readOne_74 : decode cX5_readOne 74 = .ok (.iload_n 1, 1) := by decide +kernel
theorem dX5_readOne_75 : decode cX5_readOne 75 = .ok (.iload_n 2, 1) := by decide +kernel
theorem dX5_readOne_76 : decode cX5_readOne 76 = .ok (.ifCond .eq 8, 3) := by decide +kernel
theorem dX5_readOne_79 : decode cX5_readOne 79 = .ok (.bipush (-9), 2) := by decide +kernel
theorem dX5_readOne_81 : decode cX5_readOne 81 = .ok (.goto 7, 3) := by decide +kernel
theorem dX5_readOne_84 : decode cX5_readOne 84 = .ok (.aload_n 0, 1) := by decide +kernel
theorem dX5_readOne_85 : decode cX5_readOne 85 = .ok (.invokevirtual 91, 3) := by decide +kernel
theorem dX5_readOne_88 : decode cX5_readOne 88 = .ok (.bipush (-9), 2) := by decide +kernel
theorem dX5_readOne_90 : decode cX5_readOne 90 = .ok (.iload_n 3, 1) := by decide +kernel
theorem dX5_readOne_91 : decode cX5_readOne 91 = .ok (.invokevirtual 82, 3) := by decide +kernel
theorem dX5_readOne_94 : decode cX5_readOne 94 = .ok (.ireturn, 1) := by decide +kernel
theorem dX5_readBracket_0 : decode cX5_readBracket 0 = .ok (.aload_n 0, 1) := by decide +kernel
theorem dX5_readBracket_1 : decode cX5_readBracket 1 = .ok (.getfield 32, 3) := by decide +kernel
theorem dX5_readBracket_4 : decode cX5_readBracket 4 = .ok (.bipush 7, 2) := by decide +kernel
theorem dX5_readBracket_6 : decode cX5_readBracket 6 = .ok (.if_icmp .le 10, 3) := by decide +kernel
theorem dX5_readBracket_9 : decode cX5_readBracket 9 = .ok (.aload_n 0, 1) := by decide +kernel
theorem dX5_readBracket_10 : decode cX5_readBracket 10 = .ok (.invokevirtual 58, 3) := by decide +kernel
theorem dX5_readBracket_13 : decode cX5_readBracket 13 = .ok (.bipush (-9), 2) := by decide +kernel
theorem dX5_readBracket_15 : decode cX5_readBracket 15 = .ok (.ireturn, 1) := by decide +kernel
theorem dX5_readBracket_16 : decode cX5_readBracket 16 = .ok (.aload_n 0, 1) := by decide +kernel
theorem dX5_readBracket_17 : decode cX5_readBracket 17 = .ok (.dup, 1) := by decide +kernel
theorem dX5_readBracket_18 : decode cX5_readBracket 18 = .ok (.getfield 32, 3) := by decide +kernel
theorem dX5_readBracket_21 : decode cX5_readBracket 21 = .ok (.iconst 1, 1) := by decide +kernel
theorem dX5_readBracket_22 : decode cX5_readBracket 22 = .ok (.iadd, 1) := by decide +kernel
theorem dX5_readBracket_23 : decode cX5_readBracket 23 = .ok (.putfield 32, 3) := by decide +kernel
theorem dX5_readBracket_26 : decode cX5_readBracket 26 = .ok (.aload_n 0, 1) := by decide +kernel
theorem dX5_readBracket_27 : decode cX5_readBracket 27 = .ok (.dup, 1) := by decide +kernel
theorem dX5_readBracket_28 : decode cX5_readBracket 28 = .ok (.getfield 26, 3) := by decide +kernel
theorem dX5_readBracket_31 : decode cX5_readBracket 31 = .ok (.iconst 1, 1) := by decide +kernel
theorem dX5_readBracket_32 : decode cX5_readBracket 32 = .ok (.iadd, 1) := by decide +kernel
theorem dX5_readBracket_33 : decode cX5_readBracket 33 = .ok (.putfield 26, 3) := by decide +kernel
theorem dX5_readBracket_36 : decode cX5_readBracket 36 = .ok (.aload_n 0, 1) := by decide +kernel
theorem dX5_readBracket_37 : decode cX5_readBracket 37 = .ok (.invokevirtual 47, 3) := by decide +kernel
theorem dX5_readBracket_40 : decode cX5_readBracket 40 = .ok (.istore_n 1, 1) := by decide +kernel
theorem dX5_readBracket_41 : decode cX5_readBracket 41 = .ok (.aload_n 0, 1) := by decide +kernel
theorem dX5_readBracket_42 : decode cX5_readBracket 42 = .ok (.invokevirtual 51, 3) := by decide +kernel
theorem dX5_readBracket_45 : decode cX5_readBracket 45 = .ok (.ifCond .ne 16, 3) := by decide +kernel
theorem dX5_readBracket_48 : decode cX5_readBracket 48 = .ok (.aload_n 0, 1) := by decide +kernel
theorem dX5_readBracket_49 : decode cX5_readBracket 49 = .ok (.invokevirtual 55, 3) := by decide +kernel
theorem dX5_readBracket_52 : decode cX5_readBracket 52 = .ok (.bipush 41, 2) := by decide +kernel
theorem dX5_readBracket_54 : decode cX5_readBracket 54 = .ok (.if_icmp .eq 7, 3) := by decide +kernel
theorem dX5_readBracket_57 : decode cX5_readBracket 57 = .ok (.aload_n 0, 1) := by decide +kernel
theorem dX5_readBracket_58 : decode cX5_readBracket 58 = .ok (.invokevirtual 58, 3) := by decide +kernel
theorem dX5_readBracket_61 : decode cX5_readBracket 61 = .ok (.aload_n 0, 1) := by decide +kernel
theorem dX5_readBracket_62 : decode cX5_readBracket 62 = .ok (.dup, 1) := by decide +kernel
theorem dX5_readBracket_63 : decode cX5_readBracket 63 = .ok (.getfield 26, 3) := by decide +kernel
theorem dX5_readBracket_66 : decode cX5_readBracket 66 = .ok (.iconst 1, 1) := by decide +kernel
theorem dX5_readBracket_67 : decode cX5_readBracket 67 = .ok (.iadd, 1) := by decide +kernel
theorem dX5_readBracket_68 : decode cX5_readBracket 68 = .ok (.putfield 26, 3) := by decide +kernel
theorem dX5_readBracket_71 : decode cX5_readBracket 71 = .ok (.aload_n 0, 1) := by decide +kernel
theorem dX5_readBracket_72 : decode cX5_readBracket 72 = .ok (.dup, 1) := by decide +kernel
theorem dX5_readBracket_73 : decode cX5_readBracket 73 = .ok (.getfield 32, 3) := by decide +kernel
theorem dX5_readBracket_76 : decode cX5_readBracket 76 = .ok (.iconst 1, 1) := by decide +kernel
theorem dX5_readBracket_77 : decode cX5_readBracket 77 = .ok (.isub, 1) := by decide +kernel
theorem dX5_readBracket_78 : decode cX5_readBracket 78 = .ok (.putfield 32, 3) := by decide +kernel
theorem dX5_readBracket_81 : decode cX5_readBracket 81 = .ok (.iload_n 1, 1) := by decide +kernel
theorem dX5_readBracket_82 : decode cX5_readBracket 82 = .ok (.ireturn, 1) := by decide +kernel
theorem dX5_standsAheadOfOne_0 : decode cX5_standsAheadOfOne 0 = .ok (.iload_n 0, 1) := by decide +kernel
theorem dX5_standsAheadOfOne_1 : decode cX5_standsAheadOfOne 1 = .ok (.bipush 33, 2) := by decide +kernel
theorem dX5_standsAheadOfOne_3 : decode cX5_standsAheadOfOne 3 = .ok (.if_icmp .ne 5, 3) := by decide +kernel
theorem dX5_standsAheadOfOne_6 : decode cX5_standsAheadOfOne 6 = .ok (.iconst 1, 1) := by decide +kernel
theorem dX5_standsAheadOfOne_7 : decode cX5_standsAheadOfOne 7 = .ok (.ireturn, 1) := by decide +kernel
theorem dX5_standsAheadOfOne_8 : decode cX5_standsAheadOfOne 8 = .ok (.iload_n 0, 1) := by decide +kernel
theorem dX5_standsAheadOfOne_9 : decode cX5_standsAheadOfOne 9 = .ok (.bipush 85, 2) := by decide +kernel
theorem dX5_standsAheadOfOne_11 : decode cX5_standsAheadOfOne 11 = .ok (.if_icmp .eq 27, 3) := by decide +kernel
theorem dX5_standsAheadOfOne_14 : decode cX5_standsAheadOfOne 14 = .ok (.iload_n 0, 1) := by decide +kernel
theorem dX5_standsAheadOfOne_15 : decode cX5_standsAheadOfOne 15 = .ok (.bipush 83, 2) := by decide +kernel
theorem dX5_standsAheadOfOne_17 : decode cX5_standsAheadOfOne 17 = .ok (.if_icmp .eq 21, 3) := by decide +kernel
theorem dX5_standsAheadOfOne_20 : decode cX5_standsAheadOfOne 20 = .ok (.iload_n 0, 1) := by decide +kernel
theorem dX5_standsAheadOfOne_21 : decode cX5_standsAheadOfOne 21 = .ok (.invokestatic 100, 3) := by decide +kernel
theorem dX5_standsAheadOfOne_24 : decode cX5_standsAheadOfOne 24 = .ok (.ifCond .ne 10, 3) := by decide +kernel
theorem dX5_standsAheadOfOne_27 : decode cX5_standsAheadOfOne 27 = .ok (.iload_n 0, 1) := by decide +kernel
theorem dX5_standsAheadOfOne_28 : decode cX5_standsAheadOfOne 28 = .ok (.invokestatic 103, 3) := by decide +kernel
theorem dX5_standsAheadOfOne_31 : decode cX5_standsAheadOfOne 31 = .ok (.ifCond .eq 7, 3) := by decide +kernel
theorem dX5_standsAheadOfOne_34 : decode cX5_standsAheadOfOne 34 = .ok (.iconst 1, 1) := by decide +kernel
theorem dX5_standsAheadOfOne_35 : decode cX5_standsAheadOfOne 35 = .ok (.goto 4, 3) := by decide +kernel
theorem dX5_standsAheadOfOne_38 : decode cX5_standsAheadOfOne 38 = .ok (.iconst 0, 1) := by decide +kernel
theorem dX5_standsAheadOfOne_39 : decode cX5_standsAheadOfOne 39 = .ok (.ireturn, 1) := by decide +kernel
theorem dX6_init_0 : decode cX6_init 0 = .ok (.aload_n 0, 1) := by decide +kernel
theorem dX6_init_1 : decode cX6_init 1 = .ok (.invokespecial 3, 3) := by decide +kernel
theorem dX6_init_4 : decode cX6_init 4 = .ok (.aload_n 0, 1) := by decide +kernel
theorem dX6_init_5 : decode cX6_init 5 = .ok (.bipush 9, 2) := by decide +kernel
theorem dX6_init_7 : decode cX6_init 7 = .ok (.newarray .int, 2) := by decide +kernel
theorem dX6_init_9 : decode cX6_init 9 = .ok (.putfield 9, 3) := by decide +kernel
theorem dX6_init_12 : decode cX6_init 12 = .ok (.aload_n 0, 1) := by decide +kernel
theorem dX6_init_13 : decode cX6_init 13 = .ok (.bipush 9, 2) := by decide +kernel
theorem dX6_init_15 : decode cX6_init 15 = .ok (.newarray .int, 2) := by decide +kernel
theorem dX6_init_17 : decode cX6_init 17 = .ok (.putfield 15, 3) := by decide +kernel
theorem dX6_init_20 : decode cX6_init 20 = .ok (.aload_n 0, 1) := by decide +kernel
theorem dX6_init_21 : decode cX6_init 21 = .ok (.bipush 9, 2) := by decide +kernel
theorem dX6_init_23 : decode cX6_init 23 = .ok (.newarray .int, 2) := by decide +kernel
theorem dX6_init_25 : decode cX6_init 25 = .ok (.putfield 18, 3) := by decide +kernel
theorem dX6_init_28 : decode cX6_init 28 = .ok (.aload_n 0, 1) := by decide +kernel
theorem dX6_init_29 : decode cX6_init 29 = .ok (.bipush 9, 2) := by decide +kernel
theorem dX6_init_31 : decode cX6_init 31 = .ok (.newarray .int, 2) := by decide +kernel
theorem dX6_init_33 : decode cX6_init 33 = .ok (.putfield 21, 3) := by decide +kernel
theorem dX6_init_36 : decode cX6_init 36 = .ok (.aload_n 0, 1) := by decide +kernel
theorem dX6_init_37 : decode cX6_init 37 = .ok (.bipush 9, 2) := by decide +kernel
theorem dX6_init_39 : decode cX6_init 39 = .ok (.newarray .int, 2) := by decide +kernel
theorem dX6_init_41 : decode cX6_init 41 = .ok (.putfield 24, 3) := by decide +kernel
theorem dX6_init_44 : decode cX6_init 44 = .ok (.aload_n 0, 1) := by decide +kernel
theorem dX6_init_45 : decode cX6_init 45 = .ok (.bipush 9, 2) := by decide +kernel
theorem dX6_init_47 : decode cX6_init 47 = .ok (.newarray .boolean, 2) := by decide +kernel
theorem dX6_init_49 : decode cX6_init 49 = .ok (.putfield 27, 3) := by decide +kernel
theorem dX6_init_52 : decode cX6_init 52 = .ok (.aload_n 0, 1) := by decide +kernel
theorem dX6_init_53 : decode cX6_init 53 = .ok (.iconst 0, 1) := by decide +kernel
theorem dX6_init_54 : decode cX6_init 54 = .ok (.putfield 31, 3) := by decide +kernel
theorem dX6_init_57 : decode cX6_init 57 = .ok (.aload_n 0, 1) := by decide +kernel
theorem dX6_init_58 : decode cX6_init 58 = .ok (.iconst 0, 1) := by decide +kernel
theorem dX6_init_59 : decode cX6_init 59 = .ok (.putfield 35, 3) := by decide +kernel
theorem dX6_init_62 : decode cX6_init 62 = .ok (.aload_n 0, 1) := by decide +kernel
theorem dX6_init_63 : decode cX6_init 63 = .ok (.iconst 0, 1) := by decide +kernel
theorem dX6_init_64 : decode cX6_init 64 = .ok (.putfield 38, 3) := by decide +kernel
theorem dX6_init_67 : decode cX6_init 67 = .ok (.return_, 1) := by decide +kernel
theorem dX6_looksBehind_0 : decode cX6_looksBehind 0 = .ok (.iload_n 0, 1) := by decide +kernel
theorem dX6_looksBehind_1 : decode cX6_looksBehind 1 = .ok (.bipush 78, 2) := by decide +kernel
theorem dX6_looksBehind_3 : decode cX6_looksBehind 3 = .ok (.if_icmp .eq 27, 3) := by decide +kernel
theorem dX6_looksBehind_6 : decode cX6_looksBehind 6 = .ok (.iload_n 0, 1) := by decide +kernel
theorem dX6_looksBehind_7 : decode cX6_looksBehind 7 = .ok (.bipush 87, 2) := by decide +kernel
theorem dX6_looksBehind_9 : decode cX6_looksBehind 9 = .ok (.if_icmp .eq 21, 3) := by decide +kernel
theorem dX6_looksBehind_12 : decode cX6_looksBehind 12 = .ok (.iload_n 0, 1) := by decide +kernel
theorem dX6_looksBehind_13 : decode cX6_looksBehind 13 = .ok (.bipush 71, 2) := by decide +kernel
theorem dX6_looksBehind_15 : decode cX6_looksBehind 15 = .ok (.if_icmp .eq 15, 3) := by decide +kernel
theorem dX6_looksBehind_18 : decode cX6_looksBehind 18 = .ok (.iload_n 0, 1) := by decide +kernel
theorem dX6_looksBehind_19 : decode cX6_looksBehind 19 = .ok (.bipush 70, 2) := by decide +kernel
theorem dX6_looksBehind_21 : decode cX6_looksBehind 21 = .ok (.if_icmp .eq 9, 3) := by decide +kernel
theorem dX6_looksBehind_24 : decode cX6_looksBehind 24 = .ok (.iload_n 0, 1) := by decide +kernel
theorem dX6_looksBehind_25 : decode cX6_looksBehind 25 = .ok (.bipush 85, 2) := by decide +kernel
theorem dX6_looksBehind_27 : decode cX6_looksBehind 27 = .ok (.if_icmp .ne 7, 3) := by decide +kernel
theorem dX6_looksBehind_30 : decode cX6_looksBehind 30 = .ok (.iconst 1, 1) := by decide +kernel
theorem dX6_looksBehind_31 : decode cX6_looksBehind 31 = .ok (.goto 4, 3) := by decide +kernel
theorem dX6_looksBehind_34 : decode cX6_looksBehind 34 = .ok (.iconst 0, 1) := by decide +kernel
theorem dX6_looksBehind_35 : decode cX6_looksBehind 35 = .ok (.ireturn, 1) := by decide +kernel
theorem dX6_looksAhead_0 : decode cX6_looksAhead 0 = .ok (.iload_n 0, 1) := by decide +kernel
theorem dX6_looksAhead_1 : decode cX6_looksAhead 1 = .ok (.bipush 89, 2) := by decide +kernel
theorem dX6_looksAhead_3 : decode cX6_looksAhead 3 = .ok (.if_icmp .eq 21, 3) := by decide +kernel
theorem dX6_looksAhead_6 : decode cX6_looksAhead 6 = .ok (.iload_n 0, 1) := by decide +kernel
theorem dX6_looksAhead_7 : decode cX6_looksAhead 7 = .ok (.bipush 72, 2) := by decide +kernel
theorem dX6_looksAhead_9 : decode cX6_looksAhead 9 = .ok (.if_icmp .eq 15, 3) := by decide +kernel
theorem dX6_looksAhead_12 : decode cX6_looksAhead 12 = .ok (.iload_n 0, 1) := by decide +kernel
theorem dX6_looksAhead_13 : decode cX6_looksAhead 13 = .ok (.bipush 79, 2) := by decide +kernel
theorem dX6_looksAhead_15 : decode cX6_looksAhead 15 = .ok (.if_icmp .eq 9, 3) := by decide +kernel
theorem dX6_looksAhead_18 : decode cX6_looksAhead 18 = .ok (.iload_n 0, 1) := by decide +kernel
theorem dX6_looksAhead_19 : decode cX6_looksAhead 19 = .ok (.bipush 83, 2) := by decide +kernel
theorem dX6_looksAhead_21 : decode cX6_looksAhead 21 = .ok (.if_icmp .ne 7, 3) := by decide +kernel
theorem dX6_looksAhead_24 : decode cX6_looksAhead 24 = .ok (.iconst 1, 1) := by decide +kernel
theorem dX6_looksAhead_25 : decode cX6_looksAhead 25 = .ok (.goto 4, 3) := by decide +kernel
theorem dX6_looksAhead_28 : decode cX6_looksAhead 28 = .ok (.iconst 0, 1) := by decide +kernel
theorem dX6_looksAhead_29 : decode cX6_looksAhead 29 = .ok (.ireturn, 1) := by decide +kernel
theorem dX6_clear_0 : decode cX6_clear 0 = .ok (.aload_n 0, 1) := by decide +kernel
theorem dX6_clear_1 : decode cX6_clear 1 = .ok (.iconst 0, 1) := by decide +kernel
theorem dX6_clear_2 : decode cX6_clear 2 = .ok (.putfield 31, 3) := by decide +kernel
theorem dX6_clear_5 : decode cX6_clear 5 = .ok (.return_, 1) := by decide +kernel
theorem dX6_add_0 : decode cX6_add 0 = .ok (.aload_n 0, 1) := by decide +kernel
theorem dX6_add_1 : decode cX6_add 1 = .ok (.getfield 31, 3) := by decide +kernel
theorem dX6_add_4 : decode cX6_add 4 = .ok (.bipush 9, 2) := by decide +kernel
theorem dX6_add_6 : decode cX6_add 6 = .ok (.if_icmp .lt 6, 3) := by decide +kernel
theorem dX6_add_9 : decode cX6_add 9 = .ok (.bipush (-9), 2) := by decide +kernel
theorem dX6_add_11 : decode cX6_add 11 = .ok (.ireturn, 1) := by decide +kernel
theorem dX6_add_12 : decode cX6_add 12 = .ok (.aload_n 0, 1) := by decide +kernel
theorem dX6_add_13 : decode cX6_add 13 = .ok (.getfield 9, 3) := by decide +kernel
theorem dX6_add_16 : decode cX6_add 16 = .ok (.aload_n 0, 1) := by decide +kernel
theorem dX6_add_17 : decode cX6_add 17 = .ok (.getfield 31, 3) := by decide +kernel
theorem dX6_add_20 : decode cX6_add 20 = .ok (.iload_n 1, 1) := by decide +kernel
theorem dX6_add_21 : decode cX6_add 21 = .ok (.invokestatic 41, 3) := by decide +kernel
theorem dX6_add_24 : decode cX6_add 24 = .ok (.aload_n 0, 1) := by decide +kernel
theorem dX6_add_25 : decode cX6_add 25 = .ok (.getfield 15, 3) := by decide +kernel
theorem dX6_add_28 : decode cX6_add 28 = .ok (.aload_n 0, 1) := by decide +kernel
theorem dX6_add_29 : decode cX6_add 29 = .ok (.getfield 31, 3) := by decide +kernel
theorem dX6_add_32 : decode cX6_add 32 = .ok (.iload_n 2, 1) := by decide +kernel
theorem dX6_add_33 : decode cX6_add 33 = .ok (.invokestatic 41, 3) := by decide +kernel
theorem dX6_add_36 : decode cX6_add 36 = .ok (.aload_n 0, 1) := by decide +kernel
theorem dX6_add_37 : decode cX6_add 37 = .ok (.getfield 18, 3) := by decide +kernel
theorem dX6_add_40 : decode cX6_add 40 = .ok (.aload_n 0, 1) := by decide +kernel
theorem dX6_add_41 : decode cX6_add 41 = .ok (.getfield 31, 3) := by decide +kernel
theorem dX6_add_44 : decode cX6_add 44 = .ok (.iload_n 3, 1) := by decide +kernel
theorem dX6_add_45 : decode cX6_add 45 = .ok (.invokestatic 41, 3) := by decide +kernel
theorem dX6_add_48 : decode cX6_add 48 = .ok (.aload_n 0, 1) := by decide +kernel
theorem dX6_add_49 : decode cX6_add 49 = .ok (.getfield 21, 3) := by decide +kernel
theorem dX6_add_52 : decode cX6_add 52 = .ok (.aload_n 0, 1) := by decide +kernel
theorem dX6_add_53 : decode cX6_add 53 = .ok (.getfield 31, 3) := by decide +kernel
theorem dX6_add_56 : decode cX6_add 56 = .ok (.iload 4, 2) := by decide +kernel
theorem dX6_add_58 : decode cX6_add 58 = .ok (.invokestatic 41, 3) := by decide +kernel
theorem dX6_add_61 : decode cX6_add 61 = .ok (.aload_n 0, 1) := by decide +kernel
theorem dX6_add_62 : decode cX6_add 62 = .ok (.dup, 1) := by decide +kernel
theorem dX6_add_63 : decode cX6_add 63 = .ok (.getfield 31, 3) := by decide +kernel
theorem dX6_add_66 : decode cX6_add 66 = .ok (.iconst 1, 1) := by decide +kernel
theorem dX6_add_67 : decode cX6_add 67 = .ok (.iadd, 1) := by decide +kernel
theorem dX6_add_68 : decode cX6_add 68 = .ok (.putfield 31, 3) := by decide +kernel
theorem dX6_add_71 : decode cX6_add 71 = .ok (.aload_n 0, 1) := by decide +kernel
theorem dX6_add_72 : decode cX6_add 72 = .ok (.getfield 31, 3) := by decide +kernel
theorem dX6_add_75 : decode cX6_add 75 = .ok (.iconst 1, 1) := by decide +kernel
theorem dX6_add_76 : decode cX6_add 76 = .ok (.isub, 1) := by decide +kernel
theorem dX6_add_77 : decode cX6_add 77 = .ok (.ireturn, 1) := by decide +kernel
theorem dX6_firstPastFault_0 : decode cX6_firstPastFault 0 = .ok (.bipush (-9), 2) := by decide +kernel
theorem dX6_firstPastFault_2 : decode cX6_firstPastFault 2 = .ok (.istore_n 1, 1) := by decide +kernel
theorem dX6_firstPastFault_3 : decode cX6_firstPastFault 3 = .ok (.iconst 0, 1) := by decide +kernel
theorem dX6_firstPastFault_4 : decode cX6_firstPastFault 4 = .ok (.istore_n 2, 1) := by decide +kernel
theorem dX6_firstPastFault_5 : decode cX6_firstPastFault 5 = .ok (.iload_n 2, 1) := by decide +kernel
theorem dX6_firstPastFault_6 : decode cX6_firstPastFault 6 = .ok (.aload_n 0, 1) := by decide +kernel
theorem dX6_firstPastFault_7 : decode cX6_firstPastFault 7 = .ok (.getfield 31, 3) := by decide +kernel
theorem dX6_firstPastFault_10 : decode cX6_firstPastFault 10 = .ok (.if_icmp .ge 18, 3) := by decide +kernel
theorem dX6_firstPastFault_13 : decode cX6_firstPastFault 13 = .ok (.aload_n 0, 1) := by decide +kernel
theorem dX6_firstPastFault_14 : decode cX6_firstPastFault 14 = .ok (.getfield 27, 3) := by decide +kernel
theorem dX6_firstPastFault_17 : decode cX6_firstPastFault 17 = .ok (.iload_n 2, 1) := by decide +kernel
theorem dX6_firstPastFault_18 : decode cX6_firstPastFault 18 = .ok (.iconst 0, 1) := by decide +kernel
theorem dX6_firstPastFault_19 : decode cX6_firstPastFault 19 = .ok (.invokestatic 45, 3) := by decide +kernel
theorem dX6_firstPastFault_22 : decode cX6_firstPastFault 22 = .ok (.iinc 2 1, 3) := by decide +kernel
theorem dX6_firstPastFault_25 : decode cX6_firstPastFault 25 = .ok (.goto (-20), 3) := by decide +kernel
theorem dX6_firstPastFault_28 : decode cX6_firstPastFault 28 = .ok (.aload_n 0, 1) := by decide +kernel
theorem dX6_firstPastFault_29 : decode cX6_firstPastFault 29 = .ok (.getfield 31, 3) := by decide +kernel
theorem dX6_firstPastFault_32 : decode cX6_firstPastFault 32 = .ok (.iconst 1, 1) := by decide +kernel
theorem dX6_firstPastFault_33 : decode cX6_firstPastFault 33 = .ok (.isub, 1) := by decide +kernel
theorem dX6_firstPastFault_34 : decode cX6_firstPastFault 34 = .ok (.istore_n 2, 1) := by decide +kernel
theorem dX6_firstPastFault_35 : decode cX6_firstPastFault 35 = .ok (.iload_n 2, 1) := by decide +kernel
theorem dX6_firstPastFault_36 : decode cX6_firstPastFault 36 = .ok (.ifCond .lt 111, 3) := by decide +kernel
theorem dX6_firstPastFault_39 : decode cX6_firstPastFault 39 = .ok (.aload_n 0, 1) := by decide +kernel
theorem dX6_firstPastFault_40 : decode cX6_firstPastFault 40 = .ok (.getfield 9, 3) := by decide +kernel
theorem dX6_firstPastFault_43 : decode cX6_firstPastFault 43 = .ok (.iload_n 2, 1) := by decide +kernel
theorem dX6_firstPastFault_44 : decode cX6_firstPastFault 44 = .ok (.invokestatic 49, 3) := by decide +kernel
theorem dX6_firstPastFault_47 : decode cX6_firstPastFault 47 = .ok (.istore_n 3, 1) := by decide +kernel
theorem dX6_firstPastFault_48 : decode cX6_firstPastFault 48 = .ok (.aload_n 0, 1) := by decide +kernel
theorem dX6_firstPastFault_49 : decode cX6_firstPastFault 49 = .ok (.getfield 27, 3) := by decide +kernel
theorem dX6_firstPastFault_52 : decode cX6_firstPastFault 52 = .ok (.iload_n 2, 1) := by decide +kernel
theorem dX6_firstPastFault_53 : decode cX6_firstPastFault 53 = .ok (.invokestatic 53, 3) := by decide +kernel
theorem dX6_firstPastFault_56 : decode cX6_firstPastFault 56 = .ok (.ifCond .ne 10, 3) := by decide +kernel
theorem dX6_firstPastFault_59 : decode cX6_firstPastFault 59 = .ok (.iload_n 3, 1) := by decide +kernel
theorem dX6_firstPastFault_60 : decode cX6_firstPastFault 60 = .ok (.invokestatic 57, 3) := by decide +kernel
theorem dX6_firstPastFault_63 : decode cX6_firstPastFault 63 = .ok (.ifCond .eq 35, 3) := by decide +kernel
theorem dX6_firstPastFault_66 : decode cX6_firstPastFault 66 = .ok (.aload_n 0, 1) := by decide +kernel
theorem dX6_firstPastFault_67 : decode cX6_firstPastFault 67 = .ok (.getfield 27, 3) := by decide +kernel
theorem dX6_firstPastFault_70 : decode cX6_firstPastFault 70 = .ok (.aload_n 0, 1) := by decide +kernel
theorem dX6_firstPastFault_71 : decode cX6_firstPastFault 71 = .ok (.getfield 15, 3) := by decide +kernel
theorem dX6_firstPastFault_74 : decode cX6_firstPastFault 74 = .ok (.iload_n 2, 1) := by decide +kernel
theorem dX6_firstPastFault_75 : decode cX6_firstPastFault 75 = .ok (.invokestatic 49, 3) := by decide +kernel
theorem dX6_firstPastFault_78 : decode cX6_firstPastFault 78 = .ok (.iconst 1, 1) := by decide +kernel
theorem dX6_firstPastFault_79 : decode cX6_firstPastFault 79 = .ok (.invokestatic 45, 3) := by decide +kernel
theorem dX6_firstPastFault_82 : decode cX6_firstPastFault 82 = .ok (.aload_n 0, 1) := by decide +kernel
theorem dX6_firstPastFault_83 : decode cX6_firstPastFault 83 = .ok (.getfield 27, 3) := by decide +kernel
theorem dX6_firstPastFault_86 : decode cX6_firstPastFault 86 = .ok (.aload_n 0, 1) := by decide +kernel
theorem dX6_firstPastFault_87 : decode cX6_firstPastFault 87 = .ok (.getfield 18, 3) := by decide +kernel
theorem dX6_firstPastFault_90 : decode cX6_firstPastFault 90 = .ok (.iload_n 2, 1) := by decide +kernel
theorem dX6_firstPastFault_91 : decode cX6_firstPastFault 91 = .ok (.invokestatic 49, 3) := by decide +kernel
theorem dX6_firstPastFault_94 : decode cX6_firstPastFault 94 = .ok (.iconst 1, 1) := by decide +kernel
theorem dX6_firstPastFault_95 : decode cX6_firstPastFault 95 = .ok (.invokestatic 45, 3) := by decide +kernel
theorem dX6_firstPastFault_98 : decode cX6_firstPastFault 98 = .ok (.aload_n 0, 1) := by decide +kernel
theorem dX6_firstPastFault_99 : decode cX6_firstPastFault 99 = .ok (.getfield 21, 3) := by decide +kernel
theorem dX6_firstPastFault_102 : decode cX6_firstPastFault 102 = .ok (.iload_n 2, 1) := by decide +kernel
theorem dX6_firstPastFault_103 : decode cX6_firstPastFault 103 = .ok (.invokestatic 49, 3) := by decide +kernel
theorem dX6_firstPastFault_106 : decode cX6_firstPastFault 106 = .ok (.istore 4, 2) := by decide +kernel
theorem dX6_firstPastFault_108 : decode cX6_firstPastFault 108 = .ok (.aload_n 0, 1) := by decide +kernel
theorem dX6_firstPastFault_109 : decode cX6_firstPastFault 109 = .ok (.getfield 27, 3) := by decide +kernel
theorem dX6_firstPastFault_112 : decode cX6_firstPastFault 112 = .ok (.iload_n 2, 1) := by decide +kernel
theorem dX6_firstPastFault_113 : decode cX6_firstPastFault 113 = .ok (.invokestatic 53, 3) := by decide +kernel
theorem dX6_firstPastFault_116 : decode cX6_firstPastFault 116 = .ok (.ifCond .eq 25, 3) := by decide +kernel
theorem dX6_firstPastFault_119 : decode cX6_firstPastFault 119 = .ok (.iload_n 3, 1) := by decide +kernel
theorem dX6_firstPastFault_120 : decode cX6_firstPastFault 120 = .ok (.invokestatic 61, 3) := by decide +kernel
theorem dX6_firstPastFault_123 : decode cX6_firstPastFault 123 = .ok (.ifCond .eq 18, 3) := by decide +kernel
theorem dX6_firstPastFault_126 : decode cX6_firstPastFault 126 = .ok (.iload_n 1, 1) := by decide +kernel
theorem dX6_firstPastFault_127 : decode cX6_firstPastFault 127 = .ok (.bipush (-9), 2) := by decide +kernel
theorem dX6_firstPastFault_129 : decode cX6_firstPastFault 129 = .ok (.if_icmp .eq 9, 3) := by decide +kernel
theorem dX6_firstPastFault_132 : decode cX6_firstPastFault 132 = .ok (.iload 4, 2) := by decide +kernel
theorem dX6_firstPastFault_134 : decode cX6_firstPastFault 134 = .ok (.iload_n 1, 1) := by decide +kernel
theorem dX6_firstPastFault_135 : decode cX6_firstPastFault 135 = .ok (.if_icmp .ge 6, 3) := by decide +kernel
theorem dX6_firstPastFault_138 : decode cX6_firstPastFault 138 = .ok (.iload 4, 2) := by decide +kernel
theorem dX6_firstPastFault_140 : decode cX6_firstPastFault 140 = .ok (.istore_n 1, 1) := by decide +kernel
theorem dX6_firstPastFault_141 : decode cX6_firstPastFault 141 = .ok (.iinc 2 (-1), 3) := by decide +kernel
theorem dX6_firstPastFault_144 : decode cX6_firstPastFault 144 = .ok (.goto (-109), 3) := by decide +kernel
theorem dX6_firstPastFault_147 : decode cX6_firstPastFault 147 = .ok (.iload_n 1, 1) := by decide +kernel
theorem dX6_firstPastFault_148 : decode cX6_firstPastFault 148 = .ok (.ireturn, 1) := by decide +kernel
theorem dX6_giveBits_0 : decode cX6_giveBits 0 = .ok (.aload_n 0, 1) := by decide +kernel
theorem dX6_giveBits_1 : decode cX6_giveBits 1 = .ok (.iconst 0, 1) := by decide +kernel
theorem dX6_giveBits_2 : decode cX6_giveBits 2 = .ok (.putfield 35, 3) := by decide +kernel
theorem dX6_giveBits_5 : decode cX6_giveBits 5 = .ok (.iconst 0, 1) := by decide +kernel
theorem dX6_giveBits_6 : decode cX6_giveBits 6 = .ok (.istore_n 1, 1) := by decide +kernel
theorem dX6_giveBits_7 : decode cX6_giveBits 7 = .ok (.iload_n 1, 1) := by decide +kernel
theorem dX6_giveBits_8 : decode cX6_giveBits 8 = .ok (.aload_n 0, 1) := by decide +kernel
theorem dX6_giveBits_9 : decode cX6_giveBits 9 = .ok (.getfield 31, 3) := by decide +kernel
theorem dX6_giveBits_12 : decode cX6_giveBits 12 = .ok (.if_icmp .ge 55, 3) := by decide +kernel
theorem dX6_giveBits_15 : decode cX6_giveBits 15 = .ok (.aload_n 0, 1) := by decide +kernel
theorem dX6_giveBits_16 : decode cX6_giveBits 16 = .ok (.getfield 24, 3) := by decide +kernel
theorem dX6_giveBits_19 : decode cX6_giveBits 19 = .ok (.iload_n 1, 1) := by decide +kernel
theorem dX6_giveBits_20 : decode cX6_giveBits 20 = .ok (.bipush 31, 2) := by decide +kernel
theorem dX6_giveBits_22 : decode cX6_giveBits 22 = .ok (.invokestatic 41, 3) := by decide +kernel
theorem dX6_giveBits_25 : decode cX6_giveBits 25 = .ok (.aload_n 0, 1) := by decide +kernel
theorem dX6_giveBits_26 : decode cX6_giveBits 26 = .ok (.getfield 9, 3) := by decide +kernel
theorem dX6_giveBits_29 : decode cX6_giveBits 29 = .ok (.iload_n 1, 1) := by decide +kernel
theorem dX6_giveBits_30 : decode cX6_giveBits 30 = .ok (.invokestatic 49, 3) := by decide +kernel
theorem dX6_giveBits_33 : decode cX6_giveBits 33 = .ok (.invokestatic 61, 3) := by decide +kernel
theorem dX6_giveBits_36 : decode cX6_giveBits 36 = .ok (.ifCond .eq 25, 3) := by decide +kernel
theorem dX6_giveBits_39 : decode cX6_giveBits 39 = .ok (.aload_n 0, 1) := by decide +kernel
theorem dX6_giveBits_40 : decode cX6_giveBits 40 = .ok (.getfield 24, 3) := by decide +kernel
theorem dX6_giveBits_43 : decode cX6_giveBits 43 = .ok (.iload_n 1, 1) := by decide +kernel
theorem dX6_giveBits_44 : decode cX6_giveBits 44 = .ok (.aload_n 0, 1) := by decide +kernel
theorem dX6_giveBits_45 : decode cX6_giveBits 45 = .ok (.getfield 35, 3) := by decide +kernel
theorem dX6_giveBits_48 : decode cX6_giveBits 48 = .ok (.invokestatic 41, 3) := by decide +kernel
theorem dX6_giveBits_51 : decode cX6_giveBits 51 = .ok (.aload_n 0, 1) := by decide +kernel
theorem dX6_giveBits_52 : decode cX6_giveBits 52 = .ok (.dup, 1) := by decide +kernel
theorem dX6_giveBits_53 : decode cX6_giveBits 53 = .ok (.getfield 35, 3) := by decide +kernel
theorem dX6_giveBits_56 : decode cX6_giveBits 56 = .ok (.iconst 1, 1) := by decide +kernel
theorem dX6_giveBits_57 : decode cX6_giveBits 57 = .ok (.iadd, 1) := by decide +kernel
theorem dX6_giveBits_58 : decode cX6_giveBits 58 = .ok (.putfield 35, 3) := by decide +kernel
theorem dX6_giveBits_61 : decode cX6_giveBits 61 = .ok (.iinc 1 1, 3) := by decide +kernel
theorem dX6_giveBits_64 : decode cX6_giveBits 64 = .ok (.goto (-57), 3) := by decide +kernel
theorem dX6_giveBits_67 : decode cX6_giveBits 67 = .ok (.aload_n 0, 1) := by decide +kernel
theorem dX6_giveBits_68 : decode cX6_giveBits 68 = .ok (.iconst 0, 1) := by decide +kernel
theorem dX6_giveBits_69 : decode cX6_giveBits 69 = .ok (.putfield 38, 3) := by decide +kernel
theorem dX6_giveBits_72 : decode cX6_giveBits 72 = .ok (.iconst 0, 1) := by decide +kernel
theorem dX6_giveBits_73 : decode cX6_giveBits 73 = .ok (.istore_n 1, 1) := by decide +kernel
theorem dX6_giveBits_74 : decode cX6_giveBits 74 = .ok (.iload_n 1, 1) := by decide +kernel
theorem dX6_giveBits_75 : decode cX6_giveBits 75 = .ok (.aload_n 0, 1) := by decide +kernel
theorem dX6_giveBits_76 : decode cX6_giveBits 76 = .ok (.getfield 31, 3) := by decide +kernel
theorem dX6_giveBits_79 : decode cX6_giveBits 79 = .ok (.if_icmp .ge 50, 3) := by decide +kernel
theorem dX6_giveBits_82 : decode cX6_giveBits 82 = .ok (.aload_n 0, 1) := by decide +kernel
theorem dX6_giveBits_83 : decode cX6_giveBits 83 = .ok (.getfield 9, 3) := by decide +kernel
theorem dX6_giveBits_86 : decode cX6_giveBits 86 = .ok (.iload_n 1, 1) := by decide +kernel
theorem dX6_giveBits_87 : decode cX6_giveBits 87 = .ok (.invokestatic 49, 3) := by decide +kernel
theorem dX6_giveBits_90 : decode cX6_giveBits 90 = .ok (.invokestatic 57, 3) := by decide +kernel
theorem dX6_giveBits_93 : decode cX6_giveBits 93 = .ok (.ifCond .eq 30, 3) := by decide +kernel
theorem dX6_giveBits_96 : decode cX6_giveBits 96 = .ok (.aload_n 0, 1) := by decide +kernel
theorem dX6_giveBits_97 : decode cX6_giveBits 97 = .ok (.getfield 24, 3) := by decide +kernel
theorem dX6_giveBits_100 : decode cX6_giveBits 100 = .ok (.iload_n 1, 1) := by decide +kernel
theorem dX6_giveBits_101 : decode cX6_giveBits 101 = .ok (.aload_n 0, 1) := by decide +kernel
theorem dX6_giveBits_102 : decode cX6_giveBits 102 = .ok (.getfield 35, 3) := by decide +kernel
theorem dX6_giveBits_105 : decode cX6_giveBits 105 = .ok (.aload_n 0, 1) := by decide +kernel
theorem dX6_giveBits_106 : decode cX6_giveBits 106 = .ok (.getfield 38, 3) := by decide +kernel
theorem dX6_giveBits_109 : decode cX6_giveBits 109 = .ok (.iadd, 1) := by decide +kernel
theorem dX6_giveBits_110 : decode cX6_giveBits 110 = .ok (.invokestatic 41, 3) := by decide +kernel
theorem dX6_giveBits_113 : decode cX6_giveBits 113 = .ok (.aload_n 0, 1) := by decide +kernel
theorem dX6_giveBits_114 : decode cX6_giveBits 114 = .ok (.dup, 1) := by decide +kernel
theorem dX6_giveBits_115 : decode cX6_giveBits 115 = .ok (.getfield 38, 3) := by decide +kernel
theorem dX6_giveBits_118 : decode cX6_giveBits 118 = .ok (.iconst 1, 1) := by decide +kernel
theorem dX6_giveBits_119 : decode cX6_giveBits 119 = .ok (.iadd, 1) := by decide +kernel
theorem dX6_giveBits_120 : decode cX6_giveBits 120 = .ok (.putfield 38, 3) := by decide +kernel
theorem dX6_giveBits_123 : decode cX6_giveBits 123 = .ok (.iinc 1 1, 3) := by decide +kernel
theorem dX6_giveBits_126 : decode cX6_giveBits 126 = .ok (.goto (-52), 3) := by decide +kernel
theorem dX6_giveBits_129 : decode cX6_giveBits 129 = .ok (.return_, 1) := by decide +kernel
theorem dX6_futureBits_0 : decode cX6_futureBits 0 = .ok (.aload_n 0, 1) := by decide +kernel
theorem dX6_futureBits_1 : decode cX6_futureBits 1 = .ok (.getfield 35, 3) := by decide +kernel
theorem dX6_futureBits_4 : decode cX6_futureBits 4 = .ok (.ireturn, 1) := by decide +kernel
theorem dX6_pastBits_0 : decode cX6_pastBits 0 = .ok (.aload_n 0, 1) := by decide +kernel
theorem dX6_pastBits_1 : decode cX6_pastBits 1 = .ok (.getfield 38, 3) := by decide +kernel
theorem dX6_pastBits_4 : decode cX6_pastBits 4 = .ok (.ireturn, 1) := by decide +kernel
theorem dX6_bitsOfNoPlace_0 : decode cX6_bitsOfNoPlace 0 = .ok (.iconst 0, 1) := by decide +kernel
theorem dX6_bitsOfNoPlace_1 : decode cX6_bitsOfNoPlace 1 = .ok (.istore_n 1, 1) := by decide +kernel
theorem dX6_bitsOfNoPlace_2 : decode cX6_bitsOfNoPlace 2 = .ok (.iconst 0, 1) := by decide +kernel
theorem dX6_bitsOfNoPlace_3 : decode cX6_bitsOfNoPlace 3 = .ok (.istore_n 2, 1) := by decide +kernel
theorem dX6_bitsOfNoPlace_4 : decode cX6_bitsOfNoPlace 4 = .ok (.iload_n 2, 1) := by decide +kernel
theorem dX6_bitsOfNoPlace_5 : decode cX6_bitsOfNoPlace 5 = .ok (.aload_n 0, 1) := by decide +kernel
theorem dX6_bitsOfNoPlace_6 : decode cX6_bitsOfNoPlace 6 = .ok (.getfield 31, 3) := by decide +kernel
theorem dX6_bitsOfNoPlace_9 : decode cX6_bitsOfNoPlace 9 = .ok (.if_icmp .ge 49, 3) := by decide +kernel
theorem dX6_bitsOfNoPlace_12 : decode cX6_bitsOfNoPlace 12 = .ok (.aload_n 0, 1) := by decide +kernel
theorem dX6_bitsOfNoPlace_13 : decode cX6_bitsOfNoPlace 13 = .ok (.getfield 9, 3) := by decide +kernel
theorem dX6_bitsOfNoPlace_16 : decode cX6_bitsOfNoPlace 16 = .ok (.iload_n 2, 1) := by decide +kernel
theorem dX6_bitsOfNoPlace_17 : decode cX6_bitsOfNoPlace 17 = .ok (.invokestatic 49, 3) := by decide +kernel
theorem dX6_bitsOfNoPlace_20 : decode cX6_bitsOfNoPlace 20 = .ok (.istore_n 3, 1) := by decide +kernel
theorem dX6_bitsOfNoPlace_21 : decode cX6_bitsOfNoPlace 21 = .ok (.iload_n 3, 1) := by decide +kernel
theorem dX6_bitsOfNoPlace_22 : decode cX6_bitsOfNoPlace 22 = .ok (.bipush 87, 2) := by decide +kernel
theorem dX6_bitsOfNoPlace_24 : decode cX6_bitsOfNoPlace 24 = .ok (.if_icmp .eq 15, 3) := by decide +kernel
theorem dX6_bitsOfNoPlace_27 : decode cX6_bitsOfNoPlace 27 = .ok (.iload_n 3, 1) := by decide +kernel
theorem dX6_bitsOfNoPlace_28 : decode cX6_bitsOfNoPlace 28 = .ok (.bipush 71, 2) := by decide +kernel
theorem dX6_bitsOfNoPlace_30 : decode cX6_bitsOfNoPlace 30 = .ok (.if_icmp .eq 9, 3) := by decide +kernel
theorem dX6_bitsOfNoPlace_33 : decode cX6_bitsOfNoPlace 33 = .ok (.iload_n 3, 1) := by decide +kernel
theorem dX6_bitsOfNoPlace_34 : decode cX6_bitsOfNoPlace 34 = .ok (.bipush 72, 2) := by decide +kernel
theorem dX6_bitsOfNoPlace_36 : decode cX6_bitsOfNoPlace 36 = .ok (.if_icmp .ne 16, 3) := by decide +kernel
theorem dX6_bitsOfNoPlace_39 : decode cX6_bitsOfNoPlace 39 = .ok (.iload_n 1, 1) := by decide +kernel
theorem dX6_bitsOfNoPlace_40 : decode cX6_bitsOfNoPlace 40 = .ok (.iconst 1, 1) := by decide +kernel
theorem dX6_bitsOfNoPlace_41 : decode cX6_bitsOfNoPlace 41 = .ok (.aload_n 0, 1) := by decide +kernel
theorem dX6_bitsOfNoPlace_42 : decode cX6_bitsOfNoPlace 42 = .ok (.getfield 24, 3) := by decide +kernel
theorem dX6_bitsOfNoPlace_45 : decode cX6_bitsOfNoPlace 45 = .ok (.iload_n 2, 1) := by decide +kernel
theorem dX6_bitsOfNoPlace_46 : decode cX6_bitsOfNoPlace 46 = .ok (.invokestatic 49, 3) := by decide +kernel
theorem dX6_bitsOfNoPlace_49 : decode cX6_bitsOfNoPlace 49 = .ok (.ishl, 1) := by decide +kernel
theorem dX6_bitsOfNoPlace_50 : decode cX6_bitsOfNoPlace 50 = .ok (.ior, 1) := by decide +kernel
theorem dX6_bitsOfNoPlace_51 : decode cX6_bitsOfNoPlace 51 = .ok (.istore_n 1, 1) := by decide +kernel
theorem dX6_bitsOfNoPlace_52 : decode cX6_bitsOfNoPlace 52 = .ok (.iinc 2 1, 3) := by decide +kernel
theorem dX6_bitsOfNoPlace_55 : decode cX6_bitsOfNoPlace 55 = .ok (.goto (-51), 3) := by decide +kernel
theorem dX6_bitsOfNoPlace_58 : decode cX6_bitsOfNoPlace 58 = .ok (.iload_n 1, 1) := by decide +kernel
theorem dX6_bitsOfNoPlace_59 : decode cX6_bitsOfNoPlace 59 = .ok (.ireturn, 1) := by decide +kernel
theorem dX6_valuesAt_0 : decode cX6_valuesAt 0 = .ok (.iconst 0, 1) := by decide +kernel
theorem dX6_valuesAt_1 : decode cX6_valuesAt 1 = .ok (.istore_n 3, 1) := by decide +kernel
theorem dX6_valuesAt_2 : decode cX6_valuesAt 2 = .ok (.iconst 0, 1) := by decide +kernel
theorem dX6_valuesAt_3 : decode cX6_valuesAt 3 = .ok (.istore 4, 2) := by decide +kernel
theorem dX6_valuesAt_5 : decode cX6_valuesAt 5 = .ok (.iload 4, 2) := by decide +kernel
theorem dX6_valuesAt_7 : decode cX6_valuesAt 7 = .ok (.aload_n 0, 1) := by decide +kernel
theorem dX6_valuesAt_8 : decode cX6_valuesAt 8 = .ok (.getfield 31, 3) := by decide +kernel
theorem dX6_valuesAt_11 : decode cX6_valuesAt 11 = .ok (.if_icmp .ge 28, 3) := by decide +kernel
theorem dX6_valuesAt_14 : decode cX6_valuesAt 14 = .ok (.aload_n 0, 1) := by decide +kernel
theorem dX6_valuesAt_15 : decode cX6_valuesAt 15 = .ok (.iload 4, 2) := by decide +kernel
theorem dX6_valuesAt_17 : decode cX6_valuesAt 17 = .ok (.iload_n 1, 1) := by decide +kernel
theorem dX6_valuesAt_18 : decode cX6_valuesAt 18 = .ok (.iload_n 2, 1) := by decide +kernel
theorem dX6_valuesAt_19 : decode cX6_valuesAt 19 = .ok (.iload_n 3, 1) := by decide +kernel
theorem dX6_valuesAt_20 : decode cX6_valuesAt 20 = .ok (.invokevirtual 64, 3) := by decide +kernel
theorem dX6_valuesAt_23 : decode cX6_valuesAt 23 = .ok (.ifCond .eq 10, 3) := by decide +kernel
theorem dX6_valuesAt_26 : decode cX6_valuesAt 26 = .ok (.iload_n 3, 1) := by decide +kernel
theorem dX6_valuesAt_27 : decode cX6_valuesAt 27 = .ok (.iconst 1, 1) := by decide +kernel
theorem dX6_valuesAt_28 : decode cX6_valuesAt 28 = .ok (.iload 4, 2) := by decide +kernel
theorem dX6_valuesAt_30 : decode cX6_valuesAt 30 = .ok (.ishl, 1) := by decide +kernel
theorem dX6_valuesAt_31 : decode cX6_valuesAt 31 = .ok (.ior, 1) := by decide +kernel
theorem dX6_valuesAt_32 : decode cX6_valuesAt 32 = .ok (.istore_n 3, 1) := by decide +kernel
theorem dX6_valuesAt_33 : decode cX6_valuesAt 33 = .ok (.iinc 4 1, 3) := by decide +kernel
theorem dX6_valuesAt_36 : decode cX6_valuesAt 36 = .ok (.goto (-31), 3) := by decide +kernel
theorem dX6_valuesAt_39 : decode cX6_valuesAt 39 = .ok (.iload_n 3, 1) := by decide +kernel
theorem dX6_valuesAt_40 : decode cX6_valuesAt 40 = .ok (.ireturn, 1) := by decide +kernel
theorem dX6_holds_0 : decode cX6_holds 0 = .ok (.iload 4, 2) := by decide +kernel
theorem dX6_holds_2 : decode cX6_holds 2 = .ok (.i2l, 1) := by decide +kernel
theorem dX6_holds_3 : decode cX6_holds 3 = .ok (.aload_n 0, 1) := by decide +kernel
theorem dX6_holds_4 : decode cX6_holds 4 = .ok (.getfield 15, 3) := by decide +kernel
theorem dX6_holds_7 : decode cX6_holds 7 = .ok (.iload_n 1, 1) := by decide +kernel
theorem dX6_holds_8 : decode cX6_holds 8 = .ok (.invokestatic 49, 3) := by decide +kernel
theorem dX6_holds_11 : decode cX6_holds 11 = .ok (.invokestatic 68, 3) := by decide +kernel
theorem dX6_holds_14 : decode cX6_holds 14 = .ok (.istore 5, 2) := by decide +kernel
theorem dX6_holds_16 : decode cX6_holds 16 = .ok (.iload 4, 2) := by decide +kernel
theorem dX6_holds_18 : decode cX6_holds 18 = .ok (.i2l, 1) := by decide +kernel
theorem dX6_holds_19 : decode cX6_holds 19 = .ok (.aload_n 0, 1) := by decide +kernel
theorem dX6_holds_20 : decode cX6_holds 20 = .ok (.getfield 18, 3) := by decide +kernel
theorem dX6_holds_23 : decode cX6_holds 23 = .ok (.iload_n 1, 1) := by decide +kernel
theorem dX6_holds_24 : decode cX6_holds 24 = .ok (.invokestatic 49, 3) := by decide +kernel
theorem dX6_holds_27 : decode cX6_holds 27 = .ok (.invokestatic 68, 3) := by decide +kernel
theorem dX6_holds_30 : decode cX6_holds 30 = .ok (.istore 6, 2) := by decide +kernel
theorem dX6_holds_32 : decode cX6_holds 32 = .ok (.iload_n 3, 1) := by decide +kernel
theorem dX6_holds_33 : decode cX6_holds 33 = .ok (.i2l, 1) := by decide +kernel
theorem dX6_holds_34 : decode cX6_holds 34 = .ok (.aload_n 0, 1) := by decide +kernel
theorem dX6_holds_35 : decode cX6_holds 35 = .ok (.getfield 24, 3) := by decide +kernel
theorem dX6_holds_38 : decode cX6_holds 38 = .ok (.iload_n 1, 1) := by decide +kernel
theorem dX6_holds_39 : decode cX6_holds 39 = .ok (.invokestatic 49, 3) := by decide +kernel
theorem dX6_holds_42 : decode cX6_holds 42 = .ok (.invokestatic 68, 3) := by decide +kernel
theorem dX6_holds_45 : decode cX6_holds 45 = .ok (.istore 7, 2) := by decide +kernel
theorem dX6_holds_47 : decode cX6_holds 47 = .ok (.aload_n 0, 1) := by decide +kernel
theorem dX6_holds_48 : decode cX6_holds 48 = .ok (.getfield 9, 3) := by decide +kernel
theorem dX6_holds_51 : decode cX6_holds 51 = .ok (.iload_n 1, 1) := by decide +kernel
theorem dX6_holds_52 : decode cX6_holds 52 = .ok (.invokestatic 49, 3) := by decide +kernel
theorem dX6_holds_55 : decode cX6_holds 55 = .ok (.istore 8, 2) := by decide +kernel
theorem dX6_holds_57 : decode cX6_holds 57 = .ok (.iload 8, 2) := by decide +kernel
theorem dX6_holds_59 : decode cX6_holds 59 = .ok (.tableswitch 358 33 89 #[243, 358, 358, 358, 358, 254, 358, 358, 358, 358, 358, 358, 358, 241, 270, 358, 358, 358, 358, 358, 358, 358, 358, 358, 358, 358, 358, 358, 358, 286, 358, 358, 358, 358, 358, 358, 358, 321, 305, 305, 358, 358, 358, 358, 358, 302, 321, 358, 358, 358, 337, 358, 337, 358, 302, 358, 302], 241) := by decide +kernel
theorem dX6_holds_300 : decode cX6_holds 300 = .ok (.iconst 1, 1) := by decide +kernel
theorem dX6_holds_301 : decode cX6_holds 301 = .ok (.ireturn, 1) := by decide +kernel
theorem dX6_holds_302 : decode cX6_holds 302 = .ok (.iload 5, 2) := by decide +kernel
theorem dX6_holds_304 : decode cX6_holds 304 = .ok (.ifCond .ne 7, 3) := by decide +kernel
theorem dX6_holds_307 : decode cX6_holds 307 = .ok (.iconst 1, 1) := by decide +kernel
theorem dX6_holds_308 : decode cX6_holds 308 = .ok (.goto 4, 3) := by decide +kernel
theorem dX6_holds_311 : decode cX6_holds 311 = .ok (.iconst 0, 1) := by decide +kernel
theorem dX6_holds_312 : decode cX6_holds 312 = .ok (.ireturn, 1) := by decide +kernel
theorem dX6_holds_313 : decode cX6_holds 313 = .ok (.iload 5, 2) := by decide +kernel
theorem dX6_holds_315 : decode cX6_holds 315 = .ok (.ifCond .eq 12, 3) := by decide +kernel
theorem dX6_holds_318 : decode cX6_holds 318 = .ok (.iload 6, 2) := by decide +kernel
theorem dX6_holds_320 : decode cX6_holds 320 = .ok (.ifCond .eq 7, 3) := by decide +kernel
theorem dX6_holds_323 : decode cX6_holds 323 = .ok (.iconst 1, 1) := by decide +kernel
theorem dX6_holds_324 : decode cX6_holds 324 = .ok (.goto 4, 3) := by decide +kernel
theorem dX6_holds_327 : decode cX6_holds 327 = .ok (.iconst 0, 1) := by decide +kernel
theorem dX6_holds_328 : decode cX6_holds 328 = .ok (.ireturn, 1) := by decide +kernel
theorem dX6_holds_329 : decode cX6_holds 329 = .ok (.iload 5, 2) := by decide +kernel
theorem dX6_holds_331 : decode cX6_holds 331 = .ok (.ifCond .ne 8, 3) := by decide +kernel
theorem dX6_holds_334 : decode cX6_holds 334 = .ok (.iload 6, 2) := by decide +kernel
theorem dX6_holds_336 : decode cX6_holds 336 = .ok (.ifCond .eq 7, 3) := by decide +kernel
theorem dX6_holds_339 : decode cX6_holds 339 = .ok (.iconst 1, 1) := by decide +kernel
theorem dX6_holds_340 : decode cX6_holds 340 = .ok (.goto 4, 3) := by decide +kernel
theorem dX6_holds_343 : decode cX6_holds 343 = .ok (.iconst 0, 1) := by decide +kernel
theorem dX6_holds_344 : decode cX6_holds 344 = .ok (.ireturn, 1) := by decide +kernel
theorem dX6_holds_345 : decode cX6_holds 345 = .ok (.iload 5, 2) := by decide +kernel
theorem dX6_holds_347 : decode cX6_holds 347 = .ok (.ifCond .eq 8, 3) := by decide +kernel
theorem dX6_holds_350 : decode cX6_holds 350 = .ok (.iload 6, 2) := by decide +kernel
theorem dX6_holds_352 : decode cX6_holds 352 = .ok (.ifCond .eq 7, 3) := by decide +kernel
theorem dX6_holds_355 : decode cX6_holds 355 = .ok (.iconst 1, 1) := by decide +kernel
theorem dX6_holds_356 : decode cX6_holds 356 = .ok (.goto 4, 3) := by decide +kernel
theorem dX6_holds_359 : decode cX6_holds 359 = .ok (.iconst 0, 1) := by decide +kernel
theorem dX6_holds_360 : decode cX6_holds 360 = .ok (.ireturn, 1) := by decide +kernel
theorem dX6_holds_361 : decode cX6_holds 361 = .ok (.iload 7, 2) := by decide +kernel
theorem dX6_holds_363 : decode cX6_holds 363 = .ok (.ireturn, 1) := by decide +kernel
theorem dX6_holds_364 : decode cX6_holds 364 = .ok (.iload 5, 2) := by decide +kernel
theorem dX6_holds_366 : decode cX6_holds 366 = .ok (.ifCond .eq 12, 3) := by decide +kernel
theorem dX6_holds_369 : decode cX6_holds 369 = .ok (.iload 7, 2) := by decide +kernel
theorem dX6_holds_371 : decode cX6_holds 371 = .ok (.ifCond .eq 7, 3) := by decide +kernel
theorem dX6_holds_374 : decode cX6_holds 374 = .ok (.iconst 1, 1) := by decide +kernel
theorem dX6_holds_375 : decode cX6_holds 375 = .ok (.goto 4, 3) := by decide +kernel
theorem dX6_holds_378 : decode cX6_holds 378 = .ok (.iconst 0, 1) := by decide +kernel
theorem dX6_holds_379 : decode cX6_holds 379 = .ok (.ireturn, 1) := by decide +kernel
theorem dX6_holds_380 : decode cX6_holds 380 = .ok (.iload 5, 2) := by decide +kernel
theorem dX6_holds_382 : decode cX6_holds 382 = .ok (.ifCond .ne 8, 3) := by decide +kernel
theorem dX6_holds_385 : decode cX6_holds 385 = .ok (.iload 7, 2) := by decide +kernel
theorem dX6_holds_387 : decode cX6_holds 387 = .ok (.ifCond .eq 7, 3) := by decide +kernel
theorem dX6_holds_390 : decode cX6_holds 390 = .ok (.iconst 1, 1) := by decide +kernel
theorem dX6_holds_391 : decode cX6_holds 391 = .ok (.goto 4, 3) := by decide +kernel
theorem dX6_holds_394 : decode cX6_holds 394 = .ok (.iconst 0, 1) := by decide +kernel
theorem dX6_holds_395 : decode cX6_holds 395 = .ok (.ireturn, 1) := by decide +kernel
theorem dX6_holds_396 : decode cX6_holds 396 = .ok (.iload 6, 2) := by decide +kernel
theorem dX6_holds_398 : decode cX6_holds 398 = .ok (.ifCond .ne 13, 3) := by decide +kernel
theorem dX6_holds_401 : decode cX6_holds 401 = .ok (.iload 5, 2) := by decide +kernel
theorem dX6_holds_403 : decode cX6_holds 403 = .ok (.ifCond .eq 12, 3) := by decide +kernel
theorem dX6_holds_406 : decode cX6_holds 406 = .ok (.iload 7, 2) := by decide +kernel
theorem dX6_holds_408 : decode cX6_holds 408 = .ok (.ifCond .eq 7, 3) := by decide +kernel
theorem dX6_holds_411 : decode cX6_holds 411 = .ok (.iconst 1, 1) := by decide +kernel
theorem dX6_holds_412 : decode cX6_holds 412 = .ok (.goto 4, 3) := by decide +kernel
theorem dX6_holds_415 : decode cX6_holds 415 = .ok (.iconst 0, 1) := by decide +kernel
theorem dX6_holds_416 : decode cX6_holds 416 = .ok (.ireturn, 1) := by decide +kernel
theorem dX6_holds_417 : decode cX6_holds 417 = .ok (.iload 8, 2) := by decide +kernel
theorem dX6_holds_419 : decode cX6_holds 419 = .ok (.bipush 97, 2) := by decide +kernel
theorem dX6_holds_421 : decode cX6_holds 421 = .ok (.iload_n 2, 1) := by decide +kernel
theorem dX6_holds_422 : decode cX6_holds 422 = .ok (.iadd, 1) := by decide +kernel
theorem dX6_holds_423 : decode cX6_holds 423 = .ok (.if_icmp .ne 7, 3) := by decide +kernel
theorem dX6_holds_426 : decode cX6_holds 426 = .ok (.iconst 1, 1) := by decide +kernel
theorem dX6_holds_427 : decode cX6_holds 427 = .ok (.goto 4, 3) := by decide +kernel
theorem dX6_holds_430 : decode cX6_holds 430 = .ok (.iconst 0, 1) := by decide +kernel
theorem dX6_holds_431 : decode cX6_holds 431 = .ok (.ireturn, 1) := by decide +kernel
theorem dX6_bitsBeside_0 : decode cX6_bitsBeside 0 = .ok (.iconst 0, 1) := by decide +kernel
theorem dX6_bitsBeside_1 : decode cX6_bitsBeside 1 = .ok (.istore_n 2, 1) := by decide +kernel
theorem dX6_bitsBeside_2 : decode cX6_bitsBeside 2 = .ok (.iconst 0, 1) := by decide +kernel
theorem dX6_bitsBeside_3 : decode cX6_bitsBeside 3 = .ok (.istore_n 3, 1) := by decide +kernel
theorem dX6_bitsBeside_4 : decode cX6_bitsBeside 4 = .ok (.iload_n 3, 1) := by decide +kernel
theorem dX6_bitsBeside_5 : decode cX6_bitsBeside 5 = .ok (.aload_n 0, 1) := by decide +kernel
theorem dX6_bitsBeside_6 : decode cX6_bitsBeside 6 = .ok (.getfield 31, 3) := by decide +kernel
theorem dX6_bitsBeside_9 : decode cX6_bitsBeside 9 = .ok (.if_icmp .ge 105, 3) := by decide +kernel
theorem dX6_bitsBeside_12 : decode cX6_bitsBeside 12 = .ok (.aload_n 0, 1) := by decide +kernel
theorem dX6_bitsBeside_13 : decode cX6_bitsBeside 13 = .ok (.getfield 9, 3) := by decide +kernel
theorem dX6_bitsBeside_16 : decode cX6_bitsBeside 16 = .ok (.iload_n 3, 1) := by decide +kernel
theorem dX6_bitsBeside_17 : decode cX6_bitsBeside 17 = .ok (.invokestatic 49, 3) := by decide +kernel
theorem dX6_bitsBeside_20 : decode cX6_bitsBeside 20 = .ok (.istore 4, 2) := by decide +kernel
theorem dX6_bitsBeside_22 : decode cX6_bitsBeside 22 = .ok (.iload 4, 2) := by decide +kernel
theorem dX6_bitsBeside_24 : decode cX6_bitsBeside 24 = .ok (.bipush 78, 2) := by decide +kernel
theorem dX6_bitsBeside_26 : decode cX6_bitsBeside 26 = .ok (.if_icmp .eq 17, 3) := by decide +kernel
theorem dX6_bitsBeside_29 : decode cX6_bitsBeside 29 = .ok (.iload 4, 2) := by decide +kernel
theorem dX6_bitsBeside_31 : decode cX6_bitsBeside 31 = .ok (.bipush 87, 2) := by decide +kernel
theorem dX6_bitsBeside_33 : decode cX6_bitsBeside 33 = .ok (.if_icmp .eq 10, 3) := by decide +kernel
theorem dX6_bitsBeside_36 : decode cX6_bitsBeside 36 = .ok (.iload 4, 2) := by decide +kernel
theorem dX6_bitsBeside_38 : decode cX6_bitsBeside 38 = .ok (.bipush 89, 2) := by decide +kernel
theorem dX6_bitsBeside_40 : decode cX6_bitsBeside 40 = .ok (.if_icmp .ne 7, 3) := by decide +kernel
theorem dX6_bitsBeside_43 : decode cX6_bitsBeside 43 = .ok (.iconst 1, 1) := by decide +kernel
theorem dX6_bitsBeside_44 : decode cX6_bitsBeside 44 = .ok (.goto 4, 3) := by decide +kernel
theorem dX6_bitsBeside_47 : decode cX6_bitsBeside 47 = .ok (.iconst 0, 1) := by decide +kernel
theorem dX6_bitsBeside_48 : decode cX6_bitsBeside 48 = .ok (.istore 5, 2) := by decide +kernel
theorem dX6_bitsBeside_50 : decode cX6_bitsBeside 50 = .ok (.iload_n 1, 1) := by decide +kernel
theorem dX6_bitsBeside_51 : decode cX6_bitsBeside 51 = .ok (.i2l, 1) := by decide +kernel
theorem dX6_bitsBeside_52 : decode cX6_bitsBeside 52 = .ok (.iload 5, 2) := by decide +kernel
theorem dX6_bitsBeside_54 : decode cX6_bitsBeside 54 = .ok (.ifCond .eq 14, 3) := by decide +kernel
theorem dX6_bitsBeside_57 : decode cX6_bitsBeside 57 = .ok (.aload_n 0, 1) := by decide +kernel
theorem dX6_bitsBeside_58 : decode cX6_bitsBeside 58 = .ok (.getfield 15, 3) := by decide +kernel
theorem dX6_bitsBeside_61 : decode cX6_bitsBeside 61 = .ok (.iload_n 3, 1) := by decide +kernel
theorem dX6_bitsBeside_62 : decode cX6_bitsBeside 62 = .ok (.invokestatic 49, 3) := by decide +kernel
theorem dX6_bitsBeside_65 : decode cX6_bitsBeside 65 = .ok (.goto 4, 3) := by decide +kernel
theorem dX6_bitsBeside_68 : decode cX6_bitsBeside 68 = .ok (.iload_n 3, 1) := by decide +kernel
theorem dX6_bitsBeside_69 : decode cX6_bitsBeside 69 = .ok (.invokestatic 68, 3) := by decide +kernel
theorem dX6_bitsBeside_72 : decode cX6_bitsBeside 72 = .ok (.istore 6, 2) := by decide +kernel
theorem dX6_bitsBeside_74 : decode cX6_bitsBeside 74 = .ok (.iload 6, 2) := by decide +kernel
theorem dX6_bitsBeside_76 : decode cX6_bitsBeside 76 = .ok (.ifCond .eq 32, 3) := by decide +kernel
theorem dX6_bitsBeside_79 : decode cX6_bitsBeside 79 = .ok (.iload 4, 2) := by decide +kernel
theorem dX6_bitsBeside_81 : decode cX6_bitsBeside 81 = .ok (.invokestatic 61, 3) := by decide +kernel
theorem dX6_bitsBeside_84 : decode cX6_bitsBeside 84 = .ok (.ifCond .ne 11, 3) := by decide +kernel
theorem dX6_bitsBeside_87 : decode cX6_bitsBeside 87 = .ok (.iload 4, 2) := by decide +kernel
theorem dX6_bitsBeside_89 : decode cX6_bitsBeside 89 = .ok (.invokestatic 57, 3) := by decide +kernel
theorem dX6_bitsBeside_92 : decode cX6_bitsBeside 92 = .ok (.ifCond .eq 16, 3) := by decide +kernel
theorem dX6_bitsBeside_95 : decode cX6_bitsBeside 95 = .ok (.iload_n 2, 1) := by decide +kernel
theorem dX6_bitsBeside_96 : decode cX6_bitsBeside 96 = .ok (.iconst 1, 1) := by decide +kernel
theorem dX6_bitsBeside_97 : decode cX6_bitsBeside 97 = .ok (.aload_n 0, 1) := by decide +kernel
theorem dX6_bitsBeside_98 : decode cX6_bitsBeside 98 = .ok (.getfield 24, 3) := by decide +kernel
theorem dX6_bitsBeside_101 : decode cX6_bitsBeside 101 = .ok (.iload_n 3, 1) := by decide +kernel
theorem dX6_bitsBeside_102 : decode cX6_bitsBeside 102 = .ok (.invokestatic 49, 3) := by decide +kernel
theorem dX6_bitsBeside_105 : decode cX6_bitsBeside 105 = .ok (.ishl, 1) := by decide +kernel
theorem dX6_bitsBeside_106 : decode cX6_bitsBeside 106 = .ok (.ior, 1) := by decide +kernel
theorem dX6_bitsBeside_107 : decode cX6_bitsBeside 107 = .ok (.istore_n 2, 1) := by decide +kernel
theorem dX6_bitsBeside_108 : decode cX6_bitsBeside 108 = .ok (.iinc 3 1, 3) := by decide +kernel
theorem dX6_bitsBeside_111 : decode cX6_bitsBeside 111 = .ok (.goto (-107), 3) := by decide +kernel
theorem dX6_bitsBeside_114 : decode cX6_bitsBeside 114 = .ok (.iload_n 2, 1) := by decide +kernel
theorem dX6_bitsBeside_115 : decode cX6_bitsBeside 115 = .ok (.ireturn, 1) := by decide +kernel
theorem dX6_wholeHolds_0 : decode cX6_wholeHolds 0 = .ok (.aload_n 0, 1) := by decide +kernel
theorem dX6_wholeHolds_1 : decode cX6_wholeHolds 1 = .ok (.getfield 31, 3) := by decide +kernel
theorem dX6_wholeHolds_4 : decode cX6_wholeHolds 4 = .ok (.ifCond .le 21, 3) := by decide +kernel
theorem dX6_wholeHolds_7 : decode cX6_wholeHolds 7 = .ok (.iload_n 1, 1) := by decide +kernel
theorem dX6_wholeHolds_8 : decode cX6_wholeHolds 8 = .ok (.i2l, 1) := by decide +kernel
theorem dX6_wholeHolds_9 : decode cX6_wholeHolds 9 = .ok (.aload_n 0, 1) := by decide +kernel
theorem dX6_wholeHolds_10 : decode cX6_wholeHolds 10 = .ok (.getfield 31, 3) := by decide +kernel
theorem dX6_wholeHolds_13 : decode cX6_wholeHolds 13 = .ok (.iconst 1, 1) := by decide +kernel
theorem dX6_wholeHolds_14 : decode cX6_wholeHolds 14 = .ok (.isub, 1) := by decide +kernel
theorem dX6_wholeHolds_15 : decode cX6_wholeHolds 15 = .ok (.invokestatic 68, 3) := by decide +kernel
theorem dX6_wholeHolds_18 : decode cX6_wholeHolds 18 = .ok (.ifCond .eq 7, 3) := by decide +kernel
theorem dX6_wholeHolds_21 : decode cX6_wholeHolds 21 = .ok (.iconst 1, 1) := by decide +kernel
theorem dX6_wholeHolds_22 : decode cX6_wholeHolds 22 = .ok (.goto 4, 3) := by decide +kernel
theorem dX6_wholeHolds_25 : decode cX6_wholeHolds 25 = .ok (.iconst 0, 1) := by decide +kernel
theorem dX6_wholeHolds_26 : decode cX6_wholeHolds 26 = .ok (.ireturn, 1) := by decide +kernel
theorem dX7_init_0 : decode cX7_init 0 = .ok (.aload_n 0, 1) := by decide +kernel
theorem dX7_init_1 : decode cX7_init 1 = .ok (.invokespecial 3, 3) := by decide +kernel
theorem dX7_init_4 : decode cX7_init 4 = .ok (.aload_n 0, 1) := by decide +kernel
theorem dX7_init_5 : decode cX7_init 5 = .ok (.sipush 240, 3) := by decide +kernel
theorem dX7_init_8 : decode cX7_init 8 = .ok (.newarray .int, 2) := by decide +kernel
theorem dX7_init_10 : decode cX7_init 10 = .ok (.putfield 9, 3) := by decide +kernel
theorem dX7_init_13 : decode cX7_init 13 = .ok (.aload_n 0, 1) := by decide +kernel
theorem dX7_init_14 : decode cX7_init 14 = .ok (.bipush 60, 2) := by decide +kernel
theorem dX7_init_16 : decode cX7_init 16 = .ok (.newarray .int, 2) := by decide +kernel
theorem dX7_init_18 : decode cX7_init 18 = .ok (.putfield 15, 3) := by decide +kernel
theorem dX7_init_21 : decode cX7_init 21 = .ok (.aload_n 0, 1) := by decide +kernel
theorem dX7_init_22 : decode cX7_init 22 = .ok (.sipush 240, 3) := by decide +kernel
theorem dX7_init_25 : decode cX7_init 25 = .ok (.newarray .int, 2) := by decide +kernel
theorem dX7_init_27 : decode cX7_init 27 = .ok (.putfield 18, 3) := by decide +kernel
theorem dX7_init_30 : decode cX7_init 30 = .ok (.aload_n 0, 1) := by decide +kernel
theorem dX7_init_31 : decode cX7_init 31 = .ok (.sipush 1560, 3) := by decide +kernel
theorem dX7_init_34 : decode cX7_init 34 = .ok (.newarray .long, 2) := by decide +kernel
theorem dX7_init_36 : decode cX7_init 36 = .ok (.putfield 21, 3) := by decide +kernel
theorem dX7_init_39 : decode cX7_init 39 = .ok (.aload_n 0, 1) := by decide +kernel
theorem dX7_init_40 : decode cX7_init 40 = .ok (.iconst 0, 1) := by decide +kernel
theorem dX7_init_41 : decode cX7_init 41 = .ok (.putfield 25, 3) := by decide +kernel
theorem dX7_init_44 : decode cX7_init 44 = .ok (.return_, 1) := by decide +kernel
theorem dX7_clear_0 : decode cX7_clear 0 = .ok (.aload_n 0, 1) := by decide +kernel
theorem dX7_clear_1 : decode cX7_clear 1 = .ok (.iconst 0, 1) := by decide +kernel
theorem dX7_clear_2 : decode cX7_clear 2 = .ok (.putfield 25, 3) := by decide +kernel
theorem dX7_clear_5 : decode cX7_clear 5 = .ok (.return_, 1) := by decide +kernel
theorem dX7_add_0 : decode cX7_add 0 = .ok (.aload_n 0, 1) := by decide +kernel
theorem dX7_add_1 : decode cX7_add 1 = .ok (.getfield 25, 3) := by decide +kernel
theorem dX7_add_4 : decode cX7_add 4 = .ok (.bipush 60, 2) := by decide +kernel
theorem dX7_add_6 : decode cX7_add 6 = .ok (.if_icmp .lt 6, 3) := by decide +kernel
theorem dX7_add_9 : decode cX7_add 9 = .ok (.bipush (-9), 2) := by decide +kernel
theorem dX7_add_11 : decode cX7_add 11 = .ok (.ireturn, 1) := by decide +kernel
theorem dX7_add_12 : decode cX7_add 12 = .ok (.aload_n 0, 1) := by decide +kernel
theorem dX7_add_13 : decode cX7_add 13 = .ok (.getfield 15, 3) := by decide +kernel
theorem dX7_add_16 : decode cX7_add 16 = .ok (.aload_n 0, 1) := by decide +kernel
theorem dX7_add_17 : decode cX7_add 17 = .ok (.getfield 25, 3) := by decide +kernel
theorem dX7_add_20 : decode cX7_add 20 = .ok (.iload_n 1, 1) := by decide +kernel
theorem dX7_add_21 : decode cX7_add 21 = .ok (.ifCond .eq 7, 3) := by decide +kernel
theorem dX7_add_24 : decode cX7_add 24 = .ok (.iconst 1, 1) := by decide +kernel
theorem dX7_add_25 : decode cX7_add 25 = .ok (.goto 4, 3) := by decide +kernel
theorem dX7_add_28 : decode cX7_add 28 = .ok (.iconst 0, 1) := by decide +kernel
theorem dX7_add_29 : decode cX7_add 29 = .ok (.invokestatic 29, 3) := by decide +kernel
theorem dX7_add_32 : decode cX7_add 32 = .ok (.aload_n 0, 1) := by decide +kernel
theorem dX7_add_33 : decode cX7_add 33 = .ok (.dup, 1) := by decide +kernel
theorem dX7_add_34 : decode cX7_add 34 = .ok (.getfield 25, 3) := by decide +kernel
theorem dX7_add_37 : decode cX7_add 37 = .ok (.iconst 1, 1) := by decide +kernel
theorem dX7_add_38 : decode cX7_add 38 = .ok (.iadd, 1) := by decide +kernel
theorem dX7_add_39 : decode cX7_add 39 = .ok (.putfield 25, 3) := by decide +kernel
theorem dX7_add_42 : decode cX7_add 42 = .ok (.aload_n 0, 1) := by decide +kernel
theorem dX7_add_43 : decode cX7_add 43 = .ok (.getfield 25, 3) := by decide +kernel
theorem dX7_add_46 : decode cX7_add 46 = .ok (.iconst 1, 1) := by decide +kernel
theorem dX7_add_47 : decode cX7_add 47 = .ok (.isub, 1) := by decide +kernel
theorem dX7_add_48 : decode cX7_add 48 = .ok (.ireturn, 1) := by decide +kernel
theorem dX7_lead_0 : decode cX7_lead 0 = .ok (.aload_n 0, 1) := by decide +kernel
theorem dX7_lead_1 : decode cX7_lead 1 = .ok (.getfield 9, 3) := by decide +kernel
theorem dX7_lead_4 : decode cX7_lead 4 = .ok (.iload_n 1, 1) := by decide +kernel
theorem dX7_lead_5 : decode cX7_lead 5 = .ok (.iconst 4, 1) := by decide +kernel
theorem dX7_lead_6 : decode cX7_lead 6 = .ok (.imul, 1) := by decide +kernel
theorem dX7_lead_7 : decode cX7_lead 7 = .ok (.iload_n 2, 1) := by decide +kernel
theorem dX7_lead_8 : decode cX7_lead 8 = .ok (.iadd, 1) := by decide +kernel
theorem dX7_lead_9 : decode cX7_lead 9 = .ok (.iload_n 3, 1) := by decide +kernel
theorem dX7_lead_10 : decode cX7_lead 10 = .ok (.invokestatic 29, 3) := by decide +kernel
theorem dX7_lead_13 : decode cX7_lead 13 = .ok (.return_, 1) := by decide +kernel
theorem dX7_finish_0 : decode cX7_finish 0 = .ok (.aload_n 0, 1) := by decide +kernel
theorem dX7_finish_1 : decode cX7_finish 1 = .ok (.invokevirtual 33, 3) := by decide +kernel
theorem dX7_finish_4 : decode cX7_finish 4 = .ok (.iconst 0, 1) := by decide +kernel
theorem dX7_finish_5 : decode cX7_finish 5 = .ok (.istore_n 1, 1) := by decide +kernel
theorem dX7_finish_6 : decode cX7_finish 6 = .ok (.iload_n 1, 1) := by decide +kernel
theorem dX7_finish_7 : decode cX7_finish 7 = .ok (.iconst 4, 1) := by decide +kernel
theorem dX7_finish_8 : decode cX7_finish 8 = .ok (.if_icmp .ge 14, 3) := by decide +kernel
theorem dX7_finish_11 : decode cX7_finish 11 = .ok (.aload_n 0, 1) := by decide +kernel
theorem dX7_finish_12 : decode cX7_finish 12 = .ok (.iload_n 1, 1) := by decide +kernel
theorem dX7_finish_13 : decode cX7_finish 13 = .ok (.invokevirtual 36, 3) := by decide +kernel
theorem dX7_finish_16 : decode cX7_finish 16 = .ok (.iinc 1 1, 3) := by decide +kernel
theorem dX7_finish_19 : decode cX7_finish 19 = .ok (.goto (-13), 3) := by decide +kernel
theorem dX7_finish_22 : decode cX7_finish 22 = .ok (.aload_n 0, 1) := by decide +kernel
theorem dX7_finish_23 : decode cX7_finish 23 = .ok (.invokevirtual 40, 3) := by decide +kernel
theorem dX7_finish_26 : decode cX7_finish 26 = .ok (.return_, 1) := by decide +kernel
theorem dX7_copyFrom_0 : decode cX7_copyFrom 0 = .ok (.aload_n 0, 1) := by decide +kernel
theorem dX7_copyFrom_1 : decode cX7_copyFrom 1 = .ok (.aload_n 1, 1) := by decide +kernel
theorem dX7_copyFrom_2 : decode cX7_copyFrom 2 = .ok (.getfield 25, 3) := by decide +kernel
theorem dX7_copyFrom_5 : decode cX7_copyFrom 5 = .ok (.putfield 25, 3) := by decide +kernel
theorem dX7_copyFrom_8 : decode cX7_copyFrom 8 = .ok (.aload_n 1, 1) := by decide +kernel
theorem dX7_copyFrom_9 : decode cX7_copyFrom 9 = .ok (.getfield 9, 3) := by decide +kernel
theorem dX7_copyFrom_12 : decode cX7_copyFrom 12 = .ok (.iconst 0, 1) := by decide +kernel
theorem dX7_copyFrom_13 : decode cX7_copyFrom 13 = .ok (.aload_n 0, 1) := by decide +kernel
theorem dX7_copyFrom_14 : decode cX7_copyFrom 14 = .ok (.getfield 9, 3) := by decide +kernel
theorem dX7_copyFrom_17 : decode cX7_copyFrom 17 = .ok (.iconst 0, 1) := by decide +kernel
theorem dX7_copyFrom_18 : decode cX7_copyFrom 18 = .ok (.aload_n 0, 1) := by decide +kernel
theorem dX7_copyFrom_19 : decode cX7_copyFrom 19 = .ok (.getfield 9, 3) := by decide +kernel
theorem dX7_copyFrom_22 : decode cX7_copyFrom 22 = .ok (.arraylength, 1) := by decide +kernel
theorem dX7_copyFrom_23 : decode cX7_copyFrom 23 = .ok (.invokestatic 43, 3) := by decide +kernel
theorem dX7_copyFrom_26 : decode cX7_copyFrom 26 = .ok (.aload_n 1, 1) := by decide +kernel
theorem dX7_copyFrom_27 : decode cX7_copyFrom 27 = .ok (.getfield 15, 3) := by decide +kernel
theorem dX7_copyFrom_30 : decode cX7_copyFrom 30 = .ok (.iconst 0, 1) := by decide +kernel
theorem dX7_copyFrom_31 : decode cX7_copyFrom 31 = .ok (.aload_n 0, 1) := by decide +kernel
theorem dX7_copyFrom_32 : decode cX7_copyFrom 32 = .ok (.getfield 15, 3) := by decide +kernel
theorem dX7_copyFrom_35 : decode cX7_copyFrom 35 = .ok (.iconst 0, 1) := by decide +kernel
theorem dX7_copyFrom_36 : decode cX7_copyFrom 36 = .ok (.aload_n 0, 1) := by decide +kernel
theorem dX7_copyFrom_37 : decode cX7_copyFrom 37 = .ok (.getfield 15, 3) := by decide +kernel
theorem dX7_copyFrom_40 : decode cX7_copyFrom 40 = .ok (.arraylength, 1) := by decide +kernel
theorem dX7_copyFrom_41 : decode cX7_copyFrom 41 = .ok (.invokestatic 43, 3) := by decide +kernel
theorem dX7_copyFrom_44 : decode cX7_copyFrom 44 = .ok (.return_, 1) := by decide +kernel
theorem dX7_isThere_0 : decode cX7_isThere 0 = .ok (.aload_n 0, 1) := by decide +kernel
theorem dX7_isThere_1 : decode cX7_isThere 1 = .ok (.getfield 25, 3) := by decide +kernel
theorem dX7_isThere_4 : decode cX7_isThere 4 = .ok (.ifCond .le 7, 3) := by decide +kernel
theorem dX7_isThere_7 : decode cX7_isThere 7 = .ok (.iconst 1, 1) := by decide +kernel
theorem dX7_isThere_8 : decode cX7_isThere 8 = .ok (.goto 4, 3) := by decide +kernel
theorem dX7_isThere_11 : decode cX7_isThere 11 = .ok (.iconst 0, 1) := by decide +kernel
theorem dX7_isThere_12 : decode cX7_isThere 12 = .ok (.ireturn, 1) := by decide +kernel
theorem dX7_size_0 : decode cX7_size 0 = .ok (.aload_n 0, 1) := by decide +kernel
theorem dX7_size_1 : decode cX7_size 1 = .ok (.getfield 25, 3) := by decide +kernel
theorem dX7_size_4 : decode cX7_size 4 = .ok (.ireturn, 1) := by decide +kernel
theorem dX7_has_0 : decode cX7_has 0 = .ok (.iload_n 1, 1) := by decide +kernel
theorem dX7_has_1 : decode cX7_has 1 = .ok (.ifCond .lt 15, 3) := by decide +kernel
theorem dX7_has_4 : decode cX7_has 4 = .ok (.iload_n 1, 1) := by decide +kernel
theorem dX7_has_5 : decode cX7_has 5 = .ok (.aload_n 0, 1) := by decide +kernel
theorem dX7_has_6 : decode cX7_has 6 = .ok (.getfield 25, 3) := by decide +kernel
theorem dX7_has_9 : decode cX7_has 9 = .ok (.if_icmp .ge 7, 3) := by decide +kernel
theorem dX7_has_12 : decode cX7_has 12 = .ok (.iconst 1, 1) := by decide +kernel
theorem dX7_has_13 : decode cX7_has 13 = .ok (.goto 4, 3) := by decide +kernel
theorem dX7_has_16 : decode cX7_has 16 = .ok (.iconst 0, 1) := by decide +kernel
theorem dX7_has_17 : decode cX7_has 17 = .ok (.ireturn, 1) := by decide +kernel
theorem dX7_next_0 : decode cX7_next 0 = .ok (.aload_n 0, 1) := by decide +kernel
theorem dX7_next_1 : decode cX7_next 1 = .ok (.getfield 9, 3) := by decide +kernel
theorem dX7_next_4 : decode cX7_next 4 = .ok (.iload_n 1, 1) := by decide +kernel
theorem dX7_next_5 : decode cX7_next 5 = .ok (.iconst 4, 1) := by decide +kernel
theorem dX7_next_6 : decode cX7_next 6 = .ok (.imul, 1) := by decide +kernel
theorem dX7_next_7 : decode cX7_next 7 = .ok (.iload_n 2, 1) := by decide +kernel
theorem dX7_next_8 : decode cX7_next 8 = .ok (.iadd, 1) := by decide +kernel
theorem dX7_next_9 : decode cX7_next 9 = .ok (.invokestatic 49, 3) := by decide +kernel
theorem dX7_next_12 : decode cX7_next 12 = .ok (.ireturn, 1) := by decide +kernel
theorem dX7_verdictOf_0 : decode cX7_verdictOf 0 = .ok (.aload_n 0, 1) := by decide +kernel
theorem dX7_verdictOf_1 : decode cX7_verdictOf 1 = .ok (.getfield 15, 3) := by decide +kernel
theorem dX7_verdictOf_4 : decode cX7_verdictOf 4 = .ok (.iload_n 1, 1) := by decide +kernel
theorem dX7_verdictOf_5 : decode cX7_verdictOf 5 = .ok (.invokestatic 49, 3) := by decide +kernel
theorem dX7_verdictOf_8 : decode cX7_verdictOf 8 = .ok (.ireturn, 1) := by decide +kernel
theorem dX7_keeps_0 : decode cX7_keeps 0 = .ok (.aload_n 0, 1) := by decide +kernel
theorem dX7_keeps_1 : decode cX7_keeps 1 = .ok (.iload_n 1, 1) := by decide +kernel
theorem dX7_keeps_2 : decode cX7_keeps 2 = .ok (.invokevirtual 53, 3) := by decide +kernel
theorem dX7_keeps_5 : decode cX7_keeps 5 = .ok (.iconst 1, 1) := by decide +kernel
theorem dX7_keeps_6 : decode cX7_keeps 6 = .ok (.iand, 1) := by decide +kernel
theorem dX7_keeps_7 : decode cX7_keeps 7 = .ok (.ifCond .eq 7, 3) := by decide +kernel
theorem dX7_keeps_10 : decode cX7_keeps 10 = .ok (.iconst 1, 1) := by decide +kernel
theorem dX7_keeps_11 : decode cX7_keeps 11 = .ok (.goto 4, 3) := by decide +kernel
theorem dX7_keeps_14 : decode cX7_keeps 14 = .ok (.iconst 0, 1) := by decide +kernel
theorem dX7_keeps_15 : decode cX7_keeps 15 = .ok (.ireturn, 1) := by decide +kernel
theorem dX7_isSure_0 : decode cX7_isSure 0 = .ok (.aload_n 0, 1) := by decide +kernel
theorem dX7_isSure_1 : decode cX7_isSure 1 = .ok (.iload_n 1, 1) := by decide +kernel
theorem dX7_isSure_2 : decode cX7_isSure 2 = .ok (.invokevirtual 53, 3) := by decide +kernel
theorem dX7_isSure_5 : decode cX7_isSure 5 = .ok (.iconst 2, 1) := by decide +kernel
theorem dX7_isSure_6 : decode cX7_isSure 6 = .ok (.iand, 1) := by decide +kernel
theorem dX7_isSure_7 : decode cX7_isSure 7 = .ok (.ifCond .eq 7, 3) := by decide +kernel
theorem dX7_isSure_10 : decode cX7_isSure 10 = .ok (.iconst 1, 1) := by decide +kernel
theorem dX7_isSure_11 : decode cX7_isSure 11 = .ok (.goto 4, 3) := by decide +kernel
theorem dX7_isSure_14 : decode cX7_isSure 14 = .ok (.iconst 0, 1) := by decide +kernel
theorem dX7_isSure_15 : decode cX7_isSure 15 = .ok (.ireturn, 1) := by decide +kernel
theorem dX7_sureStates_0 : decode cX7_sureStates 0 = .ok (.iconst 0, 1) := by decide +kernel
theorem dX7_sureStates_1 : decode cX7_sureStates 1 = .ok (.istore_n 1, 1) := by decide +kernel
theorem dX7_sureStates_2 : decode cX7_sureStates 2 = .ok (.iconst 0, 1) := by decide +kernel
theorem dX7_sureStates_3 : decode cX7_sureStates 3 = .ok (.istore_n 2, 1) := by decide +kernel
theorem dX7_sureStates_4 : decode cX7_sureStates 4 = .ok (.iload_n 2, 1) := by decide +kernel
theorem dX7_sureStates_5 : decode cX7_sureStates 5 = .ok (.aload_n 0, 1) := by decide +kernel
theorem dX7_sureStates_6 : decode cX7_sureStates 6 = .ok (.getfield 25, 3) := by decide +kernel
theorem dX7_sureStates_9 : decode cX7_sureStates 9 = .ok (.if_icmp .ge 25, 3) := by decide +kernel
theorem dX7_sureStates_12 : decode cX7_sureStates 12 = .ok (.iload_n 1, 1) := by decide +kernel
theorem dX7_sureStates_13 : decode cX7_sureStates 13 = .ok (.aload_n 0, 1) := by decide +kernel
theorem dX7_sureStates_14 : decode cX7_sureStates 14 = .ok (.iload_n 2, 1) := by decide +kernel
theorem dX7_sureStates_15 : decode cX7_sureStates 15 = .ok (.invokevirtual 57, 3) := by decide +kernel
theorem dX7_sureStates_18 : decode cX7_sureStates 18 = .ok (.ifCond .eq 7, 3) := by decide +kernel
theorem dX7_sureStates_21 : decode cX7_sureStates 21 = .ok (.iconst 1, 1) := by decide +kernel
theorem dX7_sureStates_22 : decode cX7_sureStates 22 = .ok (.goto 4, 3) := by decide +kernel
theorem dX7_sureStates_25 : decode cX7_sureStates 25 = .ok (.iconst 0, 1) := by decide +kernel
theorem dX7_sureStates_26 : decode cX7_sureStates 26 = .ok (.iadd, 1) := by decide +kernel
theorem dX7_sureStates_27 : decode cX7_sureStates 27 = .ok (.istore_n 1, 1) := by decide +kernel
theorem dX7_sureStates_28 : decode cX7_sureStates 28 = .ok (.iinc 2 1, 3) := by decide +kernel
theorem dX7_sureStates_31 : decode cX7_sureStates 31 = .ok (.goto (-27), 3) := by decide +kernel
theorem dX7_sureStates_34 : decode cX7_sureStates 34 = .ok (.iload_n 1, 1) := by decide +kernel
theorem dX7_sureStates_35 : decode cX7_sureStates 35 = .ok (.ireturn, 1) := by decide +kernel
theorem dX7_markSure_0 : decode cX7_markSure 0 = .ok (.iconst 0, 1) := by decide +kernel
theorem dX7_markSure_1 : decode cX7_markSure 1 = .ok (.istore_n 1, 1) := by decide +kernel
theorem dX7_markSure_2 : decode cX7_markSure 2 = .ok (.iload_n 1, 1) := by decide +kernel
theorem dX7_markSure_3 : decode cX7_markSure 3 = .ok (.aload_n 0, 1) := by decide +kernel
theorem dX7_markSure_4 : decode cX7_markSure 4 = .ok (.getfield 25, 3) := by decide +kernel
theorem dX7_markSure_7 : decode cX7_markSure 7 = .ok (.if_icmp .ge 63, 3) := by decide +kernel
theorem dX7_markSure_10 : decode cX7_markSure 10 = .ok (.iconst 1, 1) := by decide +kernel
theorem dX7_markSure_11 : decode cX7_markSure 11 = .ok (.istore_n 2, 1) := by decide +kernel
theorem dX7_markSure_12 : decode cX7_markSure 12 = .ok (.iconst 0, 1) := by decide +kernel
theorem dX7_markSure_13 : decode cX7_markSure 13 = .ok (.istore_n 3, 1) := by decide +kernel
theorem dX7_markSure_14 : decode cX7_markSure 14 = .ok (.iload_n 3, 1) := by decide +kernel
theorem dX7_markSure_15 : decode cX7_markSure 15 = .ok (.iconst 4, 1) := by decide +kernel
theorem dX7_markSure_16 : decode cX7_markSure 16 = .ok (.if_icmp .ge 29, 3) := by decide +kernel
theorem dX7_markSure_19 : decode cX7_markSure 19 = .ok (.iload_n 2, 1) := by decide +kernel
theorem dX7_markSure_20 : decode cX7_markSure 20 = .ok (.ifCond .eq 17, 3) := by decide +kernel
theorem dX7_markSure_23 : decode cX7_markSure 23 = .ok (.aload_n 0, 1) := by decide +kernel
theorem dX7_markSure_24 : decode cX7_markSure 24 = .ok (.iload_n 1, 1) := by decide +kernel
theorem dX7_markSure_25 : decode cX7_markSure 25 = .ok (.iload_n 3, 1) := by decide +kernel
theorem dX7_markSure_26 : decode cX7_markSure 26 = .ok (.invokevirtual 61, 3) := by decide +kernel
theorem dX7_markSure_29 : decode cX7_markSure 29 = .ok (.iload_n 1, 1) := by decide +kernel
theorem dX7_markSure_30 : decode cX7_markSure 30 = .ok (.if_icmp .ne 7, 3) := by decide +kernel
theorem dX7_markSure_33 : decode cX7_markSure 33 = .ok (.iconst 1, 1) := by decide +kernel
theorem dX7_markSure_34 : decode cX7_markSure 34 = .ok (.goto 4, 3) := by decide +kernel
theorem dX7_markSure_37 : decode cX7_markSure 37 = .ok (.iconst 0, 1) := by decide +kernel
theorem dX7_markSure_38 : decode cX7_markSure 38 = .ok (.istore_n 2, 1) := by decide +kernel
theorem dX7_markSure_39 : decode cX7_markSure 39 = .ok (.iinc 3 1, 3) := by decide +kernel
theorem dX7_markSure_42 : decode cX7_markSure 42 = .ok (.goto (-28), 3) := by decide +kernel
theorem dX7_markSure_45 : decode cX7_markSure 45 = .ok (.iload_n 2, 1) := by decide +kernel
theorem dX7_markSure_46 : decode cX7_markSure 46 = .ok (.ifCond .eq 18, 3) := by decide +kernel
theorem dX7_markSure_49 : decode cX7_markSure 49 = .ok (.aload_n 0, 1) := by decide +kernel
theorem dX7_markSure_50 : decode cX7_markSure 50 = .ok (.getfield 15, 3) := by decide +kernel
theorem dX7_markSure_53 : decode cX7_markSure 53 = .ok (.iload_n 1, 1) := by decide +kernel
