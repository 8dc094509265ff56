theorem dX7_turn_40 : decode cX7_turn 40 = .ok (.aload_n 0, 1) := by decide +kernel
theorem dX7_turn_41 : decode cX7_turn 41 = .ok (.iload_n 1, 1) := by decide +kernel
theorem dX7_turn_42 : decode cX7_turn 42 = .ok (.invokevirtual 179, 3) := by decide +kernel
theorem dX7_turn_45 : decode cX7_turn 45 = .ok (.istore 7, 2) := by decide +kernel
theorem dX7_turn_47 : decode cX7_turn 47 = .ok (.iload 7, 2) := by decide +kernel
theorem dX7_turn_49 : decode cX7_turn 49 = .ok (.iload 5, 2) := by decide +kernel
theorem dX7_turn_51 : decode cX7_turn 51 = .ok (.if_icmp .ge 7, 3) := by decide +kernel
theorem dX7_turn_54 : decode cX7_turn 54 = .ok (.iconst 1, 1) := by decide +kernel
theorem dX7_turn_55 : decode cX7_turn 55 = .ok (.goto 4, 3) := by decide +kernel
theorem dX7_turn_58 : decode cX7_turn 58 = .ok (.iconst 0, 1) := by decide +kernel
theorem dX7_turn_59 : decode cX7_turn 59 = .ok (.istore 6, 2) := by decide +kernel
theorem dX7_turn_61 : decode cX7_turn 61 = .ok (.iload 6, 2) := by decide +kernel
theorem dX7_turn_63 : decode cX7_turn 63 = .ok (.ifCond .eq 13, 3) := by decide +kernel
theorem dX7_turn_66 : decode cX7_turn 66 = .ok (.iload 7, 2) := by decide +kernel
theorem dX7_turn_68 : decode cX7_turn 68 = .ok (.istore 5, 2) := by decide +kernel
theorem dX7_turn_70 : decode cX7_turn 70 = .ok (.iinc 4 1, 3) := by decide +kernel
theorem dX7_turn_73 : decode cX7_turn 73 = .ok (.goto 18, 3) := by decide +kernel
theorem dX7_turn_76 : decode cX7_turn 76 = .ok (.aload_n 0, 1) := by decide +kernel
theorem dX7_turn_77 : decode cX7_turn 77 = .ok (.getfield 47, 3) := by decide +kernel
theorem dX7_turn_80 : decode cX7_turn 80 = .ok (.bipush 6, 2) := by decide +kernel
theorem dX7_turn_82 : decode cX7_turn 82 = .ok (.iload_n 1, 1) := by decide +kernel
theorem dX7_turn_83 : decode cX7_turn 83 = .ok (.imul, 1) := by decide +kernel
theorem dX7_turn_84 : decode cX7_turn 84 = .ok (.iload_n 2, 1) := by decide +kernel
theorem dX7_turn_85 : decode cX7_turn 85 = .ok (.iadd, 1) := by decide +kernel
theorem dX7_turn_86 : decode cX7_turn 86 = .ok (.dup2, 1) := by decide +kernel
theorem dX7_turn_87 : decode cX7_turn 87 = .ok (.iaload, 1) := by decide +kernel
theorem dX7_turn_88 : decode cX7_turn 88 = .ok (.iload_n 3, 1) := by decide +kernel
theorem dX7_turn_89 : decode cX7_turn 89 = .ok (.isub, 1) := by decide +kernel
theorem dX7_turn_90 : decode cX7_turn 90 = .ok (.iastore, 1) := by decide +kernel
theorem dX7_turn_91 : decode cX7_turn 91 = .ok (.goto (-78), 3) := by decide +kernel
theorem dX7_turn_94 : decode cX7_turn 94 = .ok (.iload 4, 2) := by decide +kernel
theorem dX7_turn_96 : decode cX7_turn 96 = .ok (.ireturn, 1) := by decide +kernel
theorem dX7_oneRound_0 : decode cX7_oneRound 0 = .ok (.iconst 0, 1) := by decide +kernel
theorem dX7_oneRound_1 : decode cX7_oneRound 1 = .ok (.istore_n 2, 1) := by decide +kernel
theorem dX7_oneRound_2 : decode cX7_oneRound 2 = .ok (.iconst 0, 1) := by decide +kernel
theorem dX7_oneRound_3 : decode cX7_oneRound 3 = .ok (.istore_n 3, 1) := by decide +kernel
theorem dX7_oneRound_4 : decode cX7_oneRound 4 = .ok (.iload_n 3, 1) := by decide +kernel
theorem dX7_oneRound_5 : decode cX7_oneRound 5 = .ok (.aload_n 0, 1) := by decide +kernel
theorem dX7_oneRound_6 : decode cX7_oneRound 6 = .ok (.getfield 182, 3) := by decide +kernel
theorem dX7_oneRound_9 : decode cX7_oneRound 9 = .ok (.if_icmp .ge 59, 3) := by decide +kernel
theorem dX7_oneRound_12 : decode cX7_oneRound 12 = .ok (.aload_n 0, 1) := by decide +kernel
theorem dX7_oneRound_13 : decode cX7_oneRound 13 = .ok (.iload_n 1, 1) := by decide +kernel
theorem dX7_oneRound_14 : decode cX7_oneRound 14 = .ok (.aload_n 0, 1) := by decide +kernel
theorem dX7_oneRound_15 : decode cX7_oneRound 15 = .ok (.getfield 50, 3) := by decide +kernel
theorem dX7_oneRound_18 : decode cX7_oneRound 18 = .ok (.iload_n 3, 1) := by decide +kernel
theorem dX7_oneRound_19 : decode cX7_oneRound 19 = .ok (.iaload, 1) := by decide +kernel
theorem dX7_oneRound_20 : decode cX7_oneRound 20 = .ok (.aload_n 0, 1) := by decide +kernel
theorem dX7_oneRound_21 : decode cX7_oneRound 21 = .ok (.getfield 53, 3) := by decide +kernel
theorem dX7_oneRound_24 : decode cX7_oneRound 24 = .ok (.iload_n 3, 1) := by decide +kernel
theorem dX7_oneRound_25 : decode cX7_oneRound 25 = .ok (.iaload, 1) := by decide +kernel
theorem dX7_oneRound_26 : decode cX7_oneRound 26 = .ok (.invokevirtual 185, 3) := by decide +kernel
theorem dX7_oneRound_29 : decode cX7_oneRound 29 = .ok (.istore 4, 2) := by decide +kernel
theorem dX7_oneRound_31 : decode cX7_oneRound 31 = .ok (.iload_n 2, 1) := by decide +kernel
theorem dX7_oneRound_32 : decode cX7_oneRound 32 = .ok (.iload 4, 2) := by decide +kernel
theorem dX7_oneRound_34 : decode cX7_oneRound 34 = .ok (.ifCond .le 8, 3) := by decide +kernel
theorem dX7_oneRound_37 : decode cX7_oneRound 37 = .ok (.iload 4, 2) := by decide +kernel
theorem dX7_oneRound_39 : decode cX7_oneRound 39 = .ok (.goto 21, 3) := by decide +kernel
theorem dX7_oneRound_42 : decode cX7_oneRound 42 = .ok (.aload_n 0, 1) := by decide +kernel
theorem dX7_oneRound_43 : decode cX7_oneRound 43 = .ok (.iload_n 1, 1) := by decide +kernel
theorem dX7_oneRound_44 : decode cX7_oneRound 44 = .ok (.aload_n 0, 1) := by decide +kernel
theorem dX7_oneRound_45 : decode cX7_oneRound 45 = .ok (.getfield 50, 3) := by decide +kernel
theorem dX7_oneRound_48 : decode cX7_oneRound 48 = .ok (.iload_n 3, 1) := by decide +kernel
theorem dX7_oneRound_49 : decode cX7_oneRound 49 = .ok (.iaload, 1) := by decide +kernel
theorem dX7_oneRound_50 : decode cX7_oneRound 50 = .ok (.aload_n 0, 1) := by decide +kernel
theorem dX7_oneRound_51 : decode cX7_oneRound 51 = .ok (.getfield 53, 3) := by decide +kernel
theorem dX7_oneRound_54 : decode cX7_oneRound 54 = .ok (.iload_n 3, 1) := by decide +kernel
theorem dX7_oneRound_55 : decode cX7_oneRound 55 = .ok (.iaload, 1) := by decide +kernel
theorem dX7_oneRound_56 : decode cX7_oneRound 56 = .ok (.ineg, 1) := by decide +kernel
theorem dX7_oneRound_57 : decode cX7_oneRound 57 = .ok (.invokevirtual 185, 3) := by decide +kernel
theorem dX7_oneRound_60 : decode cX7_oneRound 60 = .ok (.iadd, 1) := by decide +kernel
theorem dX7_oneRound_61 : decode cX7_oneRound 61 = .ok (.istore_n 2, 1) := by decide +kernel
theorem dX7_oneRound_62 : decode cX7_oneRound 62 = .ok (.iinc 3 1, 3) := by decide +kernel
theorem dX7_oneRound_65 : decode cX7_oneRound 65 = .ok (.goto (-61), 3) := by decide +kernel
theorem dX7_oneRound_68 : decode cX7_oneRound 68 = .ok (.iload_n 2, 1) := by decide +kernel
theorem dX7_oneRound_69 : decode cX7_oneRound 69 = .ok (.ireturn, 1) := by decide +kernel
theorem dX7_round_0 : decode cX7_round 0 = .ok (.aload_n 0, 1) := by decide +kernel
theorem dX7_round_1 : decode cX7_round 1 = .ok (.iload_n 1, 1) := by decide +kernel
theorem dX7_round_2 : decode cX7_round 2 = .ok (.invokevirtual 173, 3) := by decide +kernel
theorem dX7_round_5 : decode cX7_round 5 = .ok (.ifCond .ne 5, 3) := by decide +kernel
theorem dX7_round_8 : decode cX7_round 8 = .ok (.iconst (-1), 1) := by decide +kernel
theorem dX7_round_9 : decode cX7_round 9 = .ok (.ireturn, 1) := by decide +kernel
theorem dX7_round_10 : decode cX7_round 10 = .ok (.aload_n 0, 1) := by decide +kernel
theorem dX7_round_11 : decode cX7_round 11 = .ok (.getfield 182, 3) := by decide +kernel
theorem dX7_round_14 : decode cX7_round 14 = .ok (.ifCond .ne 8, 3) := by decide +kernel
theorem dX7_round_17 : decode cX7_round 17 = .ok (.bipush (-3), 2) := by decide +kernel
theorem dX7_round_19 : decode cX7_round 19 = .ok (.goto 8, 3) := by decide +kernel
theorem dX7_round_22 : decode cX7_round 22 = .ok (.aload_n 0, 1) := by decide +kernel
theorem dX7_round_23 : decode cX7_round 23 = .ok (.iload_n 1, 1) := by decide +kernel
theorem dX7_round_24 : decode cX7_round 24 = .ok (.invokevirtual 188, 3) := by decide +kernel
theorem dX7_round_27 : decode cX7_round 27 = .ok (.ireturn, 1) := by decide +kernel
theorem dX7_align_0 : decode cX7_align 0 = .ok (.aload_n 0, 1) := by decide +kernel
theorem dX7_align_1 : decode cX7_align 1 = .ok (.iload_n 1, 1) := by decide +kernel
theorem dX7_align_2 : decode cX7_align 2 = .ok (.invokevirtual 173, 3) := by decide +kernel
theorem dX7_align_5 : decode cX7_align 5 = .ok (.ifCond .ne 5, 3) := by decide +kernel
theorem dX7_align_8 : decode cX7_align 8 = .ok (.iconst (-1), 1) := by decide +kernel
theorem dX7_align_9 : decode cX7_align 9 = .ok (.ireturn, 1) := by decide +kernel
theorem dX7_align_10 : decode cX7_align 10 = .ok (.aload_n 0, 1) := by decide +kernel
theorem dX7_align_11 : decode cX7_align 11 = .ok (.getfield 182, 3) := by decide +kernel
theorem dX7_align_14 : decode cX7_align 14 = .ok (.ifCond .ne 6, 3) := by decide +kernel
theorem dX7_align_17 : decode cX7_align 17 = .ok (.bipush (-3), 2) := by decide +kernel
theorem dX7_align_19 : decode cX7_align 19 = .ok (.ireturn, 1) := by decide +kernel
theorem dX7_align_20 : decode cX7_align 20 = .ok (.iconst 0, 1) := by decide +kernel
theorem dX7_align_21 : decode cX7_align 21 = .ok (.istore_n 2, 1) := by decide +kernel
theorem dX7_align_22 : decode cX7_align 22 = .ok (.iconst 1, 1) := by decide +kernel
theorem dX7_align_23 : decode cX7_align 23 = .ok (.istore_n 3, 1) := by decide +kernel
theorem dX7_align_24 : decode cX7_align 24 = .ok (.iload_n 3, 1) := by decide +kernel
theorem dX7_align_25 : decode cX7_align 25 = .ok (.ifCond .eq 29, 3) := by decide +kernel
theorem dX7_align_28 : decode cX7_align 28 = .ok (.iload_n 2, 1) := by decide +kernel
theorem dX7_align_29 : decode cX7_align 29 = .ok (.bipush 50, 2) := by decide +kernel
theorem dX7_align_31 : decode cX7_align 31 = .ok (.if_icmp .ge 23, 3) := by decide +kernel
theorem dX7_align_34 : decode cX7_align 34 = .ok (.aload_n 0, 1) := by decide +kernel
theorem dX7_align_35 : decode cX7_align 35 = .ok (.iload_n 1, 1) := by decide +kernel
theorem dX7_align_36 : decode cX7_align 36 = .ok (.invokevirtual 188, 3) := by decide +kernel
theorem dX7_align_39 : decode cX7_align 39 = .ok (.ifCond .le 7, 3) := by decide +kernel
theorem dX7_align_42 : decode cX7_align 42 = .ok (.iconst 1, 1) := by decide +kernel
theorem dX7_align_43 : decode cX7_align 43 = .ok (.goto 4, 3) := by decide +kernel
theorem dX7_align_46 : decode cX7_align 46 = .ok (.iconst 0, 1) := by decide +kernel
theorem dX7_align_47 : decode cX7_align 47 = .ok (.istore_n 3, 1) := by decide +kernel
theorem dX7_align_48 : decode cX7_align 48 = .ok (.iinc 2 1, 3) := by decide +kernel
theorem dX7_align_51 : decode cX7_align 51 = .ok (.goto (-27), 3) := by decide +kernel
theorem dX7_align_54 : decode cX7_align 54 = .ok (.iload_n 2, 1) := by decide +kernel
theorem dX7_align_55 : decode cX7_align 55 = .ok (.ireturn, 1) := by decide +kernel
theorem dX7_fault_0 : decode cX7_fault 0 = .ok (.iload_n 1, 1) := by decide +kernel
theorem dX7_fault_1 : decode cX7_fault 1 = .ok (.iconst 1, 1) := by decide +kernel
theorem dX7_fault_2 : decode cX7_fault 2 = .ok (.bipush 99, 2) := by decide +kernel
theorem dX7_fault_4 : decode cX7_fault 4 = .ok (.invokestatic 75, 3) := by decide +kernel
theorem dX7_fault_7 : decode cX7_fault 7 = .ok (.ifCond .ne 5, 3) := by decide +kernel
theorem dX7_fault_10 : decode cX7_fault 10 = .ok (.iconst (-1), 1) := by decide +kernel
theorem dX7_fault_11 : decode cX7_fault 11 = .ok (.ireturn, 1) := by decide +kernel
theorem dX7_fault_12 : decode cX7_fault 12 = .ok (.aload_n 0, 1) := by decide +kernel
theorem dX7_fault_13 : decode cX7_fault 13 = .ok (.getfield 191, 3) := by decide +kernel
theorem dX7_fault_16 : decode cX7_fault 16 = .ok (.bipush 12, 2) := by decide +kernel
theorem dX7_fault_18 : decode cX7_fault 18 = .ok (.if_icmp .ne 6, 3) := by decide +kernel
theorem dX7_fault_21 : decode cX7_fault 21 = .ok (.bipush (-2), 2) := by decide +kernel
theorem dX7_fault_23 : decode cX7_fault 23 = .ok (.ireturn, 1) := by decide +kernel
theorem dX7_fault_24 : decode cX7_fault 24 = .ok (.aload_n 0, 1) := by decide +kernel
theorem dX7_fault_25 : decode cX7_fault 25 = .ok (.getfield 56, 3) := by decide +kernel
theorem dX7_fault_28 : decode cX7_fault 28 = .ok (.aload_n 0, 1) := by decide +kernel
theorem dX7_fault_29 : decode cX7_fault 29 = .ok (.getfield 191, 3) := by decide +kernel
theorem dX7_fault_32 : decode cX7_fault 32 = .ok (.iload_n 1, 1) := by decide +kernel
theorem dX7_fault_33 : decode cX7_fault 33 = .ok (.iastore, 1) := by decide +kernel
theorem dX7_fault_34 : decode cX7_fault 34 = .ok (.aload_n 0, 1) := by decide +kernel
theorem dX7_fault_35 : decode cX7_fault 35 = .ok (.dup, 1) := by decide +kernel
theorem dX7_fault_36 : decode cX7_fault 36 = .ok (.getfield 194, 3) := by decide +kernel
theorem dX7_fault_39 : decode cX7_fault 39 = .ok (.iconst 1, 1) := by decide +kernel
theorem dX7_fault_40 : decode cX7_fault 40 = .ok (.aload_n 0, 1) := by decide +kernel
theorem dX7_fault_41 : decode cX7_fault 41 = .ok (.getfield 191, 3) := by decide +kernel
theorem dX7_fault_44 : decode cX7_fault 44 = .ok (.ishl, 1) := by decide +kernel
theorem dX7_fault_45 : decode cX7_fault 45 = .ok (.ior, 1) := by decide +kernel
theorem dX7_fault_46 : decode cX7_fault 46 = .ok (.putfield 194, 3) := by decide +kernel
theorem dX7_fault_49 : decode cX7_fault 49 = .ok (.aload_n 0, 1) := by decide +kernel
theorem dX7_fault_50 : decode cX7_fault 50 = .ok (.dup, 1) := by decide +kernel
theorem dX7_fault_51 : decode cX7_fault 51 = .ok (.getfield 191, 3) := by decide +kernel
theorem dX7_fault_54 : decode cX7_fault 54 = .ok (.iconst 1, 1) := by decide +kernel
theorem dX7_fault_55 : decode cX7_fault 55 = .ok (.iadd, 1) := by decide +kernel
theorem dX7_fault_56 : decode cX7_fault 56 = .ok (.putfield 191, 3) := by decide +kernel
theorem dX7_fault_59 : decode cX7_fault 59 = .ok (.aload_n 0, 1) := by decide +kernel
theorem dX7_fault_60 : decode cX7_fault 60 = .ok (.getfield 191, 3) := by decide +kernel
theorem dX7_fault_63 : decode cX7_fault 63 = .ok (.iconst 1, 1) := by decide +kernel
theorem dX7_fault_64 : decode cX7_fault 64 = .ok (.isub, 1) := by decide +kernel
theorem dX7_fault_65 : decode cX7_fault 65 = .ok (.ireturn, 1) := by decide +kernel
theorem dX7_test_0 : decode cX7_test 0 = .ok (.iload_n 1, 1) := by decide +kernel
theorem dX7_test_1 : decode cX7_test 1 = .ok (.iconst 1, 1) := by decide +kernel
theorem dX7_test_2 : decode cX7_test 2 = .ok (.bipush 99, 2) := by decide +kernel
theorem dX7_test_4 : decode cX7_test 4 = .ok (.invokestatic 75, 3) := by decide +kernel
theorem dX7_test_7 : decode cX7_test 7 = .ok (.ifCond .ne 5, 3) := by decide +kernel
theorem dX7_test_10 : decode cX7_test 10 = .ok (.iconst (-1), 1) := by decide +kernel
theorem dX7_test_11 : decode cX7_test 11 = .ok (.ireturn, 1) := by decide +kernel
theorem dX7_test_12 : decode cX7_test 12 = .ok (.aload_n 0, 1) := by decide +kernel
theorem dX7_test_13 : decode cX7_test 13 = .ok (.getfield 197, 3) := by decide +kernel
theorem dX7_test_16 : decode cX7_test 16 = .ok (.bipush 12, 2) := by decide +kernel
theorem dX7_test_18 : decode cX7_test 18 = .ok (.if_icmp .ne 6, 3) := by decide +kernel
theorem dX7_test_21 : decode cX7_test 21 = .ok (.bipush (-2), 2) := by decide +kernel
theorem dX7_test_23 : decode cX7_test 23 = .ok (.ireturn, 1) := by decide +kernel
theorem dX7_test_24 : decode cX7_test 24 = .ok (.aload_n 0, 1) := by decide +kernel
theorem dX7_test_25 : decode cX7_test 25 = .ok (.getfield 59, 3) := by decide +kernel
theorem dX7_test_28 : decode cX7_test 28 = .ok (.aload_n 0, 1) := by decide +kernel
theorem dX7_test_29 : decode cX7_test 29 = .ok (.getfield 197, 3) := by decide +kernel
theorem dX7_test_32 : decode cX7_test 32 = .ok (.iload_n 1, 1) := by decide +kernel
theorem dX7_test_33 : decode cX7_test 33 = .ok (.iastore, 1) := by decide +kernel
theorem dX7_test_34 : decode cX7_test 34 = .ok (.aload_n 0, 1) := by decide +kernel
theorem dX7_test_35 : decode cX7_test 35 = .ok (.dup, 1) := by decide +kernel
theorem dX7_test_36 : decode cX7_test 36 = .ok (.getfield 197, 3) := by decide +kernel
theorem dX7_test_39 : decode cX7_test 39 = .ok (.iconst 1, 1) := by decide +kernel
theorem dX7_test_40 : decode cX7_test 40 = .ok (.iadd, 1) := by decide +kernel
theorem dX7_test_41 : decode cX7_test 41 = .ok (.putfield 197, 3) := by decide +kernel
theorem dX7_test_44 : decode cX7_test 44 = .ok (.aload_n 0, 1) := by decide +kernel
theorem dX7_test_45 : decode cX7_test 45 = .ok (.getfield 197, 3) := by decide +kernel
theorem dX7_test_48 : decode cX7_test 48 = .ok (.iconst 1, 1) := by decide +kernel
theorem dX7_test_49 : decode cX7_test 49 = .ok (.isub, 1) := by decide +kernel
theorem dX7_test_50 : decode cX7_test 50 = .ok (.ireturn, 1) := by decide +kernel
theorem dX7_isTest_0 : decode cX7_isTest 0 = .ok (.iload_n 1, 1) := by decide +kernel
theorem dX7_isTest_1 : decode cX7_isTest 1 = .ok (.ifCond .lt 15, 3) := by decide +kernel
theorem dX7_isTest_4 : decode cX7_isTest 4 = .ok (.iload_n 1, 1) := by decide +kernel
theorem dX7_isTest_5 : decode cX7_isTest 5 = .ok (.aload_n 0, 1) := by decide +kernel
theorem dX7_isTest_6 : decode cX7_isTest 6 = .ok (.getfield 197, 3) := by decide +kernel
theorem dX7_isTest_9 : decode cX7_isTest 9 = .ok (.if_icmp .ge 7, 3) := by decide +kernel
theorem dX7_isTest_12 : decode cX7_isTest 12 = .ok (.iconst 1, 1) := by decide +kernel
theorem dX7_isTest_13 : decode cX7_isTest 13 = .ok (.goto 4, 3) := by decide +kernel
theorem dX7_isTest_16 : decode cX7_isTest 16 = .ok (.iconst 0, 1) := by decide +kernel
theorem dX7_isTest_17 : decode cX7_isTest 17 = .ok (.ireturn, 1) := by decide +kernel
theorem dX7_reading_0 : decode cX7_reading 0 = .ok (.aload_n 0, 1) := by decide +kernel
theorem dX7_reading_1 : decode cX7_reading 1 = .ok (.iload_n 1, 1) := by decide +kernel
theorem dX7_reading_2 : decode cX7_reading 2 = .ok (.invokevirtual 200, 3) := by decide +kernel
theorem dX7_reading_5 : decode cX7_reading 5 = .ok (.ifCond .eq 24, 3) := by decide +kernel
theorem dX7_reading_8 : decode cX7_reading 8 = .ok (.iload_n 2, 1) := by decide +kernel
theorem dX7_reading_9 : decode cX7_reading 9 = .ok (.ifCond .lt 20, 3) := by decide +kernel
theorem dX7_reading_12 : decode cX7_reading 12 = .ok (.iload_n 2, 1) := by decide +kernel
theorem dX7_reading_13 : decode cX7_reading 13 = .ok (.aload_n 0, 1) := by decide +kernel
theorem dX7_reading_14 : decode cX7_reading 14 = .ok (.getfield 191, 3) := by decide +kernel
theorem dX7_reading_17 : decode cX7_reading 17 = .ok (.if_icmp .ge 12, 3) := by decide +kernel
theorem dX7_reading_20 : decode cX7_reading 20 = .ok (.iload_n 3, 1) := by decide +kernel
theorem dX7_reading_21 : decode cX7_reading 21 = .ok (.iconst 0, 1) := by decide +kernel
theorem dX7_reading_22 : decode cX7_reading 22 = .ok (.iconst 3, 1) := by decide +kernel
theorem dX7_reading_23 : decode cX7_reading 23 = .ok (.invokestatic 75, 3) := by decide +kernel
theorem dX7_reading_26 : decode cX7_reading 26 = .ok (.ifCond .ne 5, 3) := by decide +kernel
theorem dX7_reading_29 : decode cX7_reading 29 = .ok (.iconst (-1), 1) := by decide +kernel
theorem dX7_reading_30 : decode cX7_reading 30 = .ok (.ireturn, 1) := by decide +kernel
theorem dX7_reading_31 : decode cX7_reading 31 = .ok (.aload_n 0, 1) := by decide +kernel
theorem dX7_reading_32 : decode cX7_reading 32 = .ok (.getfield 62, 3) := by decide +kernel
theorem dX7_reading_35 : decode cX7_reading 35 = .ok (.bipush 12, 2) := by decide +kernel
theorem dX7_reading_37 : decode cX7_reading 37 = .ok (.iload_n 1, 1) := by decide +kernel
theorem dX7_reading_38 : decode cX7_reading 38 = .ok (.imul, 1) := by decide +kernel
theorem dX7_reading_39 : decode cX7_reading 39 = .ok (.iload_n 2, 1) := by decide +kernel
theorem dX7_reading_40 : decode cX7_reading 40 = .ok (.iadd, 1) := by decide +kernel
theorem dX7_reading_41 : decode cX7_reading 41 = .ok (.iaload, 1) := by decide +kernel
theorem dX7_reading_42 : decode cX7_reading 42 = .ok (.istore 4, 2) := by decide +kernel
theorem dX7_reading_44 : decode cX7_reading 44 = .ok (.aload_n 0, 1) := by decide +kernel
theorem dX7_reading_45 : decode cX7_reading 45 = .ok (.getfield 62, 3) := by decide +kernel
theorem dX7_reading_48 : decode cX7_reading 48 = .ok (.bipush 12, 2) := by decide +kernel
theorem dX7_reading_50 : decode cX7_reading 50 = .ok (.iload_n 1, 1) := by decide +kernel
theorem dX7_reading_51 : decode cX7_reading 51 = .ok (.imul, 1) := by decide +kernel
theorem dX7_reading_52 : decode cX7_reading 52 = .ok (.iload_n 2, 1) := by decide +kernel
theorem dX7_reading_53 : decode cX7_reading 53 = .ok (.iadd, 1) := by decide +kernel
theorem dX7_reading_54 : decode cX7_reading 54 = .ok (.iload_n 3, 1) := by decide +kernel
theorem dX7_reading_55 : decode cX7_reading 55 = .ok (.iastore, 1) := by decide +kernel
theorem dX7_reading_56 : decode cX7_reading 56 = .ok (.iload 4, 2) := by decide +kernel
theorem dX7_reading_58 : decode cX7_reading 58 = .ok (.ireturn, 1) := by decide +kernel
theorem dX7_leaves_0 : decode cX7_leaves 0 = .ok (.iconst 0, 1) := by decide +kernel
theorem dX7_leaves_1 : decode cX7_leaves 1 = .ok (.istore 4, 2) := by decide +kernel
theorem dX7_leaves_3 : decode cX7_leaves 3 = .ok (.iconst 0, 1) := by decide +kernel
theorem dX7_leaves_4 : decode cX7_leaves 4 = .ok (.istore 5, 2) := by decide +kernel
theorem dX7_leaves_6 : decode cX7_leaves 6 = .ok (.iload 5, 2) := by decide +kernel
theorem dX7_leaves_8 : decode cX7_leaves 8 = .ok (.aload_n 0, 1) := by decide +kernel
theorem dX7_leaves_9 : decode cX7_leaves 9 = .ok (.getfield 191, 3) := by decide +kernel
theorem dX7_leaves_12 : decode cX7_leaves 12 = .ok (.if_icmp .ge 48, 3) := by decide +kernel
theorem dX7_leaves_15 : decode cX7_leaves 15 = .ok (.iload 4, 2) := by decide +kernel
theorem dX7_leaves_17 : decode cX7_leaves 17 = .ok (.iload_n 1, 1) := by decide +kernel
theorem dX7_leaves_18 : decode cX7_leaves 18 = .ok (.iload 5, 2) := by decide +kernel
theorem dX7_leaves_20 : decode cX7_leaves 20 = .ok (.ishr, 1) := by decide +kernel
theorem dX7_leaves_21 : decode cX7_leaves 21 = .ok (.iconst 1, 1) := by decide +kernel
theorem dX7_leaves_22 : decode cX7_leaves 22 = .ok (.iand, 1) := by decide +kernel
theorem dX7_leaves_23 : decode cX7_leaves 23 = .ok (.iconst 1, 1) := by decide +kernel
theorem dX7_leaves_24 : decode cX7_leaves 24 = .ok (.if_icmp .ne 26, 3) := by decide +kernel
theorem dX7_leaves_27 : decode cX7_leaves 27 = .ok (.aload_n 0, 1) := by decide +kernel
theorem dX7_leaves_28 : decode cX7_leaves 28 = .ok (.getfield 62, 3) := by decide +kernel
theorem dX7_leaves_31 : decode cX7_leaves 31 = .ok (.bipush 12, 2) := by decide +kernel
theorem dX7_leaves_33 : decode cX7_leaves 33 = .ok (.iload_n 2, 1) := by decide +kernel
theorem dX7_leaves_34 : decode cX7_leaves 34 = .ok (.imul, 1) := by decide +kernel
theorem dX7_leaves_35 : decode cX7_leaves 35 = .ok (.iload 5, 2) := by decide +kernel
theorem dX7_leaves_37 : decode cX7_leaves 37 = .ok (.iadd, 1) := by decide +kernel
theorem dX7_leaves_38 : decode cX7_leaves 38 = .ok (.iaload, 1) := by decide +kernel
theorem dX7_leaves_39 : decode cX7_leaves 39 = .ok (.iload_n 3, 1) := by decide +kernel
theorem dX7_leaves_40 : decode cX7_leaves 40 = .ok (.if_icmp .ne 10, 3) := by decide +kernel
theorem dX7_leaves_43 : decode cX7_leaves 43 = .ok (.iconst 1, 1) := by decide +kernel
theorem dX7_leaves_44 : decode cX7_leaves 44 = .ok (.iload 5, 2) := by decide +kernel
theorem dX7_leaves_46 : decode cX7_leaves 46 = .ok (.ishl, 1) := by decide +kernel
theorem dX7_leaves_47 : decode cX7_leaves 47 = .ok (.goto 4, 3) := by decide +kernel
theorem dX7_leaves_50 : decode cX7_leaves 50 = .ok (.iconst 0, 1) := by decide +kernel
theorem dX7_leaves_51 : decode cX7_leaves 51 = .ok (.ior, 1) := by decide +kernel
theorem dX7_leaves_52 : decode cX7_leaves 52 = .ok (.istore 4, 2) := by decide +kernel
theorem dX7_leaves_54 : decode cX7_leaves 54 = .ok (.iinc 5 1, 3) := by decide +kernel
theorem dX7_leaves_57 : decode cX7_leaves 57 = .ok (.goto (-51), 3) := by decide +kernel
theorem dX7_leaves_60 : decode cX7_leaves 60 = .ok (.iload 4, 2) := by decide +kernel
theorem dX7_leaves_62 : decode cX7_leaves 62 = .ok (.ireturn, 1) := by decide +kernel
theorem dX7_bitsOf_0 : decode cX7_bitsOf 0 = .ok (.iconst 0, 1) := by decide +kernel
theorem dX7_bitsOf_1 : decode cX7_bitsOf 1 = .ok (.istore_n 1, 1) := by decide +kernel
theorem dX7_bitsOf_2 : decode cX7_bitsOf 2 = .ok (.iconst 0, 1) := by decide +kernel
theorem dX7_bitsOf_3 : decode cX7_bitsOf 3 = .ok (.istore_n 2, 1) := by decide +kernel
theorem dX7_bitsOf_4 : decode cX7_bitsOf 4 = .ok (.iload_n 2, 1) := by decide +kernel
theorem dX7_bitsOf_5 : decode cX7_bitsOf 5 = .ok (.bipush 12, 2) := by decide +kernel
theorem dX7_bitsOf_7 : decode cX7_bitsOf 7 = .ok (.if_icmp .ge 17, 3) := by decide +kernel
theorem dX7_bitsOf_10 : decode cX7_bitsOf 10 = .ok (.iload_n 1, 1) := by decide +kernel
theorem dX7_bitsOf_11 : decode cX7_bitsOf 11 = .ok (.iload_n 0, 1) := by decide +kernel
theorem dX7_bitsOf_12 : decode cX7_bitsOf 12 = .ok (.iload_n 2, 1) := by decide +kernel
theorem dX7_bitsOf_13 : decode cX7_bitsOf 13 = .ok (.ishr, 1) := by decide +kernel
theorem dX7_bitsOf_14 : decode cX7_bitsOf 14 = .ok (.iconst 1, 1) := by decide +kernel
theorem dX7_bitsOf_15 : decode cX7_bitsOf 15 = .ok (.iand, 1) := by decide +kernel
theorem dX7_bitsOf_16 : decode cX7_bitsOf 16 = .ok (.iadd, 1) := by decide +kernel
theorem dX7_bitsOf_17 : decode cX7_bitsOf 17 = .ok (.istore_n 1, 1) := by decide +kernel
theorem dX7_bitsOf_18 : decode cX7_bitsOf 18 = .ok (.iinc 2 1, 3) := by decide +kernel
theorem dX7_bitsOf_21 : decode cX7_bitsOf 21 = .ok (.goto (-17), 3) := by decide +kernel
theorem dX7_bitsOf_24 : decode cX7_bitsOf 24 = .ok (.iload_n 1, 1) := by decide +kernel
theorem dX7_bitsOf_25 : decode cX7_bitsOf 25 = .ok (.ireturn, 1) := by decide +kernel
theorem dX7_read_0 : decode cX7_read 0 = .ok (.aload_n 0, 1) := by decide +kernel
theorem dX7_read_1 : decode cX7_read 1 = .ok (.iload_n 1, 1) := by decide +kernel
theorem dX7_read_2 : decode cX7_read 2 = .ok (.invokevirtual 200, 3) := by decide +kernel
theorem dX7_read_5 : decode cX7_read 5 = .ok (.ifCond .eq 12, 3) := by decide +kernel
theorem dX7_read_8 : decode cX7_read 8 = .ok (.iload_n 2, 1) := by decide +kernel
theorem dX7_read_9 : decode cX7_read 9 = .ok (.iconst 0, 1) := by decide +kernel
theorem dX7_read_10 : decode cX7_read 10 = .ok (.iconst 3, 1) := by decide +kernel
theorem dX7_read_11 : decode cX7_read 11 = .ok (.invokestatic 75, 3) := by decide +kernel
theorem dX7_read_14 : decode cX7_read 14 = .ok (.ifCond .ne 5, 3) := by decide +kernel
theorem dX7_read_17 : decode cX7_read 17 = .ok (.iconst (-1), 1) := by decide +kernel
theorem dX7_read_18 : decode cX7_read 18 = .ok (.ireturn, 1) := by decide +kernel
theorem dX7_read_19 : decode cX7_read 19 = .ok (.aload_n 0, 1) := by decide +kernel
theorem dX7_read_20 : decode cX7_read 20 = .ok (.aload_n 0, 1) := by decide +kernel
theorem dX7_read_21 : decode cX7_read 21 = .ok (.getfield 194, 3) := by decide +kernel
theorem dX7_read_24 : decode cX7_read 24 = .ok (.iload_n 1, 1) := by decide +kernel
theorem dX7_read_25 : decode cX7_read 25 = .ok (.iload_n 2, 1) := by decide +kernel
theorem dX7_read_26 : decode cX7_read 26 = .ok (.invokevirtual 203, 3) := by decide +kernel
theorem dX7_read_29 : decode cX7_read 29 = .ok (.istore_n 3, 1) := by decide +kernel
theorem dX7_read_30 : decode cX7_read 30 = .ok (.iload_n 3, 1) := by decide +kernel
theorem dX7_read_31 : decode cX7_read 31 = .ok (.ifCond .ne 6, 3) := by decide +kernel
theorem dX7_read_34 : decode cX7_read 34 = .ok (.bipush (-3), 2) := by decide +kernel
theorem dX7_read_36 : decode cX7_read 36 = .ok (.ireturn, 1) := by decide +kernel
theorem dX7_read_37 : decode cX7_read 37 = .ok (.aload_n 0, 1) := by decide +kernel
theorem dX7_read_38 : decode cX7_read 38 = .ok (.iload_n 3, 1) := by decide +kernel
theorem dX7_read_39 : decode cX7_read 39 = .ok (.putfield 194, 3) := by decide +kernel
theorem dX7_read_42 : decode cX7_read 42 = .ok (.aload_n 0, 1) := by decide +kernel
theorem dX7_read_43 : decode cX7_read 43 = .ok (.getfield 194, 3) := by decide +kernel
theorem dX7_read_46 : decode cX7_read 46 = .ok (.invokestatic 206, 3) := by decide +kernel
theorem dX7_read_49 : decode cX7_read 49 = .ok (.ireturn, 1) := by decide +kernel
theorem dX7_again_0 : decode cX7_again 0 = .ok (.aload_n 0, 1) := by decide +kernel
theorem dX7_again_1 : decode cX7_again 1 = .ok (.getfield 194, 3) := by decide +kernel
theorem dX7_again_4 : decode cX7_again 4 = .ok (.invokestatic 206, 3) := by decide +kernel
theorem dX7_again_7 : decode cX7_again 7 = .ok (.istore_n 1, 1) := by decide +kernel
theorem dX7_again_8 : decode cX7_again 8 = .ok (.aload_n 0, 1) := by decide +kernel
theorem dX7_again_9 : decode cX7_again 9 = .ok (.iconst 1, 1) := by decide +kernel
theorem dX7_again_10 : decode cX7_again 10 = .ok (.aload_n 0, 1) := by decide +kernel
theorem dX7_again_11 : decode cX7_again 11 = .ok (.getfield 191, 3) := by decide +kernel
theorem dX7_again_14 : decode cX7_again 14 = .ok (.ishl, 1) := by decide +kernel
theorem dX7_again_15 : decode cX7_again 15 = .ok (.iconst 1, 1) := by decide +kernel
theorem dX7_again_16 : decode cX7_again 16 = .ok (.isub, 1) := by decide +kernel
theorem dX7_again_17 : decode cX7_again 17 = .ok (.putfield 194, 3) := by decide +kernel
theorem dX7_again_20 : decode cX7_again 20 = .ok (.iload_n 1, 1) := by decide +kernel
theorem dX7_again_21 : decode cX7_again 21 = .ok (.ireturn, 1) := by decide +kernel
theorem dX7_parts_0 : decode cX7_parts 0 = .ok (.iconst 0, 1) := by decide +kernel
theorem dX7_parts_1 : decode cX7_parts 1 = .ok (.istore_n 3, 1) := by decide +kernel
theorem dX7_parts_2 : decode cX7_parts 2 = .ok (.iconst 0, 1) := by decide +kernel
theorem dX7_parts_3 : decode cX7_parts 3 = .ok (.istore 4, 2) := by decide +kernel
theorem dX7_parts_5 : decode cX7_parts 5 = .ok (.iload 4, 2) := by decide +kernel
theorem dX7_parts_7 : decode cX7_parts 7 = .ok (.iconst 4, 1) := by decide +kernel
theorem dX7_parts_8 : decode cX7_parts 8 = .ok (.if_icmp .ge 40, 3) := by decide +kernel
theorem dX7_parts_11 : decode cX7_parts 11 = .ok (.aload_n 0, 1) := by decide +kernel
theorem dX7_parts_12 : decode cX7_parts 12 = .ok (.iload_n 1, 1) := by decide +kernel
theorem dX7_parts_13 : decode cX7_parts 13 = .ok (.iload_n 2, 1) := by decide +kernel
theorem dX7_parts_14 : decode cX7_parts 14 = .ok (.iload 4, 2) := by decide +kernel
theorem dX7_parts_16 : decode cX7_parts 16 = .ok (.invokevirtual 203, 3) := by decide +kernel
theorem dX7_parts_19 : decode cX7_parts 19 = .ok (.istore 5, 2) := by decide +kernel
theorem dX7_parts_21 : decode cX7_parts 21 = .ok (.iload_n 3, 1) := by decide +kernel
theorem dX7_parts_22 : decode cX7_parts 22 = .ok (.ifCond .ne 14, 3) := by decide +kernel
theorem dX7_parts_25 : decode cX7_parts 25 = .ok (.iload 5, 2) := by decide +kernel
theorem dX7_parts_27 : decode cX7_parts 27 = .ok (.ifCond .eq 13, 3) := by decide +kernel
theorem dX7_parts_30 : decode cX7_parts 30 = .ok (.iload 5, 2) := by decide +kernel
theorem dX7_parts_32 : decode cX7_parts 32 = .ok (.iload_n 1, 1) := by decide +kernel
theorem dX7_parts_33 : decode cX7_parts 33 = .ok (.if_icmp .eq 7, 3) := by decide +kernel
theorem dX7_parts_36 : decode cX7_parts 36 = .ok (.iconst 1, 1) := by decide +kernel
theorem dX7_parts_37 : decode cX7_parts 37 = .ok (.goto 4, 3) := by decide +kernel
theorem dX7_parts_40 : decode cX7_parts 40 = .ok (.iconst 0, 1) := by decide +kernel
theorem dX7_parts_41 : decode cX7_parts 41 = .ok (.istore_n 3, 1) := by decide +kernel
theorem dX7_parts_42 : decode cX7_parts 42 = .ok (.iinc 4 1, 3) := by decide +kernel
theorem dX7_parts_45 : decode cX7_parts 45 = .ok (.goto (-40), 3) := by decide +kernel
theorem dX7_parts_48 : decode cX7_parts 48 = .ok (.iload_n 3, 1) := by decide +kernel
theorem dX7_parts_49 : decode cX7_parts 49 = .ok (.ireturn, 1) := by decide +kernel
theorem dX7_nextBest_0 : decode cX7_nextBest 0 = .ok (.bipush (-4), 2) := by decide +kernel
theorem dX7_nextBest_2 : decode cX7_nextBest 2 = .ok (.istore_n 1, 1) := by decide +kernel
theorem dX7_nextBest_3 : decode cX7_nextBest 3 = .ok (.iconst 0, 1) := by decide +kernel
theorem dX7_nextBest_4 : decode cX7_nextBest 4 = .ok (.istore_n 2, 1) := by decide +kernel
theorem dX7_nextBest_5 : decode cX7_nextBest 5 = .ok (.iconst 0, 1) := by decide +kernel
theorem dX7_nextBest_6 : decode cX7_nextBest 6 = .ok (.istore_n 3, 1) := by decide +kernel
theorem dX7_nextBest_7 : decode cX7_nextBest 7 = .ok (.iload_n 3, 1) := by decide +kernel
theorem dX7_nextBest_8 : decode cX7_nextBest 8 = .ok (.aload_n 0, 1) := by decide +kernel
theorem dX7_nextBest_9 : decode cX7_nextBest 9 = .ok (.getfield 197, 3) := by decide +kernel
theorem dX7_nextBest_12 : decode cX7_nextBest 12 = .ok (.if_icmp .ge 152, 3) := by decide +kernel
theorem dX7_nextBest_15 : decode cX7_nextBest 15 = .ok (.aload_n 0, 1) := by decide +kernel
theorem dX7_nextBest_16 : decode cX7_nextBest 16 = .ok (.aload_n 0, 1) := by decide +kernel
theorem dX7_nextBest_17 : decode cX7_nextBest 17 = .ok (.getfield 194, 3) := by decide +kernel
theorem dX7_nextBest_20 : decode cX7_nextBest 20 = .ok (.iload_n 3, 1) := by decide +kernel
theorem dX7_nextBest_21 : decode cX7_nextBest 21 = .ok (.invokevirtual 209, 3) := by decide +kernel
theorem dX7_nextBest_24 : decode cX7_nextBest 24 = .ok (.ifCond .eq 134, 3) := by decide +kernel
theorem dX7_nextBest_27 : decode cX7_nextBest 27 = .ok (.iconst 0, 1) := by decide +kernel
theorem dX7_nextBest_28 : decode cX7_nextBest 28 = .ok (.istore 4, 2) := by decide +kernel
theorem dX7_nextBest_30 : decode cX7_nextBest 30 = .ok (.iconst 0, 1) := by decide +kernel
theorem dX7_nextBest_31 : decode cX7_nextBest 31 = .ok (.istore 5, 2) := by decide +kernel
theorem dX7_nextBest_33 : decode cX7_nextBest 33 = .ok (.iload 5, 2) := by decide +kernel
theorem dX7_nextBest_35 : decode cX7_nextBest 35 = .ok (.iconst 4, 1) := by decide +kernel
theorem dX7_nextBest_36 : decode cX7_nextBest 36 = .ok (.if_icmp .ge 86, 3) := by decide +kernel
theorem dX7_nextBest_39 : decode cX7_nextBest 39 = .ok (.aload_n 0, 1) := by decide +kernel
theorem dX7_nextBest_40 : decode cX7_nextBest 40 = .ok (.aload_n 0, 1) := by decide +kernel
theorem dX7_nextBest_41 : decode cX7_nextBest 41 = .ok (.getfield 194, 3) := by decide +kernel
theorem dX7_nextBest_44 : decode cX7_nextBest 44 = .ok (.iload_n 3, 1) := by decide +kernel
theorem dX7_nextBest_45 : decode cX7_nextBest 45 = .ok (.iload 5, 2) := by decide +kernel
theorem dX7_nextBest_47 : decode cX7_nextBest 47 = .ok (.invokevirtual 203, 3) := by decide +kernel
theorem dX7_nextBest_50 : decode cX7_nextBest 50 = .ok (.istore 6, 2) := by decide +kernel
theorem dX7_nextBest_52 : decode cX7_nextBest 52 = .ok (.iconst 0, 1) := by decide +kernel
theorem dX7_nextBest_53 : decode cX7_nextBest 53 = .ok (.istore 7, 2) := by decide +kernel
theorem dX7_nextBest_55 : decode cX7_nextBest 55 = .ok (.iconst 0, 1) := by decide +kernel
theorem dX7_nextBest_56 : decode cX7_nextBest 56 = .ok (.istore 8, 2) := by decide +kernel
theorem dX7_nextBest_58 : decode cX7_nextBest 58 = .ok (.iload 8, 2) := by decide +kernel
theorem dX7_nextBest_60 : decode cX7_nextBest 60 = .ok (.aload_n 0, 1) := by decide +kernel
theorem dX7_nextBest_61 : decode cX7_nextBest 61 = .ok (.getfield 191, 3) := by decide +kernel
theorem dX7_nextBest_64 : decode cX7_nextBest 64 = .ok (.if_icmp .ge 36, 3) := by decide +kernel
theorem dX7_nextBest_67 : decode cX7_nextBest 67 = .ok (.iload 7, 2) := by decide +kernel
theorem dX7_nextBest_69 : decode cX7_nextBest 69 = .ok (.iload 6, 2) := by decide +kernel
theorem dX7_nextBest_71 : decode cX7_nextBest 71 = .ok (.iload 8, 2) := by decide +kernel
theorem dX7_nextBest_73 : decode cX7_nextBest 73 = .ok (.ishr, 1) := by decide +kernel
theorem dX7_nextBest_74 : decode cX7_nextBest 74 = .ok (.iconst 1, 1) := by decide +kernel
theorem dX7_nextBest_75 : decode cX7_nextBest 75 = .ok (.iand, 1) := by decide +kernel
theorem dX7_nextBest_76 : decode cX7_nextBest 76 = .ok (.iconst 1, 1) := by decide +kernel
theorem dX7_nextBest_77 : decode cX7_nextBest 77 = .ok (.if_icmp .ne 13, 3) := by decide +kernel
theorem dX7_nextBest_80 : decode cX7_nextBest 80 = .ok (.aload_n 0, 1) := by decide +kernel
theorem dX7_nextBest_81 : decode cX7_nextBest 81 = .ok (.getfield 56, 3) := by decide +kernel
theorem dX7_nextBest_84 : decode cX7_nextBest 84 = .ok (.iload 8, 2) := by decide +kernel
theorem dX7_nextBest_86 : decode cX7_nextBest 86 = .ok (.iaload, 1) := by decide +kernel
theorem dX7_nextBest_87 : decode cX7_nextBest 87 = .ok (.goto 4, 3) := by decide +kernel
theorem dX7_nextBest_90 : decode cX7_nextBest 90 = .ok (.iconst 0, 1) := by decide +kernel
theorem dX7_nextBest_91 : decode cX7_nextBest 91 = .ok (.iadd, 1) := by decide +kernel
theorem dX7_nextBest_92 : decode cX7_nextBest 92 = .ok (.istore 7, 2) := by decide +kernel
theorem dX7_nextBest_94 : decode cX7_nextBest 94 = .ok (.iinc 8 1, 3) := by decide +kernel
theorem dX7_nextBest_97 : decode cX7_nextBest 97 = .ok (.goto (-39), 3) := by decide +kernel
theorem dX7_nextBest_100 : decode cX7_nextBest 100 = .ok (.iload 7, 2) := by decide +kernel
theorem dX7_nextBest_102 : decode cX7_nextBest 102 = .ok (.iload 4, 2) := by decide +kernel
theorem dX7_nextBest_104 : decode cX7_nextBest 104 = .ok (.if_icmp .le 8, 3) := by decide +kernel
theorem dX7_nextBest_107 : decode cX7_nextBest 107 = .ok (.iload 7, 2) := by decide +kernel
theorem dX7_nextBest_109 : decode cX7_nextBest 109 = .ok (.goto 5, 3) := by decide +kernel
theorem dX7_nextBest_112 : decode cX7_nextBest 112 = .ok (.iload 4, 2) := by decide +kernel
theorem dX7_nextBest_114 : decode cX7_nextBest 114 = .ok (.istore 4, 2) := by decide +kernel
theorem dX7_nextBest_116 : decode cX7_nextBest 116 = .ok (.iinc 5 1, 3) := by decide +kernel
theorem dX7_nextBest_119 : decode cX7_nextBest 119 = .ok (.goto (-86), 3) := by decide +kernel
theorem dX7_nextBest_122 : decode cX7_nextBest 122 = .ok (.iload_n 1, 1) := by decide +kernel
theorem dX7_nextBest_123 : decode cX7_nextBest 123 = .ok (.ifCond .lt 30, 3) := by decide +kernel
theorem dX7_nextBest_126 : decode cX7_nextBest 126 = .ok (.iload 4, 2) := by decide +kernel
theorem dX7_nextBest_128 : decode cX7_nextBest 128 = .ok (.iload_n 2, 1) := by decide +kernel
theorem dX7_nextBest_129 : decode cX7_nextBest 129 = .ok (.if_icmp .lt 24, 3) := by decide +kernel
theorem dX7_nextBest_132 : decode cX7_nextBest 132 = .ok (.iload 4, 2) := by decide +kernel
theorem dX7_nextBest_134 : decode cX7_nextBest 134 = .ok (.iload_n 2, 1) := by decide +kernel
theorem dX7_nextBest_135 : decode cX7_nextBest 135 = .ok (.if_icmp .ne 23, 3) := by decide +kernel
theorem dX7_nextBest_138 : decode cX7_nextBest 138 = .ok (.aload_n 0, 1) := by decide +kernel
theorem dX7_nextBest_139 : decode cX7_nextBest 139 = .ok (.getfield 59, 3) := by decide +kernel
theorem dX7_nextBest_142 : decode cX7_nextBest 142 = .ok (.iload_n 3, 1) := by decide +kernel
theorem dX7_nextBest_143 : decode cX7_nextBest 143 = .ok (.iaload, 1) := by decide +kernel
theorem dX7_nextBest_144 : decode cX7_nextBest 144 = .ok (.aload_n 0, 1) := by decide +kernel
theorem dX7_nextBest_145 : decode cX7_nextBest 145 = .ok (.getfield 59, 3) := by decide +kernel
theorem dX7_nextBest_148 : decode cX7_nextBest 148 = .ok (.iload_n 1, 1) := by decide +kernel
theorem dX7_nextBest_149 : decode cX7_nextBest 149 = .ok (.iaload, 1) := by decide +kernel
theorem dX7_nextBest_150 : decode cX7_nextBest 150 = .ok (.if_icmp .ge 8, 3) := by decide +kernel
theorem dX7_nextBest_153 : decode cX7_nextBest 153 = .ok (.iload_n 3, 1) := by decide +kernel
theorem dX7_nextBest_154 : decode cX7_nextBest 154 = .ok (.istore_n 1, 1) := by decide +kernel
theorem dX7_nextBest_155 : decode cX7_nextBest 155 = .ok (.iload 4, 2) := by decide +kernel
theorem dX7_nextBest_157 : decode cX7_nextBest 157 = .ok (.istore_n 2, 1) := by decide +kernel
theorem dX7_nextBest_158 : decode cX7_nextBest 158 = .ok (.iinc 3 1, 3) := by decide +kernel
theorem dX7_nextBest_161 : decode cX7_nextBest 161 = .ok (.goto (-154), 3) := by decide +kernel
theorem dX7_nextBest_164 : decode cX7_nextBest 164 = .ok (.iload_n 1, 1) := by decide +kernel
theorem dX7_nextBest_165 : decode cX7_nextBest 165 = .ok (.ireturn, 1) := by decide +kernel
theorem dX7_least_0 : decode cX7_least 0 = .ok (.aload_n 0, 1) := by decide +kernel
theorem dX7_least_1 : decode cX7_least 1 = .ok (.getfield 68, 3) := by decide +kernel
theorem dX7_least_4 : decode cX7_least 4 = .ok (.iload_n 1, 1) := by decide +kernel
theorem dX7_least_5 : decode cX7_least 5 = .ok (.baload, 1) := by decide +kernel
theorem dX7_least_6 : decode cX7_least 6 = .ok (.ifCond .eq 10, 3) := by decide +kernel
theorem dX7_least_9 : decode cX7_least 9 = .ok (.aload_n 0, 1) := by decide +kernel
theorem dX7_least_10 : decode cX7_least 10 = .ok (.getfield 65, 3) := by decide +kernel
theorem dX7_least_13 : decode cX7_least 13 = .ok (.iload_n 1, 1) := by decide +kernel
theorem dX7_least_14 : decode cX7_least 14 = .ok (.iaload, 1) := by decide +kernel
theorem dX7_least_15 : decode cX7_least 15 = .ok (.ireturn, 1) := by decide +kernel
theorem dX7_least_16 : decode cX7_least 16 = .ok (.iconst 0, 1) := by decide +kernel
theorem dX7_least_17 : decode cX7_least 17 = .ok (.istore_n 3, 1) := by decide +kernel
theorem dX7_least_18 : decode cX7_least 18 = .ok (.iconst 0, 1) := by decide +kernel
theorem dX7_least_19 : decode cX7_least 19 = .ok (.istore 4, 2) := by decide +kernel
theorem dX7_least_21 : decode cX7_least 21 = .ok (.iconst 0, 1) := by decide +kernel
theorem dX7_least_22 : decode cX7_least 22 = .ok (.istore 5, 2) := by decide +kernel
theorem dX7_least_24 : decode cX7_least 24 = .ok (.iload 5, 2) := by decide +kernel
theorem dX7_least_26 : decode cX7_least 26 = .ok (.aload_n 0, 1) := by decide +kernel
theorem dX7_least_27 : decode cX7_least 27 = .ok (.getfield 197, 3) := by decide +kernel
theorem dX7_least_30 : decode cX7_least 30 = .ok (.if_icmp .ge 123, 3) := by decide +kernel
theorem dX7_least_33 : decode cX7_least 33 = .ok (.aload_n 0, 1) := by decide +kernel
theorem dX7_least_34 : decode cX7_least 34 = .ok (.iload_n 1, 1) := by decide +kernel
theorem dX7_least_35 : decode cX7_least 35 = .ok (.iload 5, 2) := by decide +kernel
theorem dX7_least_37 : decode cX7_least 37 = .ok (.invokevirtual 209, 3) := by decide +kernel
theorem dX7_least_40 : decode cX7_least 40 = .ok (.ifCond .eq 107, 3) := by decide +kernel
theorem dX7_least_43 : decode cX7_least 43 = .ok (.iconst 0, 1) := by decide +kernel
theorem dX7_least_44 : decode cX7_least 44 = .ok (.istore 6, 2) := by decide +kernel
theorem dX7_least_46 : decode cX7_least 46 = .ok (.iconst 0, 1) := by decide +kernel
theorem dX7_least_47 : decode cX7_least 47 = .ok (.istore 7, 2) := by decide +kernel
theorem dX7_least_49 : decode cX7_least 49 = .ok (.iload 7, 2) := by decide +kernel
theorem dX7_least_51 : decode cX7_least 51 = .ok (.iconst 4, 1) := by decide +kernel
theorem dX7_least_52 : decode cX7_least 52 = .ok (.if_icmp .ge 54, 3) := by decide +kernel
theorem dX7_least_55 : decode cX7_least 55 = .ok (.aload_n 0, 1) := by decide +kernel
theorem dX7_least_56 : decode cX7_least 56 = .ok (.iload_n 1, 1) := by decide +kernel
theorem dX7_least_57 : decode cX7_least 57 = .ok (.iload 5, 2) := by decide +kernel
theorem dX7_least_59 : decode cX7_least 59 = .ok (.iload 7, 2) := by decide +kernel
theorem dX7_least_61 : decode cX7_least 61 = .ok (.invokevirtual 203, 3) := by decide +kernel
theorem dX7_least_64 : decode cX7_least 64 = .ok (.istore 8, 2) := by decide +kernel
theorem dX7_least_66 : decode cX7_least 66 = .ok (.iload 8, 2) := by decide +kernel
theorem dX7_least_68 : decode cX7_least 68 = .ok (.ifCond .ne 7, 3) := by decide +kernel
theorem dX7_least_71 : decode cX7_least 71 = .ok (.iconst 0, 1) := by decide +kernel
theorem dX7_least_72 : decode cX7_least 72 = .ok (.goto 10, 3) := by decide +kernel
theorem dX7_least_75 : decode cX7_least 75 = .ok (.aload_n 0, 1) := by decide +kernel
theorem dX7_least_76 : decode cX7_least 76 = .ok (.iload 8, 2) := by decide +kernel
theorem dX7_least_78 : decode cX7_least 78 = .ok (.iload_n 2, 1) := by decide +kernel
theorem dX7_least_79 : decode cX7_least 79 = .ok (.invokevirtual 212, 3) := by decide +kernel
theorem dX7_least_82 : decode cX7_least 82 = .ok (.istore 9, 2) := by decide +kernel
theorem dX7_least_84 : decode cX7_least 84 = .ok (.iload 9, 2) := by decide +kernel
theorem dX7_least_86 : decode cX7_least 86 = .ok (.iload 6, 2) := by decide +kernel
theorem dX7_least_88 : decode cX7_least 88 = .ok (.if_icmp .le 8, 3) := by decide +kernel
theorem dX7_least_91 : decode cX7_least 91 = .ok (.iload 9, 2) := by decide +kernel
theorem dX7_least_93 : decode cX7_least 93 = .ok (.goto 5, 3) := by decide +kernel
theorem dX7_least_96 : decode cX7_least 96 = .ok (.iload 6, 2) := by decide +kernel
theorem dX7_least_98 : decode cX7_least 98 = .ok (.istore 6, 2) := by decide +kernel
theorem dX7_least_100 : decode cX7_least 100 = .ok (.iinc 7 1, 3) := by decide +kernel
theorem dX7_least_103 : decode cX7_least 103 = .ok (.goto (-54), 3) := by decide +kernel
theorem dX7_least_106 : decode cX7_least 106 = .ok (.iload 6, 2) := by decide +kernel
theorem dX7_least_108 : decode cX7_least 108 = .ok (.iload_n 2, 1) := by decide +kernel
theorem dX7_least_109 : decode cX7_least 109 = .ok (.ifCond .eq 13, 3) := by decide +kernel
theorem dX7_least_112 : decode cX7_least 112 = .ok (.aload_n 0, 1) := by decide +kernel
theorem dX7_least_113 : decode cX7_least 113 = .ok (.getfield 59, 3) := by decide +kernel
theorem dX7_least_116 : decode cX7_least 116 = .ok (.iload 5, 2) := by decide +kernel
theorem dX7_least_118 : decode cX7_least 118 = .ok (.iaload, 1) := by decide +kernel
theorem dX7_least_119 : decode cX7_least 119 = .ok (.goto 4, 3) := by decide +kernel
theorem dX7_least_122 : decode cX7_least 122 = .ok (.iconst 1, 1) := by decide +kernel
theorem dX7_least_123 : decode cX7_least 123 = .ok (.iadd, 1) := by decide +kernel
theorem dX7_least_124 : decode cX7_least 124 = .ok (.istore 7, 2) := by decide +kernel
theorem dX7_least_126 : decode cX7_least 126 = .ok (.iload 4, 2) := by decide +kernel
theorem dX7_least_128 : decode cX7_least 128 = .ok (.ifCond .eq 9, 3) := by decide +kernel
theorem dX7_least_131 : decode cX7_least 131 = .ok (.iload 7, 2) := by decide +kernel
theorem dX7_least_133 : decode cX7_least 133 = .ok (.iload_n 3, 1) := by decide +kernel
theorem dX7_least_134 : decode cX7_least 134 = .ok (.if_icmp .ge 8, 3) := by decide +kernel
theorem dX7_least_137 : decode cX7_least 137 = .ok (.iload 7, 2) := by decide +kernel
theorem dX7_least_139 : decode cX7_least 139 = .ok (.goto 4, 3) := by decide +kernel
theorem dX7_least_142 : decode cX7_least 142 = .ok (.iload_n 3, 1) := by decide +kernel
theorem dX7_least_143 : decode cX7_least 143 = .ok (.istore_n 3, 1) := by decide +kernel
theorem dX7_least_144 : decode cX7_least 144 = .ok (.iconst 1, 1) := by decide +kernel
theorem dX7_least_145 : decode cX7_least 145 = .ok (.istore 4, 2) := by decide +kernel
theorem dX7_least_147 : decode cX7_least 147 = .ok (.iinc 5 1, 3) := by decide +kernel
theorem dX7_least_150 : decode cX7_least 150 = .ok (.goto (-126), 3) := by decide +kernel
theorem dX7_least_153 : decode cX7_least 153 = .ok (.aload_n 0, 1) := by decide +kernel
theorem dX7_least_154 : decode cX7_least 154 = .ok (.getfield 68, 3) := by decide +kernel
theorem dX7_least_157 : decode cX7_least 157 = .ok (.iload_n 1, 1) := by decide +kernel
theorem dX7_least_158 : decode cX7_least 158 = .ok (.iconst 1, 1) := by decide +kernel
theorem dX7_least_159 : decode cX7_least 159 = .ok (.bastore, 1) := by decide +kernel
theorem dX7_least_160 : decode cX7_least 160 = .ok (.aload_n 0, 1) := by decide +kernel
theorem dX7_least_161 : decode cX7_least 161 = .ok (.getfield 65, 3) := by decide +kernel
theorem dX7_least_164 : decode cX7_least 164 = .ok (.iload_n 1, 1) := by decide +kernel
theorem dX7_least_165 : decode cX7_least 165 = .ok (.iload_n 3, 1) := by decide +kernel
theorem dX7_least_166 : decode cX7_least 166 = .ok (.iastore, 1) := by decide +kernel
theorem dX7_least_167 : decode cX7_least 167 = .ok (.iload_n 3, 1) := by decide +kernel
theorem dX7_least_168 : decode cX7_least 168 = .ok (.ireturn, 1) := by decide +kernel
theorem dX7_left_0 : decode cX7_left 0 = .ok (.iload_n 1, 1) := by decide +kernel
theorem dX7_left_1 : decode cX7_left 1 = .ok (.iconst 0, 1) := by decide +kernel
theorem dX7_left_2 : decode cX7_left 2 = .ok (.iconst 3, 1) := by decide +kernel
theorem dX7_left_3 : decode cX7_left 3 = .ok (.invokestatic 75, 3) := by decide +kernel
theorem dX7_left_6 : decode cX7_left 6 = .ok (.ifCond .ne 5, 3) := by decide +kernel
theorem dX7_left_9 : decode cX7_left 9 = .ok (.iconst (-1), 1) := by decide +kernel
theorem dX7_left_10 : decode cX7_left 10 = .ok (.ireturn, 1) := by decide +kernel
theorem dX7_left_11 : decode cX7_left 11 = .ok (.iload_n 1, 1) := by decide +kernel
theorem dX7_left_12 : decode cX7_left 12 = .ok (.iconst 2, 1) := by decide +kernel
theorem dX7_left_13 : decode cX7_left 13 = .ok (.if_icmp .ge 19, 3) := by decide +kernel
theorem dX7_left_16 : decode cX7_left 16 = .ok (.iload_n 1, 1) := by decide +kernel
theorem dX7_left_17 : decode cX7_left 17 = .ok (.ifCond .ne 10, 3) := by decide +kernel
theorem dX7_left_20 : decode cX7_left 20 = .ok (.aload_n 0, 1) := by decide +kernel
theorem dX7_left_21 : decode cX7_left 21 = .ok (.getfield 194, 3) := by decide +kernel
theorem dX7_left_24 : decode cX7_left 24 = .ok (.goto 7, 3) := by decide +kernel
theorem dX7_left_27 : decode cX7_left 27 = .ok (.aload_n 0, 1) := by decide +kernel
theorem dX7_left_28 : decode cX7_left 28 = .ok (.invokevirtual 216, 3) := by decide +kernel
theorem dX7_left_31 : decode cX7_left 31 = .ok (.ireturn, 1) := by decide +kernel
theorem dX7_left_32 : decode cX7_left 32 = .ok (.iconst 0, 1) := by decide +kernel
theorem dX7_left_33 : decode cX7_left 33 = .ok (.istore_n 2, 1) := by decide +kernel
theorem dX7_left_34 : decode cX7_left 34 = .ok (.iload_n 2, 1) := by decide +kernel
theorem dX7_left_35 : decode cX7_left 35 = .ok (.sipush 4096, 3) := by decide +kernel
theorem dX7_left_38 : decode cX7_left 38 = .ok (.if_icmp .ge 16, 3) := by decide +kernel
theorem dX7_left_41 : decode cX7_left 41 = .ok (.aload_n 0, 1) := by decide +kernel
theorem dX7_left_42 : decode cX7_left 42 = .ok (.getfield 68, 3) := by decide +kernel
theorem dX7_left_45 : decode cX7_left 45 = .ok (.iload_n 2, 1) := by decide +kernel
theorem dX7_left_46 : decode cX7_left 46 = .ok (.iconst 0, 1) := by decide +kernel
theorem dX7_left_47 : decode cX7_left 47 = .ok (.bastore, 1) := by decide +kernel
theorem dX7_left_48 : decode cX7_left 48 = .ok (.iinc 2 1, 3) := by decide +kernel
theorem dX7_left_51 : decode cX7_left 51 = .ok (.goto (-17), 3) := by decide +kernel
theorem dX7_left_54 : decode cX7_left 54 = .ok (.aload_n 0, 1) := by decide +kernel
theorem dX7_left_55 : decode cX7_left 55 = .ok (.aload_n 0, 1) := by decide +kernel
theorem dX7_left_56 : decode cX7_left 56 = .ok (.getfield 194, 3) := by decide +kernel
theorem dX7_left_59 : decode cX7_left 59 = .ok (.iload_n 1, 1) := by decide +kernel
theorem dX7_left_60 : decode cX7_left 60 = .ok (.iconst 3, 1) := by decide +kernel
theorem dX7_left_61 : decode cX7_left 61 = .ok (.if_icmp .ne 7, 3) := by decide +kernel
theorem dX7_left_64 : decode cX7_left 64 = .ok (.iconst 1, 1) := by decide +kernel
theorem dX7_left_65 : decode cX7_left 65 = .ok (.goto 4, 3) := by decide +kernel
theorem dX7_left_68 : decode cX7_left 68 = .ok (.iconst 0, 1) := by decide +kernel
theorem dX7_left_69 : decode cX7_left 69 = .ok (.invokevirtual 212, 3) := by decide +kernel
theorem dX7_left_72 : decode cX7_left 72 = .ok (.ireturn, 1) := by decide +kernel
theorem dX7_count_0 : decode cX7_count 0 = .ok (.iconst 0, 1) := by decide +kernel
theorem dX7_count_1 : decode cX7_count 1 = .ok (.istore_n 2, 1) := by decide +kernel
theorem dX7_count_2 : decode cX7_count 2 = .ok (.iconst 0, 1) := by decide +kernel
theorem dX7_count_3 : decode cX7_count 3 = .ok (.istore_n 3, 1) := by decide +kernel
theorem dX7_count_4 : decode cX7_count 4 = .ok (.iload_n 3, 1) := by decide +kernel
theorem dX7_count_5 : decode cX7_count 5 = .ok (.aload_n 0, 1) := by decide +kernel
theorem dX7_count_6 : decode cX7_count 6 = .ok (.getfield 72, 3) := by decide +kernel
theorem dX7_count_9 : decode cX7_count 9 = .ok (.if_icmp .ge 22, 3) := by decide +kernel
theorem dX7_count_12 : decode cX7_count 12 = .ok (.iload_n 2, 1) := by decide +kernel
theorem dX7_count_13 : decode cX7_count 13 = .ok (.aload_n 0, 1) := by decide +kernel
theorem dX7_count_14 : decode cX7_count 14 = .ok (.iload_n 3, 1) := by decide +kernel
theorem dX7_count_15 : decode cX7_count 15 = .ok (.aload_n 0, 1) := by decide +kernel
theorem dX7_count_16 : decode cX7_count 16 = .ok (.getfield 16, 3) := by decide +kernel
theorem dX7_count_19 : decode cX7_count 19 = .ok (.iconst (-1), 1) := by decide +kernel
theorem dX7_count_20 : decode cX7_count 20 = .ok (.invokevirtual 111, 3) := by decide +kernel
theorem dX7_count_23 : decode cX7_count 23 = .ok (.iadd, 1) := by decide +kernel
theorem dX7_count_24 : decode cX7_count 24 = .ok (.istore_n 2, 1) := by decide +kernel
theorem dX7_count_25 : decode cX7_count 25 = .ok (.iinc 3 1, 3) := by decide +kernel
theorem dX7_count_28 : decode cX7_count 28 = .ok (.goto (-24), 3) := by decide +kernel
theorem dX7_count_31 : decode cX7_count 31 = .ok (.iload_n 1, 1) := by decide +kernel
theorem dX7_count_32 : decode cX7_count 32 = .ok (.tableswitch 76 0 6 #[44, 49, 51, 56, 61, 66, 71], 44) := by decide +kernel
theorem dX7_count_76 : decode cX7_count 76 = .ok (.aload_n 0, 1) := by decide +kernel
theorem dX7_count_77 : decode cX7_count 77 = .ok (.getfield 72, 3) := by decide +kernel
theorem dX7_count_80 : decode cX7_count 80 = .ok (.ireturn, 1) := by decide +kernel
theorem dX7_count_81 : decode cX7_count 81 = .ok (.iload_n 2, 1) := by decide +kernel
theorem dX7_count_82 : decode cX7_count 82 = .ok (.ireturn, 1) := by decide +kernel
theorem dX7_count_83 : decode cX7_count 83 = .ok (.aload_n 0, 1) := by decide +kernel
theorem dX7_count_84 : decode cX7_count 84 = .ok (.getfield 162, 3) := by decide +kernel
theorem dX7_count_87 : decode cX7_count 87 = .ok (.ireturn, 1) := by decide +kernel
theorem dX7_count_88 : decode cX7_count 88 = .ok (.aload_n 0, 1) := by decide +kernel
theorem dX7_count_89 : decode cX7_count 89 = .ok (.getfield 170, 3) := by decide +kernel
theorem dX7_count_92 : decode cX7_count 92 = .ok (.ireturn, 1) := by decide +kernel
theorem dX7_count_93 : decode cX7_count 93 = .ok (.aload_n 0, 1) := by decide +kernel
theorem dX7_count_94 : decode cX7_count 94 = .ok (.getfield 182, 3) := by decide +kernel
theorem dX7_count_97 : decode cX7_count 97 = .ok (.ireturn, 1) := by decide +kernel
theorem dX7_count_98 : decode cX7_count 98 = .ok (.aload_n 0, 1) := by decide +kernel
theorem dX7_count_99 : decode cX7_count 99 = .ok (.getfield 191, 3) := by decide +kernel
theorem dX7_count_102 : decode cX7_count 102 = .ok (.ireturn, 1) := by decide +kernel
theorem dX7_count_103 : decode cX7_count 103 = .ok (.aload_n 0, 1) := by decide +kernel
theorem dX7_count_104 : decode cX7_count 104 = .ok (.getfield 197, 3) := by decide +kernel
theorem dX7_count_107 : decode cX7_count 107 = .ok (.ireturn, 1) := by decide +kernel
theorem dX7_count_108 : decode cX7_count 108 = .ok (.iconst (-1), 1) := by decide +kernel
theorem dX7_count_109 : decode cX7_count 109 = .ok (.ireturn, 1) := by decide +kernel
