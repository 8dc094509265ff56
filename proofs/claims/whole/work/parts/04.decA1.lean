theorem dX1_gatherSums_100 : decode cX1_gatherSums 100 = .ok (.invokevirtual 71, 3) := by decide +kernel
theorem dX1_gatherSums_103 : decode cX1_gatherSums 103 = .ok (.ifCond .eq 26, 3) := by decide +kernel
theorem dX1_gatherSums_106 : decode cX1_gatherSums 106 = .ok (.aload_n 0, 1) := by decide +kernel
theorem dX1_gatherSums_107 : decode cX1_gatherSums 107 = .ok (.getfield 24, 3) := by decide +kernel
theorem dX1_gatherSums_110 : decode cX1_gatherSums 110 = .ok (.iload_n 1, 1) := by decide +kernel
theorem dX1_gatherSums_111 : decode cX1_gatherSums 111 = .ok (.iload_n 2, 1) := by decide +kernel
theorem dX1_gatherSums_112 : decode cX1_gatherSums 112 = .ok (.iload 8, 2) := by decide +kernel
theorem dX1_gatherSums_114 : decode cX1_gatherSums 114 = .ok (.iconst 0, 1) := by decide +kernel
theorem dX1_gatherSums_115 : decode cX1_gatherSums 115 = .ok (.aload_n 0, 1) := by decide +kernel
theorem dX1_gatherSums_116 : decode cX1_gatherSums 116 = .ok (.getfield 15, 3) := by decide +kernel
theorem dX1_gatherSums_119 : decode cX1_gatherSums 119 = .ok (.iload_n 1, 1) := by decide +kernel
theorem dX1_gatherSums_120 : decode cX1_gatherSums 120 = .ok (.iaload, 1) := by decide +kernel
theorem dX1_gatherSums_121 : decode cX1_gatherSums 121 = .ok (.iload_n 2, 1) := by decide +kernel
theorem dX1_gatherSums_122 : decode cX1_gatherSums 122 = .ok (.iload 8, 2) := by decide +kernel
theorem dX1_gatherSums_124 : decode cX1_gatherSums 124 = .ok (.imul, 1) := by decide +kernel
theorem dX1_gatherSums_125 : decode cX1_gatherSums 125 = .ok (.idiv, 1) := by decide +kernel
theorem dX1_gatherSums_126 : decode cX1_gatherSums 126 = .ok (.invokevirtual 97, 3) := by decide +kernel
theorem dX1_gatherSums_129 : decode cX1_gatherSums 129 = .ok (.iinc 8 1, 3) := by decide +kernel
theorem dX1_gatherSums_132 : decode cX1_gatherSums 132 = .ok (.goto (-108), 3) := by decide +kernel
theorem dX1_gatherSums_135 : decode cX1_gatherSums 135 = .ok (.return_, 1) := by decide +kernel
theorem dX1_fallsOn_0 : decode cX1_fallsOn 0 = .ok (.iload_n 1, 1) := by decide +kernel
theorem dX1_fallsOn_1 : decode cX1_fallsOn 1 = .ok (.invokestatic 75, 3) := by decide +kernel
theorem dX1_fallsOn_4 : decode cX1_fallsOn 4 = .ok (.iload_n 2, 1) := by decide +kernel
theorem dX1_fallsOn_5 : decode cX1_fallsOn 5 = .ok (.isub, 1) := by decide +kernel
theorem dX1_fallsOn_6 : decode cX1_fallsOn 6 = .ok (.invokestatic 75, 3) := by decide +kernel
theorem dX1_fallsOn_9 : decode cX1_fallsOn 9 = .ok (.aload_n 0, 1) := by decide +kernel
theorem dX1_fallsOn_10 : decode cX1_fallsOn 10 = .ok (.getfield 18, 3) := by decide +kernel
theorem dX1_fallsOn_13 : decode cX1_fallsOn 13 = .ok (.iconst 3, 1) := by decide +kernel
theorem dX1_fallsOn_14 : decode cX1_fallsOn 14 = .ok (.iaload, 1) := by decide +kernel
theorem dX1_fallsOn_15 : decode cX1_fallsOn 15 = .ok (.if_icmp .gt 7, 3) := by decide +kernel
theorem dX1_fallsOn_18 : decode cX1_fallsOn 18 = .ok (.iconst 1, 1) := by decide +kernel
theorem dX1_fallsOn_19 : decode cX1_fallsOn 19 = .ok (.goto 4, 3) := by decide +kernel
theorem dX1_fallsOn_22 : decode cX1_fallsOn 22 = .ok (.iconst 0, 1) := by decide +kernel
theorem dX1_fallsOn_23 : decode cX1_fallsOn 23 = .ok (.ireturn, 1) := by decide +kernel
theorem dX3_init_0 : decode cX3_init 0 = .ok (.aload_n 0, 1) := by decide +kernel
theorem dX3_init_1 : decode cX3_init 1 = .ok (.invokespecial 3, 3) := by decide +kernel
theorem dX3_init_4 : decode cX3_init 4 = .ok (.aload_n 0, 1) := by decide +kernel
theorem dX3_init_5 : decode cX3_init 5 = .ok (.bipush 6, 2) := by decide +kernel
theorem dX3_init_7 : decode cX3_init 7 = .ok (.newarray .int, 2) := by decide +kernel
theorem dX3_init_9 : decode cX3_init 9 = .ok (.putfield 9, 3) := by decide +kernel
theorem dX3_init_12 : decode cX3_init 12 = .ok (.aload_n 0, 1) := by decide +kernel
theorem dX3_init_13 : decode cX3_init 13 = .ok (.bipush 6, 2) := by decide +kernel
theorem dX3_init_15 : decode cX3_init 15 = .ok (.newarray .int, 2) := by decide +kernel
theorem dX3_init_17 : decode cX3_init 17 = .ok (.putfield 15, 3) := by decide +kernel
theorem dX3_init_20 : decode cX3_init 20 = .ok (.aload_n 0, 1) := by decide +kernel
theorem dX3_init_21 : decode cX3_init 21 = .ok (.aload_n 1, 1) := by decide +kernel
theorem dX3_init_22 : decode cX3_init 22 = .ok (.invokevirtual 18, 3) := by decide +kernel
theorem dX3_init_25 : decode cX3_init 25 = .ok (.checkcast 19, 3) := by decide +kernel
theorem dX3_init_28 : decode cX3_init 28 = .ok (.putfield 23, 3) := by decide +kernel
theorem dX3_init_31 : decode cX3_init 31 = .ok (.aload_n 0, 1) := by decide +kernel
theorem dX3_init_32 : decode cX3_init 32 = .ok (.aload_n 1, 1) := by decide +kernel
theorem dX3_init_33 : decode cX3_init 33 = .ok (.invokevirtual 18, 3) := by decide +kernel
theorem dX3_init_36 : decode cX3_init 36 = .ok (.checkcast 19, 3) := by decide +kernel
theorem dX3_init_39 : decode cX3_init 39 = .ok (.putfield 26, 3) := by decide +kernel
theorem dX3_init_42 : decode cX3_init 42 = .ok (.return_, 1) := by decide +kernel
theorem dX3_partsNow_0 : decode cX3_partsNow 0 = .ok (.aload_n 0, 1) := by decide +kernel
theorem dX3_partsNow_1 : decode cX3_partsNow 1 = .ok (.getfield 26, 3) := by decide +kernel
theorem dX3_partsNow_4 : decode cX3_partsNow 4 = .ok (.areturn, 1) := by decide +kernel
theorem dX3_builtMiddle_0 : decode cX3_builtMiddle 0 = .ok (.aload_n 0, 1) := by decide +kernel
theorem dX3_builtMiddle_1 : decode cX3_builtMiddle 1 = .ok (.getfield 23, 3) := by decide +kernel
theorem dX3_builtMiddle_4 : decode cX3_builtMiddle 4 = .ok (.iconst 5, 1) := by decide +kernel
theorem dX3_builtMiddle_5 : decode cX3_builtMiddle 5 = .ok (.iaload, 1) := by decide +kernel
theorem dX3_builtMiddle_6 : decode cX3_builtMiddle 6 = .ok (.ireturn, 1) := by decide +kernel
theorem dX3_turnedBy_0 : decode cX3_turnedBy 0 = .ok (.aload_n 0, 1) := by decide +kernel
theorem dX3_turnedBy_1 : decode cX3_turnedBy 1 = .ok (.getfield 15, 3) := by decide +kernel
theorem dX3_turnedBy_4 : decode cX3_turnedBy 4 = .ok (.iload_n 1, 1) := by decide +kernel
theorem dX3_turnedBy_5 : decode cX3_turnedBy 5 = .ok (.iaload, 1) := by decide +kernel
theorem dX3_turnedBy_6 : decode cX3_turnedBy 6 = .ok (.ireturn, 1) := by decide +kernel
theorem dX3_turn_0 : decode cX3_turn 0 = .ok (.aload_n 0, 1) := by decide +kernel
theorem dX3_turn_1 : decode cX3_turn 1 = .ok (.getfield 15, 3) := by decide +kernel
theorem dX3_turn_4 : decode cX3_turn 4 = .ok (.iload_n 1, 1) := by decide +kernel
theorem dX3_turn_5 : decode cX3_turn 5 = .ok (.dup2, 1) := by decide +kernel
theorem dX3_turn_6 : decode cX3_turn 6 = .ok (.iaload, 1) := by decide +kernel
theorem dX3_turn_7 : decode cX3_turn 7 = .ok (.iload_n 2, 1) := by decide +kernel
theorem dX3_turn_8 : decode cX3_turn 8 = .ok (.iadd, 1) := by decide +kernel
theorem dX3_turn_9 : decode cX3_turn 9 = .ok (.iastore, 1) := by decide +kernel
theorem dX3_turn_10 : decode cX3_turn 10 = .ok (.aload_n 0, 1) := by decide +kernel
theorem dX3_turn_11 : decode cX3_turn 11 = .ok (.iload_n 1, 1) := by decide +kernel
theorem dX3_turn_12 : decode cX3_turn 12 = .ok (.invokevirtual 29, 3) := by decide +kernel
theorem dX3_turn_15 : decode cX3_turn 15 = .ok (.return_, 1) := by decide +kernel
theorem dX3_changeOffset_0 : decode cX3_changeOffset 0 = .ok (.aload_n 0, 1) := by decide +kernel
theorem dX3_changeOffset_1 : decode cX3_changeOffset 1 = .ok (.getfield 9, 3) := by decide +kernel
theorem dX3_changeOffset_4 : decode cX3_changeOffset 4 = .ok (.iload_n 1, 1) := by decide +kernel
theorem dX3_changeOffset_5 : decode cX3_changeOffset 5 = .ok (.iaload, 1) := by decide +kernel
theorem dX3_changeOffset_6 : decode cX3_changeOffset 6 = .ok (.istore_n 3, 1) := by decide +kernel
theorem dX3_changeOffset_7 : decode cX3_changeOffset 7 = .ok (.aload_n 0, 1) := by decide +kernel
theorem dX3_changeOffset_8 : decode cX3_changeOffset 8 = .ok (.getfield 9, 3) := by decide +kernel
theorem dX3_changeOffset_11 : decode cX3_changeOffset 11 = .ok (.iload_n 1, 1) := by decide +kernel
theorem dX3_changeOffset_12 : decode cX3_changeOffset 12 = .ok (.iload_n 2, 1) := by decide +kernel
theorem dX3_changeOffset_13 : decode cX3_changeOffset 13 = .ok (.iastore, 1) := by decide +kernel
theorem dX3_changeOffset_14 : decode cX3_changeOffset 14 = .ok (.aload_n 0, 1) := by decide +kernel
theorem dX3_changeOffset_15 : decode cX3_changeOffset 15 = .ok (.iload_n 1, 1) := by decide +kernel
theorem dX3_changeOffset_16 : decode cX3_changeOffset 16 = .ok (.invokevirtual 29, 3) := by decide +kernel
theorem dX3_changeOffset_19 : decode cX3_changeOffset 19 = .ok (.iload_n 3, 1) := by decide +kernel
theorem dX3_changeOffset_20 : decode cX3_changeOffset 20 = .ok (.ireturn, 1) := by decide +kernel
theorem dX3_settle_0 : decode cX3_settle 0 = .ok (.aload_n 0, 1) := by decide +kernel
theorem dX3_settle_1 : decode cX3_settle 1 = .ok (.getfield 23, 3) := by decide +kernel
theorem dX3_settle_4 : decode cX3_settle 4 = .ok (.iload_n 1, 1) := by decide +kernel
theorem dX3_settle_5 : decode cX3_settle 5 = .ok (.iaload, 1) := by decide +kernel
theorem dX3_settle_6 : decode cX3_settle 6 = .ok (.aload_n 0, 1) := by decide +kernel
theorem dX3_settle_7 : decode cX3_settle 7 = .ok (.getfield 9, 3) := by decide +kernel
theorem dX3_settle_10 : decode cX3_settle 10 = .ok (.iload_n 1, 1) := by decide +kernel
theorem dX3_settle_11 : decode cX3_settle 11 = .ok (.iaload, 1) := by decide +kernel
theorem dX3_settle_12 : decode cX3_settle 12 = .ok (.iadd, 1) := by decide +kernel
theorem dX3_settle_13 : decode cX3_settle 13 = .ok (.aload_n 0, 1) := by decide +kernel
theorem dX3_settle_14 : decode cX3_settle 14 = .ok (.getfield 15, 3) := by decide +kernel
theorem dX3_settle_17 : decode cX3_settle 17 = .ok (.iload_n 1, 1) := by decide +kernel
theorem dX3_settle_18 : decode cX3_settle 18 = .ok (.iaload, 1) := by decide +kernel
theorem dX3_settle_19 : decode cX3_settle 19 = .ok (.iadd, 1) := by decide +kernel
theorem dX3_settle_20 : decode cX3_settle 20 = .ok (.istore_n 2, 1) := by decide +kernel
theorem dX3_settle_21 : decode cX3_settle 21 = .ok (.aload_n 0, 1) := by decide +kernel
theorem dX3_settle_22 : decode cX3_settle 22 = .ok (.getfield 26, 3) := by decide +kernel
theorem dX3_settle_25 : decode cX3_settle 25 = .ok (.iload_n 1, 1) := by decide +kernel
theorem dX3_settle_26 : decode cX3_settle 26 = .ok (.getstatic 33, 3) := by decide +kernel
theorem dX3_settle_29 : decode cX3_settle 29 = .ok (.iload_n 1, 1) := by decide +kernel
theorem dX3_settle_30 : decode cX3_settle 30 = .ok (.iaload, 1) := by decide +kernel
theorem dX3_settle_31 : decode cX3_settle 31 = .ok (.getstatic 36, 3) := by decide +kernel
theorem dX3_settle_34 : decode cX3_settle 34 = .ok (.iload_n 1, 1) := by decide +kernel
theorem dX3_settle_35 : decode cX3_settle 35 = .ok (.iaload, 1) := by decide +kernel
theorem dX3_settle_36 : decode cX3_settle 36 = .ok (.iload_n 2, 1) := by decide +kernel
theorem dX3_settle_37 : decode cX3_settle 37 = .ok (.invokestatic 39, 3) := by decide +kernel
theorem dX3_settle_40 : decode cX3_settle 40 = .ok (.invokestatic 45, 3) := by decide +kernel
theorem dX3_settle_43 : decode cX3_settle 43 = .ok (.iastore, 1) := by decide +kernel
theorem dX3_settle_44 : decode cX3_settle 44 = .ok (.return_, 1) := by decide +kernel
