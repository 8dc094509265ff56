theorem dX0_init_0 : decode cX0_init 0 = .ok (.aload_n 0, 1) := by decide +kernel
theorem dX0_init_1 : decode cX0_init 1 = .ok (.invokespecial 3, 3) := by decide +kernel
theorem dX0_init_4 : decode cX0_init 4 = .ok (.aload_n 0, 1) := by decide +kernel
theorem dX0_init_5 : decode cX0_init 5 = .ok (.bipush 10, 2) := by decide +kernel
theorem dX0_init_7 : decode cX0_init 7 = .ok (.anewarray 9, 3) := by decide +kernel
theorem dX0_init_10 : decode cX0_init 10 = .ok (.putfield 11, 3) := by decide +kernel
theorem dX0_init_13 : decode cX0_init 13 = .ok (.aload_n 0, 1) := by decide +kernel
theorem dX0_init_14 : decode cX0_init 14 = .ok (.bipush 8, 2) := by decide +kernel
theorem dX0_init_16 : decode cX0_init 16 = .ok (.newarray .int, 2) := by decide +kernel
theorem dX0_init_18 : decode cX0_init 18 = .ok (.putfield 17, 3) := by decide +kernel
theorem dX0_init_21 : decode cX0_init 21 = .ok (.aload_n 0, 1) := by decide +kernel
theorem dX0_init_22 : decode cX0_init 22 = .ok (.bipush 8, 2) := by decide +kernel
theorem dX0_init_24 : decode cX0_init 24 = .ok (.newarray .int, 2) := by decide +kernel
theorem dX0_init_26 : decode cX0_init 26 = .ok (.putfield 21, 3) := by decide +kernel
theorem dX0_init_29 : decode cX0_init 29 = .ok (.aload_n 0, 1) := by decide +kernel
theorem dX0_init_30 : decode cX0_init 30 = .ok (.iconst 0, 1) := by decide +kernel
theorem dX0_init_31 : decode cX0_init 31 = .ok (.putfield 24, 3) := by decide +kernel
theorem dX0_init_34 : decode cX0_init 34 = .ok (.aload_n 0, 1) := by decide +kernel
theorem dX0_init_35 : decode cX0_init 35 = .ok (.iconst 0, 1) := by decide +kernel
theorem dX0_init_36 : decode cX0_init 36 = .ok (.putfield 28, 3) := by decide +kernel
theorem dX0_init_39 : decode cX0_init 39 = .ok (.aload_n 0, 1) := by decide +kernel
theorem dX0_init_40 : decode cX0_init 40 = .ok (.aload_n 1, 1) := by decide +kernel
theorem dX0_init_41 : decode cX0_init 41 = .ok (.putfield 31, 3) := by decide +kernel
theorem dX0_init_44 : decode cX0_init 44 = .ok (.return_, 1) := by decide +kernel
theorem dX0_sets_0 : decode cX0_sets 0 = .ok (.aload_n 0, 1) := by decide +kernel
theorem dX0_sets_1 : decode cX0_sets 1 = .ok (.getfield 24, 3) := by decide +kernel
theorem dX0_sets_4 : decode cX0_sets 4 = .ok (.ireturn, 1) := by decide +kernel
theorem dX0_lines_0 : decode cX0_lines 0 = .ok (.aload_n 0, 1) := by decide +kernel
theorem dX0_lines_1 : decode cX0_lines 1 = .ok (.getfield 28, 3) := by decide +kernel
theorem dX0_lines_4 : decode cX0_lines 4 = .ok (.ireturn, 1) := by decide +kernel
theorem dX0_build_0 : decode cX0_build 0 = .ok (.aload_n 0, 1) := by decide +kernel
theorem dX0_build_1 : decode cX0_build 1 = .ok (.getfield 24, 3) := by decide +kernel
theorem dX0_build_4 : decode cX0_build 4 = .ok (.bipush 10, 2) := by decide +kernel
theorem dX0_build_6 : decode cX0_build 6 = .ok (.if_icmp .lt 6, 3) := by decide +kernel
theorem dX0_build_9 : decode cX0_build 9 = .ok (.bipush (-2), 2) := by decide +kernel
theorem dX0_build_11 : decode cX0_build 11 = .ok (.ireturn, 1) := by decide +kernel
theorem dX0_build_12 : decode cX0_build 12 = .ok (.aload_n 0, 1) := by decide +kernel
theorem dX0_build_13 : decode cX0_build 13 = .ok (.getfield 11, 3) := by decide +kernel
theorem dX0_build_16 : decode cX0_build 16 = .ok (.aload_n 0, 1) := by decide +kernel
theorem dX0_build_17 : decode cX0_build 17 = .ok (.getfield 24, 3) := by decide +kernel
theorem dX0_build_20 : decode cX0_build 20 = .ok (.new 9, 3) := by decide +kernel
theorem dX0_build_23 : decode cX0_build 23 = .ok (.dup, 1) := by decide +kernel
theorem dX0_build_24 : decode cX0_build 24 = .ok (.aload_n 0, 1) := by decide +kernel
theorem dX0_build_25 : decode cX0_build 25 = .ok (.getfield 31, 3) := by decide +kernel
theorem dX0_build_28 : decode cX0_build 28 = .ok (.invokevirtual 35, 3) := by decide +kernel
theorem dX0_build_31 : decode cX0_build 31 = .ok (.invokespecial 41, 3) := by decide +kernel
theorem dX0_build_34 : decode cX0_build 34 = .ok (.aastore, 1) := by decide +kernel
theorem dX0_build_35 : decode cX0_build 35 = .ok (.aload_n 0, 1) := by decide +kernel
theorem dX0_build_36 : decode cX0_build 36 = .ok (.dup, 1) := by decide +kernel
theorem dX0_build_37 : decode cX0_build 37 = .ok (.getfield 24, 3) := by decide +kernel
theorem dX0_build_40 : decode cX0_build 40 = .ok (.iconst 1, 1) := by decide +kernel
theorem dX0_build_41 : decode cX0_build 41 = .ok (.iadd, 1) := by decide +kernel
theorem dX0_build_42 : decode cX0_build 42 = .ok (.putfield 24, 3) := by decide +kernel
theorem dX0_build_45 : decode cX0_build 45 = .ok (.aload_n 0, 1) := by decide +kernel
theorem dX0_build_46 : decode cX0_build 46 = .ok (.getfield 24, 3) := by decide +kernel
theorem dX0_build_49 : decode cX0_build 49 = .ok (.iconst 1, 1) := by decide +kernel
theorem dX0_build_50 : decode cX0_build 50 = .ok (.isub, 1) := by decide +kernel
theorem dX0_build_51 : decode cX0_build 51 = .ok (.ireturn, 1) := by decide +kernel
theorem dX0_putOff_0 : decode cX0_putOff 0 = .ok (.aload_n 0, 1) := by decide +kernel
theorem dX0_putOff_1 : decode cX0_putOff 1 = .ok (.iload_n 1, 1) := by decide +kernel
theorem dX0_putOff_2 : decode cX0_putOff 2 = .ok (.invokevirtual 44, 3) := by decide +kernel
theorem dX0_putOff_5 : decode cX0_putOff 5 = .ok (.astore 4, 2) := by decide +kernel
theorem dX0_putOff_7 : decode cX0_putOff 7 = .ok (.aload 4, 2) := by decide +kernel
theorem dX0_putOff_9 : decode cX0_putOff 9 = .ok (.ifnull 21, 3) := by decide +kernel
theorem dX0_putOff_12 : decode cX0_putOff 12 = .ok (.iload_n 2, 1) := by decide +kernel
theorem dX0_putOff_13 : decode cX0_putOff 13 = .ok (.invokestatic 48, 3) := by decide +kernel
theorem dX0_putOff_16 : decode cX0_putOff 16 = .ok (.ifCond .eq 14, 3) := by decide +kernel
theorem dX0_putOff_19 : decode cX0_putOff 19 = .ok (.iload_n 3, 1) := by decide +kernel
theorem dX0_putOff_20 : decode cX0_putOff 20 = .ok (.bipush (-50), 2) := by decide +kernel
theorem dX0_putOff_22 : decode cX0_putOff 22 = .ok (.bipush 50, 2) := by decide +kernel
theorem dX0_putOff_24 : decode cX0_putOff 24 = .ok (.invokestatic 52, 3) := by decide +kernel
theorem dX0_putOff_27 : decode cX0_putOff 27 = .ok (.ifCond .ne 6, 3) := by decide +kernel
theorem dX0_putOff_30 : decode cX0_putOff 30 = .ok (.ldc 56, 2) := by decide +kernel
theorem dX0_putOff_32 : decode cX0_putOff 32 = .ok (.ireturn, 1) := by decide +kernel
theorem dX0_putOff_33 : decode cX0_putOff 33 = .ok (.aload 4, 2) := by decide +kernel
theorem dX0_putOff_35 : decode cX0_putOff 35 = .ok (.iload_n 2, 1) := by decide +kernel
theorem dX0_putOff_36 : decode cX0_putOff 36 = .ok (.iload_n 3, 1) := by decide +kernel
theorem dX0_putOff_37 : decode cX0_putOff 37 = .ok (.invokevirtual 57, 3) := by decide +kernel
theorem dX0_putOff_40 : decode cX0_putOff 40 = .ok (.ireturn, 1) := by decide +kernel
theorem dX0_ofPart_0 : decode cX0_ofPart 0 = .ok (.aload_n 0, 1) := by decide +kernel
theorem dX0_ofPart_1 : decode cX0_ofPart 1 = .ok (.iload_n 1, 1) := by decide +kernel
theorem dX0_ofPart_2 : decode cX0_ofPart 2 = .ok (.invokevirtual 44, 3) := by decide +kernel
theorem dX0_ofPart_5 : decode cX0_ofPart 5 = .ok (.astore 4, 2) := by decide +kernel
theorem dX0_ofPart_7 : decode cX0_ofPart 7 = .ok (.aload 4, 2) := by decide +kernel
theorem dX0_ofPart_9 : decode cX0_ofPart 9 = .ok (.ifnull 19, 3) := by decide +kernel
theorem dX0_ofPart_12 : decode cX0_ofPart 12 = .ok (.iload_n 2, 1) := by decide +kernel
theorem dX0_ofPart_13 : decode cX0_ofPart 13 = .ok (.invokestatic 48, 3) := by decide +kernel
theorem dX0_ofPart_16 : decode cX0_ofPart 16 = .ok (.ifCond .eq 12, 3) := by decide +kernel
theorem dX0_ofPart_19 : decode cX0_ofPart 19 = .ok (.iload_n 3, 1) := by decide +kernel
theorem dX0_ofPart_20 : decode cX0_ofPart 20 = .ok (.iconst 0, 1) := by decide +kernel
theorem dX0_ofPart_21 : decode cX0_ofPart 21 = .ok (.iconst 1, 1) := by decide +kernel
theorem dX0_ofPart_22 : decode cX0_ofPart 22 = .ok (.invokestatic 52, 3) := by decide +kernel
theorem dX0_ofPart_25 : decode cX0_ofPart 25 = .ok (.ifCond .ne 6, 3) := by decide +kernel
theorem dX0_ofPart_28 : decode cX0_ofPart 28 = .ok (.ldc 56, 2) := by decide +kernel
theorem dX0_ofPart_30 : decode cX0_ofPart 30 = .ok (.ireturn, 1) := by decide +kernel
theorem dX0_ofPart_31 : decode cX0_ofPart 31 = .ok (.iload_n 3, 1) := by decide +kernel
theorem dX0_ofPart_32 : decode cX0_ofPart 32 = .ok (.ifCond .ne 13, 3) := by decide +kernel
theorem dX0_ofPart_35 : decode cX0_ofPart 35 = .ok (.aload 4, 2) := by decide +kernel
theorem dX0_ofPart_37 : decode cX0_ofPart 37 = .ok (.invokevirtual 61, 3) := by decide +kernel
theorem dX0_ofPart_40 : decode cX0_ofPart 40 = .ok (.iload_n 2, 1) := by decide +kernel
theorem dX0_ofPart_41 : decode cX0_ofPart 41 = .ok (.iaload, 1) := by decide +kernel
theorem dX0_ofPart_42 : decode cX0_ofPart 42 = .ok (.goto 9, 3) := by decide +kernel
theorem dX0_ofPart_45 : decode cX0_ofPart 45 = .ok (.aload 4, 2) := by decide +kernel
theorem dX0_ofPart_47 : decode cX0_ofPart 47 = .ok (.iload_n 2, 1) := by decide +kernel
theorem dX0_ofPart_48 : decode cX0_ofPart 48 = .ok (.invokevirtual 64, 3) := by decide +kernel
theorem dX0_ofPart_51 : decode cX0_ofPart 51 = .ok (.ireturn, 1) := by decide +kernel
theorem dX0_errorOfNumber_0 : decode cX0_errorOfNumber 0 = .ok (.aload_n 0, 1) := by decide +kernel
theorem dX0_errorOfNumber_1 : decode cX0_errorOfNumber 1 = .ok (.iload_n 1, 1) := by decide +kernel
theorem dX0_errorOfNumber_2 : decode cX0_errorOfNumber 2 = .ok (.invokevirtual 44, 3) := by decide +kernel
theorem dX0_errorOfNumber_5 : decode cX0_errorOfNumber 5 = .ok (.astore_n 2, 1) := by decide +kernel
theorem dX0_errorOfNumber_6 : decode cX0_errorOfNumber 6 = .ok (.aload_n 2, 1) := by decide +kernel
theorem dX0_errorOfNumber_7 : decode cX0_errorOfNumber 7 = .ok (.ifnonnull 7, 3) := by decide +kernel
theorem dX0_errorOfNumber_10 : decode cX0_errorOfNumber 10 = .ok (.iconst (-1), 1) := by decide +kernel
theorem dX0_errorOfNumber_11 : decode cX0_errorOfNumber 11 = .ok (.goto 18, 3) := by decide +kernel
theorem dX0_errorOfNumber_14 : decode cX0_errorOfNumber 14 = .ok (.aload_n 0, 1) := by decide +kernel
theorem dX0_errorOfNumber_15 : decode cX0_errorOfNumber 15 = .ok (.getfield 31, 3) := by decide +kernel
theorem dX0_errorOfNumber_18 : decode cX0_errorOfNumber 18 = .ok (.aload_n 2, 1) := by decide +kernel
theorem dX0_errorOfNumber_19 : decode cX0_errorOfNumber 19 = .ok (.invokevirtual 61, 3) := by decide +kernel
theorem dX0_errorOfNumber_22 : decode cX0_errorOfNumber 22 = .ok (.aload_n 2, 1) := by decide +kernel
theorem dX0_errorOfNumber_23 : decode cX0_errorOfNumber 23 = .ok (.invokevirtual 68, 3) := by decide +kernel
theorem dX0_errorOfNumber_26 : decode cX0_errorOfNumber 26 = .ok (.invokevirtual 72, 3) := by decide +kernel
theorem dX0_errorOfNumber_29 : decode cX0_errorOfNumber 29 = .ok (.ireturn, 1) := by decide +kernel
theorem dX0_addLine_0 : decode cX0_addLine 0 = .ok (.iload_n 1, 1) := by decide +kernel
theorem dX0_addLine_1 : decode cX0_addLine 1 = .ok (.invokestatic 48, 3) := by decide +kernel
theorem dX0_addLine_4 : decode cX0_addLine 4 = .ok (.ifCond .eq 13, 3) := by decide +kernel
theorem dX0_addLine_7 : decode cX0_addLine 7 = .ok (.iload_n 2, 1) := by decide +kernel
theorem dX0_addLine_8 : decode cX0_addLine 8 = .ok (.iconst 1, 1) := by decide +kernel
theorem dX0_addLine_9 : decode cX0_addLine 9 = .ok (.bipush 20, 2) := by decide +kernel
theorem dX0_addLine_11 : decode cX0_addLine 11 = .ok (.invokestatic 52, 3) := by decide +kernel
theorem dX0_addLine_14 : decode cX0_addLine 14 = .ok (.ifCond .ne 5, 3) := by decide +kernel
theorem dX0_addLine_17 : decode cX0_addLine 17 = .ok (.iconst (-1), 1) := by decide +kernel
theorem dX0_addLine_18 : decode cX0_addLine 18 = .ok (.ireturn, 1) := by decide +kernel
theorem dX0_addLine_19 : decode cX0_addLine 19 = .ok (.aload_n 0, 1) := by decide +kernel
theorem dX0_addLine_20 : decode cX0_addLine 20 = .ok (.getfield 28, 3) := by decide +kernel
theorem dX0_addLine_23 : decode cX0_addLine 23 = .ok (.bipush 8, 2) := by decide +kernel
theorem dX0_addLine_25 : decode cX0_addLine 25 = .ok (.if_icmp .lt 6, 3) := by decide +kernel
theorem dX0_addLine_28 : decode cX0_addLine 28 = .ok (.bipush (-2), 2) := by decide +kernel
theorem dX0_addLine_30 : decode cX0_addLine 30 = .ok (.ireturn, 1) := by decide +kernel
theorem dX0_addLine_31 : decode cX0_addLine 31 = .ok (.aload_n 0, 1) := by decide +kernel
theorem dX0_addLine_32 : decode cX0_addLine 32 = .ok (.getfield 17, 3) := by decide +kernel
theorem dX0_addLine_35 : decode cX0_addLine 35 = .ok (.aload_n 0, 1) := by decide +kernel
theorem dX0_addLine_36 : decode cX0_addLine 36 = .ok (.getfield 28, 3) := by decide +kernel
theorem dX0_addLine_39 : decode cX0_addLine 39 = .ok (.iload_n 1, 1) := by decide +kernel
theorem dX0_addLine_40 : decode cX0_addLine 40 = .ok (.iastore, 1) := by decide +kernel
theorem dX0_addLine_41 : decode cX0_addLine 41 = .ok (.aload_n 0, 1) := by decide +kernel
theorem dX0_addLine_42 : decode cX0_addLine 42 = .ok (.getfield 21, 3) := by decide +kernel
theorem dX0_addLine_45 : decode cX0_addLine 45 = .ok (.aload_n 0, 1) := by decide +kernel
theorem dX0_addLine_46 : decode cX0_addLine 46 = .ok (.getfield 28, 3) := by decide +kernel
theorem dX0_addLine_49 : decode cX0_addLine 49 = .ok (.iload_n 2, 1) := by decide +kernel
theorem dX0_addLine_50 : decode cX0_addLine 50 = .ok (.iastore, 1) := by decide +kernel
theorem dX0_addLine_51 : decode cX0_addLine 51 = .ok (.aload_n 0, 1) := by decide +kernel
theorem dX0_addLine_52 : decode cX0_addLine 52 = .ok (.dup, 1) := by decide +kernel
theorem dX0_addLine_53 : decode cX0_addLine 53 = .ok (.getfield 28, 3) := by decide +kernel
theorem dX0_addLine_56 : decode cX0_addLine 56 = .ok (.iconst 1, 1) := by decide +kernel
theorem dX0_addLine_57 : decode cX0_addLine 57 = .ok (.iadd, 1) := by decide +kernel
theorem dX0_addLine_58 : decode cX0_addLine 58 = .ok (.putfield 28, 3) := by decide +kernel
theorem dX0_addLine_61 : decode cX0_addLine 61 = .ok (.aload_n 0, 1) := by decide +kernel
theorem dX0_addLine_62 : decode cX0_addLine 62 = .ok (.getfield 28, 3) := by decide +kernel
theorem dX0_addLine_65 : decode cX0_addLine 65 = .ok (.ireturn, 1) := by decide +kernel
theorem dX0_goRound_0 : decode cX0_goRound 0 = .ok (.aload_n 0, 1) := by decide +kernel
theorem dX0_goRound_1 : decode cX0_goRound 1 = .ok (.iload_n 1, 1) := by decide +kernel
theorem dX0_goRound_2 : decode cX0_goRound 2 = .ok (.invokevirtual 44, 3) := by decide +kernel
theorem dX0_goRound_5 : decode cX0_goRound 5 = .ok (.astore_n 2, 1) := by decide +kernel
theorem dX0_goRound_6 : decode cX0_goRound 6 = .ok (.aload_n 2, 1) := by decide +kernel
theorem dX0_goRound_7 : decode cX0_goRound 7 = .ok (.ifnonnull 5, 3) := by decide +kernel
theorem dX0_goRound_10 : decode cX0_goRound 10 = .ok (.iconst (-1), 1) := by decide +kernel
theorem dX0_goRound_11 : decode cX0_goRound 11 = .ok (.ireturn, 1) := by decide +kernel
theorem dX0_goRound_12 : decode cX0_goRound 12 = .ok (.aload_n 0, 1) := by decide +kernel
theorem dX0_goRound_13 : decode cX0_goRound 13 = .ok (.getfield 28, 3) := by decide +kernel
theorem dX0_goRound_16 : decode cX0_goRound 16 = .ok (.ifCond .ne 8, 3) := by decide +kernel
theorem dX0_goRound_19 : decode cX0_goRound 19 = .ok (.bipush (-3), 2) := by decide +kernel
theorem dX0_goRound_21 : decode cX0_goRound 21 = .ok (.goto 8, 3) := by decide +kernel
theorem dX0_goRound_24 : decode cX0_goRound 24 = .ok (.aload_n 0, 1) := by decide +kernel
theorem dX0_goRound_25 : decode cX0_goRound 25 = .ok (.aload_n 2, 1) := by decide +kernel
theorem dX0_goRound_26 : decode cX0_goRound 26 = .ok (.invokevirtual 76, 3) := by decide +kernel
theorem dX0_goRound_29 : decode cX0_goRound 29 = .ok (.ireturn, 1) := by decide +kernel
theorem dX0_goRounds_0 : decode cX0_goRounds 0 = .ok (.aload_n 0, 1) := by decide +kernel
theorem dX0_goRounds_1 : decode cX0_goRounds 1 = .ok (.iload_n 1, 1) := by decide +kernel
theorem dX0_goRounds_2 : decode cX0_goRounds 2 = .ok (.invokevirtual 44, 3) := by decide +kernel
theorem dX0_goRounds_5 : decode cX0_goRounds 5 = .ok (.astore_n 2, 1) := by decide +kernel
theorem dX0_goRounds_6 : decode cX0_goRounds 6 = .ok (.aload_n 2, 1) := by decide +kernel
theorem dX0_goRounds_7 : decode cX0_goRounds 7 = .ok (.ifnonnull 5, 3) := by decide +kernel
theorem dX0_goRounds_10 : decode cX0_goRounds 10 = .ok (.iconst (-1), 1) := by decide +kernel
theorem dX0_goRounds_11 : decode cX0_goRounds 11 = .ok (.ireturn, 1) := by decide +kernel
theorem dX0_goRounds_12 : decode cX0_goRounds 12 = .ok (.aload_n 0, 1) := by decide +kernel
theorem dX0_goRounds_13 : decode cX0_goRounds 13 = .ok (.getfield 28, 3) := by decide +kernel
theorem dX0_goRounds_16 : decode cX0_goRounds 16 = .ok (.ifCond .ne 6, 3) := by decide +kernel
theorem dX0_goRounds_19 : decode cX0_goRounds 19 = .ok (.bipush (-3), 2) := by decide +kernel
theorem dX0_goRounds_21 : decode cX0_goRounds 21 = .ok (.ireturn, 1) := by decide +kernel
theorem dX0_goRounds_22 : decode cX0_goRounds 22 = .ok (.iconst 1, 1) := by decide +kernel
theorem dX0_goRounds_23 : decode cX0_goRounds 23 = .ok (.istore_n 3, 1) := by decide +kernel
theorem dX0_goRounds_24 : decode cX0_goRounds 24 = .ok (.iload_n 3, 1) := by decide +kernel
theorem dX0_goRounds_25 : decode cX0_goRounds 25 = .ok (.bipush 50, 2) := by decide +kernel
theorem dX0_goRounds_27 : decode cX0_goRounds 27 = .ok (.if_icmp .ge 19, 3) := by decide +kernel
theorem dX0_goRounds_30 : decode cX0_goRounds 30 = .ok (.aload_n 0, 1) := by decide +kernel
theorem dX0_goRounds_31 : decode cX0_goRounds 31 = .ok (.aload_n 2, 1) := by decide +kernel
theorem dX0_goRounds_32 : decode cX0_goRounds 32 = .ok (.invokevirtual 76, 3) := by decide +kernel
theorem dX0_goRounds_35 : decode cX0_goRounds 35 = .ok (.ifCond .ne 5, 3) := by decide +kernel
theorem dX0_goRounds_38 : decode cX0_goRounds 38 = .ok (.iload_n 3, 1) := by decide +kernel
theorem dX0_goRounds_39 : decode cX0_goRounds 39 = .ok (.ireturn, 1) := by decide +kernel
theorem dX0_goRounds_40 : decode cX0_goRounds 40 = .ok (.iinc 3 1, 3) := by decide +kernel
theorem dX0_goRounds_43 : decode cX0_goRounds 43 = .ok (.goto (-19), 3) := by decide +kernel
theorem dX0_goRounds_46 : decode cX0_goRounds 46 = .ok (.aload_n 0, 1) := by decide +kernel
theorem dX0_goRounds_47 : decode cX0_goRounds 47 = .ok (.aload_n 2, 1) := by decide +kernel
theorem dX0_goRounds_48 : decode cX0_goRounds 48 = .ok (.invokevirtual 76, 3) := by decide +kernel
theorem dX0_goRounds_51 : decode cX0_goRounds 51 = .ok (.pop, 1) := by decide +kernel
theorem dX0_goRounds_52 : decode cX0_goRounds 52 = .ok (.bipush 50, 2) := by decide +kernel
theorem dX0_goRounds_54 : decode cX0_goRounds 54 = .ok (.ireturn, 1) := by decide +kernel
theorem dX0_find_0 : decode cX0_find 0 = .ok (.iload_n 1, 1) := by decide +kernel
theorem dX0_find_1 : decode cX0_find 1 = .ok (.iconst 0, 1) := by decide +kernel
theorem dX0_find_2 : decode cX0_find 2 = .ok (.aload_n 0, 1) := by decide +kernel
theorem dX0_find_3 : decode cX0_find 3 = .ok (.getfield 24, 3) := by decide +kernel
theorem dX0_find_6 : decode cX0_find 6 = .ok (.iconst 1, 1) := by decide +kernel
theorem dX0_find_7 : decode cX0_find 7 = .ok (.isub, 1) := by decide +kernel
theorem dX0_find_8 : decode cX0_find 8 = .ok (.invokestatic 52, 3) := by decide +kernel
theorem dX0_find_11 : decode cX0_find 11 = .ok (.ifCond .eq 12, 3) := by decide +kernel
theorem dX0_find_14 : decode cX0_find 14 = .ok (.aload_n 0, 1) := by decide +kernel
theorem dX0_find_15 : decode cX0_find 15 = .ok (.getfield 11, 3) := by decide +kernel
theorem dX0_find_18 : decode cX0_find 18 = .ok (.iload_n 1, 1) := by decide +kernel
theorem dX0_find_19 : decode cX0_find 19 = .ok (.aaload, 1) := by decide +kernel
theorem dX0_find_20 : decode cX0_find 20 = .ok (.goto 4, 3) := by decide +kernel
theorem dX0_find_23 : decode cX0_find 23 = .ok (.aconst_null, 1) := by decide +kernel
theorem dX0_find_24 : decode cX0_find 24 = .ok (.areturn, 1) := by decide +kernel
theorem dX0_isPart_0 : decode cX0_isPart 0 = .ok (.iload_n 0, 1) := by decide +kernel
theorem dX0_isPart_1 : decode cX0_isPart 1 = .ok (.iconst 0, 1) := by decide +kernel
theorem dX0_isPart_2 : decode cX0_isPart 2 = .ok (.iconst 5, 1) := by decide +kernel
theorem dX0_isPart_3 : decode cX0_isPart 3 = .ok (.invokestatic 52, 3) := by decide +kernel
theorem dX0_isPart_6 : decode cX0_isPart 6 = .ok (.ireturn, 1) := by decide +kernel
theorem dX0_turnByLines_0 : decode cX0_turnByLines 0 = .ok (.iconst 0, 1) := by decide +kernel
theorem dX0_turnByLines_1 : decode cX0_turnByLines 1 = .ok (.istore_n 2, 1) := by decide +kernel
theorem dX0_turnByLines_2 : decode cX0_turnByLines 2 = .ok (.iconst 0, 1) := by decide +kernel
theorem dX0_turnByLines_3 : decode cX0_turnByLines 3 = .ok (.istore_n 3, 1) := by decide +kernel
theorem dX0_turnByLines_4 : decode cX0_turnByLines 4 = .ok (.iload_n 3, 1) := by decide +kernel
theorem dX0_turnByLines_5 : decode cX0_turnByLines 5 = .ok (.aload_n 0, 1) := by decide +kernel
theorem dX0_turnByLines_6 : decode cX0_turnByLines 6 = .ok (.getfield 28, 3) := by decide +kernel
theorem dX0_turnByLines_9 : decode cX0_turnByLines 9 = .ok (.if_icmp .ge 58, 3) := by decide +kernel
theorem dX0_turnByLines_12 : decode cX0_turnByLines 12 = .ok (.aload_n 0, 1) := by decide +kernel
theorem dX0_turnByLines_13 : decode cX0_turnByLines 13 = .ok (.aload_n 1, 1) := by decide +kernel
theorem dX0_turnByLines_14 : decode cX0_turnByLines 14 = .ok (.aload_n 0, 1) := by decide +kernel
theorem dX0_turnByLines_15 : decode cX0_turnByLines 15 = .ok (.getfield 17, 3) := by decide +kernel
theorem dX0_turnByLines_18 : decode cX0_turnByLines 18 = .ok (.iload_n 3, 1) := by decide +kernel
theorem dX0_turnByLines_19 : decode cX0_turnByLines 19 = .ok (.iaload, 1) := by decide +kernel
theorem dX0_turnByLines_20 : decode cX0_turnByLines 20 = .ok (.aload_n 0, 1) := by decide +kernel
theorem dX0_turnByLines_21 : decode cX0_turnByLines 21 = .ok (.getfield 21, 3) := by decide +kernel
theorem dX0_turnByLines_24 : decode cX0_turnByLines 24 = .ok (.iload_n 3, 1) := by decide +kernel
theorem dX0_turnByLines_25 : decode cX0_turnByLines 25 = .ok (.iaload, 1) := by decide +kernel
theorem dX0_turnByLines_26 : decode cX0_turnByLines 26 = .ok (.invokevirtual 80, 3) := by decide +kernel
theorem dX0_turnByLines_29 : decode cX0_turnByLines 29 = .ok (.istore 4, 2) := by decide +kernel
theorem dX0_turnByLines_31 : decode cX0_turnByLines 31 = .ok (.iload 4, 2) := by decide +kernel
theorem dX0_turnByLines_33 : decode cX0_turnByLines 33 = .ok (.ifCond .ne 23, 3) := by decide +kernel
theorem dX0_turnByLines_36 : decode cX0_turnByLines 36 = .ok (.aload_n 0, 1) := by decide +kernel
theorem dX0_turnByLines_37 : decode cX0_turnByLines 37 = .ok (.aload_n 1, 1) := by decide +kernel
theorem dX0_turnByLines_38 : decode cX0_turnByLines 38 = .ok (.aload_n 0, 1) := by decide +kernel
theorem dX0_turnByLines_39 : decode cX0_turnByLines 39 = .ok (.getfield 17, 3) := by decide +kernel
theorem dX0_turnByLines_42 : decode cX0_turnByLines 42 = .ok (.iload_n 3, 1) := by decide +kernel
theorem dX0_turnByLines_43 : decode cX0_turnByLines 43 = .ok (.iaload, 1) := by decide +kernel
theorem dX0_turnByLines_44 : decode cX0_turnByLines 44 = .ok (.aload_n 0, 1) := by decide +kernel
theorem dX0_turnByLines_45 : decode cX0_turnByLines 45 = .ok (.getfield 21, 3) := by decide +kernel
theorem dX0_turnByLines_48 : decode cX0_turnByLines 48 = .ok (.iload_n 3, 1) := by decide +kernel
theorem dX0_turnByLines_49 : decode cX0_turnByLines 49 = .ok (.iaload, 1) := by decide +kernel
theorem dX0_turnByLines_50 : decode cX0_turnByLines 50 = .ok (.ineg, 1) := by decide +kernel
theorem dX0_turnByLines_51 : decode cX0_turnByLines 51 = .ok (.invokevirtual 80, 3) := by decide +kernel
theorem dX0_turnByLines_54 : decode cX0_turnByLines 54 = .ok (.istore 4, 2) := by decide +kernel
theorem dX0_turnByLines_56 : decode cX0_turnByLines 56 = .ok (.iload_n 2, 1) := by decide +kernel
theorem dX0_turnByLines_57 : decode cX0_turnByLines 57 = .ok (.iload 4, 2) := by decide +kernel
theorem dX0_turnByLines_59 : decode cX0_turnByLines 59 = .ok (.iadd, 1) := by decide +kernel
theorem dX0_turnByLines_60 : decode cX0_turnByLines 60 = .ok (.istore_n 2, 1) := by decide +kernel
theorem dX0_turnByLines_61 : decode cX0_turnByLines 61 = .ok (.iinc 3 1, 3) := by decide +kernel
theorem dX0_turnByLines_64 : decode cX0_turnByLines 64 = .ok (.goto (-60), 3) := by decide +kernel
theorem dX0_turnByLines_67 : decode cX0_turnByLines 67 = .ok (.iload_n 2, 1) := by decide +kernel
theorem dX0_turnByLines_68 : decode cX0_turnByLines 68 = .ok (.ireturn, 1) := by decide +kernel
theorem dX0_turnWhileLess_0 : decode cX0_turnWhileLess 0 = .ok (.aload_n 0, 1) := by decide +kernel
theorem dX0_turnWhileLess_1 : decode cX0_turnWhileLess 1 = .ok (.getfield 31, 3) := by decide +kernel
theorem dX0_turnWhileLess_4 : decode cX0_turnWhileLess 4 = .ok (.aload_n 1, 1) := by decide +kernel
theorem dX0_turnWhileLess_5 : decode cX0_turnWhileLess 5 = .ok (.invokevirtual 61, 3) := by decide +kernel
theorem dX0_turnWhileLess_8 : decode cX0_turnWhileLess 8 = .ok (.aload_n 1, 1) := by decide +kernel
theorem dX0_turnWhileLess_9 : decode cX0_turnWhileLess 9 = .ok (.invokevirtual 68, 3) := by decide +kernel
theorem dX0_turnWhileLess_12 : decode cX0_turnWhileLess 12 = .ok (.invokevirtual 72, 3) := by decide +kernel
theorem dX0_turnWhileLess_15 : decode cX0_turnWhileLess 15 = .ok (.istore 4, 2) := by decide +kernel
theorem dX0_turnWhileLess_17 : decode cX0_turnWhileLess 17 = .ok (.iconst 0, 1) := by decide +kernel
theorem dX0_turnWhileLess_18 : decode cX0_turnWhileLess 18 = .ok (.istore 5, 2) := by decide +kernel
theorem dX0_turnWhileLess_20 : decode cX0_turnWhileLess 20 = .ok (.iload 5, 2) := by decide +kernel
theorem dX0_turnWhileLess_22 : decode cX0_turnWhileLess 22 = .ok (.bipush 30, 2) := by decide +kernel
theorem dX0_turnWhileLess_24 : decode cX0_turnWhileLess 24 = .ok (.if_icmp .ge 53, 3) := by decide +kernel
theorem dX0_turnWhileLess_27 : decode cX0_turnWhileLess 27 = .ok (.aload_n 1, 1) := by decide +kernel
theorem dX0_turnWhileLess_28 : decode cX0_turnWhileLess 28 = .ok (.iload_n 2, 1) := by decide +kernel
theorem dX0_turnWhileLess_29 : decode cX0_turnWhileLess 29 = .ok (.iload_n 3, 1) := by decide +kernel
theorem dX0_turnWhileLess_30 : decode cX0_turnWhileLess 30 = .ok (.invokevirtual 84, 3) := by decide +kernel
theorem dX0_turnWhileLess_33 : decode cX0_turnWhileLess 33 = .ok (.aload_n 0, 1) := by decide +kernel
theorem dX0_turnWhileLess_34 : decode cX0_turnWhileLess 34 = .ok (.getfield 31, 3) := by decide +kernel
theorem dX0_turnWhileLess_37 : decode cX0_turnWhileLess 37 = .ok (.aload_n 1, 1) := by decide +kernel
theorem dX0_turnWhileLess_38 : decode cX0_turnWhileLess 38 = .ok (.invokevirtual 61, 3) := by decide +kernel
theorem dX0_turnWhileLess_41 : decode cX0_turnWhileLess 41 = .ok (.aload_n 1, 1) := by decide +kernel
theorem dX0_turnWhileLess_42 : decode cX0_turnWhileLess 42 = .ok (.invokevirtual 68, 3) := by decide +kernel
theorem dX0_turnWhileLess_45 : decode cX0_turnWhileLess 45 = .ok (.invokevirtual 72, 3) := by decide +kernel
theorem dX0_turnWhileLess_48 : decode cX0_turnWhileLess 48 = .ok (.istore 6, 2) := by decide +kernel
theorem dX0_turnWhileLess_50 : decode cX0_turnWhileLess 50 = .ok (.iload 6, 2) := by decide +kernel
theorem dX0_turnWhileLess_52 : decode cX0_turnWhileLess 52 = .ok (.iload 4, 2) := by decide +kernel
theorem dX0_turnWhileLess_54 : decode cX0_turnWhileLess 54 = .ok (.if_icmp .lt 13, 3) := by decide +kernel
theorem dX0_turnWhileLess_57 : decode cX0_turnWhileLess 57 = .ok (.aload_n 1, 1) := by decide +kernel
theorem dX0_turnWhileLess_58 : decode cX0_turnWhileLess 58 = .ok (.iload_n 2, 1) := by decide +kernel
theorem dX0_turnWhileLess_59 : decode cX0_turnWhileLess 59 = .ok (.iload_n 3, 1) := by decide +kernel
theorem dX0_turnWhileLess_60 : decode cX0_turnWhileLess 60 = .ok (.ineg, 1) := by decide +kernel
theorem dX0_turnWhileLess_61 : decode cX0_turnWhileLess 61 = .ok (.invokevirtual 84, 3) := by decide +kernel
theorem dX0_turnWhileLess_64 : decode cX0_turnWhileLess 64 = .ok (.iload 5, 2) := by decide +kernel
theorem dX0_turnWhileLess_66 : decode cX0_turnWhileLess 66 = .ok (.ireturn, 1) := by decide +kernel
theorem dX0_turnWhileLess_67 : decode cX0_turnWhileLess 67 = .ok (.iload 6, 2) := by decide +kernel
theorem dX0_turnWhileLess_69 : decode cX0_turnWhileLess 69 = .ok (.istore 4, 2) := by decide +kernel
theorem dX0_turnWhileLess_71 : decode cX0_turnWhileLess 71 = .ok (.iinc 5 1, 3) := by decide +kernel
theorem dX0_turnWhileLess_74 : decode cX0_turnWhileLess 74 = .ok (.goto (-54), 3) := by decide +kernel
theorem dX0_turnWhileLess_77 : decode cX0_turnWhileLess 77 = .ok (.bipush 30, 2) := by decide +kernel
theorem dX0_turnWhileLess_79 : decode cX0_turnWhileLess 79 = .ok (.ireturn, 1) := by decide +kernel
theorem dX1_init_0 : decode cX1_init 0 = .ok (.aload_n 0, 1) := by decide +kernel
theorem dX1_init_1 : decode cX1_init 1 = .ok (.invokespecial 3, 3) := by decide +kernel
theorem dX1_init_4 : decode cX1_init 4 = .ok (.aload_n 0, 1) := by decide +kernel
theorem dX1_init_5 : decode cX1_init 5 = .ok (.bipush 20, 2) := by decide +kernel
theorem dX1_init_7 : decode cX1_init 7 = .ok (.newarray .int, 2) := by decide +kernel
theorem dX1_init_9 : decode cX1_init 9 = .ok (.putfield 9, 3) := by decide +kernel
theorem dX1_init_12 : decode cX1_init 12 = .ok (.aload_n 0, 1) := by decide +kernel
theorem dX1_init_13 : decode cX1_init 13 = .ok (.bipush 20, 2) := by decide +kernel
theorem dX1_init_15 : decode cX1_init 15 = .ok (.newarray .int, 2) := by decide +kernel
theorem dX1_init_17 : decode cX1_init 17 = .ok (.putfield 15, 3) := by decide +kernel
theorem dX1_init_20 : decode cX1_init 20 = .ok (.aload_n 0, 1) := by decide +kernel
theorem dX1_init_21 : decode cX1_init 21 = .ok (.iconst 4, 1) := by decide +kernel
theorem dX1_init_22 : decode cX1_init 22 = .ok (.newarray .int, 2) := by decide +kernel
theorem dX1_init_24 : decode cX1_init 24 = .ok (.dup, 1) := by decide +kernel
theorem dX1_init_25 : decode cX1_init 25 = .ok (.iconst 0, 1) := by decide +kernel
theorem dX1_init_26 : decode cX1_init 26 = .ok (.sipush 450, 3) := by decide +kernel
theorem dX1_init_29 : decode cX1_init 29 = .ok (.iastore, 1) := by decide +kernel
theorem dX1_init_30 : decode cX1_init 30 = .ok (.dup, 1) := by decide +kernel
theorem dX1_init_31 : decode cX1_init 31 = .ok (.iconst 1, 1) := by decide +kernel
theorem dX1_init_32 : decode cX1_init 32 = .ok (.iconst 1, 1) := by decide +kernel
theorem dX1_init_33 : decode cX1_init 33 = .ok (.iastore, 1) := by decide +kernel
theorem dX1_init_34 : decode cX1_init 34 = .ok (.dup, 1) := by decide +kernel
theorem dX1_init_35 : decode cX1_init 35 = .ok (.iconst 2, 1) := by decide +kernel
theorem dX1_init_36 : decode cX1_init 36 = .ok (.iconst 2, 1) := by decide +kernel
theorem dX1_init_37 : decode cX1_init 37 = .ok (.iastore, 1) := by decide +kernel
theorem dX1_init_38 : decode cX1_init 38 = .ok (.dup, 1) := by decide +kernel
theorem dX1_init_39 : decode cX1_init 39 = .ok (.iconst 3, 1) := by decide +kernel
theorem dX1_init_40 : decode cX1_init 40 = .ok (.iconst 5, 1) := by decide +kernel
theorem dX1_init_41 : decode cX1_init 41 = .ok (.iastore, 1) := by decide +kernel
theorem dX1_init_42 : decode cX1_init 42 = .ok (.putfield 18, 3) := by decide +kernel
theorem dX1_init_45 : decode cX1_init 45 = .ok (.aload_n 0, 1) := by decide +kernel
theorem dX1_init_46 : decode cX1_init 46 = .ok (.new 21, 3) := by decide +kernel
theorem dX1_init_49 : decode cX1_init 49 = .ok (.dup, 1) := by decide +kernel
theorem dX1_init_50 : decode cX1_init 50 = .ok (.invokespecial 23, 3) := by decide +kernel
theorem dX1_init_53 : decode cX1_init 53 = .ok (.putfield 24, 3) := by decide +kernel
theorem dX1_init_56 : decode cX1_init 56 = .ok (.aload_n 0, 1) := by decide +kernel
theorem dX1_init_57 : decode cX1_init 57 = .ok (.iconst 0, 1) := by decide +kernel
theorem dX1_init_58 : decode cX1_init 58 = .ok (.putfield 28, 3) := by decide +kernel
theorem dX1_init_61 : decode cX1_init 61 = .ok (.return_, 1) := by decide +kernel
theorem dX1_stations_0 : decode cX1_stations 0 = .ok (.aload_n 0, 1) := by decide +kernel
theorem dX1_stations_1 : decode cX1_stations 1 = .ok (.getfield 28, 3) := by decide +kernel
theorem dX1_stations_4 : decode cX1_stations 4 = .ok (.ireturn, 1) := by decide +kernel
theorem dX1_hasStation_0 : decode cX1_hasStation 0 = .ok (.iload_n 1, 1) := by decide +kernel
theorem dX1_hasStation_1 : decode cX1_hasStation 1 = .ok (.iconst 0, 1) := by decide +kernel
theorem dX1_hasStation_2 : decode cX1_hasStation 2 = .ok (.aload_n 0, 1) := by decide +kernel
theorem dX1_hasStation_3 : decode cX1_hasStation 3 = .ok (.getfield 28, 3) := by decide +kernel
theorem dX1_hasStation_6 : decode cX1_hasStation 6 = .ok (.iconst 1, 1) := by decide +kernel
theorem dX1_hasStation_7 : decode cX1_hasStation 7 = .ok (.isub, 1) := by decide +kernel
theorem dX1_hasStation_8 : decode cX1_hasStation 8 = .ok (.invokestatic 32, 3) := by decide +kernel
theorem dX1_hasStation_11 : decode cX1_hasStation 11 = .ok (.ireturn, 1) := by decide +kernel
theorem dX1_middle_0 : decode cX1_middle 0 = .ok (.aload_n 0, 1) := by decide +kernel
theorem dX1_middle_1 : decode cX1_middle 1 = .ok (.getfield 18, 3) := by decide +kernel
theorem dX1_middle_4 : decode cX1_middle 4 = .ok (.iconst 0, 1) := by decide +kernel
theorem dX1_middle_5 : decode cX1_middle 5 = .ok (.iaload, 1) := by decide +kernel
theorem dX1_middle_6 : decode cX1_middle 6 = .ok (.ireturn, 1) := by decide +kernel
theorem dX1_isOver_0 : decode cX1_isOver 0 = .ok (.aload_n 0, 1) := by decide +kernel
theorem dX1_isOver_1 : decode cX1_isOver 1 = .ok (.getfield 18, 3) := by decide +kernel
theorem dX1_isOver_4 : decode cX1_isOver 4 = .ok (.iconst 1, 1) := by decide +kernel
theorem dX1_isOver_5 : decode cX1_isOver 5 = .ok (.iaload, 1) := by decide +kernel
theorem dX1_isOver_6 : decode cX1_isOver 6 = .ok (.iconst 1, 1) := by decide +kernel
theorem dX1_isOver_7 : decode cX1_isOver 7 = .ok (.if_icmp .ne 7, 3) := by decide +kernel
theorem dX1_isOver_10 : decode cX1_isOver 10 = .ok (.iconst 1, 1) := by decide +kernel
theorem dX1_isOver_11 : decode cX1_isOver 11 = .ok (.goto 4, 3) := by decide +kernel
theorem dX1_isOver_14 : decode cX1_isOver 14 = .ok (.iconst 0, 1) := by decide +kernel
theorem dX1_isOver_15 : decode cX1_isOver 15 = .ok (.ireturn, 1) := by decide +kernel
theorem dX1_addStation_0 : decode cX1_addStation 0 = .ok (.iload_n 1, 1) := by decide +kernel
theorem dX1_addStation_1 : decode cX1_addStation 1 = .ok (.bipush 100, 2) := by decide +kernel
theorem dX1_addStation_3 : decode cX1_addStation 3 = .ok (.sipush 3000, 3) := by decide +kernel
theorem dX1_addStation_6 : decode cX1_addStation 6 = .ok (.invokestatic 32, 3) := by decide +kernel
theorem dX1_addStation_9 : decode cX1_addStation 9 = .ok (.ifCond .eq 14, 3) := by decide +kernel
theorem dX1_addStation_12 : decode cX1_addStation 12 = .ok (.iload_n 2, 1) := by decide +kernel
theorem dX1_addStation_13 : decode cX1_addStation 13 = .ok (.iconst 1, 1) := by decide +kernel
theorem dX1_addStation_14 : decode cX1_addStation 14 = .ok (.sipush 999, 3) := by decide +kernel
theorem dX1_addStation_17 : decode cX1_addStation 17 = .ok (.invokestatic 32, 3) := by decide +kernel
theorem dX1_addStation_20 : decode cX1_addStation 20 = .ok (.ifCond .ne 5, 3) := by decide +kernel
theorem dX1_addStation_23 : decode cX1_addStation 23 = .ok (.iconst (-1), 1) := by decide +kernel
theorem dX1_addStation_24 : decode cX1_addStation 24 = .ok (.ireturn, 1) := by decide +kernel
theorem dX1_addStation_25 : decode cX1_addStation 25 = .ok (.aload_n 0, 1) := by decide +kernel
theorem dX1_addStation_26 : decode cX1_addStation 26 = .ok (.getfield 28, 3) := by decide +kernel
theorem dX1_addStation_29 : decode cX1_addStation 29 = .ok (.bipush 20, 2) := by decide +kernel
theorem dX1_addStation_31 : decode cX1_addStation 31 = .ok (.if_icmp .lt 6, 3) := by decide +kernel
theorem dX1_addStation_34 : decode cX1_addStation 34 = .ok (.bipush (-2), 2) := by decide +kernel
theorem dX1_addStation_36 : decode cX1_addStation 36 = .ok (.ireturn, 1) := by decide +kernel
theorem dX1_addStation_37 : decode cX1_addStation 37 = .ok (.aload_n 0, 1) := by decide +kernel
theorem dX1_addStation_38 : decode cX1_addStation 38 = .ok (.getfield 9, 3) := by decide +kernel
theorem dX1_addStation_41 : decode cX1_addStation 41 = .ok (.aload_n 0, 1) := by decide +kernel
theorem dX1_addStation_42 : decode cX1_addStation 42 = .ok (.getfield 28, 3) := by decide +kernel
theorem dX1_addStation_45 : decode cX1_addStation 45 = .ok (.iload_n 1, 1) := by decide +kernel
theorem dX1_addStation_46 : decode cX1_addStation 46 = .ok (.iastore, 1) := by decide +kernel
theorem dX1_addStation_47 : decode cX1_addStation 47 = .ok (.aload_n 0, 1) := by decide +kernel
theorem dX1_addStation_48 : decode cX1_addStation 48 = .ok (.getfield 15, 3) := by decide +kernel
theorem dX1_addStation_51 : decode cX1_addStation 51 = .ok (.aload_n 0, 1) := by decide +kernel
theorem dX1_addStation_52 : decode cX1_addStation 52 = .ok (.getfield 28, 3) := by decide +kernel
theorem dX1_addStation_55 : decode cX1_addStation 55 = .ok (.iload_n 2, 1) := by decide +kernel
theorem dX1_addStation_56 : decode cX1_addStation 56 = .ok (.iastore, 1) := by decide +kernel
theorem dX1_addStation_57 : decode cX1_addStation 57 = .ok (.aload_n 0, 1) := by decide +kernel
theorem dX1_addStation_58 : decode cX1_addStation 58 = .ok (.dup, 1) := by decide +kernel
theorem dX1_addStation_59 : decode cX1_addStation 59 = .ok (.getfield 28, 3) := by decide +kernel
theorem dX1_addStation_62 : decode cX1_addStation 62 = .ok (.iconst 1, 1) := by decide +kernel
theorem dX1_addStation_63 : decode cX1_addStation 63 = .ok (.iadd, 1) := by decide +kernel
theorem dX1_addStation_64 : decode cX1_addStation 64 = .ok (.putfield 28, 3) := by decide +kernel
theorem dX1_addStation_67 : decode cX1_addStation 67 = .ok (.aload_n 0, 1) := by decide +kernel
theorem dX1_addStation_68 : decode cX1_addStation 68 = .ok (.getfield 28, 3) := by decide +kernel
theorem dX1_addStation_71 : decode cX1_addStation 71 = .ok (.iconst 1, 1) := by decide +kernel
theorem dX1_addStation_72 : decode cX1_addStation 72 = .ok (.isub, 1) := by decide +kernel
theorem dX1_addStation_73 : decode cX1_addStation 73 = .ok (.ireturn, 1) := by decide +kernel
theorem dX1_change_0 : decode cX1_change 0 = .ok (.iload_n 1, 1) := by decide +kernel
theorem dX1_change_1 : decode cX1_change 1 = .ok (.iconst 0, 1) := by decide +kernel
theorem dX1_change_2 : decode cX1_change 2 = .ok (.iconst 3, 1) := by decide +kernel
theorem dX1_change_3 : decode cX1_change 3 = .ok (.invokestatic 32, 3) := by decide +kernel
theorem dX1_change_6 : decode cX1_change 6 = .ok (.ifCond .eq 20, 3) := by decide +kernel
theorem dX1_change_9 : decode cX1_change 9 = .ok (.iload_n 2, 1) := by decide +kernel
theorem dX1_change_10 : decode cX1_change 10 = .ok (.getstatic 36, 3) := by decide +kernel
theorem dX1_change_13 : decode cX1_change 13 = .ok (.iload_n 1, 1) := by decide +kernel
theorem dX1_change_14 : decode cX1_change 14 = .ok (.iaload, 1) := by decide +kernel
theorem dX1_change_15 : decode cX1_change 15 = .ok (.getstatic 39, 3) := by decide +kernel
theorem dX1_change_18 : decode cX1_change 18 = .ok (.iload_n 1, 1) := by decide +kernel
theorem dX1_change_19 : decode cX1_change 19 = .ok (.iaload, 1) := by decide +kernel
theorem dX1_change_20 : decode cX1_change 20 = .ok (.invokestatic 32, 3) := by decide +kernel
theorem dX1_change_23 : decode cX1_change 23 = .ok (.ifCond .ne 5, 3) := by decide +kernel
theorem dX1_change_26 : decode cX1_change 26 = .ok (.iconst (-1), 1) := by decide +kernel
theorem dX1_change_27 : decode cX1_change 27 = .ok (.ireturn, 1) := by decide +kernel
theorem dX1_change_28 : decode cX1_change 28 = .ok (.aload_n 0, 1) := by decide +kernel
theorem dX1_change_29 : decode cX1_change 29 = .ok (.getfield 18, 3) := by decide +kernel
theorem dX1_change_32 : decode cX1_change 32 = .ok (.iload_n 1, 1) := by decide +kernel
theorem dX1_change_33 : decode cX1_change 33 = .ok (.iaload, 1) := by decide +kernel
theorem dX1_change_34 : decode cX1_change 34 = .ok (.istore_n 3, 1) := by decide +kernel
theorem dX1_change_35 : decode cX1_change 35 = .ok (.aload_n 0, 1) := by decide +kernel
theorem dX1_change_36 : decode cX1_change 36 = .ok (.getfield 18, 3) := by decide +kernel
theorem dX1_change_39 : decode cX1_change 39 = .ok (.iload_n 1, 1) := by decide +kernel
theorem dX1_change_40 : decode cX1_change 40 = .ok (.iload_n 2, 1) := by decide +kernel
theorem dX1_change_41 : decode cX1_change 41 = .ok (.iastore, 1) := by decide +kernel
theorem dX1_change_42 : decode cX1_change 42 = .ok (.iload_n 3, 1) := by decide +kernel
theorem dX1_change_43 : decode cX1_change 43 = .ok (.ireturn, 1) := by decide +kernel
theorem dX1_oscillatorFor_0 : decode cX1_oscillatorFor 0 = .ok (.aload_n 0, 1) := by decide +kernel
theorem dX1_oscillatorFor_1 : decode cX1_oscillatorFor 1 = .ok (.invokevirtual 42, 3) := by decide +kernel
theorem dX1_oscillatorFor_4 : decode cX1_oscillatorFor 4 = .ok (.ifCond .eq 14, 3) := by decide +kernel
theorem dX1_oscillatorFor_7 : decode cX1_oscillatorFor 7 = .ok (.aload_n 0, 1) := by decide +kernel
theorem dX1_oscillatorFor_8 : decode cX1_oscillatorFor 8 = .ok (.getfield 9, 3) := by decide +kernel
theorem dX1_oscillatorFor_11 : decode cX1_oscillatorFor 11 = .ok (.iload_n 1, 1) := by decide +kernel
theorem dX1_oscillatorFor_12 : decode cX1_oscillatorFor 12 = .ok (.iaload, 1) := by decide +kernel
theorem dX1_oscillatorFor_13 : decode cX1_oscillatorFor 13 = .ok (.iload_n 2, 1) := by decide +kernel
theorem dX1_oscillatorFor_14 : decode cX1_oscillatorFor 14 = .ok (.iadd, 1) := by decide +kernel
theorem dX1_oscillatorFor_15 : decode cX1_oscillatorFor 15 = .ok (.goto 11, 3) := by decide +kernel
theorem dX1_oscillatorFor_18 : decode cX1_oscillatorFor 18 = .ok (.aload_n 0, 1) := by decide +kernel
theorem dX1_oscillatorFor_19 : decode cX1_oscillatorFor 19 = .ok (.getfield 9, 3) := by decide +kernel
theorem dX1_oscillatorFor_22 : decode cX1_oscillatorFor 22 = .ok (.iload_n 1, 1) := by decide +kernel
theorem dX1_oscillatorFor_23 : decode cX1_oscillatorFor 23 = .ok (.iaload, 1) := by decide +kernel
theorem dX1_oscillatorFor_24 : decode cX1_oscillatorFor 24 = .ok (.iload_n 2, 1) := by decide +kernel
theorem dX1_oscillatorFor_25 : decode cX1_oscillatorFor 25 = .ok (.isub, 1) := by decide +kernel
theorem dX1_oscillatorFor_26 : decode cX1_oscillatorFor 26 = .ok (.ireturn, 1) := by decide +kernel
theorem dX1_spursOf_0 : decode cX1_spursOf 0 = .ok (.aload_n 0, 1) := by decide +kernel
theorem dX1_spursOf_1 : decode cX1_spursOf 1 = .ok (.iload_n 1, 1) := by decide +kernel
theorem dX1_spursOf_2 : decode cX1_spursOf 2 = .ok (.aload_n 0, 1) := by decide +kernel
theorem dX1_spursOf_3 : decode cX1_spursOf 3 = .ok (.invokevirtual 46, 3) := by decide +kernel
theorem dX1_spursOf_6 : decode cX1_spursOf 6 = .ok (.iconst (-1), 1) := by decide +kernel
theorem dX1_spursOf_7 : decode cX1_spursOf 7 = .ok (.invokevirtual 50, 3) := by decide +kernel
theorem dX1_spursOf_10 : decode cX1_spursOf 10 = .ok (.aload_n 0, 1) := by decide +kernel
theorem dX1_spursOf_11 : decode cX1_spursOf 11 = .ok (.getfield 24, 3) := by decide +kernel
theorem dX1_spursOf_14 : decode cX1_spursOf 14 = .ok (.invokevirtual 54, 3) := by decide +kernel
theorem dX1_spursOf_17 : decode cX1_spursOf 17 = .ok (.ireturn, 1) := by decide +kernel
theorem dX1_spursOfAll_0 : decode cX1_spursOfAll 0 = .ok (.iconst 0, 1) := by decide +kernel
theorem dX1_spursOfAll_1 : decode cX1_spursOfAll 1 = .ok (.istore_n 1, 1) := by decide +kernel
theorem dX1_spursOfAll_2 : decode cX1_spursOfAll 2 = .ok (.iconst 0, 1) := by decide +kernel
theorem dX1_spursOfAll_3 : decode cX1_spursOfAll 3 = .ok (.istore_n 2, 1) := by decide +kernel
theorem dX1_spursOfAll_4 : decode cX1_spursOfAll 4 = .ok (.iload_n 2, 1) := by decide +kernel
theorem dX1_spursOfAll_5 : decode cX1_spursOfAll 5 = .ok (.aload_n 0, 1) := by decide +kernel
theorem dX1_spursOfAll_6 : decode cX1_spursOfAll 6 = .ok (.getfield 28, 3) := by decide +kernel
theorem dX1_spursOfAll_9 : decode cX1_spursOfAll 9 = .ok (.if_icmp .ge 17, 3) := by decide +kernel
theorem dX1_spursOfAll_12 : decode cX1_spursOfAll 12 = .ok (.iload_n 1, 1) := by decide +kernel
theorem dX1_spursOfAll_13 : decode cX1_spursOfAll 13 = .ok (.aload_n 0, 1) := by decide +kernel
theorem dX1_spursOfAll_14 : decode cX1_spursOfAll 14 = .ok (.iload_n 2, 1) := by decide +kernel
theorem dX1_spursOfAll_15 : decode cX1_spursOfAll 15 = .ok (.invokevirtual 57, 3) := by decide +kernel
theorem dX1_spursOfAll_18 : decode cX1_spursOfAll 18 = .ok (.iadd, 1) := by decide +kernel
theorem dX1_spursOfAll_19 : decode cX1_spursOfAll 19 = .ok (.istore_n 1, 1) := by decide +kernel
theorem dX1_spursOfAll_20 : decode cX1_spursOfAll 20 = .ok (.iinc 2 1, 3) := by decide +kernel
theorem dX1_spursOfAll_23 : decode cX1_spursOfAll 23 = .ok (.goto (-19), 3) := by decide +kernel
theorem dX1_spursOfAll_26 : decode cX1_spursOfAll 26 = .ok (.iload_n 1, 1) := by decide +kernel
theorem dX1_spursOfAll_27 : decode cX1_spursOfAll 27 = .ok (.ireturn, 1) := by decide +kernel
theorem dX1_ofSpur_0 : decode cX1_ofSpur 0 = .ok (.iload_n 2, 1) := by decide +kernel
theorem dX1_ofSpur_1 : decode cX1_ofSpur 1 = .ok (.ifCond .lt 12, 3) := by decide +kernel
theorem dX1_ofSpur_4 : decode cX1_ofSpur 4 = .ok (.iload_n 3, 1) := by decide +kernel
theorem dX1_ofSpur_5 : decode cX1_ofSpur 5 = .ok (.iconst 0, 1) := by decide +kernel
theorem dX1_ofSpur_6 : decode cX1_ofSpur 6 = .ok (.iconst 4, 1) := by decide +kernel
theorem dX1_ofSpur_7 : decode cX1_ofSpur 7 = .ok (.invokestatic 32, 3) := by decide +kernel
theorem dX1_ofSpur_10 : decode cX1_ofSpur 10 = .ok (.ifCond .ne 5, 3) := by decide +kernel
theorem dX1_ofSpur_13 : decode cX1_ofSpur 13 = .ok (.iconst (-1), 1) := by decide +kernel
theorem dX1_ofSpur_14 : decode cX1_ofSpur 14 = .ok (.ireturn, 1) := by decide +kernel
theorem dX1_ofSpur_15 : decode cX1_ofSpur 15 = .ok (.aload_n 0, 1) := by decide +kernel
theorem dX1_ofSpur_16 : decode cX1_ofSpur 16 = .ok (.iload_n 1, 1) := by decide +kernel
theorem dX1_ofSpur_17 : decode cX1_ofSpur 17 = .ok (.aload_n 0, 1) := by decide +kernel
theorem dX1_ofSpur_18 : decode cX1_ofSpur 18 = .ok (.invokevirtual 46, 3) := by decide +kernel
theorem dX1_ofSpur_21 : decode cX1_ofSpur 21 = .ok (.iload_n 2, 1) := by decide +kernel
theorem dX1_ofSpur_22 : decode cX1_ofSpur 22 = .ok (.invokevirtual 50, 3) := by decide +kernel
theorem dX1_ofSpur_25 : decode cX1_ofSpur 25 = .ok (.iload_n 2, 1) := by decide +kernel
theorem dX1_ofSpur_26 : decode cX1_ofSpur 26 = .ok (.aload_n 0, 1) := by decide +kernel
theorem dX1_ofSpur_27 : decode cX1_ofSpur 27 = .ok (.getfield 24, 3) := by decide +kernel
theorem dX1_ofSpur_30 : decode cX1_ofSpur 30 = .ok (.invokevirtual 54, 3) := by decide +kernel
theorem dX1_ofSpur_33 : decode cX1_ofSpur 33 = .ok (.if_icmp .ge 14, 3) := by decide +kernel
theorem dX1_ofSpur_36 : decode cX1_ofSpur 36 = .ok (.aload_n 0, 1) := by decide +kernel
theorem dX1_ofSpur_37 : decode cX1_ofSpur 37 = .ok (.getfield 24, 3) := by decide +kernel
theorem dX1_ofSpur_40 : decode cX1_ofSpur 40 = .ok (.iload_n 3, 1) := by decide +kernel
theorem dX1_ofSpur_41 : decode cX1_ofSpur 41 = .ok (.invokevirtual 61, 3) := by decide +kernel
theorem dX1_ofSpur_44 : decode cX1_ofSpur 44 = .ok (.goto 4, 3) := by decide +kernel
theorem dX1_ofSpur_47 : decode cX1_ofSpur 47 = .ok (.iconst (-1), 1) := by decide +kernel
theorem dX1_ofSpur_48 : decode cX1_ofSpur 48 = .ok (.ireturn, 1) := by decide +kernel
theorem dX1_worstOf_0 : decode cX1_worstOf 0 = .ok (.aload_n 0, 1) := by decide +kernel
theorem dX1_worstOf_1 : decode cX1_worstOf 1 = .ok (.iload_n 1, 1) := by decide +kernel
theorem dX1_worstOf_2 : decode cX1_worstOf 2 = .ok (.aload_n 0, 1) := by decide +kernel
theorem dX1_worstOf_3 : decode cX1_worstOf 3 = .ok (.invokevirtual 46, 3) := by decide +kernel
theorem dX1_worstOf_6 : decode cX1_worstOf 6 = .ok (.iconst (-1), 1) := by decide +kernel
theorem dX1_worstOf_7 : decode cX1_worstOf 7 = .ok (.invokevirtual 50, 3) := by decide +kernel
theorem dX1_worstOf_10 : decode cX1_worstOf 10 = .ok (.aload_n 0, 1) := by decide +kernel
theorem dX1_worstOf_11 : decode cX1_worstOf 11 = .ok (.getfield 24, 3) := by decide +kernel
theorem dX1_worstOf_14 : decode cX1_worstOf 14 = .ok (.invokevirtual 54, 3) := by decide +kernel
theorem dX1_worstOf_17 : decode cX1_worstOf 17 = .ok (.ifCond .ne 8, 3) := by decide +kernel
theorem dX1_worstOf_20 : decode cX1_worstOf 20 = .ok (.bipush (-4), 2) := by decide +kernel
theorem dX1_worstOf_22 : decode cX1_worstOf 22 = .ok (.goto 10, 3) := by decide +kernel
theorem dX1_worstOf_25 : decode cX1_worstOf 25 = .ok (.aload_n 0, 1) := by decide +kernel
theorem dX1_worstOf_26 : decode cX1_worstOf 26 = .ok (.getfield 24, 3) := by decide +kernel
theorem dX1_worstOf_29 : decode cX1_worstOf 29 = .ok (.invokevirtual 64, 3) := by decide +kernel
theorem dX1_worstOf_32 : decode cX1_worstOf 32 = .ok (.ireturn, 1) := by decide +kernel
theorem dX1_isImage_0 : decode cX1_isImage 0 = .ok (.aload_n 0, 1) := by decide +kernel
theorem dX1_isImage_1 : decode cX1_isImage 1 = .ok (.iload_n 1, 1) := by decide +kernel
theorem dX1_isImage_2 : decode cX1_isImage 2 = .ok (.aload_n 0, 1) := by decide +kernel
theorem dX1_isImage_3 : decode cX1_isImage 3 = .ok (.invokevirtual 46, 3) := by decide +kernel
theorem dX1_isImage_6 : decode cX1_isImage 6 = .ok (.invokevirtual 67, 3) := by decide +kernel
theorem dX1_isImage_9 : decode cX1_isImage 9 = .ok (.istore_n 3, 1) := by decide +kernel
theorem dX1_isImage_10 : decode cX1_isImage 10 = .ok (.iload_n 1, 1) := by decide +kernel
theorem dX1_isImage_11 : decode cX1_isImage 11 = .ok (.iload_n 2, 1) := by decide +kernel
theorem dX1_isImage_12 : decode cX1_isImage 12 = .ok (.if_icmp .eq 30, 3) := by decide +kernel
theorem dX1_isImage_15 : decode cX1_isImage 15 = .ok (.iload_n 3, 1) := by decide +kernel
theorem dX1_isImage_16 : decode cX1_isImage 16 = .ok (.ifCond .le 26, 3) := by decide +kernel
theorem dX1_isImage_19 : decode cX1_isImage 19 = .ok (.aload_n 0, 1) := by decide +kernel
theorem dX1_isImage_20 : decode cX1_isImage 20 = .ok (.aload_n 0, 1) := by decide +kernel
theorem dX1_isImage_21 : decode cX1_isImage 21 = .ok (.getfield 9, 3) := by decide +kernel
theorem dX1_isImage_24 : decode cX1_isImage 24 = .ok (.iload_n 2, 1) := by decide +kernel
theorem dX1_isImage_25 : decode cX1_isImage 25 = .ok (.iaload, 1) := by decide +kernel
theorem dX1_isImage_26 : decode cX1_isImage 26 = .ok (.iload_n 3, 1) := by decide +kernel
theorem dX1_isImage_27 : decode cX1_isImage 27 = .ok (.isub, 1) := by decide +kernel
theorem dX1_isImage_28 : decode cX1_isImage 28 = .ok (.aload_n 0, 1) := by decide +kernel
theorem dX1_isImage_29 : decode cX1_isImage 29 = .ok (.invokevirtual 46, 3) := by decide +kernel
theorem dX1_isImage_32 : decode cX1_isImage 32 = .ok (.invokevirtual 71, 3) := by decide +kernel
theorem dX1_isImage_35 : decode cX1_isImage 35 = .ok (.ifCond .eq 7, 3) := by decide +kernel
theorem dX1_isImage_38 : decode cX1_isImage 38 = .ok (.iconst 1, 1) := by decide +kernel
theorem dX1_isImage_39 : decode cX1_isImage 39 = .ok (.goto 4, 3) := by decide +kernel
theorem dX1_isImage_42 : decode cX1_isImage 42 = .ok (.iconst 0, 1) := by decide +kernel
theorem dX1_isImage_43 : decode cX1_isImage 43 = .ok (.ireturn, 1) := by decide +kernel
theorem dX1_birdiesFor_0 : decode cX1_birdiesFor 0 = .ok (.iconst 0, 1) := by decide +kernel
theorem dX1_birdiesFor_1 : decode cX1_birdiesFor 1 = .ok (.istore_n 2, 1) := by decide +kernel
theorem dX1_birdiesFor_2 : decode cX1_birdiesFor 2 = .ok (.iconst 0, 1) := by decide +kernel
theorem dX1_birdiesFor_3 : decode cX1_birdiesFor 3 = .ok (.istore_n 3, 1) := by decide +kernel
theorem dX1_birdiesFor_4 : decode cX1_birdiesFor 4 = .ok (.iload_n 3, 1) := by decide +kernel
theorem dX1_birdiesFor_5 : decode cX1_birdiesFor 5 = .ok (.aload_n 0, 1) := by decide +kernel
theorem dX1_birdiesFor_6 : decode cX1_birdiesFor 6 = .ok (.getfield 28, 3) := by decide +kernel
theorem dX1_birdiesFor_9 : decode cX1_birdiesFor 9 = .ok (.if_icmp .ge 57, 3) := by decide +kernel
theorem dX1_birdiesFor_12 : decode cX1_birdiesFor 12 = .ok (.iconst 2, 1) := by decide +kernel
theorem dX1_birdiesFor_13 : decode cX1_birdiesFor 13 = .ok (.istore 4, 2) := by decide +kernel
theorem dX1_birdiesFor_15 : decode cX1_birdiesFor 15 = .ok (.iload 4, 2) := by decide +kernel
theorem dX1_birdiesFor_17 : decode cX1_birdiesFor 17 = .ok (.aload_n 0, 1) := by decide +kernel
theorem dX1_birdiesFor_18 : decode cX1_birdiesFor 18 = .ok (.getfield 18, 3) := by decide +kernel
theorem dX1_birdiesFor_21 : decode cX1_birdiesFor 21 = .ok (.iconst 2, 1) := by decide +kernel
theorem dX1_birdiesFor_22 : decode cX1_birdiesFor 22 = .ok (.iaload, 1) := by decide +kernel
theorem dX1_birdiesFor_23 : decode cX1_birdiesFor 23 = .ok (.iconst 3, 1) := by decide +kernel
theorem dX1_birdiesFor_24 : decode cX1_birdiesFor 24 = .ok (.iadd, 1) := by decide +kernel
theorem dX1_birdiesFor_25 : decode cX1_birdiesFor 25 = .ok (.if_icmp .gt 35, 3) := by decide +kernel
theorem dX1_birdiesFor_28 : decode cX1_birdiesFor 28 = .ok (.iload 4, 2) := by decide +kernel
theorem dX1_birdiesFor_30 : decode cX1_birdiesFor 30 = .ok (.iload_n 1, 1) := by decide +kernel
theorem dX1_birdiesFor_31 : decode cX1_birdiesFor 31 = .ok (.imul, 1) := by decide +kernel
theorem dX1_birdiesFor_32 : decode cX1_birdiesFor 32 = .ok (.aload_n 0, 1) := by decide +kernel
theorem dX1_birdiesFor_33 : decode cX1_birdiesFor 33 = .ok (.getfield 9, 3) := by decide +kernel
theorem dX1_birdiesFor_36 : decode cX1_birdiesFor 36 = .ok (.iload_n 3, 1) := by decide +kernel
theorem dX1_birdiesFor_37 : decode cX1_birdiesFor 37 = .ok (.iaload, 1) := by decide +kernel
theorem dX1_birdiesFor_38 : decode cX1_birdiesFor 38 = .ok (.isub, 1) := by decide +kernel
theorem dX1_birdiesFor_39 : decode cX1_birdiesFor 39 = .ok (.invokestatic 75, 3) := by decide +kernel
theorem dX1_birdiesFor_42 : decode cX1_birdiesFor 42 = .ok (.aload_n 0, 1) := by decide +kernel
theorem dX1_birdiesFor_43 : decode cX1_birdiesFor 43 = .ok (.getfield 18, 3) := by decide +kernel
theorem dX1_birdiesFor_46 : decode cX1_birdiesFor 46 = .ok (.iconst 3, 1) := by decide +kernel
theorem dX1_birdiesFor_47 : decode cX1_birdiesFor 47 = .ok (.iaload, 1) := by decide +kernel
theorem dX1_birdiesFor_48 : decode cX1_birdiesFor 48 = .ok (.if_icmp .gt 6, 3) := by decide +kernel
theorem dX1_birdiesFor_51 : decode cX1_birdiesFor 51 = .ok (.iinc 2 1, 3) := by decide +kernel
theorem dX1_birdiesFor_54 : decode cX1_birdiesFor 54 = .ok (.iinc 4 1, 3) := by decide +kernel
theorem dX1_birdiesFor_57 : decode cX1_birdiesFor 57 = .ok (.goto (-42), 3) := by decide +kernel
theorem dX1_birdiesFor_60 : decode cX1_birdiesFor 60 = .ok (.iinc 3 1, 3) := by decide +kernel
theorem dX1_birdiesFor_63 : decode cX1_birdiesFor 63 = .ok (.goto (-59), 3) := by decide +kernel
theorem dX1_birdiesFor_66 : decode cX1_birdiesFor 66 = .ok (.iload_n 2, 1) := by decide +kernel
theorem dX1_birdiesFor_67 : decode cX1_birdiesFor 67 = .ok (.ireturn, 1) := by decide +kernel
theorem dX1_loadFor_0 : decode cX1_loadFor 0 = .ok (.bipush 10, 2) := by decide +kernel
theorem dX1_loadFor_2 : decode cX1_loadFor 2 = .ok (.aload_n 0, 1) := by decide +kernel
theorem dX1_loadFor_3 : decode cX1_loadFor 3 = .ok (.iload_n 1, 1) := by decide +kernel
theorem dX1_loadFor_4 : decode cX1_loadFor 4 = .ok (.invokevirtual 80, 3) := by decide +kernel
theorem dX1_loadFor_7 : decode cX1_loadFor 7 = .ok (.imul, 1) := by decide +kernel
theorem dX1_loadFor_8 : decode cX1_loadFor 8 = .ok (.istore_n 2, 1) := by decide +kernel
theorem dX1_loadFor_9 : decode cX1_loadFor 9 = .ok (.iconst 0, 1) := by decide +kernel
theorem dX1_loadFor_10 : decode cX1_loadFor 10 = .ok (.istore_n 3, 1) := by decide +kernel
theorem dX1_loadFor_11 : decode cX1_loadFor 11 = .ok (.iload_n 3, 1) := by decide +kernel
theorem dX1_loadFor_12 : decode cX1_loadFor 12 = .ok (.aload_n 0, 1) := by decide +kernel
theorem dX1_loadFor_13 : decode cX1_loadFor 13 = .ok (.getfield 28, 3) := by decide +kernel
theorem dX1_loadFor_16 : decode cX1_loadFor 16 = .ok (.if_icmp .ge 41, 3) := by decide +kernel
theorem dX1_loadFor_19 : decode cX1_loadFor 19 = .ok (.aload_n 0, 1) := by decide +kernel
theorem dX1_loadFor_20 : decode cX1_loadFor 20 = .ok (.iload_n 3, 1) := by decide +kernel
theorem dX1_loadFor_21 : decode cX1_loadFor 21 = .ok (.iload_n 1, 1) := by decide +kernel
theorem dX1_loadFor_22 : decode cX1_loadFor 22 = .ok (.invokevirtual 67, 3) := by decide +kernel
theorem dX1_loadFor_25 : decode cX1_loadFor 25 = .ok (.ifCond .gt 9, 3) := by decide +kernel
theorem dX1_loadFor_28 : decode cX1_loadFor 28 = .ok (.iinc 2 100, 3) := by decide +kernel
theorem dX1_loadFor_31 : decode cX1_loadFor 31 = .ok (.goto 20, 3) := by decide +kernel
theorem dX1_loadFor_34 : decode cX1_loadFor 34 = .ok (.aload_n 0, 1) := by decide +kernel
theorem dX1_loadFor_35 : decode cX1_loadFor 35 = .ok (.iload_n 3, 1) := by decide +kernel
theorem dX1_loadFor_36 : decode cX1_loadFor 36 = .ok (.iload_n 1, 1) := by decide +kernel
theorem dX1_loadFor_37 : decode cX1_loadFor 37 = .ok (.iconst (-1), 1) := by decide +kernel
theorem dX1_loadFor_38 : decode cX1_loadFor 38 = .ok (.invokevirtual 50, 3) := by decide +kernel
theorem dX1_loadFor_41 : decode cX1_loadFor 41 = .ok (.iload_n 2, 1) := by decide +kernel
theorem dX1_loadFor_42 : decode cX1_loadFor 42 = .ok (.aload_n 0, 1) := by decide +kernel
theorem dX1_loadFor_43 : decode cX1_loadFor 43 = .ok (.getfield 24, 3) := by decide +kernel
theorem dX1_loadFor_46 : decode cX1_loadFor 46 = .ok (.invokevirtual 83, 3) := by decide +kernel
theorem dX1_loadFor_49 : decode cX1_loadFor 49 = .ok (.iadd, 1) := by decide +kernel
theorem dX1_loadFor_50 : decode cX1_loadFor 50 = .ok (.istore_n 2, 1) := by decide +kernel
theorem dX1_loadFor_51 : decode cX1_loadFor 51 = .ok (.iinc 3 1, 3) := by decide +kernel
theorem dX1_loadFor_54 : decode cX1_loadFor 54 = .ok (.goto (-43), 3) := by decide +kernel
theorem dX1_loadFor_57 : decode cX1_loadFor 57 = .ok (.iload_n 2, 1) := by decide +kernel
theorem dX1_loadFor_58 : decode cX1_loadFor 58 = .ok (.ireturn, 1) := by decide +kernel
theorem dX1_bestMiddle_0 : decode cX1_bestMiddle 0 = .ok (.iload_n 1, 1) := by decide +kernel
theorem dX1_bestMiddle_1 : decode cX1_bestMiddle 1 = .ok (.bipush 20, 2) := by decide +kernel
theorem dX1_bestMiddle_3 : decode cX1_bestMiddle 3 = .ok (.sipush 900, 3) := by decide +kernel
theorem dX1_bestMiddle_6 : decode cX1_bestMiddle 6 = .ok (.invokestatic 32, 3) := by decide +kernel
theorem dX1_bestMiddle_9 : decode cX1_bestMiddle 9 = .ok (.ifCond .eq 37, 3) := by decide +kernel
theorem dX1_bestMiddle_12 : decode cX1_bestMiddle 12 = .ok (.iload_n 2, 1) := by decide +kernel
theorem dX1_bestMiddle_13 : decode cX1_bestMiddle 13 = .ok (.iconst 1, 1) := by decide +kernel
theorem dX1_bestMiddle_14 : decode cX1_bestMiddle 14 = .ok (.bipush 99, 2) := by decide +kernel
theorem dX1_bestMiddle_16 : decode cX1_bestMiddle 16 = .ok (.invokestatic 32, 3) := by decide +kernel
theorem dX1_bestMiddle_19 : decode cX1_bestMiddle 19 = .ok (.ifCond .eq 27, 3) := by decide +kernel
theorem dX1_bestMiddle_22 : decode cX1_bestMiddle 22 = .ok (.iload_n 3, 1) := by decide +kernel
theorem dX1_bestMiddle_23 : decode cX1_bestMiddle 23 = .ok (.iconst 1, 1) := by decide +kernel
theorem dX1_bestMiddle_24 : decode cX1_bestMiddle 24 = .ok (.sipush 200, 3) := by decide +kernel
theorem dX1_bestMiddle_27 : decode cX1_bestMiddle 27 = .ok (.invokestatic 32, 3) := by decide +kernel
theorem dX1_bestMiddle_30 : decode cX1_bestMiddle 30 = .ok (.ifCond .eq 16, 3) := by decide +kernel
theorem dX1_bestMiddle_33 : decode cX1_bestMiddle 33 = .ok (.iload_n 1, 1) := by decide +kernel
theorem dX1_bestMiddle_34 : decode cX1_bestMiddle 34 = .ok (.iload_n 2, 1) := by decide +kernel
theorem dX1_bestMiddle_35 : decode cX1_bestMiddle 35 = .ok (.iload_n 3, 1) := by decide +kernel
theorem dX1_bestMiddle_36 : decode cX1_bestMiddle 36 = .ok (.iconst 1, 1) := by decide +kernel
theorem dX1_bestMiddle_37 : decode cX1_bestMiddle 37 = .ok (.isub, 1) := by decide +kernel
theorem dX1_bestMiddle_38 : decode cX1_bestMiddle 38 = .ok (.imul, 1) := by decide +kernel
theorem dX1_bestMiddle_39 : decode cX1_bestMiddle 39 = .ok (.iadd, 1) := by decide +kernel
theorem dX1_bestMiddle_40 : decode cX1_bestMiddle 40 = .ok (.sipush 900, 3) := by decide +kernel
theorem dX1_bestMiddle_43 : decode cX1_bestMiddle 43 = .ok (.if_icmp .le 5, 3) := by decide +kernel
theorem dX1_bestMiddle_46 : decode cX1_bestMiddle 46 = .ok (.iconst (-1), 1) := by decide +kernel
theorem dX1_bestMiddle_47 : decode cX1_bestMiddle 47 = .ok (.ireturn, 1) := by decide +kernel
theorem dX1_bestMiddle_48 : decode cX1_bestMiddle 48 = .ok (.iload_n 1, 1) := by decide +kernel
theorem dX1_bestMiddle_49 : decode cX1_bestMiddle 49 = .ok (.istore 4, 2) := by decide +kernel
theorem dX1_bestMiddle_51 : decode cX1_bestMiddle 51 = .ok (.aload_n 0, 1) := by decide +kernel
theorem dX1_bestMiddle_52 : decode cX1_bestMiddle 52 = .ok (.iload_n 1, 1) := by decide +kernel
theorem dX1_bestMiddle_53 : decode cX1_bestMiddle 53 = .ok (.invokevirtual 86, 3) := by decide +kernel
theorem dX1_bestMiddle_56 : decode cX1_bestMiddle 56 = .ok (.istore 5, 2) := by decide +kernel
theorem dX1_bestMiddle_58 : decode cX1_bestMiddle 58 = .ok (.iconst 1, 1) := by decide +kernel
theorem dX1_bestMiddle_59 : decode cX1_bestMiddle 59 = .ok (.istore 6, 2) := by decide +kernel
theorem dX1_bestMiddle_61 : decode cX1_bestMiddle 61 = .ok (.iload 6, 2) := by decide +kernel
theorem dX1_bestMiddle_63 : decode cX1_bestMiddle 63 = .ok (.iload_n 3, 1) := by decide +kernel
theorem dX1_bestMiddle_64 : decode cX1_bestMiddle 64 = .ok (.if_icmp .ge 40, 3) := by decide +kernel
theorem dX1_bestMiddle_67 : decode cX1_bestMiddle 67 = .ok (.aload_n 0, 1) := by decide +kernel
theorem dX1_bestMiddle_68 : decode cX1_bestMiddle 68 = .ok (.iload_n 1, 1) := by decide +kernel
theorem dX1_bestMiddle_69 : decode cX1_bestMiddle 69 = .ok (.iload_n 2, 1) := by decide +kernel
theorem dX1_bestMiddle_70 : decode cX1_bestMiddle 70 = .ok (.iload 6, 2) := by decide +kernel
theorem dX1_bestMiddle_72 : decode cX1_bestMiddle 72 = .ok (.imul, 1) := by decide +kernel
theorem dX1_bestMiddle_73 : decode cX1_bestMiddle 73 = .ok (.iadd, 1) := by decide +kernel
theorem dX1_bestMiddle_74 : decode cX1_bestMiddle 74 = .ok (.invokevirtual 86, 3) := by decide +kernel
theorem dX1_bestMiddle_77 : decode cX1_bestMiddle 77 = .ok (.istore 7, 2) := by decide +kernel
theorem dX1_bestMiddle_79 : decode cX1_bestMiddle 79 = .ok (.iload 7, 2) := by decide +kernel
theorem dX1_bestMiddle_81 : decode cX1_bestMiddle 81 = .ok (.iload 5, 2) := by decide +kernel
theorem dX1_bestMiddle_83 : decode cX1_bestMiddle 83 = .ok (.if_icmp .ge 15, 3) := by decide +kernel
theorem dX1_bestMiddle_86 : decode cX1_bestMiddle 86 = .ok (.iload 7, 2) := by decide +kernel
theorem dX1_bestMiddle_88 : decode cX1_bestMiddle 88 = .ok (.istore 5, 2) := by decide +kernel
theorem dX1_bestMiddle_90 : decode cX1_bestMiddle 90 = .ok (.iload_n 1, 1) := by decide +kernel
theorem dX1_bestMiddle_91 : decode cX1_bestMiddle 91 = .ok (.iload_n 2, 1) := by decide +kernel
theorem dX1_bestMiddle_92 : decode cX1_bestMiddle 92 = .ok (.iload 6, 2) := by decide +kernel
theorem dX1_bestMiddle_94 : decode cX1_bestMiddle 94 = .ok (.imul, 1) := by decide +kernel
theorem dX1_bestMiddle_95 : decode cX1_bestMiddle 95 = .ok (.iadd, 1) := by decide +kernel
theorem dX1_bestMiddle_96 : decode cX1_bestMiddle 96 = .ok (.istore 4, 2) := by decide +kernel
theorem dX1_bestMiddle_98 : decode cX1_bestMiddle 98 = .ok (.iinc 6 1, 3) := by decide +kernel
theorem dX1_bestMiddle_101 : decode cX1_bestMiddle 101 = .ok (.goto (-40), 3) := by decide +kernel
theorem dX1_bestMiddle_104 : decode cX1_bestMiddle 104 = .ok (.iload 4, 2) := by decide +kernel
theorem dX1_bestMiddle_106 : decode cX1_bestMiddle 106 = .ok (.ireturn, 1) := by decide +kernel
theorem dX1_gather_0 : decode cX1_gather 0 = .ok (.aload_n 0, 1) := by decide +kernel
theorem dX1_gather_1 : decode cX1_gather 1 = .ok (.getfield 24, 3) := by decide +kernel
theorem dX1_gather_4 : decode cX1_gather 4 = .ok (.iload_n 3, 1) := by decide +kernel
theorem dX1_gather_5 : decode cX1_gather 5 = .ok (.invokevirtual 89, 3) := by decide +kernel
theorem dX1_gather_8 : decode cX1_gather 8 = .ok (.aload_n 0, 1) := by decide +kernel
theorem dX1_gather_9 : decode cX1_gather 9 = .ok (.iload_n 1, 1) := by decide +kernel
theorem dX1_gather_10 : decode cX1_gather 10 = .ok (.iload_n 2, 1) := by decide +kernel
theorem dX1_gather_11 : decode cX1_gather 11 = .ok (.invokevirtual 67, 3) := by decide +kernel
theorem dX1_gather_14 : decode cX1_gather 14 = .ok (.istore 4, 2) := by decide +kernel
theorem dX1_gather_16 : decode cX1_gather 16 = .ok (.iload 4, 2) := by decide +kernel
theorem dX1_gather_18 : decode cX1_gather 18 = .ok (.ifCond .gt 4, 3) := by decide +kernel
theorem dX1_gather_21 : decode cX1_gather 21 = .ok (.return_, 1) := by decide +kernel
theorem dX1_gather_22 : decode cX1_gather 22 = .ok (.iconst 0, 1) := by decide +kernel
theorem dX1_gather_23 : decode cX1_gather 23 = .ok (.istore 5, 2) := by decide +kernel
theorem dX1_gather_25 : decode cX1_gather 25 = .ok (.iload 5, 2) := by decide +kernel
theorem dX1_gather_27 : decode cX1_gather 27 = .ok (.aload_n 0, 1) := by decide +kernel
theorem dX1_gather_28 : decode cX1_gather 28 = .ok (.getfield 28, 3) := by decide +kernel
theorem dX1_gather_31 : decode cX1_gather 31 = .ok (.if_icmp .ge 61, 3) := by decide +kernel
theorem dX1_gather_34 : decode cX1_gather 34 = .ok (.iconst 1, 1) := by decide +kernel
theorem dX1_gather_35 : decode cX1_gather 35 = .ok (.istore 6, 2) := by decide +kernel
theorem dX1_gather_37 : decode cX1_gather 37 = .ok (.iload 6, 2) := by decide +kernel
theorem dX1_gather_39 : decode cX1_gather 39 = .ok (.aload_n 0, 1) := by decide +kernel
theorem dX1_gather_40 : decode cX1_gather 40 = .ok (.getfield 18, 3) := by decide +kernel
theorem dX1_gather_43 : decode cX1_gather 43 = .ok (.iconst 2, 1) := by decide +kernel
theorem dX1_gather_44 : decode cX1_gather 44 = .ok (.iaload, 1) := by decide +kernel
theorem dX1_gather_45 : decode cX1_gather 45 = .ok (.if_icmp .gt 41, 3) := by decide +kernel
theorem dX1_gather_48 : decode cX1_gather 48 = .ok (.iload 5, 2) := by decide +kernel
theorem dX1_gather_50 : decode cX1_gather 50 = .ok (.iload_n 1, 1) := by decide +kernel
theorem dX1_gather_51 : decode cX1_gather 51 = .ok (.if_icmp .ne 13, 3) := by decide +kernel
theorem dX1_gather_54 : decode cX1_gather 54 = .ok (.iload 6, 2) := by decide +kernel
theorem dX1_gather_56 : decode cX1_gather 56 = .ok (.iconst 1, 1) := by decide +kernel
theorem dX1_gather_57 : decode cX1_gather 57 = .ok (.if_icmp .ne 7, 3) := by decide +kernel
theorem dX1_gather_60 : decode cX1_gather 60 = .ok (.iconst 2, 1) := by decide +kernel
theorem dX1_gather_61 : decode cX1_gather 61 = .ok (.goto 4, 3) := by decide +kernel
theorem dX1_gather_64 : decode cX1_gather 64 = .ok (.iconst 1, 1) := by decide +kernel
theorem dX1_gather_65 : decode cX1_gather 65 = .ok (.istore 7, 2) := by decide +kernel
theorem dX1_gather_67 : decode cX1_gather 67 = .ok (.aload_n 0, 1) := by decide +kernel
theorem dX1_gather_68 : decode cX1_gather 68 = .ok (.iload 5, 2) := by decide +kernel
theorem dX1_gather_70 : decode cX1_gather 70 = .ok (.iload 6, 2) := by decide +kernel
theorem dX1_gather_72 : decode cX1_gather 72 = .ok (.iload 7, 2) := by decide +kernel
theorem dX1_gather_74 : decode cX1_gather 74 = .ok (.iload 4, 2) := by decide +kernel
theorem dX1_gather_76 : decode cX1_gather 76 = .ok (.iload_n 2, 1) := by decide +kernel
theorem dX1_gather_77 : decode cX1_gather 77 = .ok (.invokevirtual 93, 3) := by decide +kernel
theorem dX1_gather_80 : decode cX1_gather 80 = .ok (.iinc 6 1, 3) := by decide +kernel
theorem dX1_gather_83 : decode cX1_gather 83 = .ok (.goto (-46), 3) := by decide +kernel
theorem dX1_gather_86 : decode cX1_gather 86 = .ok (.iinc 5 1, 3) := by decide +kernel
theorem dX1_gather_89 : decode cX1_gather 89 = .ok (.goto (-64), 3) := by decide +kernel
theorem dX1_gather_92 : decode cX1_gather 92 = .ok (.return_, 1) := by decide +kernel
theorem dX1_gatherSums_0 : decode cX1_gatherSums 0 = .ok (.iload_n 2, 1) := by decide +kernel
theorem dX1_gatherSums_1 : decode cX1_gatherSums 1 = .ok (.aload_n 0, 1) := by decide +kernel
theorem dX1_gatherSums_2 : decode cX1_gatherSums 2 = .ok (.getfield 9, 3) := by decide +kernel
theorem dX1_gatherSums_5 : decode cX1_gatherSums 5 = .ok (.iload_n 1, 1) := by decide +kernel
theorem dX1_gatherSums_6 : decode cX1_gatherSums 6 = .ok (.iaload, 1) := by decide +kernel
theorem dX1_gatherSums_7 : decode cX1_gatherSums 7 = .ok (.imul, 1) := by decide +kernel
theorem dX1_gatherSums_8 : decode cX1_gatherSums 8 = .ok (.istore 6, 2) := by decide +kernel
theorem dX1_gatherSums_10 : decode cX1_gatherSums 10 = .ok (.iload 5, 2) := by decide +kernel
theorem dX1_gatherSums_12 : decode cX1_gatherSums 12 = .ok (.aload_n 0, 1) := by decide +kernel
theorem dX1_gatherSums_13 : decode cX1_gatherSums 13 = .ok (.getfield 18, 3) := by decide +kernel
theorem dX1_gatherSums_16 : decode cX1_gatherSums 16 = .ok (.iconst 3, 1) := by decide +kernel
theorem dX1_gatherSums_17 : decode cX1_gatherSums 17 = .ok (.iaload, 1) := by decide +kernel
theorem dX1_gatherSums_18 : decode cX1_gatherSums 18 = .ok (.iadd, 1) := by decide +kernel
theorem dX1_gatherSums_19 : decode cX1_gatherSums 19 = .ok (.istore 7, 2) := by decide +kernel
theorem dX1_gatherSums_21 : decode cX1_gatherSums 21 = .ok (.iload_n 3, 1) := by decide +kernel
theorem dX1_gatherSums_22 : decode cX1_gatherSums 22 = .ok (.istore 8, 2) := by decide +kernel
theorem dX1_gatherSums_24 : decode cX1_gatherSums 24 = .ok (.iload 8, 2) := by decide +kernel
theorem dX1_gatherSums_26 : decode cX1_gatherSums 26 = .ok (.aload_n 0, 1) := by decide +kernel
theorem dX1_gatherSums_27 : decode cX1_gatherSums 27 = .ok (.getfield 18, 3) := by decide +kernel
theorem dX1_gatherSums_30 : decode cX1_gatherSums 30 = .ok (.iconst 2, 1) := by decide +kernel
theorem dX1_gatherSums_31 : decode cX1_gatherSums 31 = .ok (.iaload, 1) := by decide +kernel
theorem dX1_gatherSums_32 : decode cX1_gatherSums 32 = .ok (.if_icmp .gt 103, 3) := by decide +kernel
theorem dX1_gatherSums_35 : decode cX1_gatherSums 35 = .ok (.iload 8, 2) := by decide +kernel
theorem dX1_gatherSums_37 : decode cX1_gatherSums 37 = .ok (.iload 4, 2) := by decide +kernel
theorem dX1_gatherSums_39 : decode cX1_gatherSums 39 = .ok (.imul, 1) := by decide +kernel
theorem dX1_gatherSums_40 : decode cX1_gatherSums 40 = .ok (.istore 9, 2) := by decide +kernel
theorem dX1_gatherSums_42 : decode cX1_gatherSums 42 = .ok (.iload 9, 2) := by decide +kernel
theorem dX1_gatherSums_44 : decode cX1_gatherSums 44 = .ok (.iload 6, 2) := by decide +kernel
theorem dX1_gatherSums_46 : decode cX1_gatherSums 46 = .ok (.isub, 1) := by decide +kernel
theorem dX1_gatherSums_47 : decode cX1_gatherSums 47 = .ok (.iload 7, 2) := by decide +kernel
theorem dX1_gatherSums_49 : decode cX1_gatherSums 49 = .ok (.if_icmp .le 6, 3) := by decide +kernel
theorem dX1_gatherSums_52 : decode cX1_gatherSums 52 = .ok (.goto 83, 3) := by decide +kernel
theorem dX1_gatherSums_55 : decode cX1_gatherSums 55 = .ok (.aload_n 0, 1) := by decide +kernel
theorem dX1_gatherSums_56 : decode cX1_gatherSums 56 = .ok (.iload 6, 2) := by decide +kernel
theorem dX1_gatherSums_58 : decode cX1_gatherSums 58 = .ok (.iload 9, 2) := by decide +kernel
theorem dX1_gatherSums_60 : decode cX1_gatherSums 60 = .ok (.iadd, 1) := by decide +kernel
theorem dX1_gatherSums_61 : decode cX1_gatherSums 61 = .ok (.iload 5, 2) := by decide +kernel
theorem dX1_gatherSums_63 : decode cX1_gatherSums 63 = .ok (.invokevirtual 71, 3) := by decide +kernel
theorem dX1_gatherSums_66 : decode cX1_gatherSums 66 = .ok (.ifCond .eq 26, 3) := by decide +kernel
theorem dX1_gatherSums_69 : decode cX1_gatherSums 69 = .ok (.aload_n 0, 1) := by decide +kernel
theorem dX1_gatherSums_70 : decode cX1_gatherSums 70 = .ok (.getfield 24, 3) := by decide +kernel
theorem dX1_gatherSums_73 : decode cX1_gatherSums 73 = .ok (.iload_n 1, 1) := by decide +kernel
theorem dX1_gatherSums_74 : decode cX1_gatherSums 74 = .ok (.iload_n 2, 1) := by decide +kernel
theorem dX1_gatherSums_75 : decode cX1_gatherSums 75 = .ok (.iload 8, 2) := by decide +kernel
theorem dX1_gatherSums_77 : decode cX1_gatherSums 77 = .ok (.iconst 1, 1) := by decide +kernel
theorem dX1_gatherSums_78 : decode cX1_gatherSums 78 = .ok (.aload_n 0, 1) := by decide +kernel
theorem dX1_gatherSums_79 : decode cX1_gatherSums 79 = .ok (.getfield 15, 3) := by decide +kernel
theorem dX1_gatherSums_82 : decode cX1_gatherSums 82 = .ok (.iload_n 1, 1) := by decide +kernel
theorem dX1_gatherSums_83 : decode cX1_gatherSums 83 = .ok (.iaload, 1) := by decide +kernel
theorem dX1_gatherSums_84 : decode cX1_gatherSums 84 = .ok (.iload_n 2, 1) := by decide +kernel
theorem dX1_gatherSums_85 : decode cX1_gatherSums 85 = .ok (.iload 8, 2) := by decide +kernel
theorem dX1_gatherSums_87 : decode cX1_gatherSums 87 = .ok (.imul, 1) := by decide +kernel
theorem dX1_gatherSums_88 : decode cX1_gatherSums 88 = .ok (.idiv, 1) := by decide +kernel
theorem dX1_gatherSums_89 : decode cX1_gatherSums 89 = .ok (.invokevirtual 97, 3) := by decide +kernel
theorem dX1_gatherSums_92 : decode cX1_gatherSums 92 = .ok (.aload_n 0, 1) := by decide +kernel
theorem dX1_gatherSums_93 : decode cX1_gatherSums 93 = .ok (.iload 6, 2) := by decide +kernel
theorem dX1_gatherSums_95 : decode cX1_gatherSums 95 = .ok (.iload 9, 2) := by decide +kernel
theorem dX1_gatherSums_97 : decode cX1_gatherSums 97 = .ok (.isub, 1) := by decide +kernel
theorem dX1_gatherSums_98 : decode cX1_gatherSums 98 = .ok (.iload 5, 2) := by decide +kernel
