theorem dX7_part_15 : decode cX7_part 15 = .ok (.iaload, 1) := by decide +kernel
theorem dX7_part_16 : decode cX7_part 16 = .ok (.istore_n 3, 1) := by decide +kernel
theorem dX7_part_17 : decode cX7_part 17 = .ok (.aload_n 0, 1) := by decide +kernel
theorem dX7_part_18 : decode cX7_part 18 = .ok (.getfield 35, 3) := by decide +kernel
theorem dX7_part_21 : decode cX7_part 21 = .ok (.iload_n 1, 1) := by decide +kernel
theorem dX7_part_22 : decode cX7_part 22 = .ok (.iload_n 2, 1) := by decide +kernel
theorem dX7_part_23 : decode cX7_part 23 = .ok (.iastore, 1) := by decide +kernel
theorem dX7_part_24 : decode cX7_part 24 = .ok (.iload_n 3, 1) := by decide +kernel
theorem dX7_part_25 : decode cX7_part 25 = .ok (.ireturn, 1) := by decide +kernel
theorem dX7_gangAt_0 : decode cX7_gangAt 0 = .ok (.aload_n 0, 1) := by decide +kernel
theorem dX7_gangAt_1 : decode cX7_gangAt 1 = .ok (.getfield 29, 3) := by decide +kernel
theorem dX7_gangAt_4 : decode cX7_gangAt 4 = .ok (.aload_n 0, 1) := by decide +kernel
theorem dX7_gangAt_5 : decode cX7_gangAt 5 = .ok (.getfield 32, 3) := by decide +kernel
theorem dX7_gangAt_8 : decode cX7_gangAt 8 = .ok (.aload_n 0, 1) := by decide +kernel
theorem dX7_gangAt_9 : decode cX7_gangAt 9 = .ok (.getfield 29, 3) := by decide +kernel
theorem dX7_gangAt_12 : decode cX7_gangAt 12 = .ok (.isub, 1) := by decide +kernel
theorem dX7_gangAt_13 : decode cX7_gangAt 13 = .ok (.iload_n 1, 1) := by decide +kernel
theorem dX7_gangAt_14 : decode cX7_gangAt 14 = .ok (.imul, 1) := by decide +kernel
theorem dX7_gangAt_15 : decode cX7_gangAt 15 = .ok (.bipush 100, 2) := by decide +kernel
theorem dX7_gangAt_17 : decode cX7_gangAt 17 = .ok (.idiv, 1) := by decide +kernel
theorem dX7_gangAt_18 : decode cX7_gangAt 18 = .ok (.iadd, 1) := by decide +kernel
theorem dX7_gangAt_19 : decode cX7_gangAt 19 = .ok (.ireturn, 1) := by decide +kernel
theorem dX7_root_0 : decode cX7_root 0 = .ok (.lconst 0, 1) := by decide +kernel
theorem dX7_root_1 : decode cX7_root 1 = .ok (.lstore_n 2, 1) := by decide +kernel
theorem dX7_root_2 : decode cX7_root 2 = .ok (.ldc2_w 129, 3) := by decide +kernel
theorem dX7_root_5 : decode cX7_root 5 = .ok (.lstore 4, 2) := by decide +kernel
theorem dX7_root_7 : decode cX7_root 7 = .ok (.lload_n 2, 1) := by decide +kernel
theorem dX7_root_8 : decode cX7_root 8 = .ok (.lload 4, 2) := by decide +kernel
theorem dX7_root_10 : decode cX7_root 10 = .ok (.lcmp, 1) := by decide +kernel
theorem dX7_root_11 : decode cX7_root 11 = .ok (.ifCond .ge 40, 3) := by decide +kernel
theorem dX7_root_14 : decode cX7_root 14 = .ok (.lload_n 2, 1) := by decide +kernel
theorem dX7_root_15 : decode cX7_root 15 = .ok (.lload 4, 2) := by decide +kernel
theorem dX7_root_17 : decode cX7_root 17 = .ok (.ladd, 1) := by decide +kernel
theorem dX7_root_18 : decode cX7_root 18 = .ok (.lconst 1, 1) := by decide +kernel
theorem dX7_root_19 : decode cX7_root 19 = .ok (.ladd, 1) := by decide +kernel
theorem dX7_root_20 : decode cX7_root 20 = .ok (.ldc2_w 131, 3) := by decide +kernel
theorem dX7_root_23 : decode cX7_root 23 = .ok (.ldiv, 1) := by decide +kernel
theorem dX7_root_24 : decode cX7_root 24 = .ok (.lstore 6, 2) := by decide +kernel
theorem dX7_root_26 : decode cX7_root 26 = .ok (.lload 6, 2) := by decide +kernel
theorem dX7_root_28 : decode cX7_root 28 = .ok (.lload 6, 2) := by decide +kernel
theorem dX7_root_30 : decode cX7_root 30 = .ok (.lmul, 1) := by decide +kernel
theorem dX7_root_31 : decode cX7_root 31 = .ok (.lload_n 0, 1) := by decide +kernel
theorem dX7_root_32 : decode cX7_root 32 = .ok (.lcmp, 1) := by decide +kernel
theorem dX7_root_33 : decode cX7_root 33 = .ok (.ifCond .gt 9, 3) := by decide +kernel
theorem dX7_root_36 : decode cX7_root 36 = .ok (.lload 6, 2) := by decide +kernel
theorem dX7_root_38 : decode cX7_root 38 = .ok (.lstore_n 2, 1) := by decide +kernel
theorem dX7_root_39 : decode cX7_root 39 = .ok (.goto 9, 3) := by decide +kernel
theorem dX7_root_42 : decode cX7_root 42 = .ok (.lload 6, 2) := by decide +kernel
theorem dX7_root_44 : decode cX7_root 44 = .ok (.lconst 1, 1) := by decide +kernel
theorem dX7_root_45 : decode cX7_root 45 = .ok (.lsub, 1) := by decide +kernel
theorem dX7_root_46 : decode cX7_root 46 = .ok (.lstore 4, 2) := by decide +kernel
theorem dX7_root_48 : decode cX7_root 48 = .ok (.goto (-41), 3) := by decide +kernel
theorem dX7_root_51 : decode cX7_root 51 = .ok (.lload_n 2, 1) := by decide +kernel
theorem dX7_root_52 : decode cX7_root 52 = .ok (.l2i, 1) := by decide +kernel
theorem dX7_root_53 : decode cX7_root 53 = .ok (.ireturn, 1) := by decide +kernel
theorem dX7_tunedTo_0 : decode cX7_tunedTo 0 = .ok (.ldc2_w 133, 3) := by decide +kernel
theorem dX7_tunedTo_3 : decode cX7_tunedTo 3 = .ok (.iload_n 0, 1) := by decide +kernel
theorem dX7_tunedTo_4 : decode cX7_tunedTo 4 = .ok (.i2l, 1) := by decide +kernel
theorem dX7_tunedTo_5 : decode cX7_tunedTo 5 = .ok (.iload_n 1, 1) := by decide +kernel
theorem dX7_tunedTo_6 : decode cX7_tunedTo 6 = .ok (.i2l, 1) := by decide +kernel
theorem dX7_tunedTo_7 : decode cX7_tunedTo 7 = .ok (.lmul, 1) := by decide +kernel
theorem dX7_tunedTo_8 : decode cX7_tunedTo 8 = .ok (.ldiv, 1) := by decide +kernel
theorem dX7_tunedTo_9 : decode cX7_tunedTo 9 = .ok (.invokestatic 135, 3) := by decide +kernel
theorem dX7_tunedTo_12 : decode cX7_tunedTo 12 = .ok (.ireturn, 1) := by decide +kernel
theorem dX7_signalAt_0 : decode cX7_signalAt 0 = .ok (.iload_n 3, 1) := by decide +kernel
theorem dX7_signalAt_1 : decode cX7_signalAt 1 = .ok (.aload_n 0, 1) := by decide +kernel
theorem dX7_signalAt_2 : decode cX7_signalAt 2 = .ok (.iload_n 1, 1) := by decide +kernel
theorem dX7_signalAt_3 : decode cX7_signalAt 3 = .ok (.invokevirtual 139, 3) := by decide +kernel
theorem dX7_signalAt_6 : decode cX7_signalAt 6 = .ok (.iload_n 2, 1) := by decide +kernel
theorem dX7_signalAt_7 : decode cX7_signalAt 7 = .ok (.iadd, 1) := by decide +kernel
theorem dX7_signalAt_8 : decode cX7_signalAt 8 = .ok (.invokestatic 142, 3) := by decide +kernel
theorem dX7_signalAt_11 : decode cX7_signalAt 11 = .ok (.ireturn, 1) := by decide +kernel
theorem dX7_oscillatorAt_0 : decode cX7_oscillatorAt 0 = .ok (.aload_n 0, 1) := by decide +kernel
theorem dX7_oscillatorAt_1 : decode cX7_oscillatorAt 1 = .ok (.iload_n 1, 1) := by decide +kernel
theorem dX7_oscillatorAt_2 : decode cX7_oscillatorAt 2 = .ok (.invokevirtual 139, 3) := by decide +kernel
theorem dX7_oscillatorAt_5 : decode cX7_oscillatorAt 5 = .ok (.iload_n 2, 1) := by decide +kernel
theorem dX7_oscillatorAt_6 : decode cX7_oscillatorAt 6 = .ok (.iadd, 1) := by decide +kernel
theorem dX7_oscillatorAt_7 : decode cX7_oscillatorAt 7 = .ok (.istore 5, 2) := by decide +kernel
theorem dX7_oscillatorAt_9 : decode cX7_oscillatorAt 9 = .ok (.iload_n 3, 1) := by decide +kernel
theorem dX7_oscillatorAt_10 : decode cX7_oscillatorAt 10 = .ok (.i2l, 1) := by decide +kernel
theorem dX7_oscillatorAt_11 : decode cX7_oscillatorAt 11 = .ok (.iload 5, 2) := by decide +kernel
theorem dX7_oscillatorAt_13 : decode cX7_oscillatorAt 13 = .ok (.i2l, 1) := by decide +kernel
theorem dX7_oscillatorAt_14 : decode cX7_oscillatorAt 14 = .ok (.lmul, 1) := by decide +kernel
theorem dX7_oscillatorAt_15 : decode cX7_oscillatorAt 15 = .ok (.iload_n 3, 1) := by decide +kernel
theorem dX7_oscillatorAt_16 : decode cX7_oscillatorAt 16 = .ok (.iload 5, 2) := by decide +kernel
theorem dX7_oscillatorAt_18 : decode cX7_oscillatorAt 18 = .ok (.iadd, 1) := by decide +kernel
theorem dX7_oscillatorAt_19 : decode cX7_oscillatorAt 19 = .ok (.i2l, 1) := by decide +kernel
theorem dX7_oscillatorAt_20 : decode cX7_oscillatorAt 20 = .ok (.ldiv, 1) := by decide +kernel
theorem dX7_oscillatorAt_21 : decode cX7_oscillatorAt 21 = .ok (.l2i, 1) := by decide +kernel
theorem dX7_oscillatorAt_22 : decode cX7_oscillatorAt 22 = .ok (.istore 6, 2) := by decide +kernel
theorem dX7_oscillatorAt_24 : decode cX7_oscillatorAt 24 = .ok (.iload 4, 2) := by decide +kernel
theorem dX7_oscillatorAt_26 : decode cX7_oscillatorAt 26 = .ok (.iload 6, 2) := by decide +kernel
theorem dX7_oscillatorAt_28 : decode cX7_oscillatorAt 28 = .ok (.iconst 1, 1) := by decide +kernel
theorem dX7_oscillatorAt_29 : decode cX7_oscillatorAt 29 = .ok (.if_icmp .ge 7, 3) := by decide +kernel
theorem dX7_oscillatorAt_32 : decode cX7_oscillatorAt 32 = .ok (.iconst 1, 1) := by decide +kernel
theorem dX7_oscillatorAt_33 : decode cX7_oscillatorAt 33 = .ok (.goto 5, 3) := by decide +kernel
theorem dX7_oscillatorAt_36 : decode cX7_oscillatorAt 36 = .ok (.iload 6, 2) := by decide +kernel
theorem dX7_oscillatorAt_38 : decode cX7_oscillatorAt 38 = .ok (.invokestatic 142, 3) := by decide +kernel
theorem dX7_oscillatorAt_41 : decode cX7_oscillatorAt 41 = .ok (.ireturn, 1) := by decide +kernel
theorem dX7_errorBy_0 : decode cX7_errorBy 0 = .ok (.aload_n 0, 1) := by decide +kernel
theorem dX7_errorBy_1 : decode cX7_errorBy 1 = .ok (.getfield 20, 3) := by decide +kernel
theorem dX7_errorBy_4 : decode cX7_errorBy 4 = .ok (.iconst 1, 1) := by decide +kernel
theorem dX7_errorBy_5 : decode cX7_errorBy 5 = .ok (.if_icmp .ne 11, 3) := by decide +kernel
theorem dX7_errorBy_8 : decode cX7_errorBy 8 = .ok (.iload_n 2, 1) := by decide +kernel
theorem dX7_errorBy_9 : decode cX7_errorBy 9 = .ok (.iload_n 1, 1) := by decide +kernel
theorem dX7_errorBy_10 : decode cX7_errorBy 10 = .ok (.isub, 1) := by decide +kernel
theorem dX7_errorBy_11 : decode cX7_errorBy 11 = .ok (.iload_n 3, 1) := by decide +kernel
theorem dX7_errorBy_12 : decode cX7_errorBy 12 = .ok (.isub, 1) := by decide +kernel
theorem dX7_errorBy_13 : decode cX7_errorBy 13 = .ok (.goto 8, 3) := by decide +kernel
theorem dX7_errorBy_16 : decode cX7_errorBy 16 = .ok (.iload_n 1, 1) := by decide +kernel
theorem dX7_errorBy_17 : decode cX7_errorBy 17 = .ok (.iload_n 2, 1) := by decide +kernel
theorem dX7_errorBy_18 : decode cX7_errorBy 18 = .ok (.isub, 1) := by decide +kernel
theorem dX7_errorBy_19 : decode cX7_errorBy 19 = .ok (.iload_n 3, 1) := by decide +kernel
theorem dX7_errorBy_20 : decode cX7_errorBy 20 = .ok (.isub, 1) := by decide +kernel
theorem dX7_errorBy_21 : decode cX7_errorBy 21 = .ok (.ireturn, 1) := by decide +kernel
theorem dX7_errorAt_0 : decode cX7_errorAt 0 = .ok (.aload_n 0, 1) := by decide +kernel
theorem dX7_errorAt_1 : decode cX7_errorAt 1 = .ok (.aload_n 0, 1) := by decide +kernel
theorem dX7_errorAt_2 : decode cX7_errorAt 2 = .ok (.iload_n 1, 1) := by decide +kernel
theorem dX7_errorAt_3 : decode cX7_errorAt 3 = .ok (.iload_n 2, 1) := by decide +kernel
theorem dX7_errorAt_4 : decode cX7_errorAt 4 = .ok (.iload 5, 2) := by decide +kernel
theorem dX7_errorAt_6 : decode cX7_errorAt 6 = .ok (.invokevirtual 145, 3) := by decide +kernel
theorem dX7_errorAt_9 : decode cX7_errorAt 9 = .ok (.aload_n 0, 1) := by decide +kernel
theorem dX7_errorAt_10 : decode cX7_errorAt 10 = .ok (.iload_n 1, 1) := by decide +kernel
theorem dX7_errorAt_11 : decode cX7_errorAt 11 = .ok (.iload_n 3, 1) := by decide +kernel
theorem dX7_errorAt_12 : decode cX7_errorAt 12 = .ok (.iload 4, 2) := by decide +kernel
theorem dX7_errorAt_14 : decode cX7_errorAt 14 = .ok (.iload 6, 2) := by decide +kernel
theorem dX7_errorAt_16 : decode cX7_errorAt 16 = .ok (.invokevirtual 148, 3) := by decide +kernel
theorem dX7_errorAt_19 : decode cX7_errorAt 19 = .ok (.iload 7, 2) := by decide +kernel
theorem dX7_errorAt_21 : decode cX7_errorAt 21 = .ok (.invokevirtual 152, 3) := by decide +kernel
theorem dX7_errorAt_24 : decode cX7_errorAt 24 = .ok (.ireturn, 1) := by decide +kernel
theorem dX7_tuned_0 : decode cX7_tuned 0 = .ok (.iload_n 1, 1) := by decide +kernel
theorem dX7_tuned_1 : decode cX7_tuned 1 = .ok (.invokestatic 155, 3) := by decide +kernel
theorem dX7_tuned_4 : decode cX7_tuned 4 = .ok (.ifCond .eq 12, 3) := by decide +kernel
theorem dX7_tuned_7 : decode cX7_tuned 7 = .ok (.iload_n 2, 1) := by decide +kernel
theorem dX7_tuned_8 : decode cX7_tuned 8 = .ok (.iconst 0, 1) := by decide +kernel
theorem dX7_tuned_9 : decode cX7_tuned 9 = .ok (.iconst 2, 1) := by decide +kernel
theorem dX7_tuned_10 : decode cX7_tuned 10 = .ok (.invokestatic 75, 3) := by decide +kernel
theorem dX7_tuned_13 : decode cX7_tuned 13 = .ok (.ifCond .ne 5, 3) := by decide +kernel
theorem dX7_tuned_16 : decode cX7_tuned 16 = .ok (.iconst (-1), 1) := by decide +kernel
theorem dX7_tuned_17 : decode cX7_tuned 17 = .ok (.ireturn, 1) := by decide +kernel
theorem dX7_tuned_18 : decode cX7_tuned 18 = .ok (.iload_n 2, 1) := by decide +kernel
theorem dX7_tuned_19 : decode cX7_tuned 19 = .ok (.ifCond .ne 23, 3) := by decide +kernel
theorem dX7_tuned_22 : decode cX7_tuned 22 = .ok (.aload_n 0, 1) := by decide +kernel
theorem dX7_tuned_23 : decode cX7_tuned 23 = .ok (.iload_n 1, 1) := by decide +kernel
theorem dX7_tuned_24 : decode cX7_tuned 24 = .ok (.aload_n 0, 1) := by decide +kernel
theorem dX7_tuned_25 : decode cX7_tuned 25 = .ok (.getfield 35, 3) := by decide +kernel
theorem dX7_tuned_28 : decode cX7_tuned 28 = .ok (.iconst 0, 1) := by decide +kernel
theorem dX7_tuned_29 : decode cX7_tuned 29 = .ok (.iaload, 1) := by decide +kernel
theorem dX7_tuned_30 : decode cX7_tuned 30 = .ok (.aload_n 0, 1) := by decide +kernel
theorem dX7_tuned_31 : decode cX7_tuned 31 = .ok (.getfield 35, 3) := by decide +kernel
theorem dX7_tuned_34 : decode cX7_tuned 34 = .ok (.iconst 3, 1) := by decide +kernel
theorem dX7_tuned_35 : decode cX7_tuned 35 = .ok (.iaload, 1) := by decide +kernel
theorem dX7_tuned_36 : decode cX7_tuned 36 = .ok (.invokevirtual 145, 3) := by decide +kernel
theorem dX7_tuned_39 : decode cX7_tuned 39 = .ok (.goto 39, 3) := by decide +kernel
theorem dX7_tuned_42 : decode cX7_tuned 42 = .ok (.iload_n 2, 1) := by decide +kernel
theorem dX7_tuned_43 : decode cX7_tuned 43 = .ok (.iconst 1, 1) := by decide +kernel
theorem dX7_tuned_44 : decode cX7_tuned 44 = .ok (.if_icmp .ne 29, 3) := by decide +kernel
theorem dX7_tuned_47 : decode cX7_tuned 47 = .ok (.aload_n 0, 1) := by decide +kernel
theorem dX7_tuned_48 : decode cX7_tuned 48 = .ok (.iload_n 1, 1) := by decide +kernel
theorem dX7_tuned_49 : decode cX7_tuned 49 = .ok (.aload_n 0, 1) := by decide +kernel
theorem dX7_tuned_50 : decode cX7_tuned 50 = .ok (.getfield 35, 3) := by decide +kernel
theorem dX7_tuned_53 : decode cX7_tuned 53 = .ok (.iconst 1, 1) := by decide +kernel
theorem dX7_tuned_54 : decode cX7_tuned 54 = .ok (.iaload, 1) := by decide +kernel
theorem dX7_tuned_55 : decode cX7_tuned 55 = .ok (.aload_n 0, 1) := by decide +kernel
theorem dX7_tuned_56 : decode cX7_tuned 56 = .ok (.getfield 35, 3) := by decide +kernel
theorem dX7_tuned_59 : decode cX7_tuned 59 = .ok (.iconst 2, 1) := by decide +kernel
theorem dX7_tuned_60 : decode cX7_tuned 60 = .ok (.iaload, 1) := by decide +kernel
theorem dX7_tuned_61 : decode cX7_tuned 61 = .ok (.aload_n 0, 1) := by decide +kernel
theorem dX7_tuned_62 : decode cX7_tuned 62 = .ok (.getfield 35, 3) := by decide +kernel
theorem dX7_tuned_65 : decode cX7_tuned 65 = .ok (.iconst 4, 1) := by decide +kernel
theorem dX7_tuned_66 : decode cX7_tuned 66 = .ok (.iaload, 1) := by decide +kernel
theorem dX7_tuned_67 : decode cX7_tuned 67 = .ok (.invokevirtual 148, 3) := by decide +kernel
theorem dX7_tuned_70 : decode cX7_tuned 70 = .ok (.goto 8, 3) := by decide +kernel
theorem dX7_tuned_73 : decode cX7_tuned 73 = .ok (.aload_n 0, 1) := by decide +kernel
theorem dX7_tuned_74 : decode cX7_tuned 74 = .ok (.iload_n 1, 1) := by decide +kernel
theorem dX7_tuned_75 : decode cX7_tuned 75 = .ok (.invokevirtual 139, 3) := by decide +kernel
theorem dX7_tuned_78 : decode cX7_tuned 78 = .ok (.ireturn, 1) := by decide +kernel
theorem dX7_error_0 : decode cX7_error 0 = .ok (.iload_n 1, 1) := by decide +kernel
theorem dX7_error_1 : decode cX7_error 1 = .ok (.invokestatic 155, 3) := by decide +kernel
theorem dX7_error_4 : decode cX7_error 4 = .ok (.ifCond .eq 45, 3) := by decide +kernel
theorem dX7_error_7 : decode cX7_error 7 = .ok (.aload_n 0, 1) := by decide +kernel
theorem dX7_error_8 : decode cX7_error 8 = .ok (.iload_n 1, 1) := by decide +kernel
theorem dX7_error_9 : decode cX7_error 9 = .ok (.aload_n 0, 1) := by decide +kernel
theorem dX7_error_10 : decode cX7_error 10 = .ok (.getfield 35, 3) := by decide +kernel
theorem dX7_error_13 : decode cX7_error 13 = .ok (.iconst 0, 1) := by decide +kernel
theorem dX7_error_14 : decode cX7_error 14 = .ok (.iaload, 1) := by decide +kernel
theorem dX7_error_15 : decode cX7_error 15 = .ok (.aload_n 0, 1) := by decide +kernel
theorem dX7_error_16 : decode cX7_error 16 = .ok (.getfield 35, 3) := by decide +kernel
theorem dX7_error_19 : decode cX7_error 19 = .ok (.iconst 1, 1) := by decide +kernel
theorem dX7_error_20 : decode cX7_error 20 = .ok (.iaload, 1) := by decide +kernel
theorem dX7_error_21 : decode cX7_error 21 = .ok (.aload_n 0, 1) := by decide +kernel
theorem dX7_error_22 : decode cX7_error 22 = .ok (.getfield 35, 3) := by decide +kernel
theorem dX7_error_25 : decode cX7_error 25 = .ok (.iconst 2, 1) := by decide +kernel
theorem dX7_error_26 : decode cX7_error 26 = .ok (.iaload, 1) := by decide +kernel
theorem dX7_error_27 : decode cX7_error 27 = .ok (.aload_n 0, 1) := by decide +kernel
theorem dX7_error_28 : decode cX7_error 28 = .ok (.getfield 35, 3) := by decide +kernel
theorem dX7_error_31 : decode cX7_error 31 = .ok (.iconst 3, 1) := by decide +kernel
theorem dX7_error_32 : decode cX7_error 32 = .ok (.iaload, 1) := by decide +kernel
theorem dX7_error_33 : decode cX7_error 33 = .ok (.aload_n 0, 1) := by decide +kernel
theorem dX7_error_34 : decode cX7_error 34 = .ok (.getfield 35, 3) := by decide +kernel
theorem dX7_error_37 : decode cX7_error 37 = .ok (.iconst 4, 1) := by decide +kernel
theorem dX7_error_38 : decode cX7_error 38 = .ok (.iaload, 1) := by decide +kernel
theorem dX7_error_39 : decode cX7_error 39 = .ok (.aload_n 0, 1) := by decide +kernel
theorem dX7_error_40 : decode cX7_error 40 = .ok (.getfield 16, 3) := by decide +kernel
theorem dX7_error_43 : decode cX7_error 43 = .ok (.invokevirtual 158, 3) := by decide +kernel
theorem dX7_error_46 : decode cX7_error 46 = .ok (.goto 5, 3) := by decide +kernel
theorem dX7_error_49 : decode cX7_error 49 = .ok (.ldc 90, 2) := by decide +kernel
theorem dX7_error_51 : decode cX7_error 51 = .ok (.ireturn, 1) := by decide +kernel
theorem dX7_point_0 : decode cX7_point 0 = .ok (.iload_n 1, 1) := by decide +kernel
theorem dX7_point_1 : decode cX7_point 1 = .ok (.invokestatic 155, 3) := by decide +kernel
theorem dX7_point_4 : decode cX7_point 4 = .ok (.ifCond .eq 12, 3) := by decide +kernel
theorem dX7_point_7 : decode cX7_point 7 = .ok (.iload_n 2, 1) := by decide +kernel
theorem dX7_point_8 : decode cX7_point 8 = .ok (.iconst 0, 1) := by decide +kernel
theorem dX7_point_9 : decode cX7_point 9 = .ok (.iconst 1, 1) := by decide +kernel
theorem dX7_point_10 : decode cX7_point 10 = .ok (.invokestatic 75, 3) := by decide +kernel
theorem dX7_point_13 : decode cX7_point 13 = .ok (.ifCond .ne 5, 3) := by decide +kernel
theorem dX7_point_16 : decode cX7_point 16 = .ok (.iconst (-1), 1) := by decide +kernel
theorem dX7_point_17 : decode cX7_point 17 = .ok (.ireturn, 1) := by decide +kernel
theorem dX7_point_18 : decode cX7_point 18 = .ok (.iconst (-1), 1) := by decide +kernel
theorem dX7_point_19 : decode cX7_point 19 = .ok (.istore_n 3, 1) := by decide +kernel
theorem dX7_point_20 : decode cX7_point 20 = .ok (.iconst 0, 1) := by decide +kernel
theorem dX7_point_21 : decode cX7_point 21 = .ok (.istore 4, 2) := by decide +kernel
theorem dX7_point_23 : decode cX7_point 23 = .ok (.iload 4, 2) := by decide +kernel
theorem dX7_point_25 : decode cX7_point 25 = .ok (.aload_n 0, 1) := by decide +kernel
theorem dX7_point_26 : decode cX7_point 26 = .ok (.getfield 162, 3) := by decide +kernel
theorem dX7_point_29 : decode cX7_point 29 = .ok (.if_icmp .ge 27, 3) := by decide +kernel
theorem dX7_point_32 : decode cX7_point 32 = .ok (.aload_n 0, 1) := by decide +kernel
theorem dX7_point_33 : decode cX7_point 33 = .ok (.getfield 38, 3) := by decide +kernel
theorem dX7_point_36 : decode cX7_point 36 = .ok (.iload 4, 2) := by decide +kernel
theorem dX7_point_38 : decode cX7_point 38 = .ok (.iaload, 1) := by decide +kernel
theorem dX7_point_39 : decode cX7_point 39 = .ok (.iload_n 1, 1) := by decide +kernel
theorem dX7_point_40 : decode cX7_point 40 = .ok (.if_icmp .ne 8, 3) := by decide +kernel
theorem dX7_point_43 : decode cX7_point 43 = .ok (.iload 4, 2) := by decide +kernel
theorem dX7_point_45 : decode cX7_point 45 = .ok (.goto 4, 3) := by decide +kernel
theorem dX7_point_48 : decode cX7_point 48 = .ok (.iload_n 3, 1) := by decide +kernel
theorem dX7_point_49 : decode cX7_point 49 = .ok (.istore_n 3, 1) := by decide +kernel
theorem dX7_point_50 : decode cX7_point 50 = .ok (.iinc 4 1, 3) := by decide +kernel
theorem dX7_point_53 : decode cX7_point 53 = .ok (.goto (-30), 3) := by decide +kernel
theorem dX7_point_56 : decode cX7_point 56 = .ok (.iload_n 2, 1) := by decide +kernel
theorem dX7_point_57 : decode cX7_point 57 = .ok (.iconst 1, 1) := by decide +kernel
theorem dX7_point_58 : decode cX7_point 58 = .ok (.if_icmp .ne 38, 3) := by decide +kernel
theorem dX7_point_61 : decode cX7_point 61 = .ok (.iload_n 3, 1) := by decide +kernel
theorem dX7_point_62 : decode cX7_point 62 = .ok (.ifCond .ge 34, 3) := by decide +kernel
theorem dX7_point_65 : decode cX7_point 65 = .ok (.aload_n 0, 1) := by decide +kernel
theorem dX7_point_66 : decode cX7_point 66 = .ok (.getfield 162, 3) := by decide +kernel
theorem dX7_point_69 : decode cX7_point 69 = .ok (.iconst 5, 1) := by decide +kernel
theorem dX7_point_70 : decode cX7_point 70 = .ok (.if_icmp .ne 6, 3) := by decide +kernel
theorem dX7_point_73 : decode cX7_point 73 = .ok (.bipush (-2), 2) := by decide +kernel
theorem dX7_point_75 : decode cX7_point 75 = .ok (.ireturn, 1) := by decide +kernel
theorem dX7_point_76 : decode cX7_point 76 = .ok (.aload_n 0, 1) := by decide +kernel
theorem dX7_point_77 : decode cX7_point 77 = .ok (.getfield 38, 3) := by decide +kernel
theorem dX7_point_80 : decode cX7_point 80 = .ok (.aload_n 0, 1) := by decide +kernel
theorem dX7_point_81 : decode cX7_point 81 = .ok (.getfield 162, 3) := by decide +kernel
theorem dX7_point_84 : decode cX7_point 84 = .ok (.iload_n 1, 1) := by decide +kernel
theorem dX7_point_85 : decode cX7_point 85 = .ok (.iastore, 1) := by decide +kernel
theorem dX7_point_86 : decode cX7_point 86 = .ok (.aload_n 0, 1) := by decide +kernel
theorem dX7_point_87 : decode cX7_point 87 = .ok (.dup, 1) := by decide +kernel
theorem dX7_point_88 : decode cX7_point 88 = .ok (.getfield 162, 3) := by decide +kernel
theorem dX7_point_91 : decode cX7_point 91 = .ok (.iconst 1, 1) := by decide +kernel
theorem dX7_point_92 : decode cX7_point 92 = .ok (.iadd, 1) := by decide +kernel
theorem dX7_point_93 : decode cX7_point 93 = .ok (.putfield 162, 3) := by decide +kernel
theorem dX7_point_96 : decode cX7_point 96 = .ok (.iload_n 2, 1) := by decide +kernel
theorem dX7_point_97 : decode cX7_point 97 = .ok (.ifCond .ne 32, 3) := by decide +kernel
theorem dX7_point_100 : decode cX7_point 100 = .ok (.iload_n 3, 1) := by decide +kernel
theorem dX7_point_101 : decode cX7_point 101 = .ok (.ifCond .lt 28, 3) := by decide +kernel
theorem dX7_point_104 : decode cX7_point 104 = .ok (.aload_n 0, 1) := by decide +kernel
theorem dX7_point_105 : decode cX7_point 105 = .ok (.dup, 1) := by decide +kernel
theorem dX7_point_106 : decode cX7_point 106 = .ok (.getfield 162, 3) := by decide +kernel
theorem dX7_point_109 : decode cX7_point 109 = .ok (.iconst 1, 1) := by decide +kernel
theorem dX7_point_110 : decode cX7_point 110 = .ok (.isub, 1) := by decide +kernel
theorem dX7_point_111 : decode cX7_point 111 = .ok (.putfield 162, 3) := by decide +kernel
theorem dX7_point_114 : decode cX7_point 114 = .ok (.aload_n 0, 1) := by decide +kernel
theorem dX7_point_115 : decode cX7_point 115 = .ok (.getfield 38, 3) := by decide +kernel
theorem dX7_point_118 : decode cX7_point 118 = .ok (.iload_n 3, 1) := by decide +kernel
theorem dX7_point_119 : decode cX7_point 119 = .ok (.aload_n 0, 1) := by decide +kernel
theorem dX7_point_120 : decode cX7_point 120 = .ok (.getfield 38, 3) := by decide +kernel
theorem dX7_point_123 : decode cX7_point 123 = .ok (.aload_n 0, 1) := by decide +kernel
theorem dX7_point_124 : decode cX7_point 124 = .ok (.getfield 162, 3) := by decide +kernel
theorem dX7_point_127 : decode cX7_point 127 = .ok (.iaload, 1) := by decide +kernel
theorem dX7_point_128 : decode cX7_point 128 = .ok (.iastore, 1) := by decide +kernel
theorem dX7_point_129 : decode cX7_point 129 = .ok (.iload_n 3, 1) := by decide +kernel
theorem dX7_point_130 : decode cX7_point 130 = .ok (.ifCond .ge 7, 3) := by decide +kernel
theorem dX7_point_133 : decode cX7_point 133 = .ok (.iconst 0, 1) := by decide +kernel
theorem dX7_point_134 : decode cX7_point 134 = .ok (.goto 4, 3) := by decide +kernel
theorem dX7_point_137 : decode cX7_point 137 = .ok (.iconst 1, 1) := by decide +kernel
theorem dX7_point_138 : decode cX7_point 138 = .ok (.ireturn, 1) := by decide +kernel
theorem dX7_offWith_0 : decode cX7_offWith 0 = .ok (.iconst 0, 1) := by decide +kernel
theorem dX7_offWith_1 : decode cX7_offWith 1 = .ok (.istore 7, 2) := by decide +kernel
theorem dX7_offWith_3 : decode cX7_offWith 3 = .ok (.iconst 0, 1) := by decide +kernel
theorem dX7_offWith_4 : decode cX7_offWith 4 = .ok (.istore 8, 2) := by decide +kernel
theorem dX7_offWith_6 : decode cX7_offWith 6 = .ok (.iload 8, 2) := by decide +kernel
theorem dX7_offWith_8 : decode cX7_offWith 8 = .ok (.aload_n 0, 1) := by decide +kernel
theorem dX7_offWith_9 : decode cX7_offWith 9 = .ok (.getfield 162, 3) := by decide +kernel
theorem dX7_offWith_12 : decode cX7_offWith 12 = .ok (.if_icmp .ge 37, 3) := by decide +kernel
theorem dX7_offWith_15 : decode cX7_offWith 15 = .ok (.iload 7, 2) := by decide +kernel
theorem dX7_offWith_17 : decode cX7_offWith 17 = .ok (.aload_n 0, 1) := by decide +kernel
theorem dX7_offWith_18 : decode cX7_offWith 18 = .ok (.aload_n 0, 1) := by decide +kernel
theorem dX7_offWith_19 : decode cX7_offWith 19 = .ok (.getfield 38, 3) := by decide +kernel
theorem dX7_offWith_22 : decode cX7_offWith 22 = .ok (.iload 8, 2) := by decide +kernel
theorem dX7_offWith_24 : decode cX7_offWith 24 = .ok (.iaload, 1) := by decide +kernel
theorem dX7_offWith_25 : decode cX7_offWith 25 = .ok (.iload_n 1, 1) := by decide +kernel
theorem dX7_offWith_26 : decode cX7_offWith 26 = .ok (.iload_n 2, 1) := by decide +kernel
theorem dX7_offWith_27 : decode cX7_offWith 27 = .ok (.iload_n 3, 1) := by decide +kernel
theorem dX7_offWith_28 : decode cX7_offWith 28 = .ok (.iload 4, 2) := by decide +kernel
theorem dX7_offWith_30 : decode cX7_offWith 30 = .ok (.iload 5, 2) := by decide +kernel
theorem dX7_offWith_32 : decode cX7_offWith 32 = .ok (.iload 6, 2) := by decide +kernel
theorem dX7_offWith_34 : decode cX7_offWith 34 = .ok (.invokevirtual 158, 3) := by decide +kernel
theorem dX7_offWith_37 : decode cX7_offWith 37 = .ok (.invokestatic 91, 3) := by decide +kernel
theorem dX7_offWith_40 : decode cX7_offWith 40 = .ok (.iadd, 1) := by decide +kernel
theorem dX7_offWith_41 : decode cX7_offWith 41 = .ok (.istore 7, 2) := by decide +kernel
theorem dX7_offWith_43 : decode cX7_offWith 43 = .ok (.iinc 8 1, 3) := by decide +kernel
theorem dX7_offWith_46 : decode cX7_offWith 46 = .ok (.goto (-40), 3) := by decide +kernel
theorem dX7_offWith_49 : decode cX7_offWith 49 = .ok (.iload 7, 2) := by decide +kernel
theorem dX7_offWith_51 : decode cX7_offWith 51 = .ok (.ireturn, 1) := by decide +kernel
theorem dX7_off_0 : decode cX7_off 0 = .ok (.aload_n 0, 1) := by decide +kernel
theorem dX7_off_1 : decode cX7_off 1 = .ok (.aload_n 0, 1) := by decide +kernel
theorem dX7_off_2 : decode cX7_off 2 = .ok (.getfield 35, 3) := by decide +kernel
theorem dX7_off_5 : decode cX7_off 5 = .ok (.iconst 0, 1) := by decide +kernel
theorem dX7_off_6 : decode cX7_off 6 = .ok (.iaload, 1) := by decide +kernel
theorem dX7_off_7 : decode cX7_off 7 = .ok (.aload_n 0, 1) := by decide +kernel
theorem dX7_off_8 : decode cX7_off 8 = .ok (.getfield 35, 3) := by decide +kernel
theorem dX7_off_11 : decode cX7_off 11 = .ok (.iconst 1, 1) := by decide +kernel
theorem dX7_off_12 : decode cX7_off 12 = .ok (.iaload, 1) := by decide +kernel
theorem dX7_off_13 : decode cX7_off 13 = .ok (.aload_n 0, 1) := by decide +kernel
theorem dX7_off_14 : decode cX7_off 14 = .ok (.getfield 35, 3) := by decide +kernel
theorem dX7_off_17 : decode cX7_off 17 = .ok (.iconst 2, 1) := by decide +kernel
theorem dX7_off_18 : decode cX7_off 18 = .ok (.iaload, 1) := by decide +kernel
theorem dX7_off_19 : decode cX7_off 19 = .ok (.aload_n 0, 1) := by decide +kernel
theorem dX7_off_20 : decode cX7_off 20 = .ok (.getfield 35, 3) := by decide +kernel
theorem dX7_off_23 : decode cX7_off 23 = .ok (.iconst 3, 1) := by decide +kernel
theorem dX7_off_24 : decode cX7_off 24 = .ok (.iaload, 1) := by decide +kernel
theorem dX7_off_25 : decode cX7_off 25 = .ok (.aload_n 0, 1) := by decide +kernel
theorem dX7_off_26 : decode cX7_off 26 = .ok (.getfield 35, 3) := by decide +kernel
theorem dX7_off_29 : decode cX7_off 29 = .ok (.iconst 4, 1) := by decide +kernel
theorem dX7_off_30 : decode cX7_off 30 = .ok (.iaload, 1) := by decide +kernel
theorem dX7_off_31 : decode cX7_off 31 = .ok (.aload_n 0, 1) := by decide +kernel
theorem dX7_off_32 : decode cX7_off 32 = .ok (.getfield 16, 3) := by decide +kernel
theorem dX7_off_35 : decode cX7_off 35 = .ok (.invokevirtual 165, 3) := by decide +kernel
theorem dX7_off_38 : decode cX7_off 38 = .ok (.ireturn, 1) := by decide +kernel
theorem dX7_trimmed_0 : decode cX7_trimmed 0 = .ok (.iload_n 1, 1) := by decide +kernel
theorem dX7_trimmed_1 : decode cX7_trimmed 1 = .ok (.iconst 1, 1) := by decide +kernel
theorem dX7_trimmed_2 : decode cX7_trimmed 2 = .ok (.if_icmp .lt 24, 3) := by decide +kernel
theorem dX7_trimmed_5 : decode cX7_trimmed 5 = .ok (.iload_n 2, 1) := by decide +kernel
theorem dX7_trimmed_6 : decode cX7_trimmed 6 = .ok (.iload_n 1, 1) := by decide +kernel
theorem dX7_trimmed_7 : decode cX7_trimmed 7 = .ok (.if_icmp .lt 19, 3) := by decide +kernel
theorem dX7_trimmed_10 : decode cX7_trimmed 10 = .ok (.iload_n 2, 1) := by decide +kernel
theorem dX7_trimmed_11 : decode cX7_trimmed 11 = .ok (.sipush 9999, 3) := by decide +kernel
theorem dX7_trimmed_14 : decode cX7_trimmed 14 = .ok (.if_icmp .gt 12, 3) := by decide +kernel
theorem dX7_trimmed_17 : decode cX7_trimmed 17 = .ok (.iload_n 2, 1) := by decide +kernel
theorem dX7_trimmed_18 : decode cX7_trimmed 18 = .ok (.iload_n 1, 1) := by decide +kernel
theorem dX7_trimmed_19 : decode cX7_trimmed 19 = .ok (.isub, 1) := by decide +kernel
theorem dX7_trimmed_20 : decode cX7_trimmed 20 = .ok (.sipush 300, 3) := by decide +kernel
theorem dX7_trimmed_23 : decode cX7_trimmed 23 = .ok (.if_icmp .le 5, 3) := by decide +kernel
theorem dX7_trimmed_26 : decode cX7_trimmed 26 = .ok (.iconst (-1), 1) := by decide +kernel
theorem dX7_trimmed_27 : decode cX7_trimmed 27 = .ok (.ireturn, 1) := by decide +kernel
theorem dX7_trimmed_28 : decode cX7_trimmed 28 = .ok (.aload_n 0, 1) := by decide +kernel
theorem dX7_trimmed_29 : decode cX7_trimmed 29 = .ok (.getfield 162, 3) := by decide +kernel
theorem dX7_trimmed_32 : decode cX7_trimmed 32 = .ok (.ifCond .ne 6, 3) := by decide +kernel
theorem dX7_trimmed_35 : decode cX7_trimmed 35 = .ok (.bipush (-3), 2) := by decide +kernel
theorem dX7_trimmed_37 : decode cX7_trimmed 37 = .ok (.ireturn, 1) := by decide +kernel
theorem dX7_trimmed_38 : decode cX7_trimmed 38 = .ok (.iconst (-1), 1) := by decide +kernel
theorem dX7_trimmed_39 : decode cX7_trimmed 39 = .ok (.istore_n 3, 1) := by decide +kernel
theorem dX7_trimmed_40 : decode cX7_trimmed 40 = .ok (.iconst 0, 1) := by decide +kernel
theorem dX7_trimmed_41 : decode cX7_trimmed 41 = .ok (.istore 4, 2) := by decide +kernel
theorem dX7_trimmed_43 : decode cX7_trimmed 43 = .ok (.iconst 0, 1) := by decide +kernel
theorem dX7_trimmed_44 : decode cX7_trimmed 44 = .ok (.istore 5, 2) := by decide +kernel
theorem dX7_trimmed_46 : decode cX7_trimmed 46 = .ok (.iload_n 1, 1) := by decide +kernel
theorem dX7_trimmed_47 : decode cX7_trimmed 47 = .ok (.istore 6, 2) := by decide +kernel
theorem dX7_trimmed_49 : decode cX7_trimmed 49 = .ok (.iload 6, 2) := by decide +kernel
theorem dX7_trimmed_51 : decode cX7_trimmed 51 = .ok (.iload_n 2, 1) := by decide +kernel
theorem dX7_trimmed_52 : decode cX7_trimmed 52 = .ok (.if_icmp .gt 156, 3) := by decide +kernel
theorem dX7_trimmed_55 : decode cX7_trimmed 55 = .ok (.iconst 0, 1) := by decide +kernel
theorem dX7_trimmed_56 : decode cX7_trimmed 56 = .ok (.istore 7, 2) := by decide +kernel
theorem dX7_trimmed_58 : decode cX7_trimmed 58 = .ok (.iload 7, 2) := by decide +kernel
theorem dX7_trimmed_60 : decode cX7_trimmed 60 = .ok (.bipush 100, 2) := by decide +kernel
theorem dX7_trimmed_62 : decode cX7_trimmed 62 = .ok (.if_icmp .ge 140, 3) := by decide +kernel
theorem dX7_trimmed_65 : decode cX7_trimmed 65 = .ok (.iconst 0, 1) := by decide +kernel
theorem dX7_trimmed_66 : decode cX7_trimmed 66 = .ok (.istore 8, 2) := by decide +kernel
theorem dX7_trimmed_68 : decode cX7_trimmed 68 = .ok (.iconst 0, 1) := by decide +kernel
theorem dX7_trimmed_69 : decode cX7_trimmed 69 = .ok (.istore 9, 2) := by decide +kernel
theorem dX7_trimmed_71 : decode cX7_trimmed 71 = .ok (.iconst 0, 1) := by decide +kernel
theorem dX7_trimmed_72 : decode cX7_trimmed 72 = .ok (.istore 10, 2) := by decide +kernel
theorem dX7_trimmed_74 : decode cX7_trimmed 74 = .ok (.iload 10, 2) := by decide +kernel
theorem dX7_trimmed_76 : decode cX7_trimmed 76 = .ok (.aload_n 0, 1) := by decide +kernel
theorem dX7_trimmed_77 : decode cX7_trimmed 77 = .ok (.getfield 162, 3) := by decide +kernel
theorem dX7_trimmed_80 : decode cX7_trimmed 80 = .ok (.if_icmp .ge 74, 3) := by decide +kernel
theorem dX7_trimmed_83 : decode cX7_trimmed 83 = .ok (.aload_n 0, 1) := by decide +kernel
theorem dX7_trimmed_84 : decode cX7_trimmed 84 = .ok (.aload_n 0, 1) := by decide +kernel
theorem dX7_trimmed_85 : decode cX7_trimmed 85 = .ok (.getfield 38, 3) := by decide +kernel
theorem dX7_trimmed_88 : decode cX7_trimmed 88 = .ok (.iload 10, 2) := by decide +kernel
theorem dX7_trimmed_90 : decode cX7_trimmed 90 = .ok (.iaload, 1) := by decide +kernel
theorem dX7_trimmed_91 : decode cX7_trimmed 91 = .ok (.aload_n 0, 1) := by decide +kernel
theorem dX7_trimmed_92 : decode cX7_trimmed 92 = .ok (.getfield 35, 3) := by decide +kernel
theorem dX7_trimmed_95 : decode cX7_trimmed 95 = .ok (.iconst 0, 1) := by decide +kernel
theorem dX7_trimmed_96 : decode cX7_trimmed 96 = .ok (.iaload, 1) := by decide +kernel
theorem dX7_trimmed_97 : decode cX7_trimmed 97 = .ok (.iload 7, 2) := by decide +kernel
theorem dX7_trimmed_99 : decode cX7_trimmed 99 = .ok (.iload 6, 2) := by decide +kernel
theorem dX7_trimmed_101 : decode cX7_trimmed 101 = .ok (.aload_n 0, 1) := by decide +kernel
theorem dX7_trimmed_102 : decode cX7_trimmed 102 = .ok (.getfield 35, 3) := by decide +kernel
theorem dX7_trimmed_105 : decode cX7_trimmed 105 = .ok (.iconst 3, 1) := by decide +kernel
theorem dX7_trimmed_106 : decode cX7_trimmed 106 = .ok (.iaload, 1) := by decide +kernel
theorem dX7_trimmed_107 : decode cX7_trimmed 107 = .ok (.aload_n 0, 1) := by decide +kernel
theorem dX7_trimmed_108 : decode cX7_trimmed 108 = .ok (.getfield 35, 3) := by decide +kernel
theorem dX7_trimmed_111 : decode cX7_trimmed 111 = .ok (.iconst 4, 1) := by decide +kernel
theorem dX7_trimmed_112 : decode cX7_trimmed 112 = .ok (.iaload, 1) := by decide +kernel
theorem dX7_trimmed_113 : decode cX7_trimmed 113 = .ok (.aload_n 0, 1) := by decide +kernel
theorem dX7_trimmed_114 : decode cX7_trimmed 114 = .ok (.getfield 16, 3) := by decide +kernel
theorem dX7_trimmed_117 : decode cX7_trimmed 117 = .ok (.invokevirtual 158, 3) := by decide +kernel
theorem dX7_trimmed_120 : decode cX7_trimmed 120 = .ok (.invokestatic 91, 3) := by decide +kernel
theorem dX7_trimmed_123 : decode cX7_trimmed 123 = .ok (.istore 11, 2) := by decide +kernel
theorem dX7_trimmed_125 : decode cX7_trimmed 125 = .ok (.iload 11, 2) := by decide +kernel
theorem dX7_trimmed_127 : decode cX7_trimmed 127 = .ok (.iload 8, 2) := by decide +kernel
theorem dX7_trimmed_129 : decode cX7_trimmed 129 = .ok (.if_icmp .le 8, 3) := by decide +kernel
theorem dX7_trimmed_132 : decode cX7_trimmed 132 = .ok (.iload 11, 2) := by decide +kernel
theorem dX7_trimmed_134 : decode cX7_trimmed 134 = .ok (.goto 5, 3) := by decide +kernel
theorem dX7_trimmed_137 : decode cX7_trimmed 137 = .ok (.iload 8, 2) := by decide +kernel
theorem dX7_trimmed_139 : decode cX7_trimmed 139 = .ok (.istore 8, 2) := by decide +kernel
theorem dX7_trimmed_141 : decode cX7_trimmed 141 = .ok (.iload 9, 2) := by decide +kernel
theorem dX7_trimmed_143 : decode cX7_trimmed 143 = .ok (.iload 11, 2) := by decide +kernel
theorem dX7_trimmed_145 : decode cX7_trimmed 145 = .ok (.iadd, 1) := by decide +kernel
theorem dX7_trimmed_146 : decode cX7_trimmed 146 = .ok (.istore 9, 2) := by decide +kernel
theorem dX7_trimmed_148 : decode cX7_trimmed 148 = .ok (.iinc 10 1, 3) := by decide +kernel
theorem dX7_trimmed_151 : decode cX7_trimmed 151 = .ok (.goto (-77), 3) := by decide +kernel
theorem dX7_trimmed_154 : decode cX7_trimmed 154 = .ok (.iload_n 3, 1) := by decide +kernel
theorem dX7_trimmed_155 : decode cX7_trimmed 155 = .ok (.ifCond .lt 24, 3) := by decide +kernel
theorem dX7_trimmed_158 : decode cX7_trimmed 158 = .ok (.iload 8, 2) := by decide +kernel
theorem dX7_trimmed_160 : decode cX7_trimmed 160 = .ok (.iload 4, 2) := by decide +kernel
theorem dX7_trimmed_162 : decode cX7_trimmed 162 = .ok (.if_icmp .lt 17, 3) := by decide +kernel
theorem dX7_trimmed_165 : decode cX7_trimmed 165 = .ok (.iload 8, 2) := by decide +kernel
theorem dX7_trimmed_167 : decode cX7_trimmed 167 = .ok (.iload 4, 2) := by decide +kernel
theorem dX7_trimmed_169 : decode cX7_trimmed 169 = .ok (.if_icmp .ne 27, 3) := by decide +kernel
theorem dX7_trimmed_172 : decode cX7_trimmed 172 = .ok (.iload 9, 2) := by decide +kernel
theorem dX7_trimmed_174 : decode cX7_trimmed 174 = .ok (.iload 5, 2) := by decide +kernel
theorem dX7_trimmed_176 : decode cX7_trimmed 176 = .ok (.if_icmp .ge 20, 3) := by decide +kernel
theorem dX7_trimmed_179 : decode cX7_trimmed 179 = .ok (.bipush 100, 2) := by decide +kernel
theorem dX7_trimmed_181 : decode cX7_trimmed 181 = .ok (.iload 6, 2) := by decide +kernel
theorem dX7_trimmed_183 : decode cX7_trimmed 183 = .ok (.imul, 1) := by decide +kernel
theorem dX7_trimmed_184 : decode cX7_trimmed 184 = .ok (.iload 7, 2) := by decide +kernel
theorem dX7_trimmed_186 : decode cX7_trimmed 186 = .ok (.iadd, 1) := by decide +kernel
theorem dX7_trimmed_187 : decode cX7_trimmed 187 = .ok (.istore_n 3, 1) := by decide +kernel
theorem dX7_trimmed_188 : decode cX7_trimmed 188 = .ok (.iload 8, 2) := by decide +kernel
theorem dX7_trimmed_190 : decode cX7_trimmed 190 = .ok (.istore 4, 2) := by decide +kernel
theorem dX7_trimmed_192 : decode cX7_trimmed 192 = .ok (.iload 9, 2) := by decide +kernel
theorem dX7_trimmed_194 : decode cX7_trimmed 194 = .ok (.istore 5, 2) := by decide +kernel
theorem dX7_trimmed_196 : decode cX7_trimmed 196 = .ok (.iinc 7 1, 3) := by decide +kernel
theorem dX7_trimmed_199 : decode cX7_trimmed 199 = .ok (.goto (-141), 3) := by decide +kernel
theorem dX7_trimmed_202 : decode cX7_trimmed 202 = .ok (.iinc 6 1, 3) := by decide +kernel
theorem dX7_trimmed_205 : decode cX7_trimmed 205 = .ok (.goto (-156), 3) := by decide +kernel
theorem dX7_trimmed_208 : decode cX7_trimmed 208 = .ok (.iload_n 3, 1) := by decide +kernel
theorem dX7_trimmed_209 : decode cX7_trimmed 209 = .ok (.ireturn, 1) := by decide +kernel
theorem dX7_mark_0 : decode cX7_mark 0 = .ok (.iload_n 1, 1) := by decide +kernel
theorem dX7_mark_1 : decode cX7_mark 1 = .ok (.iconst 1, 1) := by decide +kernel
theorem dX7_mark_2 : decode cX7_mark 2 = .ok (.ldc 169, 2) := by decide +kernel
theorem dX7_mark_4 : decode cX7_mark 4 = .ok (.invokestatic 75, 3) := by decide +kernel
theorem dX7_mark_7 : decode cX7_mark 7 = .ok (.ifCond .ne 5, 3) := by decide +kernel
theorem dX7_mark_10 : decode cX7_mark 10 = .ok (.iconst (-1), 1) := by decide +kernel
theorem dX7_mark_11 : decode cX7_mark 11 = .ok (.ireturn, 1) := by decide +kernel
theorem dX7_mark_12 : decode cX7_mark 12 = .ok (.iconst 0, 1) := by decide +kernel
theorem dX7_mark_13 : decode cX7_mark 13 = .ok (.istore_n 2, 1) := by decide +kernel
theorem dX7_mark_14 : decode cX7_mark 14 = .ok (.iconst 1, 1) := by decide +kernel
theorem dX7_mark_15 : decode cX7_mark 15 = .ok (.istore_n 3, 1) := by decide +kernel
theorem dX7_mark_16 : decode cX7_mark 16 = .ok (.iload_n 3, 1) := by decide +kernel
theorem dX7_mark_17 : decode cX7_mark 17 = .ok (.bipush 100, 2) := by decide +kernel
theorem dX7_mark_19 : decode cX7_mark 19 = .ok (.if_icmp .gt 58, 3) := by decide +kernel
theorem dX7_mark_22 : decode cX7_mark 22 = .ok (.aload_n 0, 1) := by decide +kernel
theorem dX7_mark_23 : decode cX7_mark 23 = .ok (.iload_n 3, 1) := by decide +kernel
theorem dX7_mark_24 : decode cX7_mark 24 = .ok (.aload_n 0, 1) := by decide +kernel
theorem dX7_mark_25 : decode cX7_mark 25 = .ok (.getfield 35, 3) := by decide +kernel
theorem dX7_mark_28 : decode cX7_mark 28 = .ok (.iconst 0, 1) := by decide +kernel
theorem dX7_mark_29 : decode cX7_mark 29 = .ok (.iaload, 1) := by decide +kernel
theorem dX7_mark_30 : decode cX7_mark 30 = .ok (.aload_n 0, 1) := by decide +kernel
theorem dX7_mark_31 : decode cX7_mark 31 = .ok (.getfield 35, 3) := by decide +kernel
theorem dX7_mark_34 : decode cX7_mark 34 = .ok (.iconst 3, 1) := by decide +kernel
theorem dX7_mark_35 : decode cX7_mark 35 = .ok (.iaload, 1) := by decide +kernel
theorem dX7_mark_36 : decode cX7_mark 36 = .ok (.invokevirtual 145, 3) := by decide +kernel
theorem dX7_mark_39 : decode cX7_mark 39 = .ok (.iload_n 1, 1) := by decide +kernel
theorem dX7_mark_40 : decode cX7_mark 40 = .ok (.isub, 1) := by decide +kernel
theorem dX7_mark_41 : decode cX7_mark 41 = .ok (.invokestatic 91, 3) := by decide +kernel
theorem dX7_mark_44 : decode cX7_mark 44 = .ok (.aload_n 0, 1) := by decide +kernel
theorem dX7_mark_45 : decode cX7_mark 45 = .ok (.iload_n 2, 1) := by decide +kernel
theorem dX7_mark_46 : decode cX7_mark 46 = .ok (.aload_n 0, 1) := by decide +kernel
theorem dX7_mark_47 : decode cX7_mark 47 = .ok (.getfield 35, 3) := by decide +kernel
theorem dX7_mark_50 : decode cX7_mark 50 = .ok (.iconst 0, 1) := by decide +kernel
theorem dX7_mark_51 : decode cX7_mark 51 = .ok (.iaload, 1) := by decide +kernel
theorem dX7_mark_52 : decode cX7_mark 52 = .ok (.aload_n 0, 1) := by decide +kernel
theorem dX7_mark_53 : decode cX7_mark 53 = .ok (.getfield 35, 3) := by decide +kernel
theorem dX7_mark_56 : decode cX7_mark 56 = .ok (.iconst 3, 1) := by decide +kernel
theorem dX7_mark_57 : decode cX7_mark 57 = .ok (.iaload, 1) := by decide +kernel
theorem dX7_mark_58 : decode cX7_mark 58 = .ok (.invokevirtual 145, 3) := by decide +kernel
theorem dX7_mark_61 : decode cX7_mark 61 = .ok (.iload_n 1, 1) := by decide +kernel
theorem dX7_mark_62 : decode cX7_mark 62 = .ok (.isub, 1) := by decide +kernel
theorem dX7_mark_63 : decode cX7_mark 63 = .ok (.invokestatic 91, 3) := by decide +kernel
theorem dX7_mark_66 : decode cX7_mark 66 = .ok (.if_icmp .ge 5, 3) := by decide +kernel
theorem dX7_mark_69 : decode cX7_mark 69 = .ok (.iload_n 3, 1) := by decide +kernel
theorem dX7_mark_70 : decode cX7_mark 70 = .ok (.istore_n 2, 1) := by decide +kernel
theorem dX7_mark_71 : decode cX7_mark 71 = .ok (.iinc 3 1, 3) := by decide +kernel
theorem dX7_mark_74 : decode cX7_mark 74 = .ok (.goto (-58), 3) := by decide +kernel
theorem dX7_mark_77 : decode cX7_mark 77 = .ok (.iload_n 2, 1) := by decide +kernel
theorem dX7_mark_78 : decode cX7_mark 78 = .ok (.ireturn, 1) := by decide +kernel
theorem dX7_isSet_0 : decode cX7_isSet 0 = .ok (.iload_n 1, 1) := by decide +kernel
theorem dX7_isSet_1 : decode cX7_isSet 1 = .ok (.ifCond .lt 15, 3) := by decide +kernel
theorem dX7_isSet_4 : decode cX7_isSet 4 = .ok (.iload_n 1, 1) := by decide +kernel
theorem dX7_isSet_5 : decode cX7_isSet 5 = .ok (.aload_n 0, 1) := by decide +kernel
theorem dX7_isSet_6 : decode cX7_isSet 6 = .ok (.getfield 170, 3) := by decide +kernel
theorem dX7_isSet_9 : decode cX7_isSet 9 = .ok (.if_icmp .ge 7, 3) := by decide +kernel
theorem dX7_isSet_12 : decode cX7_isSet 12 = .ok (.iconst 1, 1) := by decide +kernel
theorem dX7_isSet_13 : decode cX7_isSet 13 = .ok (.goto 4, 3) := by decide +kernel
theorem dX7_isSet_16 : decode cX7_isSet 16 = .ok (.iconst 0, 1) := by decide +kernel
theorem dX7_isSet_17 : decode cX7_isSet 17 = .ok (.ireturn, 1) := by decide +kernel
theorem dX7_set_0 : decode cX7_set 0 = .ok (.aload_n 0, 1) := by decide +kernel
theorem dX7_set_1 : decode cX7_set 1 = .ok (.getfield 170, 3) := by decide +kernel
theorem dX7_set_4 : decode cX7_set 4 = .ok (.bipush 10, 2) := by decide +kernel
theorem dX7_set_6 : decode cX7_set 6 = .ok (.if_icmp .ne 6, 3) := by decide +kernel
theorem dX7_set_9 : decode cX7_set 9 = .ok (.bipush (-2), 2) := by decide +kernel
theorem dX7_set_11 : decode cX7_set 11 = .ok (.ireturn, 1) := by decide +kernel
theorem dX7_set_12 : decode cX7_set 12 = .ok (.iconst 0, 1) := by decide +kernel
theorem dX7_set_13 : decode cX7_set 13 = .ok (.istore_n 1, 1) := by decide +kernel
theorem dX7_set_14 : decode cX7_set 14 = .ok (.iload_n 1, 1) := by decide +kernel
theorem dX7_set_15 : decode cX7_set 15 = .ok (.bipush 6, 2) := by decide +kernel
theorem dX7_set_17 : decode cX7_set 17 = .ok (.if_icmp .ge 41, 3) := by decide +kernel
theorem dX7_set_20 : decode cX7_set 20 = .ok (.aload_n 0, 1) := by decide +kernel
theorem dX7_set_21 : decode cX7_set 21 = .ok (.getfield 41, 3) := by decide +kernel
theorem dX7_set_24 : decode cX7_set 24 = .ok (.bipush 6, 2) := by decide +kernel
theorem dX7_set_26 : decode cX7_set 26 = .ok (.aload_n 0, 1) := by decide +kernel
theorem dX7_set_27 : decode cX7_set 27 = .ok (.getfield 170, 3) := by decide +kernel
theorem dX7_set_30 : decode cX7_set 30 = .ok (.imul, 1) := by decide +kernel
theorem dX7_set_31 : decode cX7_set 31 = .ok (.iload_n 1, 1) := by decide +kernel
theorem dX7_set_32 : decode cX7_set 32 = .ok (.iadd, 1) := by decide +kernel
theorem dX7_set_33 : decode cX7_set 33 = .ok (.iload_n 1, 1) := by decide +kernel
theorem dX7_set_34 : decode cX7_set 34 = .ok (.iconst 5, 1) := by decide +kernel
theorem dX7_set_35 : decode cX7_set 35 = .ok (.if_icmp .ne 10, 3) := by decide +kernel
theorem dX7_set_38 : decode cX7_set 38 = .ok (.aload_n 0, 1) := by decide +kernel
theorem dX7_set_39 : decode cX7_set 39 = .ok (.getfield 16, 3) := by decide +kernel
theorem dX7_set_42 : decode cX7_set 42 = .ok (.goto 9, 3) := by decide +kernel
theorem dX7_set_45 : decode cX7_set 45 = .ok (.aload_n 0, 1) := by decide +kernel
theorem dX7_set_46 : decode cX7_set 46 = .ok (.getfield 35, 3) := by decide +kernel
theorem dX7_set_49 : decode cX7_set 49 = .ok (.iload_n 1, 1) := by decide +kernel
theorem dX7_set_50 : decode cX7_set 50 = .ok (.iaload, 1) := by decide +kernel
theorem dX7_set_51 : decode cX7_set 51 = .ok (.iastore, 1) := by decide +kernel
theorem dX7_set_52 : decode cX7_set 52 = .ok (.iinc 1 1, 3) := by decide +kernel
theorem dX7_set_55 : decode cX7_set 55 = .ok (.goto (-41), 3) := by decide +kernel
theorem dX7_set_58 : decode cX7_set 58 = .ok (.aload_n 0, 1) := by decide +kernel
theorem dX7_set_59 : decode cX7_set 59 = .ok (.dup, 1) := by decide +kernel
theorem dX7_set_60 : decode cX7_set 60 = .ok (.getfield 170, 3) := by decide +kernel
theorem dX7_set_63 : decode cX7_set 63 = .ok (.iconst 1, 1) := by decide +kernel
theorem dX7_set_64 : decode cX7_set 64 = .ok (.iadd, 1) := by decide +kernel
theorem dX7_set_65 : decode cX7_set 65 = .ok (.putfield 170, 3) := by decide +kernel
theorem dX7_set_68 : decode cX7_set 68 = .ok (.aload_n 0, 1) := by decide +kernel
theorem dX7_set_69 : decode cX7_set 69 = .ok (.getfield 170, 3) := by decide +kernel
theorem dX7_set_72 : decode cX7_set 72 = .ok (.iconst 1, 1) := by decide +kernel
theorem dX7_set_73 : decode cX7_set 73 = .ok (.isub, 1) := by decide +kernel
theorem dX7_set_74 : decode cX7_set 74 = .ok (.ireturn, 1) := by decide +kernel
theorem dX7_offBy_0 : decode cX7_offBy 0 = .ok (.aload_n 0, 1) := by decide +kernel
theorem dX7_offBy_1 : decode cX7_offBy 1 = .ok (.iload_n 1, 1) := by decide +kernel
theorem dX7_offBy_2 : decode cX7_offBy 2 = .ok (.invokevirtual 173, 3) := by decide +kernel
theorem dX7_offBy_5 : decode cX7_offBy 5 = .ok (.ifCond .eq 23, 3) := by decide +kernel
theorem dX7_offBy_8 : decode cX7_offBy 8 = .ok (.iload_n 2, 1) := by decide +kernel
theorem dX7_offBy_9 : decode cX7_offBy 9 = .ok (.iconst 0, 1) := by decide +kernel
theorem dX7_offBy_10 : decode cX7_offBy 10 = .ok (.iconst 5, 1) := by decide +kernel
theorem dX7_offBy_11 : decode cX7_offBy 11 = .ok (.invokestatic 75, 3) := by decide +kernel
theorem dX7_offBy_14 : decode cX7_offBy 14 = .ok (.ifCond .eq 14, 3) := by decide +kernel
theorem dX7_offBy_17 : decode cX7_offBy 17 = .ok (.iload_n 3, 1) := by decide +kernel
theorem dX7_offBy_18 : decode cX7_offBy 18 = .ok (.bipush (-50), 2) := by decide +kernel
theorem dX7_offBy_20 : decode cX7_offBy 20 = .ok (.bipush 50, 2) := by decide +kernel
theorem dX7_offBy_22 : decode cX7_offBy 22 = .ok (.invokestatic 75, 3) := by decide +kernel
theorem dX7_offBy_25 : decode cX7_offBy 25 = .ok (.ifCond .ne 6, 3) := by decide +kernel
theorem dX7_offBy_28 : decode cX7_offBy 28 = .ok (.ldc 90, 2) := by decide +kernel
theorem dX7_offBy_30 : decode cX7_offBy 30 = .ok (.ireturn, 1) := by decide +kernel
theorem dX7_offBy_31 : decode cX7_offBy 31 = .ok (.aload_n 0, 1) := by decide +kernel
theorem dX7_offBy_32 : decode cX7_offBy 32 = .ok (.getfield 44, 3) := by decide +kernel
theorem dX7_offBy_35 : decode cX7_offBy 35 = .ok (.bipush 6, 2) := by decide +kernel
theorem dX7_offBy_37 : decode cX7_offBy 37 = .ok (.iload_n 1, 1) := by decide +kernel
theorem dX7_offBy_38 : decode cX7_offBy 38 = .ok (.imul, 1) := by decide +kernel
theorem dX7_offBy_39 : decode cX7_offBy 39 = .ok (.iload_n 2, 1) := by decide +kernel
theorem dX7_offBy_40 : decode cX7_offBy 40 = .ok (.iadd, 1) := by decide +kernel
theorem dX7_offBy_41 : decode cX7_offBy 41 = .ok (.iaload, 1) := by decide +kernel
theorem dX7_offBy_42 : decode cX7_offBy 42 = .ok (.istore 4, 2) := by decide +kernel
theorem dX7_offBy_44 : decode cX7_offBy 44 = .ok (.aload_n 0, 1) := by decide +kernel
theorem dX7_offBy_45 : decode cX7_offBy 45 = .ok (.getfield 44, 3) := by decide +kernel
theorem dX7_offBy_48 : decode cX7_offBy 48 = .ok (.bipush 6, 2) := by decide +kernel
theorem dX7_offBy_50 : decode cX7_offBy 50 = .ok (.iload_n 1, 1) := by decide +kernel
theorem dX7_offBy_51 : decode cX7_offBy 51 = .ok (.imul, 1) := by decide +kernel
theorem dX7_offBy_52 : decode cX7_offBy 52 = .ok (.iload_n 2, 1) := by decide +kernel
theorem dX7_offBy_53 : decode cX7_offBy 53 = .ok (.iadd, 1) := by decide +kernel
theorem dX7_offBy_54 : decode cX7_offBy 54 = .ok (.iload_n 3, 1) := by decide +kernel
theorem dX7_offBy_55 : decode cX7_offBy 55 = .ok (.iastore, 1) := by decide +kernel
theorem dX7_offBy_56 : decode cX7_offBy 56 = .ok (.iload 4, 2) := by decide +kernel
theorem dX7_offBy_58 : decode cX7_offBy 58 = .ok (.ireturn, 1) := by decide +kernel
theorem dX7_valueOf_0 : decode cX7_valueOf 0 = .ok (.aload_n 0, 1) := by decide +kernel
theorem dX7_valueOf_1 : decode cX7_valueOf 1 = .ok (.getfield 41, 3) := by decide +kernel
theorem dX7_valueOf_4 : decode cX7_valueOf 4 = .ok (.bipush 6, 2) := by decide +kernel
theorem dX7_valueOf_6 : decode cX7_valueOf 6 = .ok (.iload_n 1, 1) := by decide +kernel
theorem dX7_valueOf_7 : decode cX7_valueOf 7 = .ok (.imul, 1) := by decide +kernel
theorem dX7_valueOf_8 : decode cX7_valueOf 8 = .ok (.iload_n 2, 1) := by decide +kernel
theorem dX7_valueOf_9 : decode cX7_valueOf 9 = .ok (.iadd, 1) := by decide +kernel
theorem dX7_valueOf_10 : decode cX7_valueOf 10 = .ok (.iaload, 1) := by decide +kernel
theorem dX7_valueOf_11 : decode cX7_valueOf 11 = .ok (.aload_n 0, 1) := by decide +kernel
theorem dX7_valueOf_12 : decode cX7_valueOf 12 = .ok (.getfield 44, 3) := by decide +kernel
theorem dX7_valueOf_15 : decode cX7_valueOf 15 = .ok (.bipush 6, 2) := by decide +kernel
theorem dX7_valueOf_17 : decode cX7_valueOf 17 = .ok (.iload_n 1, 1) := by decide +kernel
theorem dX7_valueOf_18 : decode cX7_valueOf 18 = .ok (.imul, 1) := by decide +kernel
theorem dX7_valueOf_19 : decode cX7_valueOf 19 = .ok (.iload_n 2, 1) := by decide +kernel
theorem dX7_valueOf_20 : decode cX7_valueOf 20 = .ok (.iadd, 1) := by decide +kernel
theorem dX7_valueOf_21 : decode cX7_valueOf 21 = .ok (.iaload, 1) := by decide +kernel
theorem dX7_valueOf_22 : decode cX7_valueOf 22 = .ok (.iadd, 1) := by decide +kernel
theorem dX7_valueOf_23 : decode cX7_valueOf 23 = .ok (.aload_n 0, 1) := by decide +kernel
theorem dX7_valueOf_24 : decode cX7_valueOf 24 = .ok (.getfield 47, 3) := by decide +kernel
theorem dX7_valueOf_27 : decode cX7_valueOf 27 = .ok (.bipush 6, 2) := by decide +kernel
theorem dX7_valueOf_29 : decode cX7_valueOf 29 = .ok (.iload_n 1, 1) := by decide +kernel
theorem dX7_valueOf_30 : decode cX7_valueOf 30 = .ok (.imul, 1) := by decide +kernel
theorem dX7_valueOf_31 : decode cX7_valueOf 31 = .ok (.iload_n 2, 1) := by decide +kernel
theorem dX7_valueOf_32 : decode cX7_valueOf 32 = .ok (.iadd, 1) := by decide +kernel
theorem dX7_valueOf_33 : decode cX7_valueOf 33 = .ok (.iaload, 1) := by decide +kernel
theorem dX7_valueOf_34 : decode cX7_valueOf 34 = .ok (.iadd, 1) := by decide +kernel
theorem dX7_valueOf_35 : decode cX7_valueOf 35 = .ok (.istore_n 3, 1) := by decide +kernel
theorem dX7_valueOf_36 : decode cX7_valueOf 36 = .ok (.iload_n 2, 1) := by decide +kernel
theorem dX7_valueOf_37 : decode cX7_valueOf 37 = .ok (.iconst 2, 1) := by decide +kernel
theorem dX7_valueOf_38 : decode cX7_valueOf 38 = .ok (.if_icmp .ge 7, 3) := by decide +kernel
theorem dX7_valueOf_41 : decode cX7_valueOf 41 = .ok (.iconst 0, 1) := by decide +kernel
theorem dX7_valueOf_42 : decode cX7_valueOf 42 = .ok (.goto 14, 3) := by decide +kernel
theorem dX7_valueOf_45 : decode cX7_valueOf 45 = .ok (.iload_n 2, 1) := by decide +kernel
theorem dX7_valueOf_46 : decode cX7_valueOf 46 = .ok (.iconst 5, 1) := by decide +kernel
theorem dX7_valueOf_47 : decode cX7_valueOf 47 = .ok (.if_icmp .ne 8, 3) := by decide +kernel
theorem dX7_valueOf_50 : decode cX7_valueOf 50 = .ok (.bipush 20, 2) := by decide +kernel
theorem dX7_valueOf_52 : decode cX7_valueOf 52 = .ok (.goto 4, 3) := by decide +kernel
theorem dX7_valueOf_55 : decode cX7_valueOf 55 = .ok (.iconst 1, 1) := by decide +kernel
theorem dX7_valueOf_56 : decode cX7_valueOf 56 = .ok (.istore 4, 2) := by decide +kernel
theorem dX7_valueOf_58 : decode cX7_valueOf 58 = .ok (.iload_n 2, 1) := by decide +kernel
theorem dX7_valueOf_59 : decode cX7_valueOf 59 = .ok (.iconst 2, 1) := by decide +kernel
theorem dX7_valueOf_60 : decode cX7_valueOf 60 = .ok (.if_icmp .ge 8, 3) := by decide +kernel
theorem dX7_valueOf_63 : decode cX7_valueOf 63 = .ok (.bipush 99, 2) := by decide +kernel
theorem dX7_valueOf_65 : decode cX7_valueOf 65 = .ok (.goto 17, 3) := by decide +kernel
theorem dX7_valueOf_68 : decode cX7_valueOf 68 = .ok (.iload_n 2, 1) := by decide +kernel
theorem dX7_valueOf_69 : decode cX7_valueOf 69 = .ok (.iconst 5, 1) := by decide +kernel
theorem dX7_valueOf_70 : decode cX7_valueOf 70 = .ok (.if_icmp .ne 9, 3) := by decide +kernel
theorem dX7_valueOf_73 : decode cX7_valueOf 73 = .ok (.sipush 900, 3) := by decide +kernel
theorem dX7_valueOf_76 : decode cX7_valueOf 76 = .ok (.goto 6, 3) := by decide +kernel
theorem dX7_valueOf_79 : decode cX7_valueOf 79 = .ok (.sipush 9999, 3) := by decide +kernel
theorem dX7_valueOf_82 : decode cX7_valueOf 82 = .ok (.istore 5, 2) := by decide +kernel
theorem dX7_valueOf_84 : decode cX7_valueOf 84 = .ok (.iload_n 3, 1) := by decide +kernel
theorem dX7_valueOf_85 : decode cX7_valueOf 85 = .ok (.iload 4, 2) := by decide +kernel
theorem dX7_valueOf_87 : decode cX7_valueOf 87 = .ok (.if_icmp .ge 8, 3) := by decide +kernel
theorem dX7_valueOf_90 : decode cX7_valueOf 90 = .ok (.iload 4, 2) := by decide +kernel
theorem dX7_valueOf_92 : decode cX7_valueOf 92 = .ok (.goto 15, 3) := by decide +kernel
theorem dX7_valueOf_95 : decode cX7_valueOf 95 = .ok (.iload_n 3, 1) := by decide +kernel
theorem dX7_valueOf_96 : decode cX7_valueOf 96 = .ok (.iload 5, 2) := by decide +kernel
theorem dX7_valueOf_98 : decode cX7_valueOf 98 = .ok (.if_icmp .le 8, 3) := by decide +kernel
theorem dX7_valueOf_101 : decode cX7_valueOf 101 = .ok (.iload 5, 2) := by decide +kernel
theorem dX7_valueOf_103 : decode cX7_valueOf 103 = .ok (.goto 4, 3) := by decide +kernel
theorem dX7_valueOf_106 : decode cX7_valueOf 106 = .ok (.iload_n 3, 1) := by decide +kernel
theorem dX7_valueOf_107 : decode cX7_valueOf 107 = .ok (.ireturn, 1) := by decide +kernel
theorem dX7_ofSet_0 : decode cX7_ofSet 0 = .ok (.aload_n 0, 1) := by decide +kernel
theorem dX7_ofSet_1 : decode cX7_ofSet 1 = .ok (.iload_n 1, 1) := by decide +kernel
theorem dX7_ofSet_2 : decode cX7_ofSet 2 = .ok (.invokevirtual 173, 3) := by decide +kernel
theorem dX7_ofSet_5 : decode cX7_ofSet 5 = .ok (.ifCond .eq 21, 3) := by decide +kernel
theorem dX7_ofSet_8 : decode cX7_ofSet 8 = .ok (.iload_n 2, 1) := by decide +kernel
theorem dX7_ofSet_9 : decode cX7_ofSet 9 = .ok (.iconst 0, 1) := by decide +kernel
theorem dX7_ofSet_10 : decode cX7_ofSet 10 = .ok (.iconst 5, 1) := by decide +kernel
theorem dX7_ofSet_11 : decode cX7_ofSet 11 = .ok (.invokestatic 75, 3) := by decide +kernel
theorem dX7_ofSet_14 : decode cX7_ofSet 14 = .ok (.ifCond .eq 12, 3) := by decide +kernel
theorem dX7_ofSet_17 : decode cX7_ofSet 17 = .ok (.iload_n 3, 1) := by decide +kernel
theorem dX7_ofSet_18 : decode cX7_ofSet 18 = .ok (.iconst 0, 1) := by decide +kernel
theorem dX7_ofSet_19 : decode cX7_ofSet 19 = .ok (.iconst 1, 1) := by decide +kernel
theorem dX7_ofSet_20 : decode cX7_ofSet 20 = .ok (.invokestatic 75, 3) := by decide +kernel
theorem dX7_ofSet_23 : decode cX7_ofSet 23 = .ok (.ifCond .ne 6, 3) := by decide +kernel
theorem dX7_ofSet_26 : decode cX7_ofSet 26 = .ok (.ldc 90, 2) := by decide +kernel
theorem dX7_ofSet_28 : decode cX7_ofSet 28 = .ok (.ireturn, 1) := by decide +kernel
theorem dX7_ofSet_29 : decode cX7_ofSet 29 = .ok (.iload_n 3, 1) := by decide +kernel
theorem dX7_ofSet_30 : decode cX7_ofSet 30 = .ok (.ifCond .ne 12, 3) := by decide +kernel
theorem dX7_ofSet_33 : decode cX7_ofSet 33 = .ok (.aload_n 0, 1) := by decide +kernel
theorem dX7_ofSet_34 : decode cX7_ofSet 34 = .ok (.iload_n 1, 1) := by decide +kernel
theorem dX7_ofSet_35 : decode cX7_ofSet 35 = .ok (.iload_n 2, 1) := by decide +kernel
theorem dX7_ofSet_36 : decode cX7_ofSet 36 = .ok (.invokevirtual 176, 3) := by decide +kernel
theorem dX7_ofSet_39 : decode cX7_ofSet 39 = .ok (.goto 14, 3) := by decide +kernel
theorem dX7_ofSet_42 : decode cX7_ofSet 42 = .ok (.aload_n 0, 1) := by decide +kernel
theorem dX7_ofSet_43 : decode cX7_ofSet 43 = .ok (.getfield 47, 3) := by decide +kernel
theorem dX7_ofSet_46 : decode cX7_ofSet 46 = .ok (.bipush 6, 2) := by decide +kernel
theorem dX7_ofSet_48 : decode cX7_ofSet 48 = .ok (.iload_n 1, 1) := by decide +kernel
theorem dX7_ofSet_49 : decode cX7_ofSet 49 = .ok (.imul, 1) := by decide +kernel
theorem dX7_ofSet_50 : decode cX7_ofSet 50 = .ok (.iload_n 2, 1) := by decide +kernel
theorem dX7_ofSet_51 : decode cX7_ofSet 51 = .ok (.iadd, 1) := by decide +kernel
theorem dX7_ofSet_52 : decode cX7_ofSet 52 = .ok (.iaload, 1) := by decide +kernel
theorem dX7_ofSet_53 : decode cX7_ofSet 53 = .ok (.ireturn, 1) := by decide +kernel
theorem dX7_errorNow_0 : decode cX7_errorNow 0 = .ok (.aload_n 0, 1) := by decide +kernel
theorem dX7_errorNow_1 : decode cX7_errorNow 1 = .ok (.iload_n 1, 1) := by decide +kernel
theorem dX7_errorNow_2 : decode cX7_errorNow 2 = .ok (.iconst 5, 1) := by decide +kernel
theorem dX7_errorNow_3 : decode cX7_errorNow 3 = .ok (.invokevirtual 176, 3) := by decide +kernel
theorem dX7_errorNow_6 : decode cX7_errorNow 6 = .ok (.istore_n 2, 1) := by decide +kernel
theorem dX7_errorNow_7 : decode cX7_errorNow 7 = .ok (.aload_n 0, 1) := by decide +kernel
theorem dX7_errorNow_8 : decode cX7_errorNow 8 = .ok (.aload_n 0, 1) := by decide +kernel
theorem dX7_errorNow_9 : decode cX7_errorNow 9 = .ok (.iload_n 1, 1) := by decide +kernel
theorem dX7_errorNow_10 : decode cX7_errorNow 10 = .ok (.iconst 0, 1) := by decide +kernel
theorem dX7_errorNow_11 : decode cX7_errorNow 11 = .ok (.invokevirtual 176, 3) := by decide +kernel
theorem dX7_errorNow_14 : decode cX7_errorNow 14 = .ok (.aload_n 0, 1) := by decide +kernel
theorem dX7_errorNow_15 : decode cX7_errorNow 15 = .ok (.iload_n 1, 1) := by decide +kernel
theorem dX7_errorNow_16 : decode cX7_errorNow 16 = .ok (.iconst 1, 1) := by decide +kernel
theorem dX7_errorNow_17 : decode cX7_errorNow 17 = .ok (.invokevirtual 176, 3) := by decide +kernel
theorem dX7_errorNow_20 : decode cX7_errorNow 20 = .ok (.aload_n 0, 1) := by decide +kernel
theorem dX7_errorNow_21 : decode cX7_errorNow 21 = .ok (.iload_n 1, 1) := by decide +kernel
theorem dX7_errorNow_22 : decode cX7_errorNow 22 = .ok (.iconst 2, 1) := by decide +kernel
theorem dX7_errorNow_23 : decode cX7_errorNow 23 = .ok (.invokevirtual 176, 3) := by decide +kernel
theorem dX7_errorNow_26 : decode cX7_errorNow 26 = .ok (.aload_n 0, 1) := by decide +kernel
theorem dX7_errorNow_27 : decode cX7_errorNow 27 = .ok (.iload_n 1, 1) := by decide +kernel
theorem dX7_errorNow_28 : decode cX7_errorNow 28 = .ok (.iconst 3, 1) := by decide +kernel
theorem dX7_errorNow_29 : decode cX7_errorNow 29 = .ok (.invokevirtual 176, 3) := by decide +kernel
theorem dX7_errorNow_32 : decode cX7_errorNow 32 = .ok (.aload_n 0, 1) := by decide +kernel
theorem dX7_errorNow_33 : decode cX7_errorNow 33 = .ok (.iload_n 1, 1) := by decide +kernel
theorem dX7_errorNow_34 : decode cX7_errorNow 34 = .ok (.iconst 4, 1) := by decide +kernel
theorem dX7_errorNow_35 : decode cX7_errorNow 35 = .ok (.invokevirtual 176, 3) := by decide +kernel
theorem dX7_errorNow_38 : decode cX7_errorNow 38 = .ok (.iload_n 2, 1) := by decide +kernel
theorem dX7_errorNow_39 : decode cX7_errorNow 39 = .ok (.invokevirtual 165, 3) := by decide +kernel
theorem dX7_errorNow_42 : decode cX7_errorNow 42 = .ok (.bipush 10, 2) := by decide +kernel
theorem dX7_errorNow_44 : decode cX7_errorNow 44 = .ok (.iload_n 2, 1) := by decide +kernel
theorem dX7_errorNow_45 : decode cX7_errorNow 45 = .ok (.aload_n 0, 1) := by decide +kernel
theorem dX7_errorNow_46 : decode cX7_errorNow 46 = .ok (.getfield 41, 3) := by decide +kernel
theorem dX7_errorNow_49 : decode cX7_errorNow 49 = .ok (.bipush 6, 2) := by decide +kernel
theorem dX7_errorNow_51 : decode cX7_errorNow 51 = .ok (.iload_n 1, 1) := by decide +kernel
theorem dX7_errorNow_52 : decode cX7_errorNow 52 = .ok (.imul, 1) := by decide +kernel
theorem dX7_errorNow_53 : decode cX7_errorNow 53 = .ok (.iconst 5, 1) := by decide +kernel
theorem dX7_errorNow_54 : decode cX7_errorNow 54 = .ok (.iadd, 1) := by decide +kernel
theorem dX7_errorNow_55 : decode cX7_errorNow 55 = .ok (.iaload, 1) := by decide +kernel
theorem dX7_errorNow_56 : decode cX7_errorNow 56 = .ok (.isub, 1) := by decide +kernel
theorem dX7_errorNow_57 : decode cX7_errorNow 57 = .ok (.invokestatic 91, 3) := by decide +kernel
theorem dX7_errorNow_60 : decode cX7_errorNow 60 = .ok (.imul, 1) := by decide +kernel
theorem dX7_errorNow_61 : decode cX7_errorNow 61 = .ok (.iadd, 1) := by decide +kernel
theorem dX7_errorNow_62 : decode cX7_errorNow 62 = .ok (.ireturn, 1) := by decide +kernel
theorem dX7_errorOf_0 : decode cX7_errorOf 0 = .ok (.aload_n 0, 1) := by decide +kernel
theorem dX7_errorOf_1 : decode cX7_errorOf 1 = .ok (.iload_n 1, 1) := by decide +kernel
theorem dX7_errorOf_2 : decode cX7_errorOf 2 = .ok (.invokevirtual 173, 3) := by decide +kernel
theorem dX7_errorOf_5 : decode cX7_errorOf 5 = .ok (.ifCond .eq 11, 3) := by decide +kernel
theorem dX7_errorOf_8 : decode cX7_errorOf 8 = .ok (.aload_n 0, 1) := by decide +kernel
theorem dX7_errorOf_9 : decode cX7_errorOf 9 = .ok (.iload_n 1, 1) := by decide +kernel
theorem dX7_errorOf_10 : decode cX7_errorOf 10 = .ok (.invokevirtual 179, 3) := by decide +kernel
theorem dX7_errorOf_13 : decode cX7_errorOf 13 = .ok (.goto 4, 3) := by decide +kernel
theorem dX7_errorOf_16 : decode cX7_errorOf 16 = .ok (.iconst (-1), 1) := by decide +kernel
theorem dX7_errorOf_17 : decode cX7_errorOf 17 = .ok (.ireturn, 1) := by decide +kernel
theorem dX7_sheet_0 : decode cX7_sheet 0 = .ok (.iload_n 1, 1) := by decide +kernel
theorem dX7_sheet_1 : decode cX7_sheet 1 = .ok (.iconst 0, 1) := by decide +kernel
theorem dX7_sheet_2 : decode cX7_sheet 2 = .ok (.iconst 5, 1) := by decide +kernel
theorem dX7_sheet_3 : decode cX7_sheet 3 = .ok (.invokestatic 75, 3) := by decide +kernel
theorem dX7_sheet_6 : decode cX7_sheet 6 = .ok (.ifCond .eq 13, 3) := by decide +kernel
theorem dX7_sheet_9 : decode cX7_sheet 9 = .ok (.iload_n 2, 1) := by decide +kernel
theorem dX7_sheet_10 : decode cX7_sheet 10 = .ok (.iconst 1, 1) := by decide +kernel
theorem dX7_sheet_11 : decode cX7_sheet 11 = .ok (.bipush 20, 2) := by decide +kernel
theorem dX7_sheet_13 : decode cX7_sheet 13 = .ok (.invokestatic 75, 3) := by decide +kernel
theorem dX7_sheet_16 : decode cX7_sheet 16 = .ok (.ifCond .ne 5, 3) := by decide +kernel
theorem dX7_sheet_19 : decode cX7_sheet 19 = .ok (.iconst (-1), 1) := by decide +kernel
theorem dX7_sheet_20 : decode cX7_sheet 20 = .ok (.ireturn, 1) := by decide +kernel
theorem dX7_sheet_21 : decode cX7_sheet 21 = .ok (.aload_n 0, 1) := by decide +kernel
theorem dX7_sheet_22 : decode cX7_sheet 22 = .ok (.getfield 182, 3) := by decide +kernel
theorem dX7_sheet_25 : decode cX7_sheet 25 = .ok (.bipush 8, 2) := by decide +kernel
theorem dX7_sheet_27 : decode cX7_sheet 27 = .ok (.if_icmp .ne 6, 3) := by decide +kernel
theorem dX7_sheet_30 : decode cX7_sheet 30 = .ok (.bipush (-2), 2) := by decide +kernel
theorem dX7_sheet_32 : decode cX7_sheet 32 = .ok (.ireturn, 1) := by decide +kernel
theorem dX7_sheet_33 : decode cX7_sheet 33 = .ok (.aload_n 0, 1) := by decide +kernel
theorem dX7_sheet_34 : decode cX7_sheet 34 = .ok (.getfield 50, 3) := by decide +kernel
theorem dX7_sheet_37 : decode cX7_sheet 37 = .ok (.aload_n 0, 1) := by decide +kernel
theorem dX7_sheet_38 : decode cX7_sheet 38 = .ok (.getfield 182, 3) := by decide +kernel
theorem dX7_sheet_41 : decode cX7_sheet 41 = .ok (.iload_n 1, 1) := by decide +kernel
theorem dX7_sheet_42 : decode cX7_sheet 42 = .ok (.iastore, 1) := by decide +kernel
theorem dX7_sheet_43 : decode cX7_sheet 43 = .ok (.aload_n 0, 1) := by decide +kernel
theorem dX7_sheet_44 : decode cX7_sheet 44 = .ok (.getfield 53, 3) := by decide +kernel
theorem dX7_sheet_47 : decode cX7_sheet 47 = .ok (.aload_n 0, 1) := by decide +kernel
theorem dX7_sheet_48 : decode cX7_sheet 48 = .ok (.getfield 182, 3) := by decide +kernel
theorem dX7_sheet_51 : decode cX7_sheet 51 = .ok (.iload_n 2, 1) := by decide +kernel
theorem dX7_sheet_52 : decode cX7_sheet 52 = .ok (.iastore, 1) := by decide +kernel
theorem dX7_sheet_53 : decode cX7_sheet 53 = .ok (.aload_n 0, 1) := by decide +kernel
theorem dX7_sheet_54 : decode cX7_sheet 54 = .ok (.dup, 1) := by decide +kernel
theorem dX7_sheet_55 : decode cX7_sheet 55 = .ok (.getfield 182, 3) := by decide +kernel
theorem dX7_sheet_58 : decode cX7_sheet 58 = .ok (.iconst 1, 1) := by decide +kernel
theorem dX7_sheet_59 : decode cX7_sheet 59 = .ok (.iadd, 1) := by decide +kernel
theorem dX7_sheet_60 : decode cX7_sheet 60 = .ok (.putfield 182, 3) := by decide +kernel
theorem dX7_sheet_63 : decode cX7_sheet 63 = .ok (.aload_n 0, 1) := by decide +kernel
theorem dX7_sheet_64 : decode cX7_sheet 64 = .ok (.getfield 182, 3) := by decide +kernel
theorem dX7_sheet_67 : decode cX7_sheet 67 = .ok (.ireturn, 1) := by decide +kernel
theorem dX7_turn_0 : decode cX7_turn 0 = .ok (.iconst 0, 1) := by decide +kernel
theorem dX7_turn_1 : decode cX7_turn 1 = .ok (.istore 4, 2) := by decide +kernel
theorem dX7_turn_3 : decode cX7_turn 3 = .ok (.aload_n 0, 1) := by decide +kernel
theorem dX7_turn_4 : decode cX7_turn 4 = .ok (.iload_n 1, 1) := by decide +kernel
theorem dX7_turn_5 : decode cX7_turn 5 = .ok (.invokevirtual 179, 3) := by decide +kernel
theorem dX7_turn_8 : decode cX7_turn 8 = .ok (.istore 5, 2) := by decide +kernel
theorem dX7_turn_10 : decode cX7_turn 10 = .ok (.iconst 1, 1) := by decide +kernel
theorem dX7_turn_11 : decode cX7_turn 11 = .ok (.istore 6, 2) := by decide +kernel
theorem dX7_turn_13 : decode cX7_turn 13 = .ok (.iload 6, 2) := by decide +kernel
theorem dX7_turn_15 : decode cX7_turn 15 = .ok (.ifCond .eq 79, 3) := by decide +kernel
theorem dX7_turn_18 : decode cX7_turn 18 = .ok (.iload 4, 2) := by decide +kernel
theorem dX7_turn_20 : decode cX7_turn 20 = .ok (.bipush 30, 2) := by decide +kernel
theorem dX7_turn_22 : decode cX7_turn 22 = .ok (.if_icmp .ge 72, 3) := by decide +kernel
theorem dX7_turn_25 : decode cX7_turn 25 = .ok (.aload_n 0, 1) := by decide +kernel
theorem dX7_turn_26 : decode cX7_turn 26 = .ok (.getfield 47, 3) := by decide +kernel
theorem dX7_turn_29 : decode cX7_turn 29 = .ok (.bipush 6, 2) := by decide +kernel
theorem dX7_turn_31 : decode cX7_turn 31 = .ok (.iload_n 1, 1) := by decide +kernel
theorem dX7_turn_32 : decode cX7_turn 32 = .ok (.imul, 1) := by decide +kernel
theorem dX7_turn_33 : decode cX7_turn 33 = .ok (.iload_n 2, 1) := by decide +kernel
theorem dX7_turn_34 : decode cX7_turn 34 = .ok (.iadd, 1) := by decide +kernel
theorem dX7_turn_35 : decode cX7_turn 35 = .ok (.dup2, 1) := by decide +kernel
theorem dX7_turn_36 : decode cX7_turn 36 = .ok (.iaload, 1) := by decide +kernel
theorem dX7_turn_37 : decode cX7_turn 37 = .ok (.iload_n 3, 1) := by decide +kernel
theorem dX7_turn_38 : decode cX7_turn 38 = .ok (.iadd, 1) := by decide +kernel
theorem dX7_turn_39 : decode cX7_turn 39 = .ok (.iastore, 1) := by decide +kernel
