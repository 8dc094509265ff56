theorem dX5_init_0 : decode cX5_init 0 = .ok (.aload_n 0, 1) := by decide +kernel
theorem dX5_init_1 : decode cX5_init 1 = .ok (.invokespecial 3, 3) := by decide +kernel
theorem dX5_init_4 : decode cX5_init 4 = .ok (.aload_n 0, 1) := by decide +kernel
theorem dX5_init_5 : decode cX5_init 5 = .ok (.bipush 6, 2) := by decide +kernel
theorem dX5_init_7 : decode cX5_init 7 = .ok (.newarray .int, 2) := by decide +kernel
theorem dX5_init_9 : decode cX5_init 9 = .ok (.dup, 1) := by decide +kernel
theorem dX5_init_10 : decode cX5_init 10 = .ok (.iconst 0, 1) := by decide +kernel
theorem dX5_init_11 : decode cX5_init 11 = .ok (.bipush 20, 2) := by decide +kernel
theorem dX5_init_13 : decode cX5_init 13 = .ok (.iastore, 1) := by decide +kernel
theorem dX5_init_14 : decode cX5_init 14 = .ok (.dup, 1) := by decide +kernel
theorem dX5_init_15 : decode cX5_init 15 = .ok (.iconst 1, 1) := by decide +kernel
theorem dX5_init_16 : decode cX5_init 16 = .ok (.bipush 20, 2) := by decide +kernel
theorem dX5_init_18 : decode cX5_init 18 = .ok (.iastore, 1) := by decide +kernel
theorem dX5_init_19 : decode cX5_init 19 = .ok (.dup, 1) := by decide +kernel
theorem dX5_init_20 : decode cX5_init 20 = .ok (.iconst 2, 1) := by decide +kernel
theorem dX5_init_21 : decode cX5_init 21 = .ok (.sipush 400, 3) := by decide +kernel
theorem dX5_init_24 : decode cX5_init 24 = .ok (.iastore, 1) := by decide +kernel
theorem dX5_init_25 : decode cX5_init 25 = .ok (.dup, 1) := by decide +kernel
theorem dX5_init_26 : decode cX5_init 26 = .ok (.iconst 3, 1) := by decide +kernel
theorem dX5_init_27 : decode cX5_init 27 = .ok (.sipush 200, 3) := by decide +kernel
theorem dX5_init_30 : decode cX5_init 30 = .ok (.iastore, 1) := by decide +kernel
theorem dX5_init_31 : decode cX5_init 31 = .ok (.dup, 1) := by decide +kernel
theorem dX5_init_32 : decode cX5_init 32 = .ok (.iconst 4, 1) := by decide +kernel
theorem dX5_init_33 : decode cX5_init 33 = .ok (.bipush 100, 2) := by decide +kernel
theorem dX5_init_35 : decode cX5_init 35 = .ok (.iastore, 1) := by decide +kernel
theorem dX5_init_36 : decode cX5_init 36 = .ok (.dup, 1) := by decide +kernel
theorem dX5_init_37 : decode cX5_init 37 = .ok (.iconst 5, 1) := by decide +kernel
theorem dX5_init_38 : decode cX5_init 38 = .ok (.sipush 450, 3) := by decide +kernel
theorem dX5_init_41 : decode cX5_init 41 = .ok (.iastore, 1) := by decide +kernel
theorem dX5_init_42 : decode cX5_init 42 = .ok (.putfield 9, 3) := by decide +kernel
theorem dX5_init_45 : decode cX5_init 45 = .ok (.aload_n 0, 1) := by decide +kernel
theorem dX5_init_46 : decode cX5_init 46 = .ok (.iconst 5, 1) := by decide +kernel
theorem dX5_init_47 : decode cX5_init 47 = .ok (.newarray .int, 2) := by decide +kernel
theorem dX5_init_49 : decode cX5_init 49 = .ok (.putfield 15, 3) := by decide +kernel
theorem dX5_init_52 : decode cX5_init 52 = .ok (.aload_n 0, 1) := by decide +kernel
theorem dX5_init_53 : decode cX5_init 53 = .ok (.bipush 40, 2) := by decide +kernel
theorem dX5_init_55 : decode cX5_init 55 = .ok (.putfield 18, 3) := by decide +kernel
theorem dX5_init_58 : decode cX5_init 58 = .ok (.aload_n 0, 1) := by decide +kernel
theorem dX5_init_59 : decode cX5_init 59 = .ok (.sipush 400, 3) := by decide +kernel
theorem dX5_init_62 : decode cX5_init 62 = .ok (.putfield 22, 3) := by decide +kernel
theorem dX5_init_65 : decode cX5_init 65 = .ok (.aload_n 0, 1) := by decide +kernel
theorem dX5_init_66 : decode cX5_init 66 = .ok (.iconst 0, 1) := by decide +kernel
theorem dX5_init_67 : decode cX5_init 67 = .ok (.putfield 25, 3) := by decide +kernel
theorem dX5_init_70 : decode cX5_init 70 = .ok (.aload_n 0, 1) := by decide +kernel
theorem dX5_init_71 : decode cX5_init 71 = .ok (.iconst 5, 1) := by decide +kernel
theorem dX5_init_72 : decode cX5_init 72 = .ok (.newarray .int, 2) := by decide +kernel
theorem dX5_init_74 : decode cX5_init 74 = .ok (.putfield 28, 3) := by decide +kernel
theorem dX5_init_77 : decode cX5_init 77 = .ok (.aload_n 0, 1) := by decide +kernel
theorem dX5_init_78 : decode cX5_init 78 = .ok (.iconst 5, 1) := by decide +kernel
theorem dX5_init_79 : decode cX5_init 79 = .ok (.newarray .int, 2) := by decide +kernel
theorem dX5_init_81 : decode cX5_init 81 = .ok (.putfield 31, 3) := by decide +kernel
theorem dX5_init_84 : decode cX5_init 84 = .ok (.aload_n 0, 1) := by decide +kernel
theorem dX5_init_85 : decode cX5_init 85 = .ok (.sipush 1099, 3) := by decide +kernel
theorem dX5_init_88 : decode cX5_init 88 = .ok (.newarray .int, 2) := by decide +kernel
theorem dX5_init_90 : decode cX5_init 90 = .ok (.putfield 34, 3) := by decide +kernel
theorem dX5_init_93 : decode cX5_init 93 = .ok (.aload_n 0, 1) := by decide +kernel
theorem dX5_init_94 : decode cX5_init 94 = .ok (.iconst 0, 1) := by decide +kernel
theorem dX5_init_95 : decode cX5_init 95 = .ok (.putfield 37, 3) := by decide +kernel
theorem dX5_init_98 : decode cX5_init 98 = .ok (.aload_n 0, 1) := by decide +kernel
theorem dX5_init_99 : decode cX5_init 99 = .ok (.aload_n 1, 1) := by decide +kernel
theorem dX5_init_100 : decode cX5_init 100 = .ok (.putfield 40, 3) := by decide +kernel
theorem dX5_init_103 : decode cX5_init 103 = .ok (.return_, 1) := by decide +kernel
theorem dX5_points_0 : decode cX5_points 0 = .ok (.aload_n 0, 1) := by decide +kernel
theorem dX5_points_1 : decode cX5_points 1 = .ok (.getfield 25, 3) := by decide +kernel
theorem dX5_points_4 : decode cX5_points 4 = .ok (.ireturn, 1) := by decide +kernel
theorem dX5_ownParts_0 : decode cX5_ownParts 0 = .ok (.aload_n 0, 1) := by decide +kernel
theorem dX5_ownParts_1 : decode cX5_ownParts 1 = .ok (.getfield 9, 3) := by decide +kernel
theorem dX5_ownParts_4 : decode cX5_ownParts 4 = .ok (.iconst 5, 1) := by decide +kernel
theorem dX5_ownParts_5 : decode cX5_ownParts 5 = .ok (.aload_n 0, 1) := by decide +kernel
theorem dX5_ownParts_6 : decode cX5_ownParts 6 = .ok (.getfield 40, 3) := by decide +kernel
theorem dX5_ownParts_9 : decode cX5_ownParts 9 = .ok (.invokevirtual 44, 3) := by decide +kernel
theorem dX5_ownParts_12 : decode cX5_ownParts 12 = .ok (.iastore, 1) := by decide +kernel
theorem dX5_ownParts_13 : decode cX5_ownParts 13 = .ok (.aload_n 0, 1) := by decide +kernel
theorem dX5_ownParts_14 : decode cX5_ownParts 14 = .ok (.getfield 9, 3) := by decide +kernel
theorem dX5_ownParts_17 : decode cX5_ownParts 17 = .ok (.areturn, 1) := by decide +kernel
theorem dX5_changeGang_0 : decode cX5_changeGang 0 = .ok (.iload_n 1, 1) := by decide +kernel
theorem dX5_changeGang_1 : decode cX5_changeGang 1 = .ok (.bipush 10, 2) := by decide +kernel
theorem dX5_changeGang_3 : decode cX5_changeGang 3 = .ok (.sipush 999, 3) := by decide +kernel
theorem dX5_changeGang_6 : decode cX5_changeGang 6 = .ok (.invokestatic 50, 3) := by decide +kernel
theorem dX5_changeGang_9 : decode cX5_changeGang 9 = .ok (.ifCond .eq 15, 3) := by decide +kernel
theorem dX5_changeGang_12 : decode cX5_changeGang 12 = .ok (.iload_n 2, 1) := by decide +kernel
theorem dX5_changeGang_13 : decode cX5_changeGang 13 = .ok (.bipush 10, 2) := by decide +kernel
theorem dX5_changeGang_15 : decode cX5_changeGang 15 = .ok (.sipush 999, 3) := by decide +kernel
theorem dX5_changeGang_18 : decode cX5_changeGang 18 = .ok (.invokestatic 50, 3) := by decide +kernel
theorem dX5_changeGang_21 : decode cX5_changeGang 21 = .ok (.ifCond .ne 5, 3) := by decide +kernel
theorem dX5_changeGang_24 : decode cX5_changeGang 24 = .ok (.iconst (-1), 1) := by decide +kernel
theorem dX5_changeGang_25 : decode cX5_changeGang 25 = .ok (.ireturn, 1) := by decide +kernel
theorem dX5_changeGang_26 : decode cX5_changeGang 26 = .ok (.aload_n 0, 1) := by decide +kernel
theorem dX5_changeGang_27 : decode cX5_changeGang 27 = .ok (.iload_n 1, 1) := by decide +kernel
theorem dX5_changeGang_28 : decode cX5_changeGang 28 = .ok (.putfield 18, 3) := by decide +kernel
theorem dX5_changeGang_31 : decode cX5_changeGang 31 = .ok (.aload_n 0, 1) := by decide +kernel
theorem dX5_changeGang_32 : decode cX5_changeGang 32 = .ok (.iload_n 2, 1) := by decide +kernel
theorem dX5_changeGang_33 : decode cX5_changeGang 33 = .ok (.putfield 22, 3) := by decide +kernel
theorem dX5_changeGang_36 : decode cX5_changeGang 36 = .ok (.iconst 1, 1) := by decide +kernel
theorem dX5_changeGang_37 : decode cX5_changeGang 37 = .ok (.ireturn, 1) := by decide +kernel
theorem dX5_changePart_0 : decode cX5_changePart 0 = .ok (.iload_n 1, 1) := by decide +kernel
theorem dX5_changePart_1 : decode cX5_changePart 1 = .ok (.iconst 0, 1) := by decide +kernel
theorem dX5_changePart_2 : decode cX5_changePart 2 = .ok (.iconst 4, 1) := by decide +kernel
theorem dX5_changePart_3 : decode cX5_changePart 3 = .ok (.invokestatic 50, 3) := by decide +kernel
theorem dX5_changePart_6 : decode cX5_changePart 6 = .ok (.ifCond .eq 20, 3) := by decide +kernel
theorem dX5_changePart_9 : decode cX5_changePart 9 = .ok (.iload_n 2, 1) := by decide +kernel
theorem dX5_changePart_10 : decode cX5_changePart 10 = .ok (.getstatic 54, 3) := by decide +kernel
theorem dX5_changePart_13 : decode cX5_changePart 13 = .ok (.iload_n 1, 1) := by decide +kernel
theorem dX5_changePart_14 : decode cX5_changePart 14 = .ok (.iaload, 1) := by decide +kernel
theorem dX5_changePart_15 : decode cX5_changePart 15 = .ok (.getstatic 57, 3) := by decide +kernel
theorem dX5_changePart_18 : decode cX5_changePart 18 = .ok (.iload_n 1, 1) := by decide +kernel
theorem dX5_changePart_19 : decode cX5_changePart 19 = .ok (.iaload, 1) := by decide +kernel
theorem dX5_changePart_20 : decode cX5_changePart 20 = .ok (.invokestatic 50, 3) := by decide +kernel
theorem dX5_changePart_23 : decode cX5_changePart 23 = .ok (.ifCond .ne 5, 3) := by decide +kernel
theorem dX5_changePart_26 : decode cX5_changePart 26 = .ok (.iconst (-1), 1) := by decide +kernel
theorem dX5_changePart_27 : decode cX5_changePart 27 = .ok (.ireturn, 1) := by decide +kernel
theorem dX5_changePart_28 : decode cX5_changePart 28 = .ok (.aload_n 0, 1) := by decide +kernel
theorem dX5_changePart_29 : decode cX5_changePart 29 = .ok (.getfield 9, 3) := by decide +kernel
theorem dX5_changePart_32 : decode cX5_changePart 32 = .ok (.iload_n 1, 1) := by decide +kernel
theorem dX5_changePart_33 : decode cX5_changePart 33 = .ok (.iaload, 1) := by decide +kernel
theorem dX5_changePart_34 : decode cX5_changePart 34 = .ok (.istore_n 3, 1) := by decide +kernel
theorem dX5_changePart_35 : decode cX5_changePart 35 = .ok (.aload_n 0, 1) := by decide +kernel
theorem dX5_changePart_36 : decode cX5_changePart 36 = .ok (.getfield 9, 3) := by decide +kernel
theorem dX5_changePart_39 : decode cX5_changePart 39 = .ok (.iload_n 1, 1) := by decide +kernel
theorem dX5_changePart_40 : decode cX5_changePart 40 = .ok (.iload_n 2, 1) := by decide +kernel
theorem dX5_changePart_41 : decode cX5_changePart 41 = .ok (.iastore, 1) := by decide +kernel
theorem dX5_changePart_42 : decode cX5_changePart 42 = .ok (.iload_n 3, 1) := by decide +kernel
theorem dX5_changePart_43 : decode cX5_changePart 43 = .ok (.ireturn, 1) := by decide +kernel
theorem dX5_tunedAt_0 : decode cX5_tunedAt 0 = .ok (.iload_n 2, 1) := by decide +kernel
theorem dX5_tunedAt_1 : decode cX5_tunedAt 1 = .ok (.tableswitch 70 0 2 #[27, 33, 64], 27) := by decide +kernel
theorem dX5_tunedAt_28 : decode cX5_tunedAt 28 = .ok (.aload_n 0, 1) := by decide +kernel
theorem dX5_tunedAt_29 : decode cX5_tunedAt 29 = .ok (.iload_n 1, 1) := by decide +kernel
theorem dX5_tunedAt_30 : decode cX5_tunedAt 30 = .ok (.invokevirtual 60, 3) := by decide +kernel
theorem dX5_tunedAt_33 : decode cX5_tunedAt 33 = .ok (.ireturn, 1) := by decide +kernel
theorem dX5_tunedAt_34 : decode cX5_tunedAt 34 = .ok (.aload_n 0, 1) := by decide +kernel
theorem dX5_tunedAt_35 : decode cX5_tunedAt 35 = .ok (.getfield 9, 3) := by decide +kernel
theorem dX5_tunedAt_38 : decode cX5_tunedAt 38 = .ok (.iconst 4, 1) := by decide +kernel
theorem dX5_tunedAt_39 : decode cX5_tunedAt 39 = .ok (.iaload, 1) := by decide +kernel
theorem dX5_tunedAt_40 : decode cX5_tunedAt 40 = .ok (.aload_n 0, 1) := by decide +kernel
theorem dX5_tunedAt_41 : decode cX5_tunedAt 41 = .ok (.getfield 9, 3) := by decide +kernel
theorem dX5_tunedAt_44 : decode cX5_tunedAt 44 = .ok (.iconst 2, 1) := by decide +kernel
theorem dX5_tunedAt_45 : decode cX5_tunedAt 45 = .ok (.iaload, 1) := by decide +kernel
theorem dX5_tunedAt_46 : decode cX5_tunedAt 46 = .ok (.aload_n 0, 1) := by decide +kernel
theorem dX5_tunedAt_47 : decode cX5_tunedAt 47 = .ok (.iload_n 1, 1) := by decide +kernel
theorem dX5_tunedAt_48 : decode cX5_tunedAt 48 = .ok (.invokevirtual 64, 3) := by decide +kernel
theorem dX5_tunedAt_51 : decode cX5_tunedAt 51 = .ok (.aload_n 0, 1) := by decide +kernel
theorem dX5_tunedAt_52 : decode cX5_tunedAt 52 = .ok (.getfield 9, 3) := by decide +kernel
theorem dX5_tunedAt_55 : decode cX5_tunedAt 55 = .ok (.iconst 1, 1) := by decide +kernel
theorem dX5_tunedAt_56 : decode cX5_tunedAt 56 = .ok (.iaload, 1) := by decide +kernel
theorem dX5_tunedAt_57 : decode cX5_tunedAt 57 = .ok (.iadd, 1) := by decide +kernel
theorem dX5_tunedAt_58 : decode cX5_tunedAt 58 = .ok (.invokestatic 67, 3) := by decide +kernel
theorem dX5_tunedAt_61 : decode cX5_tunedAt 61 = .ok (.invokestatic 71, 3) := by decide +kernel
theorem dX5_tunedAt_64 : decode cX5_tunedAt 64 = .ok (.ireturn, 1) := by decide +kernel
theorem dX5_tunedAt_65 : decode cX5_tunedAt 65 = .ok (.aload_n 0, 1) := by decide +kernel
theorem dX5_tunedAt_66 : decode cX5_tunedAt 66 = .ok (.iload_n 1, 1) := by decide +kernel
theorem dX5_tunedAt_67 : decode cX5_tunedAt 67 = .ok (.invokevirtual 64, 3) := by decide +kernel
theorem dX5_tunedAt_70 : decode cX5_tunedAt 70 = .ok (.ireturn, 1) := by decide +kernel
theorem dX5_tunedAt_71 : decode cX5_tunedAt 71 = .ok (.iconst (-1), 1) := by decide +kernel
theorem dX5_tunedAt_72 : decode cX5_tunedAt 72 = .ok (.ireturn, 1) := by decide +kernel
theorem dX5_errorAt_0 : decode cX5_errorAt 0 = .ok (.aload_n 0, 1) := by decide +kernel
theorem dX5_errorAt_1 : decode cX5_errorAt 1 = .ok (.iload_n 2, 1) := by decide +kernel
theorem dX5_errorAt_2 : decode cX5_errorAt 2 = .ok (.invokevirtual 64, 3) := by decide +kernel
theorem dX5_errorAt_5 : decode cX5_errorAt 5 = .ok (.istore_n 3, 1) := by decide +kernel
theorem dX5_errorAt_6 : decode cX5_errorAt 6 = .ok (.aload_n 1, 1) := by decide +kernel
theorem dX5_errorAt_7 : decode cX5_errorAt 7 = .ok (.iconst 3, 1) := by decide +kernel
theorem dX5_errorAt_8 : decode cX5_errorAt 8 = .ok (.iaload, 1) := by decide +kernel
theorem dX5_errorAt_9 : decode cX5_errorAt 9 = .ok (.iload_n 3, 1) := by decide +kernel
theorem dX5_errorAt_10 : decode cX5_errorAt 10 = .ok (.aload_n 1, 1) := by decide +kernel
theorem dX5_errorAt_11 : decode cX5_errorAt 11 = .ok (.iconst 0, 1) := by decide +kernel
theorem dX5_errorAt_12 : decode cX5_errorAt 12 = .ok (.iaload, 1) := by decide +kernel
theorem dX5_errorAt_13 : decode cX5_errorAt 13 = .ok (.iadd, 1) := by decide +kernel
theorem dX5_errorAt_14 : decode cX5_errorAt 14 = .ok (.invokestatic 71, 3) := by decide +kernel
theorem dX5_errorAt_17 : decode cX5_errorAt 17 = .ok (.istore 4, 2) := by decide +kernel
theorem dX5_errorAt_19 : decode cX5_errorAt 19 = .ok (.aload_n 1, 1) := by decide +kernel
theorem dX5_errorAt_20 : decode cX5_errorAt 20 = .ok (.iconst 4, 1) := by decide +kernel
theorem dX5_errorAt_21 : decode cX5_errorAt 21 = .ok (.iaload, 1) := by decide +kernel
theorem dX5_errorAt_22 : decode cX5_errorAt 22 = .ok (.aload_n 1, 1) := by decide +kernel
theorem dX5_errorAt_23 : decode cX5_errorAt 23 = .ok (.iconst 2, 1) := by decide +kernel
theorem dX5_errorAt_24 : decode cX5_errorAt 24 = .ok (.iaload, 1) := by decide +kernel
theorem dX5_errorAt_25 : decode cX5_errorAt 25 = .ok (.iload_n 3, 1) := by decide +kernel
theorem dX5_errorAt_26 : decode cX5_errorAt 26 = .ok (.aload_n 1, 1) := by decide +kernel
theorem dX5_errorAt_27 : decode cX5_errorAt 27 = .ok (.iconst 1, 1) := by decide +kernel
theorem dX5_errorAt_28 : decode cX5_errorAt 28 = .ok (.iaload, 1) := by decide +kernel
theorem dX5_errorAt_29 : decode cX5_errorAt 29 = .ok (.iadd, 1) := by decide +kernel
theorem dX5_errorAt_30 : decode cX5_errorAt 30 = .ok (.invokestatic 67, 3) := by decide +kernel
theorem dX5_errorAt_33 : decode cX5_errorAt 33 = .ok (.invokestatic 71, 3) := by decide +kernel
theorem dX5_errorAt_36 : decode cX5_errorAt 36 = .ok (.istore 5, 2) := by decide +kernel
theorem dX5_errorAt_38 : decode cX5_errorAt 38 = .ok (.aload_n 0, 1) := by decide +kernel
theorem dX5_errorAt_39 : decode cX5_errorAt 39 = .ok (.getfield 40, 3) := by decide +kernel
theorem dX5_errorAt_42 : decode cX5_errorAt 42 = .ok (.invokevirtual 74, 3) := by decide +kernel
theorem dX5_errorAt_45 : decode cX5_errorAt 45 = .ok (.ifCond .eq 11, 3) := by decide +kernel
theorem dX5_errorAt_48 : decode cX5_errorAt 48 = .ok (.iload 5, 2) := by decide +kernel
theorem dX5_errorAt_50 : decode cX5_errorAt 50 = .ok (.iload 4, 2) := by decide +kernel
theorem dX5_errorAt_52 : decode cX5_errorAt 52 = .ok (.isub, 1) := by decide +kernel
theorem dX5_errorAt_53 : decode cX5_errorAt 53 = .ok (.goto 8, 3) := by decide +kernel
theorem dX5_errorAt_56 : decode cX5_errorAt 56 = .ok (.iload 4, 2) := by decide +kernel
theorem dX5_errorAt_58 : decode cX5_errorAt 58 = .ok (.iload 5, 2) := by decide +kernel
theorem dX5_errorAt_60 : decode cX5_errorAt 60 = .ok (.isub, 1) := by decide +kernel
theorem dX5_errorAt_61 : decode cX5_errorAt 61 = .ok (.istore 6, 2) := by decide +kernel
theorem dX5_errorAt_63 : decode cX5_errorAt 63 = .ok (.iload 6, 2) := by decide +kernel
theorem dX5_errorAt_65 : decode cX5_errorAt 65 = .ok (.aload_n 1, 1) := by decide +kernel
theorem dX5_errorAt_66 : decode cX5_errorAt 66 = .ok (.iconst 5, 1) := by decide +kernel
theorem dX5_errorAt_67 : decode cX5_errorAt 67 = .ok (.iaload, 1) := by decide +kernel
theorem dX5_errorAt_68 : decode cX5_errorAt 68 = .ok (.isub, 1) := by decide +kernel
theorem dX5_errorAt_69 : decode cX5_errorAt 69 = .ok (.ireturn, 1) := by decide +kernel
theorem dX5_errorWith_0 : decode cX5_errorWith 0 = .ok (.bipush 10, 2) := by decide +kernel
theorem dX5_errorWith_2 : decode cX5_errorWith 2 = .ok (.aload_n 1, 1) := by decide +kernel
theorem dX5_errorWith_3 : decode cX5_errorWith 3 = .ok (.iconst 5, 1) := by decide +kernel
theorem dX5_errorWith_4 : decode cX5_errorWith 4 = .ok (.iaload, 1) := by decide +kernel
theorem dX5_errorWith_5 : decode cX5_errorWith 5 = .ok (.iload_n 2, 1) := by decide +kernel
theorem dX5_errorWith_6 : decode cX5_errorWith 6 = .ok (.isub, 1) := by decide +kernel
theorem dX5_errorWith_7 : decode cX5_errorWith 7 = .ok (.invokestatic 78, 3) := by decide +kernel
theorem dX5_errorWith_10 : decode cX5_errorWith 10 = .ok (.imul, 1) := by decide +kernel
theorem dX5_errorWith_11 : decode cX5_errorWith 11 = .ok (.istore_n 3, 1) := by decide +kernel
theorem dX5_errorWith_12 : decode cX5_errorWith 12 = .ok (.iconst 0, 1) := by decide +kernel
theorem dX5_errorWith_13 : decode cX5_errorWith 13 = .ok (.istore 4, 2) := by decide +kernel
theorem dX5_errorWith_15 : decode cX5_errorWith 15 = .ok (.iload 4, 2) := by decide +kernel
theorem dX5_errorWith_17 : decode cX5_errorWith 17 = .ok (.aload_n 0, 1) := by decide +kernel
theorem dX5_errorWith_18 : decode cX5_errorWith 18 = .ok (.getfield 25, 3) := by decide +kernel
theorem dX5_errorWith_21 : decode cX5_errorWith 21 = .ok (.if_icmp .ge 27, 3) := by decide +kernel
theorem dX5_errorWith_24 : decode cX5_errorWith 24 = .ok (.iload_n 3, 1) := by decide +kernel
theorem dX5_errorWith_25 : decode cX5_errorWith 25 = .ok (.aload_n 0, 1) := by decide +kernel
theorem dX5_errorWith_26 : decode cX5_errorWith 26 = .ok (.aload_n 1, 1) := by decide +kernel
theorem dX5_errorWith_27 : decode cX5_errorWith 27 = .ok (.aload_n 0, 1) := by decide +kernel
theorem dX5_errorWith_28 : decode cX5_errorWith 28 = .ok (.getfield 15, 3) := by decide +kernel
theorem dX5_errorWith_31 : decode cX5_errorWith 31 = .ok (.iload 4, 2) := by decide +kernel
theorem dX5_errorWith_33 : decode cX5_errorWith 33 = .ok (.iaload, 1) := by decide +kernel
theorem dX5_errorWith_34 : decode cX5_errorWith 34 = .ok (.invokevirtual 83, 3) := by decide +kernel
theorem dX5_errorWith_37 : decode cX5_errorWith 37 = .ok (.invokestatic 78, 3) := by decide +kernel
theorem dX5_errorWith_40 : decode cX5_errorWith 40 = .ok (.iadd, 1) := by decide +kernel
theorem dX5_errorWith_41 : decode cX5_errorWith 41 = .ok (.istore_n 3, 1) := by decide +kernel
theorem dX5_errorWith_42 : decode cX5_errorWith 42 = .ok (.iinc 4 1, 3) := by decide +kernel
theorem dX5_errorWith_45 : decode cX5_errorWith 45 = .ok (.goto (-30), 3) := by decide +kernel
theorem dX5_errorWith_48 : decode cX5_errorWith 48 = .ok (.iload_n 3, 1) := by decide +kernel
theorem dX5_errorWith_49 : decode cX5_errorWith 49 = .ok (.ireturn, 1) := by decide +kernel
theorem dX5_changePoint_0 : decode cX5_changePoint 0 = .ok (.iload_n 1, 1) := by decide +kernel
theorem dX5_changePoint_1 : decode cX5_changePoint 1 = .ok (.invokestatic 87, 3) := by decide +kernel
theorem dX5_changePoint_4 : decode cX5_changePoint 4 = .ok (.ifCond .eq 12, 3) := by decide +kernel
theorem dX5_changePoint_7 : decode cX5_changePoint 7 = .ok (.iload_n 2, 1) := by decide +kernel
theorem dX5_changePoint_8 : decode cX5_changePoint 8 = .ok (.iconst 0, 1) := by decide +kernel
theorem dX5_changePoint_9 : decode cX5_changePoint 9 = .ok (.iconst 1, 1) := by decide +kernel
theorem dX5_changePoint_10 : decode cX5_changePoint 10 = .ok (.invokestatic 50, 3) := by decide +kernel
theorem dX5_changePoint_13 : decode cX5_changePoint 13 = .ok (.ifCond .ne 5, 3) := by decide +kernel
theorem dX5_changePoint_16 : decode cX5_changePoint 16 = .ok (.iconst (-1), 1) := by decide +kernel
theorem dX5_changePoint_17 : decode cX5_changePoint 17 = .ok (.ireturn, 1) := by decide +kernel
theorem dX5_changePoint_18 : decode cX5_changePoint 18 = .ok (.aload_n 0, 1) := by decide +kernel
theorem dX5_changePoint_19 : decode cX5_changePoint 19 = .ok (.iload_n 1, 1) := by decide +kernel
theorem dX5_changePoint_20 : decode cX5_changePoint 20 = .ok (.invokevirtual 91, 3) := by decide +kernel
theorem dX5_changePoint_23 : decode cX5_changePoint 23 = .ok (.istore_n 3, 1) := by decide +kernel
theorem dX5_changePoint_24 : decode cX5_changePoint 24 = .ok (.iload_n 3, 1) := by decide +kernel
theorem dX5_changePoint_25 : decode cX5_changePoint 25 = .ok (.iconst (-1), 1) := by decide +kernel
theorem dX5_changePoint_26 : decode cX5_changePoint 26 = .ok (.if_icmp .ne 7, 3) := by decide +kernel
theorem dX5_changePoint_29 : decode cX5_changePoint 29 = .ok (.iconst 0, 1) := by decide +kernel
theorem dX5_changePoint_30 : decode cX5_changePoint 30 = .ok (.goto 4, 3) := by decide +kernel
theorem dX5_changePoint_33 : decode cX5_changePoint 33 = .ok (.iconst 1, 1) := by decide +kernel
theorem dX5_changePoint_34 : decode cX5_changePoint 34 = .ok (.istore 4, 2) := by decide +kernel
theorem dX5_changePoint_36 : decode cX5_changePoint 36 = .ok (.iload_n 2, 1) := by decide +kernel
theorem dX5_changePoint_37 : decode cX5_changePoint 37 = .ok (.iload 4, 2) := by decide +kernel
theorem dX5_changePoint_39 : decode cX5_changePoint 39 = .ok (.if_icmp .ne 6, 3) := by decide +kernel
theorem dX5_changePoint_42 : decode cX5_changePoint 42 = .ok (.iload 4, 2) := by decide +kernel
theorem dX5_changePoint_44 : decode cX5_changePoint 44 = .ok (.ireturn, 1) := by decide +kernel
theorem dX5_changePoint_45 : decode cX5_changePoint 45 = .ok (.iload_n 2, 1) := by decide +kernel
theorem dX5_changePoint_46 : decode cX5_changePoint 46 = .ok (.iconst 1, 1) := by decide +kernel
theorem dX5_changePoint_47 : decode cX5_changePoint 47 = .ok (.if_icmp .ne 37, 3) := by decide +kernel
theorem dX5_changePoint_50 : decode cX5_changePoint 50 = .ok (.aload_n 0, 1) := by decide +kernel
theorem dX5_changePoint_51 : decode cX5_changePoint 51 = .ok (.getfield 25, 3) := by decide +kernel
theorem dX5_changePoint_54 : decode cX5_changePoint 54 = .ok (.iconst 5, 1) := by decide +kernel
theorem dX5_changePoint_55 : decode cX5_changePoint 55 = .ok (.if_icmp .lt 6, 3) := by decide +kernel
theorem dX5_changePoint_58 : decode cX5_changePoint 58 = .ok (.bipush (-2), 2) := by decide +kernel
theorem dX5_changePoint_60 : decode cX5_changePoint 60 = .ok (.ireturn, 1) := by decide +kernel
theorem dX5_changePoint_61 : decode cX5_changePoint 61 = .ok (.aload_n 0, 1) := by decide +kernel
theorem dX5_changePoint_62 : decode cX5_changePoint 62 = .ok (.getfield 15, 3) := by decide +kernel
theorem dX5_changePoint_65 : decode cX5_changePoint 65 = .ok (.aload_n 0, 1) := by decide +kernel
theorem dX5_changePoint_66 : decode cX5_changePoint 66 = .ok (.getfield 25, 3) := by decide +kernel
theorem dX5_changePoint_69 : decode cX5_changePoint 69 = .ok (.iload_n 1, 1) := by decide +kernel
theorem dX5_changePoint_70 : decode cX5_changePoint 70 = .ok (.iastore, 1) := by decide +kernel
theorem dX5_changePoint_71 : decode cX5_changePoint 71 = .ok (.aload_n 0, 1) := by decide +kernel
theorem dX5_changePoint_72 : decode cX5_changePoint 72 = .ok (.dup, 1) := by decide +kernel
theorem dX5_changePoint_73 : decode cX5_changePoint 73 = .ok (.getfield 25, 3) := by decide +kernel
theorem dX5_changePoint_76 : decode cX5_changePoint 76 = .ok (.iconst 1, 1) := by decide +kernel
theorem dX5_changePoint_77 : decode cX5_changePoint 77 = .ok (.iadd, 1) := by decide +kernel
theorem dX5_changePoint_78 : decode cX5_changePoint 78 = .ok (.putfield 25, 3) := by decide +kernel
theorem dX5_changePoint_81 : decode cX5_changePoint 81 = .ok (.goto 28, 3) := by decide +kernel
theorem dX5_changePoint_84 : decode cX5_changePoint 84 = .ok (.aload_n 0, 1) := by decide +kernel
theorem dX5_changePoint_85 : decode cX5_changePoint 85 = .ok (.dup, 1) := by decide +kernel
theorem dX5_changePoint_86 : decode cX5_changePoint 86 = .ok (.getfield 25, 3) := by decide +kernel
theorem dX5_changePoint_89 : decode cX5_changePoint 89 = .ok (.iconst 1, 1) := by decide +kernel
theorem dX5_changePoint_90 : decode cX5_changePoint 90 = .ok (.isub, 1) := by decide +kernel
theorem dX5_changePoint_91 : decode cX5_changePoint 91 = .ok (.putfield 25, 3) := by decide +kernel
theorem dX5_changePoint_94 : decode cX5_changePoint 94 = .ok (.aload_n 0, 1) := by decide +kernel
theorem dX5_changePoint_95 : decode cX5_changePoint 95 = .ok (.getfield 15, 3) := by decide +kernel
theorem dX5_changePoint_98 : decode cX5_changePoint 98 = .ok (.iload_n 3, 1) := by decide +kernel
theorem dX5_changePoint_99 : decode cX5_changePoint 99 = .ok (.aload_n 0, 1) := by decide +kernel
theorem dX5_changePoint_100 : decode cX5_changePoint 100 = .ok (.getfield 15, 3) := by decide +kernel
theorem dX5_changePoint_103 : decode cX5_changePoint 103 = .ok (.aload_n 0, 1) := by decide +kernel
theorem dX5_changePoint_104 : decode cX5_changePoint 104 = .ok (.getfield 25, 3) := by decide +kernel
theorem dX5_changePoint_107 : decode cX5_changePoint 107 = .ok (.iaload, 1) := by decide +kernel
theorem dX5_changePoint_108 : decode cX5_changePoint 108 = .ok (.iastore, 1) := by decide +kernel
theorem dX5_changePoint_109 : decode cX5_changePoint 109 = .ok (.iload 4, 2) := by decide +kernel
theorem dX5_changePoint_111 : decode cX5_changePoint 111 = .ok (.ireturn, 1) := by decide +kernel
theorem dX5_bestTrim_0 : decode cX5_bestTrim 0 = .ok (.getstatic 57, 3) := by decide +kernel
theorem dX5_bestTrim_3 : decode cX5_bestTrim 3 = .ok (.iconst 2, 1) := by decide +kernel
theorem dX5_bestTrim_4 : decode cX5_bestTrim 4 = .ok (.iaload, 1) := by decide +kernel
theorem dX5_bestTrim_5 : decode cX5_bestTrim 5 = .ok (.istore_n 3, 1) := by decide +kernel
theorem dX5_bestTrim_6 : decode cX5_bestTrim 6 = .ok (.iload_n 1, 1) := by decide +kernel
theorem dX5_bestTrim_7 : decode cX5_bestTrim 7 = .ok (.getstatic 54, 3) := by decide +kernel
theorem dX5_bestTrim_10 : decode cX5_bestTrim 10 = .ok (.iconst 2, 1) := by decide +kernel
theorem dX5_bestTrim_11 : decode cX5_bestTrim 11 = .ok (.iaload, 1) := by decide +kernel
theorem dX5_bestTrim_12 : decode cX5_bestTrim 12 = .ok (.iload_n 3, 1) := by decide +kernel
theorem dX5_bestTrim_13 : decode cX5_bestTrim 13 = .ok (.invokestatic 50, 3) := by decide +kernel
theorem dX5_bestTrim_16 : decode cX5_bestTrim 16 = .ok (.ifCond .eq 21, 3) := by decide +kernel
theorem dX5_bestTrim_19 : decode cX5_bestTrim 19 = .ok (.iload_n 2, 1) := by decide +kernel
theorem dX5_bestTrim_20 : decode cX5_bestTrim 20 = .ok (.iload_n 1, 1) := by decide +kernel
theorem dX5_bestTrim_21 : decode cX5_bestTrim 21 = .ok (.iload_n 3, 1) := by decide +kernel
theorem dX5_bestTrim_22 : decode cX5_bestTrim 22 = .ok (.invokestatic 50, 3) := by decide +kernel
theorem dX5_bestTrim_25 : decode cX5_bestTrim 25 = .ok (.ifCond .eq 12, 3) := by decide +kernel
theorem dX5_bestTrim_28 : decode cX5_bestTrim 28 = .ok (.iload_n 2, 1) := by decide +kernel
theorem dX5_bestTrim_29 : decode cX5_bestTrim 29 = .ok (.iload_n 1, 1) := by decide +kernel
theorem dX5_bestTrim_30 : decode cX5_bestTrim 30 = .ok (.isub, 1) := by decide +kernel
theorem dX5_bestTrim_31 : decode cX5_bestTrim 31 = .ok (.sipush 300, 3) := by decide +kernel
theorem dX5_bestTrim_34 : decode cX5_bestTrim 34 = .ok (.if_icmp .le 5, 3) := by decide +kernel
theorem dX5_bestTrim_37 : decode cX5_bestTrim 37 = .ok (.iconst (-1), 1) := by decide +kernel
theorem dX5_bestTrim_38 : decode cX5_bestTrim 38 = .ok (.ireturn, 1) := by decide +kernel
theorem dX5_bestTrim_39 : decode cX5_bestTrim 39 = .ok (.aload_n 0, 1) := by decide +kernel
theorem dX5_bestTrim_40 : decode cX5_bestTrim 40 = .ok (.getfield 25, 3) := by decide +kernel
theorem dX5_bestTrim_43 : decode cX5_bestTrim 43 = .ok (.ifCond .ne 6, 3) := by decide +kernel
theorem dX5_bestTrim_46 : decode cX5_bestTrim 46 = .ok (.bipush (-3), 2) := by decide +kernel
theorem dX5_bestTrim_48 : decode cX5_bestTrim 48 = .ok (.ireturn, 1) := by decide +kernel
theorem dX5_bestTrim_49 : decode cX5_bestTrim 49 = .ok (.aload_n 0, 1) := by decide +kernel
theorem dX5_bestTrim_50 : decode cX5_bestTrim 50 = .ok (.invokevirtual 94, 3) := by decide +kernel
theorem dX5_bestTrim_53 : decode cX5_bestTrim 53 = .ok (.lconst 0, 1) := by decide +kernel
theorem dX5_bestTrim_54 : decode cX5_bestTrim 54 = .ok (.lstore 4, 2) := by decide +kernel
theorem dX5_bestTrim_56 : decode cX5_bestTrim 56 = .ok (.iconst (-1), 1) := by decide +kernel
theorem dX5_bestTrim_57 : decode cX5_bestTrim 57 = .ok (.istore 6, 2) := by decide +kernel
theorem dX5_bestTrim_59 : decode cX5_bestTrim 59 = .ok (.iload_n 1, 1) := by decide +kernel
theorem dX5_bestTrim_60 : decode cX5_bestTrim 60 = .ok (.istore 7, 2) := by decide +kernel
theorem dX5_bestTrim_62 : decode cX5_bestTrim 62 = .ok (.iload 7, 2) := by decide +kernel
theorem dX5_bestTrim_64 : decode cX5_bestTrim 64 = .ok (.iload_n 2, 1) := by decide +kernel
theorem dX5_bestTrim_65 : decode cX5_bestTrim 65 = .ok (.if_icmp .gt 70, 3) := by decide +kernel
theorem dX5_bestTrim_68 : decode cX5_bestTrim 68 = .ok (.getstatic 54, 3) := by decide +kernel
theorem dX5_bestTrim_71 : decode cX5_bestTrim 71 = .ok (.iconst 1, 1) := by decide +kernel
theorem dX5_bestTrim_72 : decode cX5_bestTrim 72 = .ok (.iaload, 1) := by decide +kernel
theorem dX5_bestTrim_73 : decode cX5_bestTrim 73 = .ok (.istore 8, 2) := by decide +kernel
theorem dX5_bestTrim_75 : decode cX5_bestTrim 75 = .ok (.iload 8, 2) := by decide +kernel
theorem dX5_bestTrim_77 : decode cX5_bestTrim 77 = .ok (.getstatic 57, 3) := by decide +kernel
theorem dX5_bestTrim_80 : decode cX5_bestTrim 80 = .ok (.iconst 1, 1) := by decide +kernel
theorem dX5_bestTrim_81 : decode cX5_bestTrim 81 = .ok (.iaload, 1) := by decide +kernel
theorem dX5_bestTrim_82 : decode cX5_bestTrim 82 = .ok (.if_icmp .gt 47, 3) := by decide +kernel
theorem dX5_bestTrim_85 : decode cX5_bestTrim 85 = .ok (.aload_n 0, 1) := by decide +kernel
theorem dX5_bestTrim_86 : decode cX5_bestTrim 86 = .ok (.iload 7, 2) := by decide +kernel
theorem dX5_bestTrim_88 : decode cX5_bestTrim 88 = .ok (.iload 8, 2) := by decide +kernel
theorem dX5_bestTrim_90 : decode cX5_bestTrim 90 = .ok (.invokevirtual 97, 3) := by decide +kernel
theorem dX5_bestTrim_93 : decode cX5_bestTrim 93 = .ok (.lstore 9, 2) := by decide +kernel
theorem dX5_bestTrim_95 : decode cX5_bestTrim 95 = .ok (.iload 6, 2) := by decide +kernel
theorem dX5_bestTrim_97 : decode cX5_bestTrim 97 = .ok (.iconst (-1), 1) := by decide +kernel
theorem dX5_bestTrim_98 : decode cX5_bestTrim 98 = .ok (.if_icmp .eq 11, 3) := by decide +kernel
theorem dX5_bestTrim_101 : decode cX5_bestTrim 101 = .ok (.lload 9, 2) := by decide +kernel
theorem dX5_bestTrim_103 : decode cX5_bestTrim 103 = .ok (.lload 4, 2) := by decide +kernel
theorem dX5_bestTrim_105 : decode cX5_bestTrim 105 = .ok (.lcmp, 1) := by decide +kernel
theorem dX5_bestTrim_106 : decode cX5_bestTrim 106 = .ok (.ifCond .ge 17, 3) := by decide +kernel
theorem dX5_bestTrim_109 : decode cX5_bestTrim 109 = .ok (.lload 9, 2) := by decide +kernel
theorem dX5_bestTrim_111 : decode cX5_bestTrim 111 = .ok (.lstore 4, 2) := by decide +kernel
theorem dX5_bestTrim_113 : decode cX5_bestTrim 113 = .ok (.bipush 100, 2) := by decide +kernel
theorem dX5_bestTrim_115 : decode cX5_bestTrim 115 = .ok (.iload 7, 2) := by decide +kernel
theorem dX5_bestTrim_117 : decode cX5_bestTrim 117 = .ok (.imul, 1) := by decide +kernel
theorem dX5_bestTrim_118 : decode cX5_bestTrim 118 = .ok (.iload 8, 2) := by decide +kernel
theorem dX5_bestTrim_120 : decode cX5_bestTrim 120 = .ok (.iadd, 1) := by decide +kernel
theorem dX5_bestTrim_121 : decode cX5_bestTrim 121 = .ok (.istore 6, 2) := by decide +kernel
theorem dX5_bestTrim_123 : decode cX5_bestTrim 123 = .ok (.iinc 8 1, 3) := by decide +kernel
theorem dX5_bestTrim_126 : decode cX5_bestTrim 126 = .ok (.goto (-51), 3) := by decide +kernel
theorem dX5_bestTrim_129 : decode cX5_bestTrim 129 = .ok (.iinc 7 1, 3) := by decide +kernel
theorem dX5_bestTrim_132 : decode cX5_bestTrim 132 = .ok (.goto (-70), 3) := by decide +kernel
theorem dX5_bestTrim_135 : decode cX5_bestTrim 135 = .ok (.iload 6, 2) := by decide +kernel
theorem dX5_bestTrim_137 : decode cX5_bestTrim 137 = .ok (.ireturn, 1) := by decide +kernel
theorem dX5_markOf_0 : decode cX5_markOf 0 = .ok (.iconst 0, 1) := by decide +kernel
theorem dX5_markOf_1 : decode cX5_markOf 1 = .ok (.istore_n 2, 1) := by decide +kernel
theorem dX5_markOf_2 : decode cX5_markOf 2 = .ok (.aload_n 0, 1) := by decide +kernel
theorem dX5_markOf_3 : decode cX5_markOf 3 = .ok (.iconst 0, 1) := by decide +kernel
theorem dX5_markOf_4 : decode cX5_markOf 4 = .ok (.invokevirtual 60, 3) := by decide +kernel
theorem dX5_markOf_7 : decode cX5_markOf 7 = .ok (.iload_n 1, 1) := by decide +kernel
theorem dX5_markOf_8 : decode cX5_markOf 8 = .ok (.isub, 1) := by decide +kernel
theorem dX5_markOf_9 : decode cX5_markOf 9 = .ok (.invokestatic 78, 3) := by decide +kernel
theorem dX5_markOf_12 : decode cX5_markOf 12 = .ok (.istore_n 3, 1) := by decide +kernel
theorem dX5_markOf_13 : decode cX5_markOf 13 = .ok (.iconst 1, 1) := by decide +kernel
theorem dX5_markOf_14 : decode cX5_markOf 14 = .ok (.istore 4, 2) := by decide +kernel
theorem dX5_markOf_16 : decode cX5_markOf 16 = .ok (.iload 4, 2) := by decide +kernel
theorem dX5_markOf_18 : decode cX5_markOf 18 = .ok (.bipush 100, 2) := by decide +kernel
theorem dX5_markOf_20 : decode cX5_markOf 20 = .ok (.if_icmp .gt 34, 3) := by decide +kernel
theorem dX5_markOf_23 : decode cX5_markOf 23 = .ok (.aload_n 0, 1) := by decide +kernel
theorem dX5_markOf_24 : decode cX5_markOf 24 = .ok (.iload 4, 2) := by decide +kernel
theorem dX5_markOf_26 : decode cX5_markOf 26 = .ok (.invokevirtual 60, 3) := by decide +kernel
theorem dX5_markOf_29 : decode cX5_markOf 29 = .ok (.iload_n 1, 1) := by decide +kernel
theorem dX5_markOf_30 : decode cX5_markOf 30 = .ok (.isub, 1) := by decide +kernel
theorem dX5_markOf_31 : decode cX5_markOf 31 = .ok (.invokestatic 78, 3) := by decide +kernel
theorem dX5_markOf_34 : decode cX5_markOf 34 = .ok (.istore 5, 2) := by decide +kernel
theorem dX5_markOf_36 : decode cX5_markOf 36 = .ok (.iload 5, 2) := by decide +kernel
theorem dX5_markOf_38 : decode cX5_markOf 38 = .ok (.iload_n 3, 1) := by decide +kernel
theorem dX5_markOf_39 : decode cX5_markOf 39 = .ok (.if_icmp .ge 9, 3) := by decide +kernel
theorem dX5_markOf_42 : decode cX5_markOf 42 = .ok (.iload 5, 2) := by decide +kernel
theorem dX5_markOf_44 : decode cX5_markOf 44 = .ok (.istore_n 3, 1) := by decide +kernel
theorem dX5_markOf_45 : decode cX5_markOf 45 = .ok (.iload 4, 2) := by decide +kernel
theorem dX5_markOf_47 : decode cX5_markOf 47 = .ok (.istore_n 2, 1) := by decide +kernel
theorem dX5_markOf_48 : decode cX5_markOf 48 = .ok (.iinc 4 1, 3) := by decide +kernel
theorem dX5_markOf_51 : decode cX5_markOf 51 = .ok (.goto (-35), 3) := by decide +kernel
theorem dX5_markOf_54 : decode cX5_markOf 54 = .ok (.iload_n 2, 1) := by decide +kernel
theorem dX5_markOf_55 : decode cX5_markOf 55 = .ok (.ireturn, 1) := by decide +kernel
theorem dX5_indexOfPoint_0 : decode cX5_indexOfPoint 0 = .ok (.iconst 0, 1) := by decide +kernel
theorem dX5_indexOfPoint_1 : decode cX5_indexOfPoint 1 = .ok (.istore_n 2, 1) := by decide +kernel
theorem dX5_indexOfPoint_2 : decode cX5_indexOfPoint 2 = .ok (.iload_n 2, 1) := by decide +kernel
theorem dX5_indexOfPoint_3 : decode cX5_indexOfPoint 3 = .ok (.aload_n 0, 1) := by decide +kernel
theorem dX5_indexOfPoint_4 : decode cX5_indexOfPoint 4 = .ok (.getfield 25, 3) := by decide +kernel
theorem dX5_indexOfPoint_7 : decode cX5_indexOfPoint 7 = .ok (.if_icmp .ge 21, 3) := by decide +kernel
theorem dX5_indexOfPoint_10 : decode cX5_indexOfPoint 10 = .ok (.aload_n 0, 1) := by decide +kernel
theorem dX5_indexOfPoint_11 : decode cX5_indexOfPoint 11 = .ok (.getfield 15, 3) := by decide +kernel
theorem dX5_indexOfPoint_14 : decode cX5_indexOfPoint 14 = .ok (.iload_n 2, 1) := by decide +kernel
theorem dX5_indexOfPoint_15 : decode cX5_indexOfPoint 15 = .ok (.iaload, 1) := by decide +kernel
theorem dX5_indexOfPoint_16 : decode cX5_indexOfPoint 16 = .ok (.iload_n 1, 1) := by decide +kernel
theorem dX5_indexOfPoint_17 : decode cX5_indexOfPoint 17 = .ok (.if_icmp .ne 5, 3) := by decide +kernel
theorem dX5_indexOfPoint_20 : decode cX5_indexOfPoint 20 = .ok (.iload_n 2, 1) := by decide +kernel
theorem dX5_indexOfPoint_21 : decode cX5_indexOfPoint 21 = .ok (.ireturn, 1) := by decide +kernel
theorem dX5_indexOfPoint_22 : decode cX5_indexOfPoint 22 = .ok (.iinc 2 1, 3) := by decide +kernel
theorem dX5_indexOfPoint_25 : decode cX5_indexOfPoint 25 = .ok (.goto (-23), 3) := by decide +kernel
theorem dX5_indexOfPoint_28 : decode cX5_indexOfPoint 28 = .ok (.iconst (-1), 1) := by decide +kernel
theorem dX5_indexOfPoint_29 : decode cX5_indexOfPoint 29 = .ok (.ireturn, 1) := by decide +kernel
theorem dX5_prepareTrim_0 : decode cX5_prepareTrim 0 = .ok (.aload_n 0, 1) := by decide +kernel
theorem dX5_prepareTrim_1 : decode cX5_prepareTrim 1 = .ok (.getfield 40, 3) := by decide +kernel
theorem dX5_prepareTrim_4 : decode cX5_prepareTrim 4 = .ok (.invokevirtual 74, 3) := by decide +kernel
theorem dX5_prepareTrim_7 : decode cX5_prepareTrim 7 = .ok (.ifCond .eq 13, 3) := by decide +kernel
theorem dX5_prepareTrim_10 : decode cX5_prepareTrim 10 = .ok (.aload_n 0, 1) := by decide +kernel
theorem dX5_prepareTrim_11 : decode cX5_prepareTrim 11 = .ok (.getfield 40, 3) := by decide +kernel
theorem dX5_prepareTrim_14 : decode cX5_prepareTrim 14 = .ok (.invokevirtual 44, 3) := by decide +kernel
theorem dX5_prepareTrim_17 : decode cX5_prepareTrim 17 = .ok (.goto 11, 3) := by decide +kernel
theorem dX5_prepareTrim_20 : decode cX5_prepareTrim 20 = .ok (.aload_n 0, 1) := by decide +kernel
theorem dX5_prepareTrim_21 : decode cX5_prepareTrim 21 = .ok (.getfield 40, 3) := by decide +kernel
theorem dX5_prepareTrim_24 : decode cX5_prepareTrim 24 = .ok (.invokevirtual 44, 3) := by decide +kernel
theorem dX5_prepareTrim_27 : decode cX5_prepareTrim 27 = .ok (.ineg, 1) := by decide +kernel
theorem dX5_prepareTrim_28 : decode cX5_prepareTrim 28 = .ok (.istore_n 1, 1) := by decide +kernel
theorem dX5_prepareTrim_29 : decode cX5_prepareTrim 29 = .ok (.iconst 0, 1) := by decide +kernel
theorem dX5_prepareTrim_30 : decode cX5_prepareTrim 30 = .ok (.istore_n 2, 1) := by decide +kernel
theorem dX5_prepareTrim_31 : decode cX5_prepareTrim 31 = .ok (.iload_n 2, 1) := by decide +kernel
theorem dX5_prepareTrim_32 : decode cX5_prepareTrim 32 = .ok (.aload_n 0, 1) := by decide +kernel
theorem dX5_prepareTrim_33 : decode cX5_prepareTrim 33 = .ok (.getfield 25, 3) := by decide +kernel
theorem dX5_prepareTrim_36 : decode cX5_prepareTrim 36 = .ok (.if_icmp .ge 43, 3) := by decide +kernel
theorem dX5_prepareTrim_39 : decode cX5_prepareTrim 39 = .ok (.aload_n 0, 1) := by decide +kernel
theorem dX5_prepareTrim_40 : decode cX5_prepareTrim 40 = .ok (.getfield 28, 3) := by decide +kernel
theorem dX5_prepareTrim_43 : decode cX5_prepareTrim 43 = .ok (.iload_n 2, 1) := by decide +kernel
theorem dX5_prepareTrim_44 : decode cX5_prepareTrim 44 = .ok (.aload_n 0, 1) := by decide +kernel
theorem dX5_prepareTrim_45 : decode cX5_prepareTrim 45 = .ok (.aload_n 0, 1) := by decide +kernel
theorem dX5_prepareTrim_46 : decode cX5_prepareTrim 46 = .ok (.getfield 15, 3) := by decide +kernel
theorem dX5_prepareTrim_49 : decode cX5_prepareTrim 49 = .ok (.iload_n 2, 1) := by decide +kernel
theorem dX5_prepareTrim_50 : decode cX5_prepareTrim 50 = .ok (.iaload, 1) := by decide +kernel
theorem dX5_prepareTrim_51 : decode cX5_prepareTrim 51 = .ok (.invokevirtual 64, 3) := by decide +kernel
theorem dX5_prepareTrim_54 : decode cX5_prepareTrim 54 = .ok (.iastore, 1) := by decide +kernel
theorem dX5_prepareTrim_55 : decode cX5_prepareTrim 55 = .ok (.aload_n 0, 1) := by decide +kernel
theorem dX5_prepareTrim_56 : decode cX5_prepareTrim 56 = .ok (.getfield 31, 3) := by decide +kernel
theorem dX5_prepareTrim_59 : decode cX5_prepareTrim 59 = .ok (.iload_n 2, 1) := by decide +kernel
theorem dX5_prepareTrim_60 : decode cX5_prepareTrim 60 = .ok (.aload_n 0, 1) := by decide +kernel
theorem dX5_prepareTrim_61 : decode cX5_prepareTrim 61 = .ok (.aload_n 0, 1) := by decide +kernel
theorem dX5_prepareTrim_62 : decode cX5_prepareTrim 62 = .ok (.getfield 15, 3) := by decide +kernel
theorem dX5_prepareTrim_65 : decode cX5_prepareTrim 65 = .ok (.iload_n 2, 1) := by decide +kernel
theorem dX5_prepareTrim_66 : decode cX5_prepareTrim 66 = .ok (.iaload, 1) := by decide +kernel
theorem dX5_prepareTrim_67 : decode cX5_prepareTrim 67 = .ok (.invokevirtual 60, 3) := by decide +kernel
theorem dX5_prepareTrim_70 : decode cX5_prepareTrim 70 = .ok (.iload_n 1, 1) := by decide +kernel
theorem dX5_prepareTrim_71 : decode cX5_prepareTrim 71 = .ok (.iadd, 1) := by decide +kernel
theorem dX5_prepareTrim_72 : decode cX5_prepareTrim 72 = .ok (.iastore, 1) := by decide +kernel
theorem dX5_prepareTrim_73 : decode cX5_prepareTrim 73 = .ok (.iinc 2 1, 3) := by decide +kernel
theorem dX5_prepareTrim_76 : decode cX5_prepareTrim 76 = .ok (.goto (-45), 3) := by decide +kernel
theorem dX5_prepareTrim_79 : decode cX5_prepareTrim 79 = .ok (.aload_n 0, 1) := by decide +kernel
theorem dX5_prepareTrim_80 : decode cX5_prepareTrim 80 = .ok (.getfield 9, 3) := by decide +kernel
theorem dX5_prepareTrim_83 : decode cX5_prepareTrim 83 = .ok (.iconst 4, 1) := by decide +kernel
theorem dX5_prepareTrim_84 : decode cX5_prepareTrim 84 = .ok (.iaload, 1) := by decide +kernel
theorem dX5_prepareTrim_85 : decode cX5_prepareTrim 85 = .ok (.istore_n 2, 1) := by decide +kernel
theorem dX5_prepareTrim_86 : decode cX5_prepareTrim 86 = .ok (.aload_n 0, 1) := by decide +kernel
theorem dX5_prepareTrim_87 : decode cX5_prepareTrim 87 = .ok (.getfield 37, 3) := by decide +kernel
theorem dX5_prepareTrim_90 : decode cX5_prepareTrim 90 = .ok (.iload_n 2, 1) := by decide +kernel
theorem dX5_prepareTrim_91 : decode cX5_prepareTrim 91 = .ok (.if_icmp .eq 34, 3) := by decide +kernel
theorem dX5_prepareTrim_94 : decode cX5_prepareTrim 94 = .ok (.iconst 1, 1) := by decide +kernel
theorem dX5_prepareTrim_95 : decode cX5_prepareTrim 95 = .ok (.istore_n 3, 1) := by decide +kernel
theorem dX5_prepareTrim_96 : decode cX5_prepareTrim 96 = .ok (.iload_n 3, 1) := by decide +kernel
theorem dX5_prepareTrim_97 : decode cX5_prepareTrim 97 = .ok (.sipush 1098, 3) := by decide +kernel
theorem dX5_prepareTrim_100 : decode cX5_prepareTrim 100 = .ok (.if_icmp .gt 20, 3) := by decide +kernel
theorem dX5_prepareTrim_103 : decode cX5_prepareTrim 103 = .ok (.aload_n 0, 1) := by decide +kernel
theorem dX5_prepareTrim_104 : decode cX5_prepareTrim 104 = .ok (.getfield 34, 3) := by decide +kernel
theorem dX5_prepareTrim_107 : decode cX5_prepareTrim 107 = .ok (.iload_n 3, 1) := by decide +kernel
theorem dX5_prepareTrim_108 : decode cX5_prepareTrim 108 = .ok (.iload_n 2, 1) := by decide +kernel
theorem dX5_prepareTrim_109 : decode cX5_prepareTrim 109 = .ok (.iload_n 3, 1) := by decide +kernel
theorem dX5_prepareTrim_110 : decode cX5_prepareTrim 110 = .ok (.invokestatic 71, 3) := by decide +kernel
theorem dX5_prepareTrim_113 : decode cX5_prepareTrim 113 = .ok (.iastore, 1) := by decide +kernel
theorem dX5_prepareTrim_114 : decode cX5_prepareTrim 114 = .ok (.iinc 3 1, 3) := by decide +kernel
theorem dX5_prepareTrim_117 : decode cX5_prepareTrim 117 = .ok (.goto (-21), 3) := by decide +kernel
theorem dX5_prepareTrim_120 : decode cX5_prepareTrim 120 = .ok (.aload_n 0, 1) := by decide +kernel
theorem dX5_prepareTrim_121 : decode cX5_prepareTrim 121 = .ok (.iload_n 2, 1) := by decide +kernel
theorem dX5_prepareTrim_122 : decode cX5_prepareTrim 122 = .ok (.putfield 37, 3) := by decide +kernel
theorem dX5_prepareTrim_125 : decode cX5_prepareTrim 125 = .ok (.return_, 1) := by decide +kernel
theorem dX5_rankOfTrim_0 : decode cX5_rankOfTrim 0 = .ok (.iconst 0, 1) := by decide +kernel
theorem dX5_rankOfTrim_1 : decode cX5_rankOfTrim 1 = .ok (.istore_n 3, 1) := by decide +kernel
theorem dX5_rankOfTrim_2 : decode cX5_rankOfTrim 2 = .ok (.iconst 0, 1) := by decide +kernel
theorem dX5_rankOfTrim_3 : decode cX5_rankOfTrim 3 = .ok (.istore 4, 2) := by decide +kernel
theorem dX5_rankOfTrim_5 : decode cX5_rankOfTrim 5 = .ok (.iconst 0, 1) := by decide +kernel
theorem dX5_rankOfTrim_6 : decode cX5_rankOfTrim 6 = .ok (.istore 5, 2) := by decide +kernel
theorem dX5_rankOfTrim_8 : decode cX5_rankOfTrim 8 = .ok (.iload 5, 2) := by decide +kernel
theorem dX5_rankOfTrim_10 : decode cX5_rankOfTrim 10 = .ok (.aload_n 0, 1) := by decide +kernel
theorem dX5_rankOfTrim_11 : decode cX5_rankOfTrim 11 = .ok (.getfield 25, 3) := by decide +kernel
theorem dX5_rankOfTrim_14 : decode cX5_rankOfTrim 14 = .ok (.if_icmp .ge 64, 3) := by decide +kernel
theorem dX5_rankOfTrim_17 : decode cX5_rankOfTrim 17 = .ok (.iload_n 1, 1) := by decide +kernel
theorem dX5_rankOfTrim_18 : decode cX5_rankOfTrim 18 = .ok (.aload_n 0, 1) := by decide +kernel
theorem dX5_rankOfTrim_19 : decode cX5_rankOfTrim 19 = .ok (.getfield 28, 3) := by decide +kernel
theorem dX5_rankOfTrim_22 : decode cX5_rankOfTrim 22 = .ok (.iload 5, 2) := by decide +kernel
theorem dX5_rankOfTrim_24 : decode cX5_rankOfTrim 24 = .ok (.iaload, 1) := by decide +kernel
theorem dX5_rankOfTrim_25 : decode cX5_rankOfTrim 25 = .ok (.iload_n 2, 1) := by decide +kernel
theorem dX5_rankOfTrim_26 : decode cX5_rankOfTrim 26 = .ok (.iadd, 1) := by decide +kernel
theorem dX5_rankOfTrim_27 : decode cX5_rankOfTrim 27 = .ok (.invokestatic 67, 3) := by decide +kernel
theorem dX5_rankOfTrim_30 : decode cX5_rankOfTrim 30 = .ok (.sipush 1098, 3) := by decide +kernel
theorem dX5_rankOfTrim_33 : decode cX5_rankOfTrim 33 = .ok (.invokestatic 101, 3) := by decide +kernel
theorem dX5_rankOfTrim_36 : decode cX5_rankOfTrim 36 = .ok (.istore 6, 2) := by decide +kernel
theorem dX5_rankOfTrim_38 : decode cX5_rankOfTrim 38 = .ok (.aload_n 0, 1) := by decide +kernel
theorem dX5_rankOfTrim_39 : decode cX5_rankOfTrim 39 = .ok (.getfield 34, 3) := by decide +kernel
theorem dX5_rankOfTrim_42 : decode cX5_rankOfTrim 42 = .ok (.iload 6, 2) := by decide +kernel
theorem dX5_rankOfTrim_44 : decode cX5_rankOfTrim 44 = .ok (.iaload, 1) := by decide +kernel
theorem dX5_rankOfTrim_45 : decode cX5_rankOfTrim 45 = .ok (.aload_n 0, 1) := by decide +kernel
theorem dX5_rankOfTrim_46 : decode cX5_rankOfTrim 46 = .ok (.getfield 31, 3) := by decide +kernel
theorem dX5_rankOfTrim_49 : decode cX5_rankOfTrim 49 = .ok (.iload 5, 2) := by decide +kernel
theorem dX5_rankOfTrim_51 : decode cX5_rankOfTrim 51 = .ok (.iaload, 1) := by decide +kernel
theorem dX5_rankOfTrim_52 : decode cX5_rankOfTrim 52 = .ok (.isub, 1) := by decide +kernel
theorem dX5_rankOfTrim_53 : decode cX5_rankOfTrim 53 = .ok (.invokestatic 78, 3) := by decide +kernel
theorem dX5_rankOfTrim_56 : decode cX5_rankOfTrim 56 = .ok (.istore 7, 2) := by decide +kernel
theorem dX5_rankOfTrim_58 : decode cX5_rankOfTrim 58 = .ok (.iload_n 3, 1) := by decide +kernel
theorem dX5_rankOfTrim_59 : decode cX5_rankOfTrim 59 = .ok (.iload 7, 2) := by decide +kernel
theorem dX5_rankOfTrim_61 : decode cX5_rankOfTrim 61 = .ok (.invokestatic 104, 3) := by decide +kernel
theorem dX5_rankOfTrim_64 : decode cX5_rankOfTrim 64 = .ok (.istore_n 3, 1) := by decide +kernel
theorem dX5_rankOfTrim_65 : decode cX5_rankOfTrim 65 = .ok (.iload 4, 2) := by decide +kernel
theorem dX5_rankOfTrim_67 : decode cX5_rankOfTrim 67 = .ok (.iload 7, 2) := by decide +kernel
theorem dX5_rankOfTrim_69 : decode cX5_rankOfTrim 69 = .ok (.iadd, 1) := by decide +kernel
theorem dX5_rankOfTrim_70 : decode cX5_rankOfTrim 70 = .ok (.istore 4, 2) := by decide +kernel
theorem dX5_rankOfTrim_72 : decode cX5_rankOfTrim 72 = .ok (.iinc 5 1, 3) := by decide +kernel
theorem dX5_rankOfTrim_75 : decode cX5_rankOfTrim 75 = .ok (.goto (-67), 3) := by decide +kernel
theorem dX5_rankOfTrim_78 : decode cX5_rankOfTrim 78 = .ok (.iload_n 3, 1) := by decide +kernel
theorem dX5_rankOfTrim_79 : decode cX5_rankOfTrim 79 = .ok (.i2l, 1) := by decide +kernel
theorem dX5_rankOfTrim_80 : decode cX5_rankOfTrim 80 = .ok (.bipush 32, 2) := by decide +kernel
theorem dX5_rankOfTrim_82 : decode cX5_rankOfTrim 82 = .ok (.lshl, 1) := by decide +kernel
theorem dX5_rankOfTrim_83 : decode cX5_rankOfTrim 83 = .ok (.iload 4, 2) := by decide +kernel
theorem dX5_rankOfTrim_85 : decode cX5_rankOfTrim 85 = .ok (.i2l, 1) := by decide +kernel
theorem dX5_rankOfTrim_86 : decode cX5_rankOfTrim 86 = .ok (.ladd, 1) := by decide +kernel
theorem dX5_rankOfTrim_87 : decode cX5_rankOfTrim 87 = .ok (.lreturn, 1) := by decide +kernel
theorem dX5_capacityAt_0 : decode cX5_capacityAt 0 = .ok (.aload_n 0, 1) := by decide +kernel
theorem dX5_capacityAt_1 : decode cX5_capacityAt 1 = .ok (.getfield 18, 3) := by decide +kernel
theorem dX5_capacityAt_4 : decode cX5_capacityAt 4 = .ok (.aload_n 0, 1) := by decide +kernel
theorem dX5_capacityAt_5 : decode cX5_capacityAt 5 = .ok (.getfield 22, 3) := by decide +kernel
theorem dX5_capacityAt_8 : decode cX5_capacityAt 8 = .ok (.aload_n 0, 1) := by decide +kernel
theorem dX5_capacityAt_9 : decode cX5_capacityAt 9 = .ok (.getfield 18, 3) := by decide +kernel
theorem dX5_capacityAt_12 : decode cX5_capacityAt 12 = .ok (.isub, 1) := by decide +kernel
theorem dX5_capacityAt_13 : decode cX5_capacityAt 13 = .ok (.iload_n 1, 1) := by decide +kernel
theorem dX5_capacityAt_14 : decode cX5_capacityAt 14 = .ok (.imul, 1) := by decide +kernel
theorem dX5_capacityAt_15 : decode cX5_capacityAt 15 = .ok (.bipush 100, 2) := by decide +kernel
theorem dX5_capacityAt_17 : decode cX5_capacityAt 17 = .ok (.idiv, 1) := by decide +kernel
theorem dX5_capacityAt_18 : decode cX5_capacityAt 18 = .ok (.iadd, 1) := by decide +kernel
theorem dX5_capacityAt_19 : decode cX5_capacityAt 19 = .ok (.ireturn, 1) := by decide +kernel
theorem dX5_signalTuned_0 : decode cX5_signalTuned 0 = .ok (.aload_n 0, 1) := by decide +kernel
theorem dX5_signalTuned_1 : decode cX5_signalTuned 1 = .ok (.getfield 9, 3) := by decide +kernel
theorem dX5_signalTuned_4 : decode cX5_signalTuned 4 = .ok (.iconst 3, 1) := by decide +kernel
theorem dX5_signalTuned_5 : decode cX5_signalTuned 5 = .ok (.iaload, 1) := by decide +kernel
theorem dX5_signalTuned_6 : decode cX5_signalTuned 6 = .ok (.aload_n 0, 1) := by decide +kernel
theorem dX5_signalTuned_7 : decode cX5_signalTuned 7 = .ok (.iload_n 1, 1) := by decide +kernel
theorem dX5_signalTuned_8 : decode cX5_signalTuned 8 = .ok (.invokevirtual 64, 3) := by decide +kernel
theorem dX5_signalTuned_11 : decode cX5_signalTuned 11 = .ok (.aload_n 0, 1) := by decide +kernel
theorem dX5_signalTuned_12 : decode cX5_signalTuned 12 = .ok (.getfield 9, 3) := by decide +kernel
theorem dX5_signalTuned_15 : decode cX5_signalTuned 15 = .ok (.iconst 0, 1) := by decide +kernel
theorem dX5_signalTuned_16 : decode cX5_signalTuned 16 = .ok (.iaload, 1) := by decide +kernel
theorem dX5_signalTuned_17 : decode cX5_signalTuned 17 = .ok (.iadd, 1) := by decide +kernel
theorem dX5_signalTuned_18 : decode cX5_signalTuned 18 = .ok (.invokestatic 71, 3) := by decide +kernel
theorem dX5_signalTuned_21 : decode cX5_signalTuned 21 = .ok (.ireturn, 1) := by decide +kernel
theorem dX5_padded_0 : decode cX5_padded 0 = .ok (.iload_n 0, 1) := by decide +kernel
theorem dX5_padded_1 : decode cX5_padded 1 = .ok (.iload_n 1, 1) := by decide +kernel
theorem dX5_padded_2 : decode cX5_padded 2 = .ok (.iadd, 1) := by decide +kernel
theorem dX5_padded_3 : decode cX5_padded 3 = .ok (.istore_n 2, 1) := by decide +kernel
theorem dX5_padded_4 : decode cX5_padded 4 = .ok (.iload_n 2, 1) := by decide +kernel
theorem dX5_padded_5 : decode cX5_padded 5 = .ok (.iconst 1, 1) := by decide +kernel
theorem dX5_padded_6 : decode cX5_padded 6 = .ok (.if_icmp .ge 7, 3) := by decide +kernel
theorem dX5_padded_9 : decode cX5_padded 9 = .ok (.iconst 0, 1) := by decide +kernel
theorem dX5_padded_10 : decode cX5_padded 10 = .ok (.goto 8, 3) := by decide +kernel
theorem dX5_padded_13 : decode cX5_padded 13 = .ok (.iload_n 0, 1) := by decide +kernel
theorem dX5_padded_14 : decode cX5_padded 14 = .ok (.iload_n 1, 1) := by decide +kernel
theorem dX5_padded_15 : decode cX5_padded 15 = .ok (.imul, 1) := by decide +kernel
theorem dX5_padded_16 : decode cX5_padded 16 = .ok (.iload_n 2, 1) := by decide +kernel
theorem dX5_padded_17 : decode cX5_padded 17 = .ok (.idiv, 1) := by decide +kernel
theorem dX5_padded_18 : decode cX5_padded 18 = .ok (.istore_n 3, 1) := by decide +kernel
theorem dX5_padded_19 : decode cX5_padded 19 = .ok (.iload_n 3, 1) := by decide +kernel
theorem dX5_padded_20 : decode cX5_padded 20 = .ok (.iconst 1, 1) := by decide +kernel
theorem dX5_padded_21 : decode cX5_padded 21 = .ok (.if_icmp .ge 7, 3) := by decide +kernel
theorem dX5_padded_24 : decode cX5_padded 24 = .ok (.iconst 1, 1) := by decide +kernel
theorem dX5_padded_25 : decode cX5_padded 25 = .ok (.goto 4, 3) := by decide +kernel
theorem dX5_padded_28 : decode cX5_padded 28 = .ok (.iload_n 3, 1) := by decide +kernel
theorem dX5_padded_29 : decode cX5_padded 29 = .ok (.ireturn, 1) := by decide +kernel
theorem dX5_tunedTo_0 : decode cX5_tunedTo 0 = .ok (.iload_n 0, 1) := by decide +kernel
theorem dX5_tunedTo_1 : decode cX5_tunedTo 1 = .ok (.i2l, 1) := by decide +kernel
theorem dX5_tunedTo_2 : decode cX5_tunedTo 2 = .ok (.iload_n 1, 1) := by decide +kernel
theorem dX5_tunedTo_3 : decode cX5_tunedTo 3 = .ok (.i2l, 1) := by decide +kernel
theorem dX5_tunedTo_4 : decode cX5_tunedTo 4 = .ok (.lmul, 1) := by decide +kernel
theorem dX5_tunedTo_5 : decode cX5_tunedTo 5 = .ok (.lstore_n 2, 1) := by decide +kernel
theorem dX5_tunedTo_6 : decode cX5_tunedTo 6 = .ok (.lload_n 2, 1) := by decide +kernel
theorem dX5_tunedTo_7 : decode cX5_tunedTo 7 = .ok (.lconst 1, 1) := by decide +kernel
theorem dX5_tunedTo_8 : decode cX5_tunedTo 8 = .ok (.lcmp, 1) := by decide +kernel
theorem dX5_tunedTo_9 : decode cX5_tunedTo 9 = .ok (.ifCond .ge 7, 3) := by decide +kernel
theorem dX5_tunedTo_12 : decode cX5_tunedTo 12 = .ok (.lconst 0, 1) := by decide +kernel
theorem dX5_tunedTo_13 : decode cX5_tunedTo 13 = .ok (.goto 8, 3) := by decide +kernel
theorem dX5_tunedTo_16 : decode cX5_tunedTo 16 = .ok (.ldc2_w 107, 3) := by decide +kernel
theorem dX5_tunedTo_19 : decode cX5_tunedTo 19 = .ok (.lload_n 2, 1) := by decide +kernel
theorem dX5_tunedTo_20 : decode cX5_tunedTo 20 = .ok (.ldiv, 1) := by decide +kernel
theorem dX5_tunedTo_21 : decode cX5_tunedTo 21 = .ok (.lstore 4, 2) := by decide +kernel
theorem dX5_tunedTo_23 : decode cX5_tunedTo 23 = .ok (.lconst 0, 1) := by decide +kernel
theorem dX5_tunedTo_24 : decode cX5_tunedTo 24 = .ok (.lstore 6, 2) := by decide +kernel
theorem dX5_tunedTo_26 : decode cX5_tunedTo 26 = .ok (.ldc2_w 109, 3) := by decide +kernel
theorem dX5_tunedTo_29 : decode cX5_tunedTo 29 = .ok (.lstore 8, 2) := by decide +kernel
theorem dX5_tunedTo_31 : decode cX5_tunedTo 31 = .ok (.lload 8, 2) := by decide +kernel
theorem dX5_tunedTo_33 : decode cX5_tunedTo 33 = .ok (.lconst 0, 1) := by decide +kernel
theorem dX5_tunedTo_34 : decode cX5_tunedTo 34 = .ok (.lcmp, 1) := by decide +kernel
theorem dX5_tunedTo_35 : decode cX5_tunedTo 35 = .ok (.ifCond .le 34, 3) := by decide +kernel
theorem dX5_tunedTo_38 : decode cX5_tunedTo 38 = .ok (.lload 6, 2) := by decide +kernel
theorem dX5_tunedTo_40 : decode cX5_tunedTo 40 = .ok (.lload 8, 2) := by decide +kernel
theorem dX5_tunedTo_42 : decode cX5_tunedTo 42 = .ok (.ladd, 1) := by decide +kernel
theorem dX5_tunedTo_43 : decode cX5_tunedTo 43 = .ok (.lstore 10, 2) := by decide +kernel
theorem dX5_tunedTo_45 : decode cX5_tunedTo 45 = .ok (.lload 10, 2) := by decide +kernel
theorem dX5_tunedTo_47 : decode cX5_tunedTo 47 = .ok (.lload 10, 2) := by decide +kernel
theorem dX5_tunedTo_49 : decode cX5_tunedTo 49 = .ok (.lmul, 1) := by decide +kernel
theorem dX5_tunedTo_50 : decode cX5_tunedTo 50 = .ok (.lload 4, 2) := by decide +kernel
theorem dX5_tunedTo_52 : decode cX5_tunedTo 52 = .ok (.lcmp, 1) := by decide +kernel
theorem dX5_tunedTo_53 : decode cX5_tunedTo 53 = .ok (.ifCond .gt 7, 3) := by decide +kernel
theorem dX5_tunedTo_56 : decode cX5_tunedTo 56 = .ok (.lload 10, 2) := by decide +kernel
theorem dX5_tunedTo_58 : decode cX5_tunedTo 58 = .ok (.lstore 6, 2) := by decide +kernel
theorem dX5_tunedTo_60 : decode cX5_tunedTo 60 = .ok (.lload 8, 2) := by decide +kernel
theorem dX5_tunedTo_62 : decode cX5_tunedTo 62 = .ok (.iconst 1, 1) := by decide +kernel
theorem dX5_tunedTo_63 : decode cX5_tunedTo 63 = .ok (.lshr, 1) := by decide +kernel
theorem dX5_tunedTo_64 : decode cX5_tunedTo 64 = .ok (.lstore 8, 2) := by decide +kernel
theorem dX5_tunedTo_66 : decode cX5_tunedTo 66 = .ok (.goto (-35), 3) := by decide +kernel
theorem dX5_tunedTo_69 : decode cX5_tunedTo 69 = .ok (.lload 6, 2) := by decide +kernel
theorem dX5_tunedTo_71 : decode cX5_tunedTo 71 = .ok (.l2i, 1) := by decide +kernel
theorem dX5_tunedTo_72 : decode cX5_tunedTo 72 = .ok (.ireturn, 1) := by decide +kernel
