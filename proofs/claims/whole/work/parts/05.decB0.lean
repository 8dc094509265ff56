theorem dX2_init_0 : decode cX2_init 0 = .ok (.aload_n 0, 1) := by decide +kernel
theorem dX2_init_1 : decode cX2_init 1 = .ok (.invokespecial 3, 3) := by decide +kernel
theorem dX2_init_4 : decode cX2_init 4 = .ok (.aload_n 0, 1) := by decide +kernel
theorem dX2_init_5 : decode cX2_init 5 = .ok (.bipush 12, 2) := by decide +kernel
theorem dX2_init_7 : decode cX2_init 7 = .ok (.newarray .int, 2) := by decide +kernel
theorem dX2_init_9 : decode cX2_init 9 = .ok (.putfield 9, 3) := by decide +kernel
theorem dX2_init_12 : decode cX2_init 12 = .ok (.aload_n 0, 1) := by decide +kernel
theorem dX2_init_13 : decode cX2_init 13 = .ok (.bipush 12, 2) := by decide +kernel
theorem dX2_init_15 : decode cX2_init 15 = .ok (.newarray .int, 2) := by decide +kernel
theorem dX2_init_17 : decode cX2_init 17 = .ok (.putfield 15, 3) := by decide +kernel
theorem dX2_init_20 : decode cX2_init 20 = .ok (.aload_n 0, 1) := by decide +kernel
theorem dX2_init_21 : decode cX2_init 21 = .ok (.bipush 48, 2) := by decide +kernel
theorem dX2_init_23 : decode cX2_init 23 = .ok (.newarray .int, 2) := by decide +kernel
theorem dX2_init_25 : decode cX2_init 25 = .ok (.putfield 18, 3) := by decide +kernel
theorem dX2_init_28 : decode cX2_init 28 = .ok (.aload_n 0, 1) := by decide +kernel
theorem dX2_init_29 : decode cX2_init 29 = .ok (.sipush 4096, 3) := by decide +kernel
theorem dX2_init_32 : decode cX2_init 32 = .ok (.newarray .int, 2) := by decide +kernel
theorem dX2_init_34 : decode cX2_init 34 = .ok (.putfield 21, 3) := by decide +kernel
theorem dX2_init_37 : decode cX2_init 37 = .ok (.aload_n 0, 1) := by decide +kernel
theorem dX2_init_38 : decode cX2_init 38 = .ok (.iconst 0, 1) := by decide +kernel
theorem dX2_init_39 : decode cX2_init 39 = .ok (.putfield 24, 3) := by decide +kernel
theorem dX2_init_42 : decode cX2_init 42 = .ok (.aload_n 0, 1) := by decide +kernel
theorem dX2_init_43 : decode cX2_init 43 = .ok (.iconst 0, 1) := by decide +kernel
theorem dX2_init_44 : decode cX2_init 44 = .ok (.putfield 28, 3) := by decide +kernel
theorem dX2_init_47 : decode cX2_init 47 = .ok (.aload_n 0, 1) := by decide +kernel
theorem dX2_init_48 : decode cX2_init 48 = .ok (.iconst 0, 1) := by decide +kernel
theorem dX2_init_49 : decode cX2_init 49 = .ok (.putfield 31, 3) := by decide +kernel
theorem dX2_init_52 : decode cX2_init 52 = .ok (.iconst 0, 1) := by decide +kernel
theorem dX2_init_53 : decode cX2_init 53 = .ok (.istore_n 1, 1) := by decide +kernel
theorem dX2_init_54 : decode cX2_init 54 = .ok (.iload_n 1, 1) := by decide +kernel
theorem dX2_init_55 : decode cX2_init 55 = .ok (.bipush 12, 2) := by decide +kernel
theorem dX2_init_57 : decode cX2_init 57 = .ok (.if_icmp .ge 20, 3) := by decide +kernel
theorem dX2_init_60 : decode cX2_init 60 = .ok (.aload_n 0, 1) := by decide +kernel
theorem dX2_init_61 : decode cX2_init 61 = .ok (.getfield 18, 3) := by decide +kernel
theorem dX2_init_64 : decode cX2_init 64 = .ok (.iload_n 1, 1) := by decide +kernel
theorem dX2_init_65 : decode cX2_init 65 = .ok (.iconst 4, 1) := by decide +kernel
theorem dX2_init_66 : decode cX2_init 66 = .ok (.imul, 1) := by decide +kernel
theorem dX2_init_67 : decode cX2_init 67 = .ok (.sipush 4095, 3) := by decide +kernel
theorem dX2_init_70 : decode cX2_init 70 = .ok (.iastore, 1) := by decide +kernel
theorem dX2_init_71 : decode cX2_init 71 = .ok (.iinc 1 1, 3) := by decide +kernel
theorem dX2_init_74 : decode cX2_init 74 = .ok (.goto (-20), 3) := by decide +kernel
theorem dX2_init_77 : decode cX2_init 77 = .ok (.return_, 1) := by decide +kernel
theorem dX2_faults_0 : decode cX2_faults 0 = .ok (.aload_n 0, 1) := by decide +kernel
theorem dX2_faults_1 : decode cX2_faults 1 = .ok (.getfield 24, 3) := by decide +kernel
theorem dX2_faults_4 : decode cX2_faults 4 = .ok (.ireturn, 1) := by decide +kernel
theorem dX2_tests_0 : decode cX2_tests 0 = .ok (.aload_n 0, 1) := by decide +kernel
theorem dX2_tests_1 : decode cX2_tests 1 = .ok (.getfield 28, 3) := by decide +kernel
theorem dX2_tests_4 : decode cX2_tests 4 = .ok (.ireturn, 1) := by decide +kernel
theorem dX2_leftBits_0 : decode cX2_leftBits 0 = .ok (.aload_n 0, 1) := by decide +kernel
theorem dX2_leftBits_1 : decode cX2_leftBits 1 = .ok (.getfield 31, 3) := by decide +kernel
theorem dX2_leftBits_4 : decode cX2_leftBits 4 = .ok (.ireturn, 1) := by decide +kernel
theorem dX2_addFault_0 : decode cX2_addFault 0 = .ok (.iload_n 1, 1) := by decide +kernel
theorem dX2_addFault_1 : decode cX2_addFault 1 = .ok (.iconst 1, 1) := by decide +kernel
theorem dX2_addFault_2 : decode cX2_addFault 2 = .ok (.bipush 99, 2) := by decide +kernel
theorem dX2_addFault_4 : decode cX2_addFault 4 = .ok (.invokestatic 34, 3) := by decide +kernel
theorem dX2_addFault_7 : decode cX2_addFault 7 = .ok (.ifCond .ne 5, 3) := by decide +kernel
theorem dX2_addFault_10 : decode cX2_addFault 10 = .ok (.iconst (-1), 1) := by decide +kernel
theorem dX2_addFault_11 : decode cX2_addFault 11 = .ok (.ireturn, 1) := by decide +kernel
theorem dX2_addFault_12 : decode cX2_addFault 12 = .ok (.aload_n 0, 1) := by decide +kernel
theorem dX2_addFault_13 : decode cX2_addFault 13 = .ok (.getfield 24, 3) := by decide +kernel
theorem dX2_addFault_16 : decode cX2_addFault 16 = .ok (.bipush 12, 2) := by decide +kernel
theorem dX2_addFault_18 : decode cX2_addFault 18 = .ok (.if_icmp .lt 6, 3) := by decide +kernel
theorem dX2_addFault_21 : decode cX2_addFault 21 = .ok (.bipush (-2), 2) := by decide +kernel
theorem dX2_addFault_23 : decode cX2_addFault 23 = .ok (.ireturn, 1) := by decide +kernel
theorem dX2_addFault_24 : decode cX2_addFault 24 = .ok (.aload_n 0, 1) := by decide +kernel
theorem dX2_addFault_25 : decode cX2_addFault 25 = .ok (.getfield 9, 3) := by decide +kernel
theorem dX2_addFault_28 : decode cX2_addFault 28 = .ok (.aload_n 0, 1) := by decide +kernel
theorem dX2_addFault_29 : decode cX2_addFault 29 = .ok (.getfield 24, 3) := by decide +kernel
theorem dX2_addFault_32 : decode cX2_addFault 32 = .ok (.iload_n 1, 1) := by decide +kernel
theorem dX2_addFault_33 : decode cX2_addFault 33 = .ok (.iastore, 1) := by decide +kernel
theorem dX2_addFault_34 : decode cX2_addFault 34 = .ok (.aload_n 0, 1) := by decide +kernel
theorem dX2_addFault_35 : decode cX2_addFault 35 = .ok (.dup, 1) := by decide +kernel
theorem dX2_addFault_36 : decode cX2_addFault 36 = .ok (.getfield 31, 3) := by decide +kernel
theorem dX2_addFault_39 : decode cX2_addFault 39 = .ok (.iconst 1, 1) := by decide +kernel
theorem dX2_addFault_40 : decode cX2_addFault 40 = .ok (.aload_n 0, 1) := by decide +kernel
theorem dX2_addFault_41 : decode cX2_addFault 41 = .ok (.getfield 24, 3) := by decide +kernel
theorem dX2_addFault_44 : decode cX2_addFault 44 = .ok (.ishl, 1) := by decide +kernel
theorem dX2_addFault_45 : decode cX2_addFault 45 = .ok (.ior, 1) := by decide +kernel
theorem dX2_addFault_46 : decode cX2_addFault 46 = .ok (.putfield 31, 3) := by decide +kernel
theorem dX2_addFault_49 : decode cX2_addFault 49 = .ok (.aload_n 0, 1) := by decide +kernel
theorem dX2_addFault_50 : decode cX2_addFault 50 = .ok (.dup, 1) := by decide +kernel
theorem dX2_addFault_51 : decode cX2_addFault 51 = .ok (.getfield 24, 3) := by decide +kernel
theorem dX2_addFault_54 : decode cX2_addFault 54 = .ok (.iconst 1, 1) := by decide +kernel
theorem dX2_addFault_55 : decode cX2_addFault 55 = .ok (.iadd, 1) := by decide +kernel
theorem dX2_addFault_56 : decode cX2_addFault 56 = .ok (.putfield 24, 3) := by decide +kernel
theorem dX2_addFault_59 : decode cX2_addFault 59 = .ok (.aload_n 0, 1) := by decide +kernel
theorem dX2_addFault_60 : decode cX2_addFault 60 = .ok (.getfield 24, 3) := by decide +kernel
theorem dX2_addFault_63 : decode cX2_addFault 63 = .ok (.iconst 1, 1) := by decide +kernel
theorem dX2_addFault_64 : decode cX2_addFault 64 = .ok (.isub, 1) := by decide +kernel
theorem dX2_addFault_65 : decode cX2_addFault 65 = .ok (.ireturn, 1) := by decide +kernel
theorem dX2_addTest_0 : decode cX2_addTest 0 = .ok (.iload_n 1, 1) := by decide +kernel
theorem dX2_addTest_1 : decode cX2_addTest 1 = .ok (.iconst 1, 1) := by decide +kernel
theorem dX2_addTest_2 : decode cX2_addTest 2 = .ok (.bipush 99, 2) := by decide +kernel
theorem dX2_addTest_4 : decode cX2_addTest 4 = .ok (.invokestatic 34, 3) := by decide +kernel
theorem dX2_addTest_7 : decode cX2_addTest 7 = .ok (.ifCond .ne 5, 3) := by decide +kernel
theorem dX2_addTest_10 : decode cX2_addTest 10 = .ok (.iconst (-1), 1) := by decide +kernel
theorem dX2_addTest_11 : decode cX2_addTest 11 = .ok (.ireturn, 1) := by decide +kernel
theorem dX2_addTest_12 : decode cX2_addTest 12 = .ok (.aload_n 0, 1) := by decide +kernel
theorem dX2_addTest_13 : decode cX2_addTest 13 = .ok (.getfield 28, 3) := by decide +kernel
theorem dX2_addTest_16 : decode cX2_addTest 16 = .ok (.bipush 12, 2) := by decide +kernel
theorem dX2_addTest_18 : decode cX2_addTest 18 = .ok (.if_icmp .lt 6, 3) := by decide +kernel
theorem dX2_addTest_21 : decode cX2_addTest 21 = .ok (.bipush (-2), 2) := by decide +kernel
theorem dX2_addTest_23 : decode cX2_addTest 23 = .ok (.ireturn, 1) := by decide +kernel
theorem dX2_addTest_24 : decode cX2_addTest 24 = .ok (.aload_n 0, 1) := by decide +kernel
theorem dX2_addTest_25 : decode cX2_addTest 25 = .ok (.getfield 15, 3) := by decide +kernel
theorem dX2_addTest_28 : decode cX2_addTest 28 = .ok (.aload_n 0, 1) := by decide +kernel
theorem dX2_addTest_29 : decode cX2_addTest 29 = .ok (.getfield 28, 3) := by decide +kernel
theorem dX2_addTest_32 : decode cX2_addTest 32 = .ok (.iload_n 1, 1) := by decide +kernel
theorem dX2_addTest_33 : decode cX2_addTest 33 = .ok (.iastore, 1) := by decide +kernel
theorem dX2_addTest_34 : decode cX2_addTest 34 = .ok (.aload_n 0, 1) := by decide +kernel
theorem dX2_addTest_35 : decode cX2_addTest 35 = .ok (.dup, 1) := by decide +kernel
theorem dX2_addTest_36 : decode cX2_addTest 36 = .ok (.getfield 28, 3) := by decide +kernel
theorem dX2_addTest_39 : decode cX2_addTest 39 = .ok (.iconst 1, 1) := by decide +kernel
theorem dX2_addTest_40 : decode cX2_addTest 40 = .ok (.iadd, 1) := by decide +kernel
theorem dX2_addTest_41 : decode cX2_addTest 41 = .ok (.putfield 28, 3) := by decide +kernel
theorem dX2_addTest_44 : decode cX2_addTest 44 = .ok (.aload_n 0, 1) := by decide +kernel
theorem dX2_addTest_45 : decode cX2_addTest 45 = .ok (.getfield 28, 3) := by decide +kernel
theorem dX2_addTest_48 : decode cX2_addTest 48 = .ok (.iconst 1, 1) := by decide +kernel
theorem dX2_addTest_49 : decode cX2_addTest 49 = .ok (.isub, 1) := by decide +kernel
theorem dX2_addTest_50 : decode cX2_addTest 50 = .ok (.ireturn, 1) := by decide +kernel
theorem dX2_changeReading_0 : decode cX2_changeReading 0 = .ok (.aload_n 0, 1) := by decide +kernel
theorem dX2_changeReading_1 : decode cX2_changeReading 1 = .ok (.iload_n 1, 1) := by decide +kernel
theorem dX2_changeReading_2 : decode cX2_changeReading 2 = .ok (.invokevirtual 38, 3) := by decide +kernel
theorem dX2_changeReading_5 : decode cX2_changeReading 5 = .ok (.ifCond .eq 24, 3) := by decide +kernel
theorem dX2_changeReading_8 : decode cX2_changeReading 8 = .ok (.iload_n 2, 1) := by decide +kernel
theorem dX2_changeReading_9 : decode cX2_changeReading 9 = .ok (.iconst 0, 1) := by decide +kernel
theorem dX2_changeReading_10 : decode cX2_changeReading 10 = .ok (.aload_n 0, 1) := by decide +kernel
theorem dX2_changeReading_11 : decode cX2_changeReading 11 = .ok (.getfield 24, 3) := by decide +kernel
theorem dX2_changeReading_14 : decode cX2_changeReading 14 = .ok (.iconst 1, 1) := by decide +kernel
theorem dX2_changeReading_15 : decode cX2_changeReading 15 = .ok (.isub, 1) := by decide +kernel
theorem dX2_changeReading_16 : decode cX2_changeReading 16 = .ok (.invokestatic 34, 3) := by decide +kernel
theorem dX2_changeReading_19 : decode cX2_changeReading 19 = .ok (.ifCond .eq 10, 3) := by decide +kernel
theorem dX2_changeReading_22 : decode cX2_changeReading 22 = .ok (.iload_n 3, 1) := by decide +kernel
theorem dX2_changeReading_23 : decode cX2_changeReading 23 = .ok (.invokestatic 42, 3) := by decide +kernel
theorem dX2_changeReading_26 : decode cX2_changeReading 26 = .ok (.ifCond .ne 5, 3) := by decide +kernel
theorem dX2_changeReading_29 : decode cX2_changeReading 29 = .ok (.iconst (-1), 1) := by decide +kernel
theorem dX2_changeReading_30 : decode cX2_changeReading 30 = .ok (.ireturn, 1) := by decide +kernel
theorem dX2_changeReading_31 : decode cX2_changeReading 31 = .ok (.iconst 1, 1) := by decide +kernel
theorem dX2_changeReading_32 : decode cX2_changeReading 32 = .ok (.iload_n 2, 1) := by decide +kernel
theorem dX2_changeReading_33 : decode cX2_changeReading 33 = .ok (.ishl, 1) := by decide +kernel
theorem dX2_changeReading_34 : decode cX2_changeReading 34 = .ok (.istore 4, 2) := by decide +kernel
theorem dX2_changeReading_36 : decode cX2_changeReading 36 = .ok (.iconst 0, 1) := by decide +kernel
theorem dX2_changeReading_37 : decode cX2_changeReading 37 = .ok (.istore 5, 2) := by decide +kernel
theorem dX2_changeReading_39 : decode cX2_changeReading 39 = .ok (.iconst 0, 1) := by decide +kernel
theorem dX2_changeReading_40 : decode cX2_changeReading 40 = .ok (.istore 6, 2) := by decide +kernel
theorem dX2_changeReading_42 : decode cX2_changeReading 42 = .ok (.iload 6, 2) := by decide +kernel
theorem dX2_changeReading_44 : decode cX2_changeReading 44 = .ok (.iconst 4, 1) := by decide +kernel
theorem dX2_changeReading_45 : decode cX2_changeReading 45 = .ok (.if_icmp .ge 30, 3) := by decide +kernel
theorem dX2_changeReading_48 : decode cX2_changeReading 48 = .ok (.aload_n 0, 1) := by decide +kernel
theorem dX2_changeReading_49 : decode cX2_changeReading 49 = .ok (.getfield 18, 3) := by decide +kernel
theorem dX2_changeReading_52 : decode cX2_changeReading 52 = .ok (.iload_n 1, 1) := by decide +kernel
theorem dX2_changeReading_53 : decode cX2_changeReading 53 = .ok (.iconst 4, 1) := by decide +kernel
theorem dX2_changeReading_54 : decode cX2_changeReading 54 = .ok (.imul, 1) := by decide +kernel
theorem dX2_changeReading_55 : decode cX2_changeReading 55 = .ok (.iload 6, 2) := by decide +kernel
theorem dX2_changeReading_57 : decode cX2_changeReading 57 = .ok (.iadd, 1) := by decide +kernel
theorem dX2_changeReading_58 : decode cX2_changeReading 58 = .ok (.iaload, 1) := by decide +kernel
theorem dX2_changeReading_59 : decode cX2_changeReading 59 = .ok (.iload 4, 2) := by decide +kernel
theorem dX2_changeReading_61 : decode cX2_changeReading 61 = .ok (.iand, 1) := by decide +kernel
theorem dX2_changeReading_62 : decode cX2_changeReading 62 = .ok (.ifCond .eq 7, 3) := by decide +kernel
theorem dX2_changeReading_65 : decode cX2_changeReading 65 = .ok (.iload 6, 2) := by decide +kernel
theorem dX2_changeReading_67 : decode cX2_changeReading 67 = .ok (.istore 5, 2) := by decide +kernel
theorem dX2_changeReading_69 : decode cX2_changeReading 69 = .ok (.iinc 6 1, 3) := by decide +kernel
theorem dX2_changeReading_72 : decode cX2_changeReading 72 = .ok (.goto (-30), 3) := by decide +kernel
theorem dX2_changeReading_75 : decode cX2_changeReading 75 = .ok (.aload_n 0, 1) := by decide +kernel
theorem dX2_changeReading_76 : decode cX2_changeReading 76 = .ok (.getfield 18, 3) := by decide +kernel
theorem dX2_changeReading_79 : decode cX2_changeReading 79 = .ok (.iload_n 1, 1) := by decide +kernel
theorem dX2_changeReading_80 : decode cX2_changeReading 80 = .ok (.iconst 4, 1) := by decide +kernel
theorem dX2_changeReading_81 : decode cX2_changeReading 81 = .ok (.imul, 1) := by decide +kernel
theorem dX2_changeReading_82 : decode cX2_changeReading 82 = .ok (.iload 5, 2) := by decide +kernel
theorem dX2_changeReading_84 : decode cX2_changeReading 84 = .ok (.iadd, 1) := by decide +kernel
theorem dX2_changeReading_85 : decode cX2_changeReading 85 = .ok (.dup2, 1) := by decide +kernel
theorem dX2_changeReading_86 : decode cX2_changeReading 86 = .ok (.iaload, 1) := by decide +kernel
theorem dX2_changeReading_87 : decode cX2_changeReading 87 = .ok (.iload 4, 2) := by decide +kernel
theorem dX2_changeReading_89 : decode cX2_changeReading 89 = .ok (.iconst (-1), 1) := by decide +kernel
theorem dX2_changeReading_90 : decode cX2_changeReading 90 = .ok (.ixor, 1) := by decide +kernel
theorem dX2_changeReading_91 : decode cX2_changeReading 91 = .ok (.iand, 1) := by decide +kernel
theorem dX2_changeReading_92 : decode cX2_changeReading 92 = .ok (.iastore, 1) := by decide +kernel
theorem dX2_changeReading_93 : decode cX2_changeReading 93 = .ok (.aload_n 0, 1) := by decide +kernel
theorem dX2_changeReading_94 : decode cX2_changeReading 94 = .ok (.getfield 18, 3) := by decide +kernel
theorem dX2_changeReading_97 : decode cX2_changeReading 97 = .ok (.iload_n 1, 1) := by decide +kernel
theorem dX2_changeReading_98 : decode cX2_changeReading 98 = .ok (.iconst 4, 1) := by decide +kernel
theorem dX2_changeReading_99 : decode cX2_changeReading 99 = .ok (.imul, 1) := by decide +kernel
theorem dX2_changeReading_100 : decode cX2_changeReading 100 = .ok (.iload_n 3, 1) := by decide +kernel
theorem dX2_changeReading_101 : decode cX2_changeReading 101 = .ok (.iadd, 1) := by decide +kernel
theorem dX2_changeReading_102 : decode cX2_changeReading 102 = .ok (.dup2, 1) := by decide +kernel
theorem dX2_changeReading_103 : decode cX2_changeReading 103 = .ok (.iaload, 1) := by decide +kernel
theorem dX2_changeReading_104 : decode cX2_changeReading 104 = .ok (.iload 4, 2) := by decide +kernel
theorem dX2_changeReading_106 : decode cX2_changeReading 106 = .ok (.ior, 1) := by decide +kernel
theorem dX2_changeReading_107 : decode cX2_changeReading 107 = .ok (.iastore, 1) := by decide +kernel
theorem dX2_changeReading_108 : decode cX2_changeReading 108 = .ok (.iload 5, 2) := by decide +kernel
theorem dX2_changeReading_110 : decode cX2_changeReading 110 = .ok (.ireturn, 1) := by decide +kernel
theorem dX2_takeReading_0 : decode cX2_takeReading 0 = .ok (.aload_n 0, 1) := by decide +kernel
theorem dX2_takeReading_1 : decode cX2_takeReading 1 = .ok (.iload_n 1, 1) := by decide +kernel
theorem dX2_takeReading_2 : decode cX2_takeReading 2 = .ok (.invokevirtual 38, 3) := by decide +kernel
theorem dX2_takeReading_5 : decode cX2_takeReading 5 = .ok (.ifCond .eq 10, 3) := by decide +kernel
theorem dX2_takeReading_8 : decode cX2_takeReading 8 = .ok (.iload_n 2, 1) := by decide +kernel
theorem dX2_takeReading_9 : decode cX2_takeReading 9 = .ok (.invokestatic 42, 3) := by decide +kernel
theorem dX2_takeReading_12 : decode cX2_takeReading 12 = .ok (.ifCond .ne 5, 3) := by decide +kernel
theorem dX2_takeReading_15 : decode cX2_takeReading 15 = .ok (.iconst (-1), 1) := by decide +kernel
theorem dX2_takeReading_16 : decode cX2_takeReading 16 = .ok (.ireturn, 1) := by decide +kernel
theorem dX2_takeReading_17 : decode cX2_takeReading 17 = .ok (.aload_n 0, 1) := by decide +kernel
theorem dX2_takeReading_18 : decode cX2_takeReading 18 = .ok (.getfield 31, 3) := by decide +kernel
theorem dX2_takeReading_21 : decode cX2_takeReading 21 = .ok (.aload_n 0, 1) := by decide +kernel
theorem dX2_takeReading_22 : decode cX2_takeReading 22 = .ok (.getfield 18, 3) := by decide +kernel
theorem dX2_takeReading_25 : decode cX2_takeReading 25 = .ok (.iload_n 1, 1) := by decide +kernel
theorem dX2_takeReading_26 : decode cX2_takeReading 26 = .ok (.iconst 4, 1) := by decide +kernel
theorem dX2_takeReading_27 : decode cX2_takeReading 27 = .ok (.imul, 1) := by decide +kernel
theorem dX2_takeReading_28 : decode cX2_takeReading 28 = .ok (.iload_n 2, 1) := by decide +kernel
theorem dX2_takeReading_29 : decode cX2_takeReading 29 = .ok (.iadd, 1) := by decide +kernel
theorem dX2_takeReading_30 : decode cX2_takeReading 30 = .ok (.iaload, 1) := by decide +kernel
theorem dX2_takeReading_31 : decode cX2_takeReading 31 = .ok (.iand, 1) := by decide +kernel
theorem dX2_takeReading_32 : decode cX2_takeReading 32 = .ok (.istore_n 3, 1) := by decide +kernel
theorem dX2_takeReading_33 : decode cX2_takeReading 33 = .ok (.iload_n 3, 1) := by decide +kernel
theorem dX2_takeReading_34 : decode cX2_takeReading 34 = .ok (.ifCond .ne 6, 3) := by decide +kernel
theorem dX2_takeReading_37 : decode cX2_takeReading 37 = .ok (.bipush (-3), 2) := by decide +kernel
theorem dX2_takeReading_39 : decode cX2_takeReading 39 = .ok (.ireturn, 1) := by decide +kernel
theorem dX2_takeReading_40 : decode cX2_takeReading 40 = .ok (.aload_n 0, 1) := by decide +kernel
theorem dX2_takeReading_41 : decode cX2_takeReading 41 = .ok (.iload_n 3, 1) := by decide +kernel
theorem dX2_takeReading_42 : decode cX2_takeReading 42 = .ok (.putfield 31, 3) := by decide +kernel
theorem dX2_takeReading_45 : decode cX2_takeReading 45 = .ok (.aload_n 0, 1) := by decide +kernel
theorem dX2_takeReading_46 : decode cX2_takeReading 46 = .ok (.getfield 31, 3) := by decide +kernel
theorem dX2_takeReading_49 : decode cX2_takeReading 49 = .ok (.invokestatic 45, 3) := by decide +kernel
theorem dX2_takeReading_52 : decode cX2_takeReading 52 = .ok (.ireturn, 1) := by decide +kernel
theorem dX2_startAgain_0 : decode cX2_startAgain 0 = .ok (.aload_n 0, 1) := by decide +kernel
theorem dX2_startAgain_1 : decode cX2_startAgain 1 = .ok (.getfield 31, 3) := by decide +kernel
theorem dX2_startAgain_4 : decode cX2_startAgain 4 = .ok (.invokestatic 45, 3) := by decide +kernel
theorem dX2_startAgain_7 : decode cX2_startAgain 7 = .ok (.istore_n 1, 1) := by decide +kernel
theorem dX2_startAgain_8 : decode cX2_startAgain 8 = .ok (.aload_n 0, 1) := by decide +kernel
theorem dX2_startAgain_9 : decode cX2_startAgain 9 = .ok (.iconst 1, 1) := by decide +kernel
theorem dX2_startAgain_10 : decode cX2_startAgain 10 = .ok (.aload_n 0, 1) := by decide +kernel
theorem dX2_startAgain_11 : decode cX2_startAgain 11 = .ok (.getfield 24, 3) := by decide +kernel
theorem dX2_startAgain_14 : decode cX2_startAgain 14 = .ok (.ishl, 1) := by decide +kernel
theorem dX2_startAgain_15 : decode cX2_startAgain 15 = .ok (.iconst 1, 1) := by decide +kernel
theorem dX2_startAgain_16 : decode cX2_startAgain 16 = .ok (.isub, 1) := by decide +kernel
theorem dX2_startAgain_17 : decode cX2_startAgain 17 = .ok (.putfield 31, 3) := by decide +kernel
theorem dX2_startAgain_20 : decode cX2_startAgain 20 = .ok (.iload_n 1, 1) := by decide +kernel
theorem dX2_startAgain_21 : decode cX2_startAgain 21 = .ok (.ireturn, 1) := by decide +kernel
theorem dX2_nextBest_0 : decode cX2_nextBest 0 = .ok (.bipush (-4), 2) := by decide +kernel
theorem dX2_nextBest_2 : decode cX2_nextBest 2 = .ok (.istore_n 1, 1) := by decide +kernel
theorem dX2_nextBest_3 : decode cX2_nextBest 3 = .ok (.iconst 0, 1) := by decide +kernel
theorem dX2_nextBest_4 : decode cX2_nextBest 4 = .ok (.istore_n 2, 1) := by decide +kernel
theorem dX2_nextBest_5 : decode cX2_nextBest 5 = .ok (.iconst 0, 1) := by decide +kernel
theorem dX2_nextBest_6 : decode cX2_nextBest 6 = .ok (.istore_n 3, 1) := by decide +kernel
theorem dX2_nextBest_7 : decode cX2_nextBest 7 = .ok (.iconst 0, 1) := by decide +kernel
theorem dX2_nextBest_8 : decode cX2_nextBest 8 = .ok (.istore 4, 2) := by decide +kernel
theorem dX2_nextBest_10 : decode cX2_nextBest 10 = .ok (.iload 4, 2) := by decide +kernel
theorem dX2_nextBest_12 : decode cX2_nextBest 12 = .ok (.aload_n 0, 1) := by decide +kernel
theorem dX2_nextBest_13 : decode cX2_nextBest 13 = .ok (.getfield 28, 3) := by decide +kernel
theorem dX2_nextBest_16 : decode cX2_nextBest 16 = .ok (.if_icmp .ge 76, 3) := by decide +kernel
theorem dX2_nextBest_19 : decode cX2_nextBest 19 = .ok (.aload_n 0, 1) := by decide +kernel
theorem dX2_nextBest_20 : decode cX2_nextBest 20 = .ok (.iload 4, 2) := by decide +kernel
theorem dX2_nextBest_22 : decode cX2_nextBest 22 = .ok (.aload_n 0, 1) := by decide +kernel
theorem dX2_nextBest_23 : decode cX2_nextBest 23 = .ok (.getfield 31, 3) := by decide +kernel
theorem dX2_nextBest_26 : decode cX2_nextBest 26 = .ok (.invokevirtual 51, 3) := by decide +kernel
theorem dX2_nextBest_29 : decode cX2_nextBest 29 = .ok (.ifCond .ne 6, 3) := by decide +kernel
theorem dX2_nextBest_32 : decode cX2_nextBest 32 = .ok (.goto 54, 3) := by decide +kernel
theorem dX2_nextBest_35 : decode cX2_nextBest 35 = .ok (.aload_n 0, 1) := by decide +kernel
theorem dX2_nextBest_36 : decode cX2_nextBest 36 = .ok (.iload 4, 2) := by decide +kernel
theorem dX2_nextBest_38 : decode cX2_nextBest 38 = .ok (.invokevirtual 55, 3) := by decide +kernel
theorem dX2_nextBest_41 : decode cX2_nextBest 41 = .ok (.istore 5, 2) := by decide +kernel
theorem dX2_nextBest_43 : decode cX2_nextBest 43 = .ok (.iload_n 1, 1) := by decide +kernel
theorem dX2_nextBest_44 : decode cX2_nextBest 44 = .ok (.bipush (-4), 2) := by decide +kernel
theorem dX2_nextBest_46 : decode cX2_nextBest 46 = .ok (.if_icmp .eq 26, 3) := by decide +kernel
theorem dX2_nextBest_49 : decode cX2_nextBest 49 = .ok (.iload 5, 2) := by decide +kernel
theorem dX2_nextBest_51 : decode cX2_nextBest 51 = .ok (.iload_n 2, 1) := by decide +kernel
theorem dX2_nextBest_52 : decode cX2_nextBest 52 = .ok (.if_icmp .lt 20, 3) := by decide +kernel
theorem dX2_nextBest_55 : decode cX2_nextBest 55 = .ok (.iload 5, 2) := by decide +kernel
theorem dX2_nextBest_57 : decode cX2_nextBest 57 = .ok (.iload_n 2, 1) := by decide +kernel
theorem dX2_nextBest_58 : decode cX2_nextBest 58 = .ok (.if_icmp .ne 28, 3) := by decide +kernel
theorem dX2_nextBest_61 : decode cX2_nextBest 61 = .ok (.aload_n 0, 1) := by decide +kernel
theorem dX2_nextBest_62 : decode cX2_nextBest 62 = .ok (.getfield 15, 3) := by decide +kernel
theorem dX2_nextBest_65 : decode cX2_nextBest 65 = .ok (.iload 4, 2) := by decide +kernel
theorem dX2_nextBest_67 : decode cX2_nextBest 67 = .ok (.iaload, 1) := by decide +kernel
theorem dX2_nextBest_68 : decode cX2_nextBest 68 = .ok (.iload_n 3, 1) := by decide +kernel
theorem dX2_nextBest_69 : decode cX2_nextBest 69 = .ok (.if_icmp .ge 17, 3) := by decide +kernel
theorem dX2_nextBest_72 : decode cX2_nextBest 72 = .ok (.iload 4, 2) := by decide +kernel
theorem dX2_nextBest_74 : decode cX2_nextBest 74 = .ok (.istore_n 1, 1) := by decide +kernel
theorem dX2_nextBest_75 : decode cX2_nextBest 75 = .ok (.iload 5, 2) := by decide +kernel
theorem dX2_nextBest_77 : decode cX2_nextBest 77 = .ok (.istore_n 2, 1) := by decide +kernel
theorem dX2_nextBest_78 : decode cX2_nextBest 78 = .ok (.aload_n 0, 1) := by decide +kernel
theorem dX2_nextBest_79 : decode cX2_nextBest 79 = .ok (.getfield 15, 3) := by decide +kernel
theorem dX2_nextBest_82 : decode cX2_nextBest 82 = .ok (.iload 4, 2) := by decide +kernel
theorem dX2_nextBest_84 : decode cX2_nextBest 84 = .ok (.iaload, 1) := by decide +kernel
theorem dX2_nextBest_85 : decode cX2_nextBest 85 = .ok (.istore_n 3, 1) := by decide +kernel
theorem dX2_nextBest_86 : decode cX2_nextBest 86 = .ok (.iinc 4 1, 3) := by decide +kernel
theorem dX2_nextBest_89 : decode cX2_nextBest 89 = .ok (.goto (-79), 3) := by decide +kernel
theorem dX2_nextBest_92 : decode cX2_nextBest 92 = .ok (.iload_n 1, 1) := by decide +kernel
theorem dX2_nextBest_93 : decode cX2_nextBest 93 = .ok (.ireturn, 1) := by decide +kernel
theorem dX2_leastCost_0 : decode cX2_leastCost 0 = .ok (.iconst 0, 1) := by decide +kernel
theorem dX2_leastCost_1 : decode cX2_leastCost 1 = .ok (.istore_n 2, 1) := by decide +kernel
theorem dX2_leastCost_2 : decode cX2_leastCost 2 = .ok (.iconst 0, 1) := by decide +kernel
theorem dX2_leastCost_3 : decode cX2_leastCost 3 = .ok (.istore_n 3, 1) := by decide +kernel
theorem dX2_leastCost_4 : decode cX2_leastCost 4 = .ok (.iload_n 3, 1) := by decide +kernel
theorem dX2_leastCost_5 : decode cX2_leastCost 5 = .ok (.sipush 4095, 3) := by decide +kernel
theorem dX2_leastCost_8 : decode cX2_leastCost 8 = .ok (.if_icmp .ge 41, 3) := by decide +kernel
theorem dX2_leastCost_11 : decode cX2_leastCost 11 = .ok (.iload_n 2, 1) := by decide +kernel
theorem dX2_leastCost_12 : decode cX2_leastCost 12 = .ok (.aload_n 0, 1) := by decide +kernel
theorem dX2_leastCost_13 : decode cX2_leastCost 13 = .ok (.getfield 31, 3) := by decide +kernel
theorem dX2_leastCost_16 : decode cX2_leastCost 16 = .ok (.if_icmp .eq 33, 3) := by decide +kernel
theorem dX2_leastCost_19 : decode cX2_leastCost 19 = .ok (.aload_n 0, 1) := by decide +kernel
theorem dX2_leastCost_20 : decode cX2_leastCost 20 = .ok (.getfield 21, 3) := by decide +kernel
theorem dX2_leastCost_23 : decode cX2_leastCost 23 = .ok (.iload_n 2, 1) := by decide +kernel
theorem dX2_leastCost_24 : decode cX2_leastCost 24 = .ok (.aload_n 0, 1) := by decide +kernel
theorem dX2_leastCost_25 : decode cX2_leastCost 25 = .ok (.iload_n 2, 1) := by decide +kernel
theorem dX2_leastCost_26 : decode cX2_leastCost 26 = .ok (.iload_n 1, 1) := by decide +kernel
theorem dX2_leastCost_27 : decode cX2_leastCost 27 = .ok (.invokevirtual 58, 3) := by decide +kernel
theorem dX2_leastCost_30 : decode cX2_leastCost 30 = .ok (.iastore, 1) := by decide +kernel
theorem dX2_leastCost_31 : decode cX2_leastCost 31 = .ok (.iload_n 2, 1) := by decide +kernel
theorem dX2_leastCost_32 : decode cX2_leastCost 32 = .ok (.aload_n 0, 1) := by decide +kernel
theorem dX2_leastCost_33 : decode cX2_leastCost 33 = .ok (.getfield 31, 3) := by decide +kernel
theorem dX2_leastCost_36 : decode cX2_leastCost 36 = .ok (.isub, 1) := by decide +kernel
theorem dX2_leastCost_37 : decode cX2_leastCost 37 = .ok (.aload_n 0, 1) := by decide +kernel
theorem dX2_leastCost_38 : decode cX2_leastCost 38 = .ok (.getfield 31, 3) := by decide +kernel
theorem dX2_leastCost_41 : decode cX2_leastCost 41 = .ok (.iand, 1) := by decide +kernel
theorem dX2_leastCost_42 : decode cX2_leastCost 42 = .ok (.istore_n 2, 1) := by decide +kernel
theorem dX2_leastCost_43 : decode cX2_leastCost 43 = .ok (.iinc 3 1, 3) := by decide +kernel
theorem dX2_leastCost_46 : decode cX2_leastCost 46 = .ok (.goto (-42), 3) := by decide +kernel
theorem dX2_leastCost_49 : decode cX2_leastCost 49 = .ok (.aload_n 0, 1) := by decide +kernel
theorem dX2_leastCost_50 : decode cX2_leastCost 50 = .ok (.aload_n 0, 1) := by decide +kernel
theorem dX2_leastCost_51 : decode cX2_leastCost 51 = .ok (.getfield 31, 3) := by decide +kernel
theorem dX2_leastCost_54 : decode cX2_leastCost 54 = .ok (.iload_n 1, 1) := by decide +kernel
theorem dX2_leastCost_55 : decode cX2_leastCost 55 = .ok (.invokevirtual 58, 3) := by decide +kernel
theorem dX2_leastCost_58 : decode cX2_leastCost 58 = .ok (.ireturn, 1) := by decide +kernel
theorem dX2_isTest_0 : decode cX2_isTest 0 = .ok (.iload_n 1, 1) := by decide +kernel
theorem dX2_isTest_1 : decode cX2_isTest 1 = .ok (.iconst 0, 1) := by decide +kernel
theorem dX2_isTest_2 : decode cX2_isTest 2 = .ok (.aload_n 0, 1) := by decide +kernel
theorem dX2_isTest_3 : decode cX2_isTest 3 = .ok (.getfield 28, 3) := by decide +kernel
theorem dX2_isTest_6 : decode cX2_isTest 6 = .ok (.iconst 1, 1) := by decide +kernel
theorem dX2_isTest_7 : decode cX2_isTest 7 = .ok (.isub, 1) := by decide +kernel
theorem dX2_isTest_8 : decode cX2_isTest 8 = .ok (.invokestatic 34, 3) := by decide +kernel
theorem dX2_isTest_11 : decode cX2_isTest 11 = .ok (.ireturn, 1) := by decide +kernel
theorem dX2_isReading_0 : decode cX2_isReading 0 = .ok (.iload_n 0, 1) := by decide +kernel
theorem dX2_isReading_1 : decode cX2_isReading 1 = .ok (.iconst 0, 1) := by decide +kernel
theorem dX2_isReading_2 : decode cX2_isReading 2 = .ok (.iconst 3, 1) := by decide +kernel
theorem dX2_isReading_3 : decode cX2_isReading 3 = .ok (.invokestatic 34, 3) := by decide +kernel
theorem dX2_isReading_6 : decode cX2_isReading 6 = .ok (.ireturn, 1) := by decide +kernel
theorem dX2_partsSet_0 : decode cX2_partsSet 0 = .ok (.iconst 0, 1) := by decide +kernel
theorem dX2_partsSet_1 : decode cX2_partsSet 1 = .ok (.istore_n 3, 1) := by decide +kernel
theorem dX2_partsSet_2 : decode cX2_partsSet 2 = .ok (.iload_n 3, 1) := by decide +kernel
theorem dX2_partsSet_3 : decode cX2_partsSet 3 = .ok (.iconst 4, 1) := by decide +kernel
theorem dX2_partsSet_4 : decode cX2_partsSet 4 = .ok (.if_icmp .ge 27, 3) := by decide +kernel
theorem dX2_partsSet_7 : decode cX2_partsSet 7 = .ok (.aload_n 0, 1) := by decide +kernel
theorem dX2_partsSet_8 : decode cX2_partsSet 8 = .ok (.getfield 18, 3) := by decide +kernel
theorem dX2_partsSet_11 : decode cX2_partsSet 11 = .ok (.iload_n 1, 1) := by decide +kernel
theorem dX2_partsSet_12 : decode cX2_partsSet 12 = .ok (.iconst 4, 1) := by decide +kernel
theorem dX2_partsSet_13 : decode cX2_partsSet 13 = .ok (.imul, 1) := by decide +kernel
theorem dX2_partsSet_14 : decode cX2_partsSet 14 = .ok (.iload_n 3, 1) := by decide +kernel
theorem dX2_partsSet_15 : decode cX2_partsSet 15 = .ok (.iadd, 1) := by decide +kernel
theorem dX2_partsSet_16 : decode cX2_partsSet 16 = .ok (.iaload, 1) := by decide +kernel
theorem dX2_partsSet_17 : decode cX2_partsSet 17 = .ok (.iload_n 2, 1) := by decide +kernel
theorem dX2_partsSet_18 : decode cX2_partsSet 18 = .ok (.iand, 1) := by decide +kernel
theorem dX2_partsSet_19 : decode cX2_partsSet 19 = .ok (.iload_n 2, 1) := by decide +kernel
theorem dX2_partsSet_20 : decode cX2_partsSet 20 = .ok (.if_icmp .ne 5, 3) := by decide +kernel
theorem dX2_partsSet_23 : decode cX2_partsSet 23 = .ok (.iconst 0, 1) := by decide +kernel
theorem dX2_partsSet_24 : decode cX2_partsSet 24 = .ok (.ireturn, 1) := by decide +kernel
theorem dX2_partsSet_25 : decode cX2_partsSet 25 = .ok (.iinc 3 1, 3) := by decide +kernel
theorem dX2_partsSet_28 : decode cX2_partsSet 28 = .ok (.goto (-26), 3) := by decide +kernel
theorem dX2_partsSet_31 : decode cX2_partsSet 31 = .ok (.iconst 1, 1) := by decide +kernel
theorem dX2_partsSet_32 : decode cX2_partsSet 32 = .ok (.ireturn, 1) := by decide +kernel
theorem dX2_greatestLikelihood_0 : decode cX2_greatestLikelihood 0 = .ok (.iconst 0, 1) := by decide +kernel
theorem dX2_greatestLikelihood_1 : decode cX2_greatestLikelihood 1 = .ok (.istore_n 2, 1) := by decide +kernel
theorem dX2_greatestLikelihood_2 : decode cX2_greatestLikelihood 2 = .ok (.iconst 0, 1) := by decide +kernel
theorem dX2_greatestLikelihood_3 : decode cX2_greatestLikelihood 3 = .ok (.istore_n 3, 1) := by decide +kernel
theorem dX2_greatestLikelihood_4 : decode cX2_greatestLikelihood 4 = .ok (.iload_n 3, 1) := by decide +kernel
theorem dX2_greatestLikelihood_5 : decode cX2_greatestLikelihood 5 = .ok (.iconst 4, 1) := by decide +kernel
theorem dX2_greatestLikelihood_6 : decode cX2_greatestLikelihood 6 = .ok (.if_icmp .ge 33, 3) := by decide +kernel
theorem dX2_greatestLikelihood_9 : decode cX2_greatestLikelihood 9 = .ok (.iload_n 2, 1) := by decide +kernel
theorem dX2_greatestLikelihood_10 : decode cX2_greatestLikelihood 10 = .ok (.aload_n 0, 1) := by decide +kernel
theorem dX2_greatestLikelihood_11 : decode cX2_greatestLikelihood 11 = .ok (.aload_n 0, 1) := by decide +kernel
theorem dX2_greatestLikelihood_12 : decode cX2_greatestLikelihood 12 = .ok (.getfield 18, 3) := by decide +kernel
theorem dX2_greatestLikelihood_15 : decode cX2_greatestLikelihood 15 = .ok (.iload_n 1, 1) := by decide +kernel
theorem dX2_greatestLikelihood_16 : decode cX2_greatestLikelihood 16 = .ok (.iconst 4, 1) := by decide +kernel
theorem dX2_greatestLikelihood_17 : decode cX2_greatestLikelihood 17 = .ok (.imul, 1) := by decide +kernel
theorem dX2_greatestLikelihood_18 : decode cX2_greatestLikelihood 18 = .ok (.iload_n 3, 1) := by decide +kernel
theorem dX2_greatestLikelihood_19 : decode cX2_greatestLikelihood 19 = .ok (.iadd, 1) := by decide +kernel
theorem dX2_greatestLikelihood_20 : decode cX2_greatestLikelihood 20 = .ok (.iaload, 1) := by decide +kernel
theorem dX2_greatestLikelihood_21 : decode cX2_greatestLikelihood 21 = .ok (.aload_n 0, 1) := by decide +kernel
theorem dX2_greatestLikelihood_22 : decode cX2_greatestLikelihood 22 = .ok (.getfield 31, 3) := by decide +kernel
theorem dX2_greatestLikelihood_25 : decode cX2_greatestLikelihood 25 = .ok (.iand, 1) := by decide +kernel
theorem dX2_greatestLikelihood_26 : decode cX2_greatestLikelihood 26 = .ok (.invokevirtual 62, 3) := by decide +kernel
theorem dX2_greatestLikelihood_29 : decode cX2_greatestLikelihood 29 = .ok (.invokestatic 65, 3) := by decide +kernel
theorem dX2_greatestLikelihood_32 : decode cX2_greatestLikelihood 32 = .ok (.istore_n 2, 1) := by decide +kernel
theorem dX2_greatestLikelihood_33 : decode cX2_greatestLikelihood 33 = .ok (.iinc 3 1, 3) := by decide +kernel
theorem dX2_greatestLikelihood_36 : decode cX2_greatestLikelihood 36 = .ok (.goto (-32), 3) := by decide +kernel
theorem dX2_greatestLikelihood_39 : decode cX2_greatestLikelihood 39 = .ok (.iload_n 2, 1) := by decide +kernel
theorem dX2_greatestLikelihood_40 : decode cX2_greatestLikelihood 40 = .ok (.ireturn, 1) := by decide +kernel
theorem dX2_likelihoodOf_0 : decode cX2_likelihoodOf 0 = .ok (.iconst 0, 1) := by decide +kernel
theorem dX2_likelihoodOf_1 : decode cX2_likelihoodOf 1 = .ok (.istore_n 2, 1) := by decide +kernel
theorem dX2_likelihoodOf_2 : decode cX2_likelihoodOf 2 = .ok (.iconst 0, 1) := by decide +kernel
theorem dX2_likelihoodOf_3 : decode cX2_likelihoodOf 3 = .ok (.istore_n 3, 1) := by decide +kernel
theorem dX2_likelihoodOf_4 : decode cX2_likelihoodOf 4 = .ok (.iload_n 3, 1) := by decide +kernel
theorem dX2_likelihoodOf_5 : decode cX2_likelihoodOf 5 = .ok (.aload_n 0, 1) := by decide +kernel
theorem dX2_likelihoodOf_6 : decode cX2_likelihoodOf 6 = .ok (.getfield 24, 3) := by decide +kernel
theorem dX2_likelihoodOf_9 : decode cX2_likelihoodOf 9 = .ok (.if_icmp .ge 27, 3) := by decide +kernel
theorem dX2_likelihoodOf_12 : decode cX2_likelihoodOf 12 = .ok (.iload_n 1, 1) := by decide +kernel
theorem dX2_likelihoodOf_13 : decode cX2_likelihoodOf 13 = .ok (.iload_n 3, 1) := by decide +kernel
theorem dX2_likelihoodOf_14 : decode cX2_likelihoodOf 14 = .ok (.ishr, 1) := by decide +kernel
theorem dX2_likelihoodOf_15 : decode cX2_likelihoodOf 15 = .ok (.iconst 1, 1) := by decide +kernel
theorem dX2_likelihoodOf_16 : decode cX2_likelihoodOf 16 = .ok (.iand, 1) := by decide +kernel
theorem dX2_likelihoodOf_17 : decode cX2_likelihoodOf 17 = .ok (.iconst 1, 1) := by decide +kernel
theorem dX2_likelihoodOf_18 : decode cX2_likelihoodOf 18 = .ok (.if_icmp .ne 12, 3) := by decide +kernel
theorem dX2_likelihoodOf_21 : decode cX2_likelihoodOf 21 = .ok (.iload_n 2, 1) := by decide +kernel
theorem dX2_likelihoodOf_22 : decode cX2_likelihoodOf 22 = .ok (.aload_n 0, 1) := by decide +kernel
theorem dX2_likelihoodOf_23 : decode cX2_likelihoodOf 23 = .ok (.getfield 9, 3) := by decide +kernel
theorem dX2_likelihoodOf_26 : decode cX2_likelihoodOf 26 = .ok (.iload_n 3, 1) := by decide +kernel
theorem dX2_likelihoodOf_27 : decode cX2_likelihoodOf 27 = .ok (.iaload, 1) := by decide +kernel
theorem dX2_likelihoodOf_28 : decode cX2_likelihoodOf 28 = .ok (.iadd, 1) := by decide +kernel
theorem dX2_likelihoodOf_29 : decode cX2_likelihoodOf 29 = .ok (.istore_n 2, 1) := by decide +kernel
theorem dX2_likelihoodOf_30 : decode cX2_likelihoodOf 30 = .ok (.iinc 3 1, 3) := by decide +kernel
theorem dX2_likelihoodOf_33 : decode cX2_likelihoodOf 33 = .ok (.goto (-29), 3) := by decide +kernel
theorem dX2_likelihoodOf_36 : decode cX2_likelihoodOf 36 = .ok (.iload_n 2, 1) := by decide +kernel
theorem dX2_likelihoodOf_37 : decode cX2_likelihoodOf 37 = .ok (.ireturn, 1) := by decide +kernel
theorem dX2_costOfParting_0 : decode cX2_costOfParting 0 = .ok (.iconst (-1), 1) := by decide +kernel
theorem dX2_costOfParting_1 : decode cX2_costOfParting 1 = .ok (.istore_n 3, 1) := by decide +kernel
theorem dX2_costOfParting_2 : decode cX2_costOfParting 2 = .ok (.iconst 0, 1) := by decide +kernel
theorem dX2_costOfParting_3 : decode cX2_costOfParting 3 = .ok (.istore 4, 2) := by decide +kernel
theorem dX2_costOfParting_5 : decode cX2_costOfParting 5 = .ok (.iload 4, 2) := by decide +kernel
theorem dX2_costOfParting_7 : decode cX2_costOfParting 7 = .ok (.aload_n 0, 1) := by decide +kernel
theorem dX2_costOfParting_8 : decode cX2_costOfParting 8 = .ok (.getfield 28, 3) := by decide +kernel
theorem dX2_costOfParting_11 : decode cX2_costOfParting 11 = .ok (.if_icmp .ge 61, 3) := by decide +kernel
theorem dX2_costOfParting_14 : decode cX2_costOfParting 14 = .ok (.aload_n 0, 1) := by decide +kernel
theorem dX2_costOfParting_15 : decode cX2_costOfParting 15 = .ok (.iload 4, 2) := by decide +kernel
theorem dX2_costOfParting_17 : decode cX2_costOfParting 17 = .ok (.iload_n 1, 1) := by decide +kernel
theorem dX2_costOfParting_18 : decode cX2_costOfParting 18 = .ok (.invokevirtual 51, 3) := by decide +kernel
theorem dX2_costOfParting_21 : decode cX2_costOfParting 21 = .ok (.ifCond .eq 45, 3) := by decide +kernel
theorem dX2_costOfParting_24 : decode cX2_costOfParting 24 = .ok (.iload_n 2, 1) := by decide +kernel
theorem dX2_costOfParting_25 : decode cX2_costOfParting 25 = .ok (.ifCond .eq 13, 3) := by decide +kernel
theorem dX2_costOfParting_28 : decode cX2_costOfParting 28 = .ok (.aload_n 0, 1) := by decide +kernel
theorem dX2_costOfParting_29 : decode cX2_costOfParting 29 = .ok (.getfield 15, 3) := by decide +kernel
theorem dX2_costOfParting_32 : decode cX2_costOfParting 32 = .ok (.iload 4, 2) := by decide +kernel
theorem dX2_costOfParting_34 : decode cX2_costOfParting 34 = .ok (.iaload, 1) := by decide +kernel
theorem dX2_costOfParting_35 : decode cX2_costOfParting 35 = .ok (.goto 4, 3) := by decide +kernel
theorem dX2_costOfParting_38 : decode cX2_costOfParting 38 = .ok (.iconst 1, 1) := by decide +kernel
theorem dX2_costOfParting_39 : decode cX2_costOfParting 39 = .ok (.aload_n 0, 1) := by decide +kernel
theorem dX2_costOfParting_40 : decode cX2_costOfParting 40 = .ok (.iload 4, 2) := by decide +kernel
theorem dX2_costOfParting_42 : decode cX2_costOfParting 42 = .ok (.iload_n 1, 1) := by decide +kernel
theorem dX2_costOfParting_43 : decode cX2_costOfParting 43 = .ok (.invokevirtual 71, 3) := by decide +kernel
theorem dX2_costOfParting_46 : decode cX2_costOfParting 46 = .ok (.iadd, 1) := by decide +kernel
theorem dX2_costOfParting_47 : decode cX2_costOfParting 47 = .ok (.istore 5, 2) := by decide +kernel
theorem dX2_costOfParting_49 : decode cX2_costOfParting 49 = .ok (.iload_n 3, 1) := by decide +kernel
theorem dX2_costOfParting_50 : decode cX2_costOfParting 50 = .ok (.iconst (-1), 1) := by decide +kernel
theorem dX2_costOfParting_51 : decode cX2_costOfParting 51 = .ok (.if_icmp .ne 8, 3) := by decide +kernel
theorem dX2_costOfParting_54 : decode cX2_costOfParting 54 = .ok (.iload 5, 2) := by decide +kernel
theorem dX2_costOfParting_56 : decode cX2_costOfParting 56 = .ok (.goto 9, 3) := by decide +kernel
theorem dX2_costOfParting_59 : decode cX2_costOfParting 59 = .ok (.iload_n 3, 1) := by decide +kernel
theorem dX2_costOfParting_60 : decode cX2_costOfParting 60 = .ok (.iload 5, 2) := by decide +kernel
theorem dX2_costOfParting_62 : decode cX2_costOfParting 62 = .ok (.invokestatic 74, 3) := by decide +kernel
theorem dX2_costOfParting_65 : decode cX2_costOfParting 65 = .ok (.istore_n 3, 1) := by decide +kernel
theorem dX2_costOfParting_66 : decode cX2_costOfParting 66 = .ok (.iinc 4 1, 3) := by decide +kernel
theorem dX2_costOfParting_69 : decode cX2_costOfParting 69 = .ok (.goto (-64), 3) := by decide +kernel
theorem dX2_costOfParting_72 : decode cX2_costOfParting 72 = .ok (.iload_n 3, 1) := by decide +kernel
theorem dX2_costOfParting_73 : decode cX2_costOfParting 73 = .ok (.iconst (-1), 1) := by decide +kernel
theorem dX2_costOfParting_74 : decode cX2_costOfParting 74 = .ok (.if_icmp .ne 7, 3) := by decide +kernel
theorem dX2_costOfParting_77 : decode cX2_costOfParting 77 = .ok (.iconst 0, 1) := by decide +kernel
theorem dX2_costOfParting_78 : decode cX2_costOfParting 78 = .ok (.goto 4, 3) := by decide +kernel
theorem dX2_costOfParting_81 : decode cX2_costOfParting 81 = .ok (.iload_n 3, 1) := by decide +kernel
theorem dX2_costOfParting_82 : decode cX2_costOfParting 82 = .ok (.ireturn, 1) := by decide +kernel
theorem dX2_dearestPart_0 : decode cX2_dearestPart 0 = .ok (.iconst 0, 1) := by decide +kernel
theorem dX2_dearestPart_1 : decode cX2_dearestPart 1 = .ok (.istore_n 3, 1) := by decide +kernel
theorem dX2_dearestPart_2 : decode cX2_dearestPart 2 = .ok (.iconst 0, 1) := by decide +kernel
theorem dX2_dearestPart_3 : decode cX2_dearestPart 3 = .ok (.istore 4, 2) := by decide +kernel
theorem dX2_dearestPart_5 : decode cX2_dearestPart 5 = .ok (.iload 4, 2) := by decide +kernel
theorem dX2_dearestPart_7 : decode cX2_dearestPart 7 = .ok (.iconst 4, 1) := by decide +kernel
theorem dX2_dearestPart_8 : decode cX2_dearestPart 8 = .ok (.if_icmp .ge 32, 3) := by decide +kernel
theorem dX2_dearestPart_11 : decode cX2_dearestPart 11 = .ok (.iload_n 3, 1) := by decide +kernel
theorem dX2_dearestPart_12 : decode cX2_dearestPart 12 = .ok (.aload_n 0, 1) := by decide +kernel
theorem dX2_dearestPart_13 : decode cX2_dearestPart 13 = .ok (.getfield 21, 3) := by decide +kernel
theorem dX2_dearestPart_16 : decode cX2_dearestPart 16 = .ok (.aload_n 0, 1) := by decide +kernel
theorem dX2_dearestPart_17 : decode cX2_dearestPart 17 = .ok (.getfield 18, 3) := by decide +kernel
theorem dX2_dearestPart_20 : decode cX2_dearestPart 20 = .ok (.iload_n 1, 1) := by decide +kernel
theorem dX2_dearestPart_21 : decode cX2_dearestPart 21 = .ok (.iconst 4, 1) := by decide +kernel
theorem dX2_dearestPart_22 : decode cX2_dearestPart 22 = .ok (.imul, 1) := by decide +kernel
theorem dX2_dearestPart_23 : decode cX2_dearestPart 23 = .ok (.iload 4, 2) := by decide +kernel
theorem dX2_dearestPart_25 : decode cX2_dearestPart 25 = .ok (.iadd, 1) := by decide +kernel
theorem dX2_dearestPart_26 : decode cX2_dearestPart 26 = .ok (.iaload, 1) := by decide +kernel
theorem dX2_dearestPart_27 : decode cX2_dearestPart 27 = .ok (.iload_n 2, 1) := by decide +kernel
theorem dX2_dearestPart_28 : decode cX2_dearestPart 28 = .ok (.iand, 1) := by decide +kernel
theorem dX2_dearestPart_29 : decode cX2_dearestPart 29 = .ok (.iaload, 1) := by decide +kernel
theorem dX2_dearestPart_30 : decode cX2_dearestPart 30 = .ok (.invokestatic 65, 3) := by decide +kernel
theorem dX2_dearestPart_33 : decode cX2_dearestPart 33 = .ok (.istore_n 3, 1) := by decide +kernel
theorem dX2_dearestPart_34 : decode cX2_dearestPart 34 = .ok (.iinc 4 1, 3) := by decide +kernel
theorem dX2_dearestPart_37 : decode cX2_dearestPart 37 = .ok (.goto (-32), 3) := by decide +kernel
theorem dX2_dearestPart_40 : decode cX2_dearestPart 40 = .ok (.iload_n 3, 1) := by decide +kernel
theorem dX2_dearestPart_41 : decode cX2_dearestPart 41 = .ok (.ireturn, 1) := by decide +kernel
theorem dX4_init_0 : decode cX4_init 0 = .ok (.aload_n 0, 1) := by decide +kernel
theorem dX4_init_1 : decode cX4_init 1 = .ok (.invokespecial 3, 3) := by decide +kernel
theorem dX4_init_4 : decode cX4_init 4 = .ok (.aload_n 0, 1) := by decide +kernel
theorem dX4_init_5 : decode cX4_init 5 = .ok (.iconst 5, 1) := by decide +kernel
theorem dX4_init_6 : decode cX4_init 6 = .ok (.newarray .int, 2) := by decide +kernel
theorem dX4_init_8 : decode cX4_init 8 = .ok (.putfield 9, 3) := by decide +kernel
theorem dX4_init_11 : decode cX4_init 11 = .ok (.aload_n 0, 1) := by decide +kernel
theorem dX4_init_12 : decode cX4_init 12 = .ok (.iconst (-1), 1) := by decide +kernel
theorem dX4_init_13 : decode cX4_init 13 = .ok (.putfield 15, 3) := by decide +kernel
theorem dX4_init_16 : decode cX4_init 16 = .ok (.aload_n 0, 1) := by decide +kernel
theorem dX4_init_17 : decode cX4_init 17 = .ok (.iconst 0, 1) := by decide +kernel
theorem dX4_init_18 : decode cX4_init 18 = .ok (.putfield 19, 3) := by decide +kernel
theorem dX4_init_21 : decode cX4_init 21 = .ok (.aload_n 0, 1) := by decide +kernel
theorem dX4_init_22 : decode cX4_init 22 = .ok (.iconst 0, 1) := by decide +kernel
theorem dX4_init_23 : decode cX4_init 23 = .ok (.putfield 22, 3) := by decide +kernel
theorem dX4_init_26 : decode cX4_init 26 = .ok (.aload_n 0, 1) := by decide +kernel
theorem dX4_init_27 : decode cX4_init 27 = .ok (.iconst (-1), 1) := by decide +kernel
theorem dX4_init_28 : decode cX4_init 28 = .ok (.putfield 25, 3) := by decide +kernel
theorem dX4_init_31 : decode cX4_init 31 = .ok (.aload_n 0, 1) := by decide +kernel
theorem dX4_init_32 : decode cX4_init 32 = .ok (.iconst (-1), 1) := by decide +kernel
theorem dX4_init_33 : decode cX4_init 33 = .ok (.putfield 28, 3) := by decide +kernel
theorem dX4_init_36 : decode cX4_init 36 = .ok (.return_, 1) := by decide +kernel
theorem dX4_begin_0 : decode cX4_begin 0 = .ok (.aload_n 0, 1) := by decide +kernel
theorem dX4_begin_1 : decode cX4_begin 1 = .ok (.iload_n 1, 1) := by decide +kernel
theorem dX4_begin_2 : decode cX4_begin 2 = .ok (.putfield 15, 3) := by decide +kernel
theorem dX4_begin_5 : decode cX4_begin 5 = .ok (.aload_n 0, 1) := by decide +kernel
theorem dX4_begin_6 : decode cX4_begin 6 = .ok (.iconst 0, 1) := by decide +kernel
theorem dX4_begin_7 : decode cX4_begin 7 = .ok (.putfield 19, 3) := by decide +kernel
theorem dX4_begin_10 : decode cX4_begin 10 = .ok (.aload_n 0, 1) := by decide +kernel
theorem dX4_begin_11 : decode cX4_begin 11 = .ok (.iconst 0, 1) := by decide +kernel
theorem dX4_begin_12 : decode cX4_begin 12 = .ok (.putfield 22, 3) := by decide +kernel
theorem dX4_begin_15 : decode cX4_begin 15 = .ok (.aload_n 0, 1) := by decide +kernel
theorem dX4_begin_16 : decode cX4_begin 16 = .ok (.iconst (-1), 1) := by decide +kernel
theorem dX4_begin_17 : decode cX4_begin 17 = .ok (.putfield 25, 3) := by decide +kernel
theorem dX4_begin_20 : decode cX4_begin 20 = .ok (.aload_n 0, 1) := by decide +kernel
theorem dX4_begin_21 : decode cX4_begin 21 = .ok (.iconst (-1), 1) := by decide +kernel
theorem dX4_begin_22 : decode cX4_begin 22 = .ok (.putfield 28, 3) := by decide +kernel
theorem dX4_begin_25 : decode cX4_begin 25 = .ok (.return_, 1) := by decide +kernel
theorem dX4_take_0 : decode cX4_take 0 = .ok (.aload_n 0, 1) := by decide +kernel
theorem dX4_take_1 : decode cX4_take 1 = .ok (.getfield 19, 3) := by decide +kernel
theorem dX4_take_4 : decode cX4_take 4 = .ok (.aload_n 0, 1) := by decide +kernel
theorem dX4_take_5 : decode cX4_take 5 = .ok (.getfield 15, 3) := by decide +kernel
theorem dX4_take_8 : decode cX4_take 8 = .ok (.if_icmp .ne 40, 3) := by decide +kernel
theorem dX4_take_11 : decode cX4_take 11 = .ok (.aload_n 0, 1) := by decide +kernel
theorem dX4_take_12 : decode cX4_take 12 = .ok (.getfield 9, 3) := by decide +kernel
theorem dX4_take_15 : decode cX4_take 15 = .ok (.iconst 0, 1) := by decide +kernel
theorem dX4_take_16 : decode cX4_take 16 = .ok (.iload_n 1, 1) := by decide +kernel
theorem dX4_take_17 : decode cX4_take 17 = .ok (.iastore, 1) := by decide +kernel
theorem dX4_take_18 : decode cX4_take 18 = .ok (.aload_n 0, 1) := by decide +kernel
theorem dX4_take_19 : decode cX4_take 19 = .ok (.getfield 9, 3) := by decide +kernel
theorem dX4_take_22 : decode cX4_take 22 = .ok (.iconst 1, 1) := by decide +kernel
theorem dX4_take_23 : decode cX4_take 23 = .ok (.iload_n 2, 1) := by decide +kernel
theorem dX4_take_24 : decode cX4_take 24 = .ok (.iastore, 1) := by decide +kernel
theorem dX4_take_25 : decode cX4_take 25 = .ok (.aload_n 0, 1) := by decide +kernel
theorem dX4_take_26 : decode cX4_take 26 = .ok (.getfield 9, 3) := by decide +kernel
theorem dX4_take_29 : decode cX4_take 29 = .ok (.iconst 2, 1) := by decide +kernel
theorem dX4_take_30 : decode cX4_take 30 = .ok (.iload_n 3, 1) := by decide +kernel
theorem dX4_take_31 : decode cX4_take 31 = .ok (.iastore, 1) := by decide +kernel
theorem dX4_take_32 : decode cX4_take 32 = .ok (.aload_n 0, 1) := by decide +kernel
theorem dX4_take_33 : decode cX4_take 33 = .ok (.getfield 9, 3) := by decide +kernel
theorem dX4_take_36 : decode cX4_take 36 = .ok (.iconst 3, 1) := by decide +kernel
theorem dX4_take_37 : decode cX4_take 37 = .ok (.iload 4, 2) := by decide +kernel
theorem dX4_take_39 : decode cX4_take 39 = .ok (.iastore, 1) := by decide +kernel
theorem dX4_take_40 : decode cX4_take 40 = .ok (.aload_n 0, 1) := by decide +kernel
theorem dX4_take_41 : decode cX4_take 41 = .ok (.getfield 9, 3) := by decide +kernel
theorem dX4_take_44 : decode cX4_take 44 = .ok (.iconst 4, 1) := by decide +kernel
theorem dX4_take_45 : decode cX4_take 45 = .ok (.iload 5, 2) := by decide +kernel
theorem dX4_take_47 : decode cX4_take 47 = .ok (.iastore, 1) := by decide +kernel
theorem dX4_take_48 : decode cX4_take 48 = .ok (.iload 5, 2) := by decide +kernel
theorem dX4_take_50 : decode cX4_take 50 = .ok (.aload_n 0, 1) := by decide +kernel
theorem dX4_take_51 : decode cX4_take 51 = .ok (.getfield 28, 3) := by decide +kernel
theorem dX4_take_54 : decode cX4_take 54 = .ok (.if_icmp .le 17, 3) := by decide +kernel
theorem dX4_take_57 : decode cX4_take 57 = .ok (.aload_n 0, 1) := by decide +kernel
theorem dX4_take_58 : decode cX4_take 58 = .ok (.iload 5, 2) := by decide +kernel
theorem dX4_take_60 : decode cX4_take 60 = .ok (.putfield 28, 3) := by decide +kernel
theorem dX4_take_63 : decode cX4_take 63 = .ok (.aload_n 0, 1) := by decide +kernel
theorem dX4_take_64 : decode cX4_take 64 = .ok (.aload_n 0, 1) := by decide +kernel
theorem dX4_take_65 : decode cX4_take 65 = .ok (.getfield 19, 3) := by decide +kernel
theorem dX4_take_68 : decode cX4_take 68 = .ok (.putfield 25, 3) := by decide +kernel
theorem dX4_take_71 : decode cX4_take 71 = .ok (.aload_n 0, 1) := by decide +kernel
theorem dX4_take_72 : decode cX4_take 72 = .ok (.dup, 1) := by decide +kernel
theorem dX4_take_73 : decode cX4_take 73 = .ok (.getfield 22, 3) := by decide +kernel
theorem dX4_take_76 : decode cX4_take 76 = .ok (.iload 5, 2) := by decide +kernel
theorem dX4_take_78 : decode cX4_take 78 = .ok (.iadd, 1) := by decide +kernel
theorem dX4_take_79 : decode cX4_take 79 = .ok (.putfield 22, 3) := by decide +kernel
theorem dX4_take_82 : decode cX4_take 82 = .ok (.aload_n 0, 1) := by decide +kernel
theorem dX4_take_83 : decode cX4_take 83 = .ok (.dup, 1) := by decide +kernel
theorem dX4_take_84 : decode cX4_take 84 = .ok (.getfield 19, 3) := by decide +kernel
theorem dX4_take_87 : decode cX4_take 87 = .ok (.iconst 1, 1) := by decide +kernel
theorem dX4_take_88 : decode cX4_take 88 = .ok (.iadd, 1) := by decide +kernel
theorem dX4_take_89 : decode cX4_take 89 = .ok (.putfield 19, 3) := by decide +kernel
theorem dX4_take_92 : decode cX4_take 92 = .ok (.return_, 1) := by decide +kernel
theorem dX4_number_0 : decode cX4_number 0 = .ok (.aload_n 0, 1) := by decide +kernel
theorem dX4_number_1 : decode cX4_number 1 = .ok (.getfield 19, 3) := by decide +kernel
theorem dX4_number_4 : decode cX4_number 4 = .ok (.ireturn, 1) := by decide +kernel
theorem dX4_weights_0 : decode cX4_weights 0 = .ok (.aload_n 0, 1) := by decide +kernel
theorem dX4_weights_1 : decode cX4_weights 1 = .ok (.getfield 22, 3) := by decide +kernel
theorem dX4_weights_4 : decode cX4_weights 4 = .ok (.ireturn, 1) := by decide +kernel
theorem dX4_heaviest_0 : decode cX4_heaviest 0 = .ok (.aload_n 0, 1) := by decide +kernel
theorem dX4_heaviest_1 : decode cX4_heaviest 1 = .ok (.getfield 25, 3) := by decide +kernel
theorem dX4_heaviest_4 : decode cX4_heaviest 4 = .ok (.ireturn, 1) := by decide +kernel
theorem dX4_factOfWanted_0 : decode cX4_factOfWanted 0 = .ok (.iload_n 1, 1) := by decide +kernel
theorem dX4_factOfWanted_1 : decode cX4_factOfWanted 1 = .ok (.iconst 0, 1) := by decide +kernel
theorem dX4_factOfWanted_2 : decode cX4_factOfWanted 2 = .ok (.iconst 4, 1) := by decide +kernel
theorem dX4_factOfWanted_3 : decode cX4_factOfWanted 3 = .ok (.invokestatic 31, 3) := by decide +kernel
theorem dX4_factOfWanted_6 : decode cX4_factOfWanted 6 = .ok (.ifCond .eq 12, 3) := by decide +kernel
theorem dX4_factOfWanted_9 : decode cX4_factOfWanted 9 = .ok (.aload_n 0, 1) := by decide +kernel
theorem dX4_factOfWanted_10 : decode cX4_factOfWanted 10 = .ok (.getfield 9, 3) := by decide +kernel
theorem dX4_factOfWanted_13 : decode cX4_factOfWanted 13 = .ok (.iload_n 1, 1) := by decide +kernel
theorem dX4_factOfWanted_14 : decode cX4_factOfWanted 14 = .ok (.iaload, 1) := by decide +kernel
theorem dX4_factOfWanted_15 : decode cX4_factOfWanted 15 = .ok (.goto 4, 3) := by decide +kernel
theorem dX4_factOfWanted_18 : decode cX4_factOfWanted 18 = .ok (.iconst (-1), 1) := by decide +kernel
theorem dX4_factOfWanted_19 : decode cX4_factOfWanted 19 = .ok (.ireturn, 1) := by decide +kernel
theorem dX6_init_0 : decode cX6_init 0 = .ok (.aload_n 0, 1) := by decide +kernel
theorem dX6_init_1 : decode cX6_init 1 = .ok (.invokespecial 3, 3) := by decide +kernel
theorem dX6_init_4 : decode cX6_init 4 = .ok (.aload_n 0, 1) := by decide +kernel
theorem dX6_init_5 : decode cX6_init 5 = .ok (.new 9, 3) := by decide +kernel
theorem dX6_init_8 : decode cX6_init 8 = .ok (.dup, 1) := by decide +kernel
theorem dX6_init_9 : decode cX6_init 9 = .ok (.invokespecial 11, 3) := by decide +kernel
theorem dX6_init_12 : decode cX6_init 12 = .ok (.putfield 12, 3) := by decide +kernel
theorem dX6_init_15 : decode cX6_init 15 = .ok (.aload_n 0, 1) := by decide +kernel
theorem dX6_init_16 : decode cX6_init 16 = .ok (.new 16, 3) := by decide +kernel
theorem dX6_init_19 : decode cX6_init 19 = .ok (.dup, 1) := by decide +kernel
theorem dX6_init_20 : decode cX6_init 20 = .ok (.aload_n 0, 1) := by decide +kernel
theorem dX6_init_21 : decode cX6_init 21 = .ok (.getfield 12, 3) := by decide +kernel
theorem dX6_init_24 : decode cX6_init 24 = .ok (.invokespecial 18, 3) := by decide +kernel
theorem dX6_init_27 : decode cX6_init 27 = .ok (.putfield 21, 3) := by decide +kernel
theorem dX6_init_30 : decode cX6_init 30 = .ok (.aload_n 0, 1) := by decide +kernel
theorem dX6_init_31 : decode cX6_init 31 = .ok (.new 25, 3) := by decide +kernel
theorem dX6_init_34 : decode cX6_init 34 = .ok (.dup, 1) := by decide +kernel
theorem dX6_init_35 : decode cX6_init 35 = .ok (.aload_n 0, 1) := by decide +kernel
theorem dX6_init_36 : decode cX6_init 36 = .ok (.getfield 21, 3) := by decide +kernel
theorem dX6_init_39 : decode cX6_init 39 = .ok (.invokespecial 27, 3) := by decide +kernel
theorem dX6_init_42 : decode cX6_init 42 = .ok (.putfield 30, 3) := by decide +kernel
theorem dX6_init_45 : decode cX6_init 45 = .ok (.aload_n 0, 1) := by decide +kernel
theorem dX6_init_46 : decode cX6_init 46 = .ok (.new 34, 3) := by decide +kernel
theorem dX6_init_49 : decode cX6_init 49 = .ok (.dup, 1) := by decide +kernel
theorem dX6_init_50 : decode cX6_init 50 = .ok (.invokespecial 36, 3) := by decide +kernel
theorem dX6_init_53 : decode cX6_init 53 = .ok (.putfield 37, 3) := by decide +kernel
theorem dX6_init_56 : decode cX6_init 56 = .ok (.return_, 1) := by decide +kernel
theorem dX6_station_0 : decode cX6_station 0 = .ok (.aload_n 0, 1) := by decide +kernel
theorem dX6_station_1 : decode cX6_station 1 = .ok (.getfield 12, 3) := by decide +kernel
theorem dX6_station_4 : decode cX6_station 4 = .ok (.iload_n 1, 1) := by decide +kernel
theorem dX6_station_5 : decode cX6_station 5 = .ok (.iload_n 2, 1) := by decide +kernel
theorem dX6_station_6 : decode cX6_station 6 = .ok (.invokevirtual 41, 3) := by decide +kernel
theorem dX6_station_9 : decode cX6_station 9 = .ok (.ireturn, 1) := by decide +kernel
theorem dX6_plan_0 : decode cX6_plan 0 = .ok (.aload_n 0, 1) := by decide +kernel
theorem dX6_plan_1 : decode cX6_plan 1 = .ok (.getfield 12, 3) := by decide +kernel
theorem dX6_plan_4 : decode cX6_plan 4 = .ok (.iload_n 1, 1) := by decide +kernel
theorem dX6_plan_5 : decode cX6_plan 5 = .ok (.iload_n 2, 1) := by decide +kernel
theorem dX6_plan_6 : decode cX6_plan 6 = .ok (.invokevirtual 45, 3) := by decide +kernel
theorem dX6_plan_9 : decode cX6_plan 9 = .ok (.ireturn, 1) := by decide +kernel
theorem dX6_oscillator_0 : decode cX6_oscillator 0 = .ok (.aload_n 0, 1) := by decide +kernel
theorem dX6_oscillator_1 : decode cX6_oscillator 1 = .ok (.getfield 12, 3) := by decide +kernel
theorem dX6_oscillator_4 : decode cX6_oscillator 4 = .ok (.iload_n 1, 1) := by decide +kernel
theorem dX6_oscillator_5 : decode cX6_oscillator 5 = .ok (.invokevirtual 48, 3) := by decide +kernel
theorem dX6_oscillator_8 : decode cX6_oscillator 8 = .ok (.ifCond .eq 21, 3) := by decide +kernel
theorem dX6_oscillator_11 : decode cX6_oscillator 11 = .ok (.aload_n 0, 1) := by decide +kernel
theorem dX6_oscillator_12 : decode cX6_oscillator 12 = .ok (.getfield 12, 3) := by decide +kernel
theorem dX6_oscillator_15 : decode cX6_oscillator 15 = .ok (.iload_n 1, 1) := by decide +kernel
theorem dX6_oscillator_16 : decode cX6_oscillator 16 = .ok (.aload_n 0, 1) := by decide +kernel
theorem dX6_oscillator_17 : decode cX6_oscillator 17 = .ok (.getfield 12, 3) := by decide +kernel
theorem dX6_oscillator_20 : decode cX6_oscillator 20 = .ok (.invokevirtual 52, 3) := by decide +kernel
theorem dX6_oscillator_23 : decode cX6_oscillator 23 = .ok (.invokevirtual 56, 3) := by decide +kernel
theorem dX6_oscillator_26 : decode cX6_oscillator 26 = .ok (.goto 5, 3) := by decide +kernel
theorem dX6_oscillator_29 : decode cX6_oscillator 29 = .ok (.ldc 59, 2) := by decide +kernel
theorem dX6_oscillator_31 : decode cX6_oscillator 31 = .ok (.ireturn, 1) := by decide +kernel
theorem dX6_spurs_0 : decode cX6_spurs 0 = .ok (.aload_n 0, 1) := by decide +kernel
theorem dX6_spurs_1 : decode cX6_spurs 1 = .ok (.getfield 12, 3) := by decide +kernel
theorem dX6_spurs_4 : decode cX6_spurs 4 = .ok (.iload_n 1, 1) := by decide +kernel
theorem dX6_spurs_5 : decode cX6_spurs 5 = .ok (.invokevirtual 48, 3) := by decide +kernel
theorem dX6_spurs_8 : decode cX6_spurs 8 = .ok (.ifCond .eq 14, 3) := by decide +kernel
theorem dX6_spurs_11 : decode cX6_spurs 11 = .ok (.aload_n 0, 1) := by decide +kernel
theorem dX6_spurs_12 : decode cX6_spurs 12 = .ok (.getfield 12, 3) := by decide +kernel
theorem dX6_spurs_15 : decode cX6_spurs 15 = .ok (.iload_n 1, 1) := by decide +kernel
theorem dX6_spurs_16 : decode cX6_spurs 16 = .ok (.invokevirtual 60, 3) := by decide +kernel
theorem dX6_spurs_19 : decode cX6_spurs 19 = .ok (.goto 4, 3) := by decide +kernel
theorem dX6_spurs_22 : decode cX6_spurs 22 = .ok (.iconst (-1), 1) := by decide +kernel
theorem dX6_spurs_23 : decode cX6_spurs 23 = .ok (.ireturn, 1) := by decide +kernel
theorem dX6_spur_0 : decode cX6_spur 0 = .ok (.aload_n 0, 1) := by decide +kernel
theorem dX6_spur_1 : decode cX6_spur 1 = .ok (.getfield 12, 3) := by decide +kernel
theorem dX6_spur_4 : decode cX6_spur 4 = .ok (.iload_n 1, 1) := by decide +kernel
theorem dX6_spur_5 : decode cX6_spur 5 = .ok (.invokevirtual 48, 3) := by decide +kernel
theorem dX6_spur_8 : decode cX6_spur 8 = .ok (.ifCond .eq 16, 3) := by decide +kernel
theorem dX6_spur_11 : decode cX6_spur 11 = .ok (.aload_n 0, 1) := by decide +kernel
theorem dX6_spur_12 : decode cX6_spur 12 = .ok (.getfield 12, 3) := by decide +kernel
theorem dX6_spur_15 : decode cX6_spur 15 = .ok (.iload_n 1, 1) := by decide +kernel
theorem dX6_spur_16 : decode cX6_spur 16 = .ok (.iload_n 2, 1) := by decide +kernel
theorem dX6_spur_17 : decode cX6_spur 17 = .ok (.iload_n 3, 1) := by decide +kernel
theorem dX6_spur_18 : decode cX6_spur 18 = .ok (.invokevirtual 64, 3) := by decide +kernel
theorem dX6_spur_21 : decode cX6_spur 21 = .ok (.goto 4, 3) := by decide +kernel
theorem dX6_spur_24 : decode cX6_spur 24 = .ok (.iconst (-1), 1) := by decide +kernel
theorem dX6_spur_25 : decode cX6_spur 25 = .ok (.ireturn, 1) := by decide +kernel
theorem dX6_image_0 : decode cX6_image 0 = .ok (.aload_n 0, 1) := by decide +kernel
theorem dX6_image_1 : decode cX6_image 1 = .ok (.getfield 12, 3) := by decide +kernel
theorem dX6_image_4 : decode cX6_image 4 = .ok (.iload_n 1, 1) := by decide +kernel
theorem dX6_image_5 : decode cX6_image 5 = .ok (.invokevirtual 48, 3) := by decide +kernel
theorem dX6_image_8 : decode cX6_image 8 = .ok (.ifCond .eq 14, 3) := by decide +kernel
theorem dX6_image_11 : decode cX6_image 11 = .ok (.aload_n 0, 1) := by decide +kernel
theorem dX6_image_12 : decode cX6_image 12 = .ok (.getfield 12, 3) := by decide +kernel
theorem dX6_image_15 : decode cX6_image 15 = .ok (.iload_n 2, 1) := by decide +kernel
theorem dX6_image_16 : decode cX6_image 16 = .ok (.invokevirtual 48, 3) := by decide +kernel
theorem dX6_image_19 : decode cX6_image 19 = .ok (.ifCond .ne 5, 3) := by decide +kernel
theorem dX6_image_22 : decode cX6_image 22 = .ok (.iconst (-1), 1) := by decide +kernel
theorem dX6_image_23 : decode cX6_image 23 = .ok (.ireturn, 1) := by decide +kernel
theorem dX6_image_24 : decode cX6_image 24 = .ok (.aload_n 0, 1) := by decide +kernel
theorem dX6_image_25 : decode cX6_image 25 = .ok (.getfield 12, 3) := by decide +kernel
theorem dX6_image_28 : decode cX6_image 28 = .ok (.iload_n 1, 1) := by decide +kernel
theorem dX6_image_29 : decode cX6_image 29 = .ok (.iload_n 2, 1) := by decide +kernel
theorem dX6_image_30 : decode cX6_image 30 = .ok (.invokevirtual 68, 3) := by decide +kernel
theorem dX6_image_33 : decode cX6_image 33 = .ok (.ifCond .eq 7, 3) := by decide +kernel
theorem dX6_image_36 : decode cX6_image 36 = .ok (.iconst 1, 1) := by decide +kernel
theorem dX6_image_37 : decode cX6_image 37 = .ok (.goto 4, 3) := by decide +kernel
theorem dX6_image_40 : decode cX6_image 40 = .ok (.iconst 0, 1) := by decide +kernel
theorem dX6_image_41 : decode cX6_image 41 = .ok (.ireturn, 1) := by decide +kernel
theorem dX6_worst_0 : decode cX6_worst 0 = .ok (.aload_n 0, 1) := by decide +kernel
theorem dX6_worst_1 : decode cX6_worst 1 = .ok (.getfield 12, 3) := by decide +kernel
theorem dX6_worst_4 : decode cX6_worst 4 = .ok (.iload_n 1, 1) := by decide +kernel
theorem dX6_worst_5 : decode cX6_worst 5 = .ok (.invokevirtual 48, 3) := by decide +kernel
theorem dX6_worst_8 : decode cX6_worst 8 = .ok (.ifCond .eq 14, 3) := by decide +kernel
theorem dX6_worst_11 : decode cX6_worst 11 = .ok (.aload_n 0, 1) := by decide +kernel
theorem dX6_worst_12 : decode cX6_worst 12 = .ok (.getfield 12, 3) := by decide +kernel
theorem dX6_worst_15 : decode cX6_worst 15 = .ok (.iload_n 1, 1) := by decide +kernel
theorem dX6_worst_16 : decode cX6_worst 16 = .ok (.invokevirtual 72, 3) := by decide +kernel
theorem dX6_worst_19 : decode cX6_worst 19 = .ok (.goto 4, 3) := by decide +kernel
theorem dX6_worst_22 : decode cX6_worst 22 = .ok (.iconst (-1), 1) := by decide +kernel
theorem dX6_worst_23 : decode cX6_worst 23 = .ok (.ireturn, 1) := by decide +kernel
theorem dX6_birdies_0 : decode cX6_birdies 0 = .ok (.aload_n 0, 1) := by decide +kernel
theorem dX6_birdies_1 : decode cX6_birdies 1 = .ok (.getfield 12, 3) := by decide +kernel
theorem dX6_birdies_4 : decode cX6_birdies 4 = .ok (.aload_n 0, 1) := by decide +kernel
theorem dX6_birdies_5 : decode cX6_birdies 5 = .ok (.getfield 12, 3) := by decide +kernel
theorem dX6_birdies_8 : decode cX6_birdies 8 = .ok (.invokevirtual 52, 3) := by decide +kernel
theorem dX6_birdies_11 : decode cX6_birdies 11 = .ok (.invokevirtual 75, 3) := by decide +kernel
theorem dX6_birdies_14 : decode cX6_birdies 14 = .ok (.ireturn, 1) := by decide +kernel
theorem dX6_load_0 : decode cX6_load 0 = .ok (.iload_n 1, 1) := by decide +kernel
theorem dX6_load_1 : decode cX6_load 1 = .ok (.bipush 20, 2) := by decide +kernel
theorem dX6_load_3 : decode cX6_load 3 = .ok (.sipush 900, 3) := by decide +kernel
theorem dX6_load_6 : decode cX6_load 6 = .ok (.invokestatic 78, 3) := by decide +kernel
theorem dX6_load_9 : decode cX6_load 9 = .ok (.ifCond .eq 14, 3) := by decide +kernel
theorem dX6_load_12 : decode cX6_load 12 = .ok (.aload_n 0, 1) := by decide +kernel
theorem dX6_load_13 : decode cX6_load 13 = .ok (.getfield 12, 3) := by decide +kernel
theorem dX6_load_16 : decode cX6_load 16 = .ok (.iload_n 1, 1) := by decide +kernel
theorem dX6_load_17 : decode cX6_load 17 = .ok (.invokevirtual 82, 3) := by decide +kernel
theorem dX6_load_20 : decode cX6_load 20 = .ok (.goto 4, 3) := by decide +kernel
theorem dX6_load_23 : decode cX6_load 23 = .ok (.iconst (-1), 1) := by decide +kernel
theorem dX6_load_24 : decode cX6_load 24 = .ok (.ireturn, 1) := by decide +kernel
theorem dX6_best_0 : decode cX6_best 0 = .ok (.aload_n 0, 1) := by decide +kernel
theorem dX6_best_1 : decode cX6_best 1 = .ok (.getfield 12, 3) := by decide +kernel
theorem dX6_best_4 : decode cX6_best 4 = .ok (.iload_n 1, 1) := by decide +kernel
theorem dX6_best_5 : decode cX6_best 5 = .ok (.iload_n 2, 1) := by decide +kernel
theorem dX6_best_6 : decode cX6_best 6 = .ok (.iload_n 3, 1) := by decide +kernel
theorem dX6_best_7 : decode cX6_best 7 = .ok (.invokevirtual 85, 3) := by decide +kernel
theorem dX6_best_10 : decode cX6_best 10 = .ok (.ireturn, 1) := by decide +kernel
theorem dX6_gang_0 : decode cX6_gang 0 = .ok (.aload_n 0, 1) := by decide +kernel
theorem dX6_gang_1 : decode cX6_gang 1 = .ok (.getfield 21, 3) := by decide +kernel
theorem dX6_gang_4 : decode cX6_gang 4 = .ok (.iload_n 1, 1) := by decide +kernel
theorem dX6_gang_5 : decode cX6_gang 5 = .ok (.iload_n 2, 1) := by decide +kernel
theorem dX6_gang_6 : decode cX6_gang 6 = .ok (.invokevirtual 88, 3) := by decide +kernel
theorem dX6_gang_9 : decode cX6_gang 9 = .ok (.ireturn, 1) := by decide +kernel
theorem dX6_part_0 : decode cX6_part 0 = .ok (.aload_n 0, 1) := by decide +kernel
theorem dX6_part_1 : decode cX6_part 1 = .ok (.getfield 21, 3) := by decide +kernel
theorem dX6_part_4 : decode cX6_part 4 = .ok (.iload_n 1, 1) := by decide +kernel
theorem dX6_part_5 : decode cX6_part 5 = .ok (.iload_n 2, 1) := by decide +kernel
theorem dX6_part_6 : decode cX6_part 6 = .ok (.invokevirtual 91, 3) := by decide +kernel
theorem dX6_part_9 : decode cX6_part 9 = .ok (.ireturn, 1) := by decide +kernel
theorem dX6_tuned_0 : decode cX6_tuned 0 = .ok (.iload_n 1, 1) := by decide +kernel
theorem dX6_tuned_1 : decode cX6_tuned 1 = .ok (.invokestatic 94, 3) := by decide +kernel
theorem dX6_tuned_4 : decode cX6_tuned 4 = .ok (.ifCond .eq 15, 3) := by decide +kernel
theorem dX6_tuned_7 : decode cX6_tuned 7 = .ok (.aload_n 0, 1) := by decide +kernel
theorem dX6_tuned_8 : decode cX6_tuned 8 = .ok (.getfield 21, 3) := by decide +kernel
theorem dX6_tuned_11 : decode cX6_tuned 11 = .ok (.iload_n 1, 1) := by decide +kernel
theorem dX6_tuned_12 : decode cX6_tuned 12 = .ok (.iload_n 2, 1) := by decide +kernel
theorem dX6_tuned_13 : decode cX6_tuned 13 = .ok (.invokevirtual 97, 3) := by decide +kernel
theorem dX6_tuned_16 : decode cX6_tuned 16 = .ok (.goto 4, 3) := by decide +kernel
theorem dX6_tuned_19 : decode cX6_tuned 19 = .ok (.iconst (-1), 1) := by decide +kernel
theorem dX6_tuned_20 : decode cX6_tuned 20 = .ok (.ireturn, 1) := by decide +kernel
theorem dX6_error_0 : decode cX6_error 0 = .ok (.iload_n 1, 1) := by decide +kernel
theorem dX6_error_1 : decode cX6_error 1 = .ok (.invokestatic 94, 3) := by decide +kernel
theorem dX6_error_4 : decode cX6_error 4 = .ok (.ifCond .eq 21, 3) := by decide +kernel
theorem dX6_error_7 : decode cX6_error 7 = .ok (.aload_n 0, 1) := by decide +kernel
theorem dX6_error_8 : decode cX6_error 8 = .ok (.getfield 21, 3) := by decide +kernel
theorem dX6_error_11 : decode cX6_error 11 = .ok (.aload_n 0, 1) := by decide +kernel
theorem dX6_error_12 : decode cX6_error 12 = .ok (.getfield 21, 3) := by decide +kernel
theorem dX6_error_15 : decode cX6_error 15 = .ok (.invokevirtual 100, 3) := by decide +kernel
theorem dX6_error_18 : decode cX6_error 18 = .ok (.iload_n 1, 1) := by decide +kernel
theorem dX6_error_19 : decode cX6_error 19 = .ok (.invokevirtual 104, 3) := by decide +kernel
theorem dX6_error_22 : decode cX6_error 22 = .ok (.goto 5, 3) := by decide +kernel
theorem dX6_error_25 : decode cX6_error 25 = .ok (.ldc 59, 2) := by decide +kernel
theorem dX6_error_27 : decode cX6_error 27 = .ok (.ireturn, 1) := by decide +kernel
theorem dX6_point_0 : decode cX6_point 0 = .ok (.aload_n 0, 1) := by decide +kernel
theorem dX6_point_1 : decode cX6_point 1 = .ok (.getfield 21, 3) := by decide +kernel
theorem dX6_point_4 : decode cX6_point 4 = .ok (.iload_n 1, 1) := by decide +kernel
theorem dX6_point_5 : decode cX6_point 5 = .ok (.iload_n 2, 1) := by decide +kernel
theorem dX6_point_6 : decode cX6_point 6 = .ok (.invokevirtual 108, 3) := by decide +kernel
theorem dX6_point_9 : decode cX6_point 9 = .ok (.ireturn, 1) := by decide +kernel
theorem dX6_off_0 : decode cX6_off 0 = .ok (.aload_n 0, 1) := by decide +kernel
theorem dX6_off_1 : decode cX6_off 1 = .ok (.getfield 21, 3) := by decide +kernel
theorem dX6_off_4 : decode cX6_off 4 = .ok (.aload_n 0, 1) := by decide +kernel
theorem dX6_off_5 : decode cX6_off 5 = .ok (.getfield 21, 3) := by decide +kernel
theorem dX6_off_8 : decode cX6_off 8 = .ok (.invokevirtual 100, 3) := by decide +kernel
theorem dX6_off_11 : decode cX6_off 11 = .ok (.aload_n 0, 1) := by decide +kernel
theorem dX6_off_12 : decode cX6_off 12 = .ok (.getfield 12, 3) := by decide +kernel
theorem dX6_off_15 : decode cX6_off 15 = .ok (.invokevirtual 52, 3) := by decide +kernel
theorem dX6_off_18 : decode cX6_off 18 = .ok (.invokevirtual 111, 3) := by decide +kernel
theorem dX6_off_21 : decode cX6_off 21 = .ok (.ireturn, 1) := by decide +kernel
theorem dX6_trimmed_0 : decode cX6_trimmed 0 = .ok (.aload_n 0, 1) := by decide +kernel
theorem dX6_trimmed_1 : decode cX6_trimmed 1 = .ok (.getfield 21, 3) := by decide +kernel
theorem dX6_trimmed_4 : decode cX6_trimmed 4 = .ok (.iload_n 1, 1) := by decide +kernel
theorem dX6_trimmed_5 : decode cX6_trimmed 5 = .ok (.iload_n 2, 1) := by decide +kernel
theorem dX6_trimmed_6 : decode cX6_trimmed 6 = .ok (.invokevirtual 114, 3) := by decide +kernel
theorem dX6_trimmed_9 : decode cX6_trimmed 9 = .ok (.ireturn, 1) := by decide +kernel
theorem dX6_mark_0 : decode cX6_mark 0 = .ok (.iload_n 1, 1) := by decide +kernel
theorem dX6_mark_1 : decode cX6_mark 1 = .ok (.iconst 1, 1) := by decide +kernel
theorem dX6_mark_2 : decode cX6_mark 2 = .ok (.ldc 117, 2) := by decide +kernel
theorem dX6_mark_4 : decode cX6_mark 4 = .ok (.invokestatic 78, 3) := by decide +kernel
theorem dX6_mark_7 : decode cX6_mark 7 = .ok (.ifCond .eq 14, 3) := by decide +kernel
