theorem dX7_init_0 : decode cX7_init 0 = .ok (.aload_n 0, 1) := by decide +kernel
theorem dX7_init_1 : decode cX7_init 1 = .ok (.invokespecial 1, 3) := by decide +kernel
theorem dX7_init_4 : decode cX7_init 4 = .ok (.aload_n 0, 1) := by decide +kernel
theorem dX7_init_5 : decode cX7_init 5 = .ok (.bipush 20, 2) := by decide +kernel
theorem dX7_init_7 : decode cX7_init 7 = .ok (.newarray .int, 2) := by decide +kernel
theorem dX7_init_9 : decode cX7_init 9 = .ok (.putfield 9, 3) := by decide +kernel
theorem dX7_init_12 : decode cX7_init 12 = .ok (.aload_n 0, 1) := by decide +kernel
theorem dX7_init_13 : decode cX7_init 13 = .ok (.bipush 20, 2) := by decide +kernel
theorem dX7_init_15 : decode cX7_init 15 = .ok (.newarray .int, 2) := by decide +kernel
theorem dX7_init_17 : decode cX7_init 17 = .ok (.putfield 13, 3) := by decide +kernel
theorem dX7_init_20 : decode cX7_init 20 = .ok (.aload_n 0, 1) := by decide +kernel
theorem dX7_init_21 : decode cX7_init 21 = .ok (.sipush 450, 3) := by decide +kernel
theorem dX7_init_24 : decode cX7_init 24 = .ok (.putfield 16, 3) := by decide +kernel
theorem dX7_init_27 : decode cX7_init 27 = .ok (.aload_n 0, 1) := by decide +kernel
theorem dX7_init_28 : decode cX7_init 28 = .ok (.iconst 1, 1) := by decide +kernel
theorem dX7_init_29 : decode cX7_init 29 = .ok (.putfield 20, 3) := by decide +kernel
theorem dX7_init_32 : decode cX7_init 32 = .ok (.aload_n 0, 1) := by decide +kernel
theorem dX7_init_33 : decode cX7_init 33 = .ok (.iconst 2, 1) := by decide +kernel
theorem dX7_init_34 : decode cX7_init 34 = .ok (.putfield 23, 3) := by decide +kernel
theorem dX7_init_37 : decode cX7_init 37 = .ok (.aload_n 0, 1) := by decide +kernel
theorem dX7_init_38 : decode cX7_init 38 = .ok (.iconst 5, 1) := by decide +kernel
theorem dX7_init_39 : decode cX7_init 39 = .ok (.putfield 26, 3) := by decide +kernel
theorem dX7_init_42 : decode cX7_init 42 = .ok (.aload_n 0, 1) := by decide +kernel
theorem dX7_init_43 : decode cX7_init 43 = .ok (.bipush 40, 2) := by decide +kernel
theorem dX7_init_45 : decode cX7_init 45 = .ok (.putfield 29, 3) := by decide +kernel
theorem dX7_init_48 : decode cX7_init 48 = .ok (.aload_n 0, 1) := by decide +kernel
theorem dX7_init_49 : decode cX7_init 49 = .ok (.sipush 400, 3) := by decide +kernel
theorem dX7_init_52 : decode cX7_init 52 = .ok (.putfield 32, 3) := by decide +kernel
theorem dX7_init_55 : decode cX7_init 55 = .ok (.aload_n 0, 1) := by decide +kernel
theorem dX7_init_56 : decode cX7_init 56 = .ok (.iconst 5, 1) := by decide +kernel
theorem dX7_init_57 : decode cX7_init 57 = .ok (.newarray .int, 2) := by decide +kernel
theorem dX7_init_59 : decode cX7_init 59 = .ok (.putfield 35, 3) := by decide +kernel
theorem dX7_init_62 : decode cX7_init 62 = .ok (.aload_n 0, 1) := by decide +kernel
theorem dX7_init_63 : decode cX7_init 63 = .ok (.iconst 5, 1) := by decide +kernel
theorem dX7_init_64 : decode cX7_init 64 = .ok (.newarray .int, 2) := by decide +kernel
theorem dX7_init_66 : decode cX7_init 66 = .ok (.putfield 38, 3) := by decide +kernel
theorem dX7_init_69 : decode cX7_init 69 = .ok (.aload_n 0, 1) := by decide +kernel
theorem dX7_init_70 : decode cX7_init 70 = .ok (.bipush 60, 2) := by decide +kernel
theorem dX7_init_72 : decode cX7_init 72 = .ok (.newarray .int, 2) := by decide +kernel
theorem dX7_init_74 : decode cX7_init 74 = .ok (.putfield 41, 3) := by decide +kernel
theorem dX7_init_77 : decode cX7_init 77 = .ok (.aload_n 0, 1) := by decide +kernel
theorem dX7_init_78 : decode cX7_init 78 = .ok (.bipush 60, 2) := by decide +kernel
theorem dX7_init_80 : decode cX7_init 80 = .ok (.newarray .int, 2) := by decide +kernel
theorem dX7_init_82 : decode cX7_init 82 = .ok (.putfield 44, 3) := by decide +kernel
theorem dX7_init_85 : decode cX7_init 85 = .ok (.aload_n 0, 1) := by decide +kernel
theorem dX7_init_86 : decode cX7_init 86 = .ok (.bipush 60, 2) := by decide +kernel
theorem dX7_init_88 : decode cX7_init 88 = .ok (.newarray .int, 2) := by decide +kernel
theorem dX7_init_90 : decode cX7_init 90 = .ok (.putfield 47, 3) := by decide +kernel
theorem dX7_init_93 : decode cX7_init 93 = .ok (.aload_n 0, 1) := by decide +kernel
theorem dX7_init_94 : decode cX7_init 94 = .ok (.bipush 8, 2) := by decide +kernel
theorem dX7_init_96 : decode cX7_init 96 = .ok (.newarray .int, 2) := by decide +kernel
theorem dX7_init_98 : decode cX7_init 98 = .ok (.putfield 50, 3) := by decide +kernel
theorem dX7_init_101 : decode cX7_init 101 = .ok (.aload_n 0, 1) := by decide +kernel
theorem dX7_init_102 : decode cX7_init 102 = .ok (.bipush 8, 2) := by decide +kernel
theorem dX7_init_104 : decode cX7_init 104 = .ok (.newarray .int, 2) := by decide +kernel
theorem dX7_init_106 : decode cX7_init 106 = .ok (.putfield 53, 3) := by decide +kernel
theorem dX7_init_109 : decode cX7_init 109 = .ok (.aload_n 0, 1) := by decide +kernel
theorem dX7_init_110 : decode cX7_init 110 = .ok (.bipush 12, 2) := by decide +kernel
theorem dX7_init_112 : decode cX7_init 112 = .ok (.newarray .int, 2) := by decide +kernel
theorem dX7_init_114 : decode cX7_init 114 = .ok (.putfield 56, 3) := by decide +kernel
theorem dX7_init_117 : decode cX7_init 117 = .ok (.aload_n 0, 1) := by decide +kernel
theorem dX7_init_118 : decode cX7_init 118 = .ok (.bipush 12, 2) := by decide +kernel
theorem dX7_init_120 : decode cX7_init 120 = .ok (.newarray .int, 2) := by decide +kernel
theorem dX7_init_122 : decode cX7_init 122 = .ok (.putfield 59, 3) := by decide +kernel
theorem dX7_init_125 : decode cX7_init 125 = .ok (.aload_n 0, 1) := by decide +kernel
theorem dX7_init_126 : decode cX7_init 126 = .ok (.sipush 144, 3) := by decide +kernel
theorem dX7_init_129 : decode cX7_init 129 = .ok (.newarray .int, 2) := by decide +kernel
theorem dX7_init_131 : decode cX7_init 131 = .ok (.putfield 62, 3) := by decide +kernel
theorem dX7_init_134 : decode cX7_init 134 = .ok (.aload_n 0, 1) := by decide +kernel
theorem dX7_init_135 : decode cX7_init 135 = .ok (.sipush 4096, 3) := by decide +kernel
theorem dX7_init_138 : decode cX7_init 138 = .ok (.newarray .int, 2) := by decide +kernel
theorem dX7_init_140 : decode cX7_init 140 = .ok (.putfield 65, 3) := by decide +kernel
theorem dX7_init_143 : decode cX7_init 143 = .ok (.aload_n 0, 1) := by decide +kernel
theorem dX7_init_144 : decode cX7_init 144 = .ok (.sipush 4096, 3) := by decide +kernel
theorem dX7_init_147 : decode cX7_init 147 = .ok (.newarray .boolean, 2) := by decide +kernel
theorem dX7_init_149 : decode cX7_init 149 = .ok (.putfield 68, 3) := by decide +kernel
theorem dX7_init_152 : decode cX7_init 152 = .ok (.aload_n 0, 1) := by decide +kernel
theorem dX7_init_153 : decode cX7_init 153 = .ok (.getfield 35, 3) := by decide +kernel
theorem dX7_init_156 : decode cX7_init 156 = .ok (.iconst 0, 1) := by decide +kernel
theorem dX7_init_157 : decode cX7_init 157 = .ok (.bipush 20, 2) := by decide +kernel
theorem dX7_init_159 : decode cX7_init 159 = .ok (.iastore, 1) := by decide +kernel
theorem dX7_init_160 : decode cX7_init 160 = .ok (.aload_n 0, 1) := by decide +kernel
theorem dX7_init_161 : decode cX7_init 161 = .ok (.getfield 35, 3) := by decide +kernel
theorem dX7_init_164 : decode cX7_init 164 = .ok (.iconst 1, 1) := by decide +kernel
theorem dX7_init_165 : decode cX7_init 165 = .ok (.bipush 20, 2) := by decide +kernel
theorem dX7_init_167 : decode cX7_init 167 = .ok (.iastore, 1) := by decide +kernel
theorem dX7_init_168 : decode cX7_init 168 = .ok (.aload_n 0, 1) := by decide +kernel
theorem dX7_init_169 : decode cX7_init 169 = .ok (.getfield 35, 3) := by decide +kernel
theorem dX7_init_172 : decode cX7_init 172 = .ok (.iconst 2, 1) := by decide +kernel
theorem dX7_init_173 : decode cX7_init 173 = .ok (.sipush 400, 3) := by decide +kernel
theorem dX7_init_176 : decode cX7_init 176 = .ok (.iastore, 1) := by decide +kernel
theorem dX7_init_177 : decode cX7_init 177 = .ok (.aload_n 0, 1) := by decide +kernel
theorem dX7_init_178 : decode cX7_init 178 = .ok (.getfield 35, 3) := by decide +kernel
theorem dX7_init_181 : decode cX7_init 181 = .ok (.iconst 3, 1) := by decide +kernel
theorem dX7_init_182 : decode cX7_init 182 = .ok (.sipush 200, 3) := by decide +kernel
theorem dX7_init_185 : decode cX7_init 185 = .ok (.iastore, 1) := by decide +kernel
theorem dX7_init_186 : decode cX7_init 186 = .ok (.aload_n 0, 1) := by decide +kernel
theorem dX7_init_187 : decode cX7_init 187 = .ok (.getfield 35, 3) := by decide +kernel
theorem dX7_init_190 : decode cX7_init 190 = .ok (.iconst 4, 1) := by decide +kernel
theorem dX7_init_191 : decode cX7_init 191 = .ok (.bipush 100, 2) := by decide +kernel
theorem dX7_init_193 : decode cX7_init 193 = .ok (.iastore, 1) := by decide +kernel
theorem dX7_init_194 : decode cX7_init 194 = .ok (.return_, 1) := by decide +kernel
theorem dX7_within_0 : decode cX7_within 0 = .ok (.iload_n 0, 1) := by decide +kernel
theorem dX7_within_1 : decode cX7_within 1 = .ok (.iload_n 1, 1) := by decide +kernel
theorem dX7_within_2 : decode cX7_within 2 = .ok (.if_icmp .lt 12, 3) := by decide +kernel
theorem dX7_within_5 : decode cX7_within 5 = .ok (.iload_n 0, 1) := by decide +kernel
theorem dX7_within_6 : decode cX7_within 6 = .ok (.iload_n 2, 1) := by decide +kernel
theorem dX7_within_7 : decode cX7_within 7 = .ok (.if_icmp .gt 7, 3) := by decide +kernel
theorem dX7_within_10 : decode cX7_within 10 = .ok (.iconst 1, 1) := by decide +kernel
theorem dX7_within_11 : decode cX7_within 11 = .ok (.goto 4, 3) := by decide +kernel
theorem dX7_within_14 : decode cX7_within 14 = .ok (.iconst 0, 1) := by decide +kernel
theorem dX7_within_15 : decode cX7_within 15 = .ok (.ireturn, 1) := by decide +kernel
theorem dX7_size_0 : decode cX7_size 0 = .ok (.iload_n 0, 1) := by decide +kernel
theorem dX7_size_1 : decode cX7_size 1 = .ok (.ifCond .ge 8, 3) := by decide +kernel
theorem dX7_size_4 : decode cX7_size 4 = .ok (.iload_n 0, 1) := by decide +kernel
theorem dX7_size_5 : decode cX7_size 5 = .ok (.ineg, 1) := by decide +kernel
theorem dX7_size_6 : decode cX7_size 6 = .ok (.goto 4, 3) := by decide +kernel
theorem dX7_size_9 : decode cX7_size 9 = .ok (.iload_n 0, 1) := by decide +kernel
theorem dX7_size_10 : decode cX7_size 10 = .ok (.ireturn, 1) := by decide +kernel
theorem dX7_isStation_0 : decode cX7_isStation 0 = .ok (.iload_n 1, 1) := by decide +kernel
theorem dX7_isStation_1 : decode cX7_isStation 1 = .ok (.ifCond .lt 15, 3) := by decide +kernel
theorem dX7_isStation_4 : decode cX7_isStation 4 = .ok (.iload_n 1, 1) := by decide +kernel
theorem dX7_isStation_5 : decode cX7_isStation 5 = .ok (.aload_n 0, 1) := by decide +kernel
theorem dX7_isStation_6 : decode cX7_isStation 6 = .ok (.getfield 72, 3) := by decide +kernel
theorem dX7_isStation_9 : decode cX7_isStation 9 = .ok (.if_icmp .ge 7, 3) := by decide +kernel
theorem dX7_isStation_12 : decode cX7_isStation 12 = .ok (.iconst 1, 1) := by decide +kernel
theorem dX7_isStation_13 : decode cX7_isStation 13 = .ok (.goto 4, 3) := by decide +kernel
theorem dX7_isStation_16 : decode cX7_isStation 16 = .ok (.iconst 0, 1) := by decide +kernel
theorem dX7_isStation_17 : decode cX7_isStation 17 = .ok (.ireturn, 1) := by decide +kernel
theorem dX7_station_0 : decode cX7_station 0 = .ok (.iload_n 1, 1) := by decide +kernel
theorem dX7_station_1 : decode cX7_station 1 = .ok (.bipush 100, 2) := by decide +kernel
theorem dX7_station_3 : decode cX7_station 3 = .ok (.sipush 3000, 3) := by decide +kernel
theorem dX7_station_6 : decode cX7_station 6 = .ok (.invokestatic 75, 3) := by decide +kernel
theorem dX7_station_9 : decode cX7_station 9 = .ok (.ifCond .eq 14, 3) := by decide +kernel
theorem dX7_station_12 : decode cX7_station 12 = .ok (.iload_n 2, 1) := by decide +kernel
theorem dX7_station_13 : decode cX7_station 13 = .ok (.iconst 1, 1) := by decide +kernel
theorem dX7_station_14 : decode cX7_station 14 = .ok (.sipush 999, 3) := by decide +kernel
theorem dX7_station_17 : decode cX7_station 17 = .ok (.invokestatic 75, 3) := by decide +kernel
theorem dX7_station_20 : decode cX7_station 20 = .ok (.ifCond .ne 5, 3) := by decide +kernel
theorem dX7_station_23 : decode cX7_station 23 = .ok (.iconst (-1), 1) := by decide +kernel
theorem dX7_station_24 : decode cX7_station 24 = .ok (.ireturn, 1) := by decide +kernel
theorem dX7_station_25 : decode cX7_station 25 = .ok (.aload_n 0, 1) := by decide +kernel
theorem dX7_station_26 : decode cX7_station 26 = .ok (.getfield 72, 3) := by decide +kernel
theorem dX7_station_29 : decode cX7_station 29 = .ok (.bipush 20, 2) := by decide +kernel
theorem dX7_station_31 : decode cX7_station 31 = .ok (.if_icmp .ne 6, 3) := by decide +kernel
theorem dX7_station_34 : decode cX7_station 34 = .ok (.bipush (-2), 2) := by decide +kernel
theorem dX7_station_36 : decode cX7_station 36 = .ok (.ireturn, 1) := by decide +kernel
theorem dX7_station_37 : decode cX7_station 37 = .ok (.aload_n 0, 1) := by decide +kernel
theorem dX7_station_38 : decode cX7_station 38 = .ok (.getfield 9, 3) := by decide +kernel
theorem dX7_station_41 : decode cX7_station 41 = .ok (.aload_n 0, 1) := by decide +kernel
theorem dX7_station_42 : decode cX7_station 42 = .ok (.getfield 72, 3) := by decide +kernel
theorem dX7_station_45 : decode cX7_station 45 = .ok (.iload_n 1, 1) := by decide +kernel
theorem dX7_station_46 : decode cX7_station 46 = .ok (.iastore, 1) := by decide +kernel
theorem dX7_station_47 : decode cX7_station 47 = .ok (.aload_n 0, 1) := by decide +kernel
theorem dX7_station_48 : decode cX7_station 48 = .ok (.getfield 13, 3) := by decide +kernel
theorem dX7_station_51 : decode cX7_station 51 = .ok (.aload_n 0, 1) := by decide +kernel
theorem dX7_station_52 : decode cX7_station 52 = .ok (.getfield 72, 3) := by decide +kernel
theorem dX7_station_55 : decode cX7_station 55 = .ok (.iload_n 2, 1) := by decide +kernel
theorem dX7_station_56 : decode cX7_station 56 = .ok (.iastore, 1) := by decide +kernel
theorem dX7_station_57 : decode cX7_station 57 = .ok (.aload_n 0, 1) := by decide +kernel
theorem dX7_station_58 : decode cX7_station 58 = .ok (.dup, 1) := by decide +kernel
theorem dX7_station_59 : decode cX7_station 59 = .ok (.getfield 72, 3) := by decide +kernel
theorem dX7_station_62 : decode cX7_station 62 = .ok (.iconst 1, 1) := by decide +kernel
theorem dX7_station_63 : decode cX7_station 63 = .ok (.iadd, 1) := by decide +kernel
theorem dX7_station_64 : decode cX7_station 64 = .ok (.putfield 72, 3) := by decide +kernel
theorem dX7_station_67 : decode cX7_station 67 = .ok (.aload_n 0, 1) := by decide +kernel
theorem dX7_station_68 : decode cX7_station 68 = .ok (.getfield 72, 3) := by decide +kernel
theorem dX7_station_71 : decode cX7_station 71 = .ok (.iconst 1, 1) := by decide +kernel
theorem dX7_station_72 : decode cX7_station 72 = .ok (.isub, 1) := by decide +kernel
theorem dX7_station_73 : decode cX7_station 73 = .ok (.ireturn, 1) := by decide +kernel
theorem dX7_isMiddle_0 : decode cX7_isMiddle 0 = .ok (.iload_n 0, 1) := by decide +kernel
theorem dX7_isMiddle_1 : decode cX7_isMiddle 1 = .ok (.bipush 20, 2) := by decide +kernel
theorem dX7_isMiddle_3 : decode cX7_isMiddle 3 = .ok (.sipush 900, 3) := by decide +kernel
theorem dX7_isMiddle_6 : decode cX7_isMiddle 6 = .ok (.invokestatic 75, 3) := by decide +kernel
theorem dX7_isMiddle_9 : decode cX7_isMiddle 9 = .ok (.ireturn, 1) := by decide +kernel
theorem dX7_plan_0 : decode cX7_plan 0 = .ok (.iload_n 1, 1) := by decide +kernel
theorem dX7_plan_1 : decode cX7_plan 1 = .ok (.ifCond .ne 10, 3) := by decide +kernel
theorem dX7_plan_4 : decode cX7_plan 4 = .ok (.iload_n 2, 1) := by decide +kernel
theorem dX7_plan_5 : decode cX7_plan 5 = .ok (.invokestatic 79, 3) := by decide +kernel
theorem dX7_plan_8 : decode cX7_plan 8 = .ok (.goto 51, 3) := by decide +kernel
theorem dX7_plan_11 : decode cX7_plan 11 = .ok (.iload_n 1, 1) := by decide +kernel
theorem dX7_plan_12 : decode cX7_plan 12 = .ok (.iconst 1, 1) := by decide +kernel
theorem dX7_plan_13 : decode cX7_plan 13 = .ok (.if_icmp .ne 12, 3) := by decide +kernel
theorem dX7_plan_16 : decode cX7_plan 16 = .ok (.iload_n 2, 1) := by decide +kernel
theorem dX7_plan_17 : decode cX7_plan 17 = .ok (.iconst 0, 1) := by decide +kernel
theorem dX7_plan_18 : decode cX7_plan 18 = .ok (.iconst 1, 1) := by decide +kernel
theorem dX7_plan_19 : decode cX7_plan 19 = .ok (.invokestatic 75, 3) := by decide +kernel
theorem dX7_plan_22 : decode cX7_plan 22 = .ok (.goto 37, 3) := by decide +kernel
theorem dX7_plan_25 : decode cX7_plan 25 = .ok (.iload_n 1, 1) := by decide +kernel
theorem dX7_plan_26 : decode cX7_plan 26 = .ok (.iconst 2, 1) := by decide +kernel
theorem dX7_plan_27 : decode cX7_plan 27 = .ok (.if_icmp .ne 12, 3) := by decide +kernel
theorem dX7_plan_30 : decode cX7_plan 30 = .ok (.iload_n 2, 1) := by decide +kernel
theorem dX7_plan_31 : decode cX7_plan 31 = .ok (.iconst 1, 1) := by decide +kernel
theorem dX7_plan_32 : decode cX7_plan 32 = .ok (.iconst 5, 1) := by decide +kernel
theorem dX7_plan_33 : decode cX7_plan 33 = .ok (.invokestatic 75, 3) := by decide +kernel
theorem dX7_plan_36 : decode cX7_plan 36 = .ok (.goto 23, 3) := by decide +kernel
theorem dX7_plan_39 : decode cX7_plan 39 = .ok (.iload_n 1, 1) := by decide +kernel
theorem dX7_plan_40 : decode cX7_plan 40 = .ok (.iconst 3, 1) := by decide +kernel
theorem dX7_plan_41 : decode cX7_plan 41 = .ok (.if_icmp .ne 17, 3) := by decide +kernel
theorem dX7_plan_44 : decode cX7_plan 44 = .ok (.iload_n 2, 1) := by decide +kernel
theorem dX7_plan_45 : decode cX7_plan 45 = .ok (.iconst 0, 1) := by decide +kernel
theorem dX7_plan_46 : decode cX7_plan 46 = .ok (.bipush 50, 2) := by decide +kernel
theorem dX7_plan_48 : decode cX7_plan 48 = .ok (.invokestatic 75, 3) := by decide +kernel
theorem dX7_plan_51 : decode cX7_plan 51 = .ok (.ifCond .eq 7, 3) := by decide +kernel
theorem dX7_plan_54 : decode cX7_plan 54 = .ok (.iconst 1, 1) := by decide +kernel
theorem dX7_plan_55 : decode cX7_plan 55 = .ok (.goto 4, 3) := by decide +kernel
theorem dX7_plan_58 : decode cX7_plan 58 = .ok (.iconst 0, 1) := by decide +kernel
theorem dX7_plan_59 : decode cX7_plan 59 = .ok (.istore_n 3, 1) := by decide +kernel
theorem dX7_plan_60 : decode cX7_plan 60 = .ok (.iload_n 3, 1) := by decide +kernel
theorem dX7_plan_61 : decode cX7_plan 61 = .ok (.ifCond .ne 5, 3) := by decide +kernel
theorem dX7_plan_64 : decode cX7_plan 64 = .ok (.iconst (-1), 1) := by decide +kernel
theorem dX7_plan_65 : decode cX7_plan 65 = .ok (.ireturn, 1) := by decide +kernel
theorem dX7_plan_66 : decode cX7_plan 66 = .ok (.iload_n 1, 1) := by decide +kernel
theorem dX7_plan_67 : decode cX7_plan 67 = .ok (.ifCond .ne 10, 3) := by decide +kernel
theorem dX7_plan_70 : decode cX7_plan 70 = .ok (.aload_n 0, 1) := by decide +kernel
theorem dX7_plan_71 : decode cX7_plan 71 = .ok (.getfield 16, 3) := by decide +kernel
theorem dX7_plan_74 : decode cX7_plan 74 = .ok (.goto 31, 3) := by decide +kernel
theorem dX7_plan_77 : decode cX7_plan 77 = .ok (.iload_n 1, 1) := by decide +kernel
theorem dX7_plan_78 : decode cX7_plan 78 = .ok (.iconst 1, 1) := by decide +kernel
theorem dX7_plan_79 : decode cX7_plan 79 = .ok (.if_icmp .ne 10, 3) := by decide +kernel
theorem dX7_plan_82 : decode cX7_plan 82 = .ok (.aload_n 0, 1) := by decide +kernel
theorem dX7_plan_83 : decode cX7_plan 83 = .ok (.getfield 20, 3) := by decide +kernel
theorem dX7_plan_86 : decode cX7_plan 86 = .ok (.goto 19, 3) := by decide +kernel
theorem dX7_plan_89 : decode cX7_plan 89 = .ok (.iload_n 1, 1) := by decide +kernel
theorem dX7_plan_90 : decode cX7_plan 90 = .ok (.iconst 2, 1) := by decide +kernel
theorem dX7_plan_91 : decode cX7_plan 91 = .ok (.if_icmp .ne 10, 3) := by decide +kernel
theorem dX7_plan_94 : decode cX7_plan 94 = .ok (.aload_n 0, 1) := by decide +kernel
theorem dX7_plan_95 : decode cX7_plan 95 = .ok (.getfield 23, 3) := by decide +kernel
theorem dX7_plan_98 : decode cX7_plan 98 = .ok (.goto 7, 3) := by decide +kernel
theorem dX7_plan_101 : decode cX7_plan 101 = .ok (.aload_n 0, 1) := by decide +kernel
theorem dX7_plan_102 : decode cX7_plan 102 = .ok (.getfield 26, 3) := by decide +kernel
theorem dX7_plan_105 : decode cX7_plan 105 = .ok (.istore 4, 2) := by decide +kernel
theorem dX7_plan_107 : decode cX7_plan 107 = .ok (.iload_n 1, 1) := by decide +kernel
theorem dX7_plan_108 : decode cX7_plan 108 = .ok (.ifCond .ne 11, 3) := by decide +kernel
theorem dX7_plan_111 : decode cX7_plan 111 = .ok (.aload_n 0, 1) := by decide +kernel
theorem dX7_plan_112 : decode cX7_plan 112 = .ok (.iload_n 2, 1) := by decide +kernel
theorem dX7_plan_113 : decode cX7_plan 113 = .ok (.putfield 16, 3) := by decide +kernel
theorem dX7_plan_116 : decode cX7_plan 116 = .ok (.goto 34, 3) := by decide +kernel
theorem dX7_plan_119 : decode cX7_plan 119 = .ok (.iload_n 1, 1) := by decide +kernel
theorem dX7_plan_120 : decode cX7_plan 120 = .ok (.iconst 1, 1) := by decide +kernel
theorem dX7_plan_121 : decode cX7_plan 121 = .ok (.if_icmp .ne 11, 3) := by decide +kernel
theorem dX7_plan_124 : decode cX7_plan 124 = .ok (.aload_n 0, 1) := by decide +kernel
theorem dX7_plan_125 : decode cX7_plan 125 = .ok (.iload_n 2, 1) := by decide +kernel
theorem dX7_plan_126 : decode cX7_plan 126 = .ok (.putfield 20, 3) := by decide +kernel
theorem dX7_plan_129 : decode cX7_plan 129 = .ok (.goto 21, 3) := by decide +kernel
theorem dX7_plan_132 : decode cX7_plan 132 = .ok (.iload_n 1, 1) := by decide +kernel
theorem dX7_plan_133 : decode cX7_plan 133 = .ok (.iconst 2, 1) := by decide +kernel
theorem dX7_plan_134 : decode cX7_plan 134 = .ok (.if_icmp .ne 11, 3) := by decide +kernel
theorem dX7_plan_137 : decode cX7_plan 137 = .ok (.aload_n 0, 1) := by decide +kernel
theorem dX7_plan_138 : decode cX7_plan 138 = .ok (.iload_n 2, 1) := by decide +kernel
theorem dX7_plan_139 : decode cX7_plan 139 = .ok (.putfield 23, 3) := by decide +kernel
theorem dX7_plan_142 : decode cX7_plan 142 = .ok (.goto 8, 3) := by decide +kernel
theorem dX7_plan_145 : decode cX7_plan 145 = .ok (.aload_n 0, 1) := by decide +kernel
theorem dX7_plan_146 : decode cX7_plan 146 = .ok (.iload_n 2, 1) := by decide +kernel
theorem dX7_plan_147 : decode cX7_plan 147 = .ok (.putfield 26, 3) := by decide +kernel
theorem dX7_plan_150 : decode cX7_plan 150 = .ok (.iload 4, 2) := by decide +kernel
theorem dX7_plan_152 : decode cX7_plan 152 = .ok (.ireturn, 1) := by decide +kernel
theorem dX7_oscillatorOf_0 : decode cX7_oscillatorOf 0 = .ok (.aload_n 0, 1) := by decide +kernel
theorem dX7_oscillatorOf_1 : decode cX7_oscillatorOf 1 = .ok (.getfield 20, 3) := by decide +kernel
theorem dX7_oscillatorOf_4 : decode cX7_oscillatorOf 4 = .ok (.iconst 1, 1) := by decide +kernel
theorem dX7_oscillatorOf_5 : decode cX7_oscillatorOf 5 = .ok (.if_icmp .ne 14, 3) := by decide +kernel
theorem dX7_oscillatorOf_8 : decode cX7_oscillatorOf 8 = .ok (.aload_n 0, 1) := by decide +kernel
theorem dX7_oscillatorOf_9 : decode cX7_oscillatorOf 9 = .ok (.getfield 9, 3) := by decide +kernel
theorem dX7_oscillatorOf_12 : decode cX7_oscillatorOf 12 = .ok (.iload_n 1, 1) := by decide +kernel
theorem dX7_oscillatorOf_13 : decode cX7_oscillatorOf 13 = .ok (.iaload, 1) := by decide +kernel
theorem dX7_oscillatorOf_14 : decode cX7_oscillatorOf 14 = .ok (.iload_n 2, 1) := by decide +kernel
theorem dX7_oscillatorOf_15 : decode cX7_oscillatorOf 15 = .ok (.iadd, 1) := by decide +kernel
theorem dX7_oscillatorOf_16 : decode cX7_oscillatorOf 16 = .ok (.goto 11, 3) := by decide +kernel
theorem dX7_oscillatorOf_19 : decode cX7_oscillatorOf 19 = .ok (.aload_n 0, 1) := by decide +kernel
theorem dX7_oscillatorOf_20 : decode cX7_oscillatorOf 20 = .ok (.getfield 9, 3) := by decide +kernel
theorem dX7_oscillatorOf_23 : decode cX7_oscillatorOf 23 = .ok (.iload_n 1, 1) := by decide +kernel
theorem dX7_oscillatorOf_24 : decode cX7_oscillatorOf 24 = .ok (.iaload, 1) := by decide +kernel
theorem dX7_oscillatorOf_25 : decode cX7_oscillatorOf 25 = .ok (.iload_n 2, 1) := by decide +kernel
theorem dX7_oscillatorOf_26 : decode cX7_oscillatorOf 26 = .ok (.isub, 1) := by decide +kernel
theorem dX7_oscillatorOf_27 : decode cX7_oscillatorOf 27 = .ok (.ireturn, 1) := by decide +kernel
theorem dX7_oscillator_0 : decode cX7_oscillator 0 = .ok (.aload_n 0, 1) := by decide +kernel
theorem dX7_oscillator_1 : decode cX7_oscillator 1 = .ok (.iload_n 1, 1) := by decide +kernel
theorem dX7_oscillator_2 : decode cX7_oscillator 2 = .ok (.invokevirtual 83, 3) := by decide +kernel
theorem dX7_oscillator_5 : decode cX7_oscillator 5 = .ok (.ifCond .eq 15, 3) := by decide +kernel
theorem dX7_oscillator_8 : decode cX7_oscillator 8 = .ok (.aload_n 0, 1) := by decide +kernel
theorem dX7_oscillator_9 : decode cX7_oscillator 9 = .ok (.iload_n 1, 1) := by decide +kernel
theorem dX7_oscillator_10 : decode cX7_oscillator 10 = .ok (.aload_n 0, 1) := by decide +kernel
theorem dX7_oscillator_11 : decode cX7_oscillator 11 = .ok (.getfield 16, 3) := by decide +kernel
theorem dX7_oscillator_14 : decode cX7_oscillator 14 = .ok (.invokevirtual 86, 3) := by decide +kernel
theorem dX7_oscillator_17 : decode cX7_oscillator 17 = .ok (.goto 5, 3) := by decide +kernel
theorem dX7_oscillator_20 : decode cX7_oscillator 20 = .ok (.ldc 90, 2) := by decide +kernel
theorem dX7_oscillator_22 : decode cX7_oscillator 22 = .ok (.ireturn, 1) := by decide +kernel
theorem dX7_falls_0 : decode cX7_falls 0 = .ok (.aload_n 0, 1) := by decide +kernel
theorem dX7_falls_1 : decode cX7_falls 1 = .ok (.iload_n 1, 1) := by decide +kernel
theorem dX7_falls_2 : decode cX7_falls 2 = .ok (.iload_n 2, 1) := by decide +kernel
theorem dX7_falls_3 : decode cX7_falls 3 = .ok (.invokevirtual 86, 3) := by decide +kernel
theorem dX7_falls_6 : decode cX7_falls 6 = .ok (.istore 7, 2) := by decide +kernel
theorem dX7_falls_8 : decode cX7_falls 8 = .ok (.iload 7, 2) := by decide +kernel
theorem dX7_falls_10 : decode cX7_falls 10 = .ok (.ifCond .le 20, 3) := by decide +kernel
theorem dX7_falls_13 : decode cX7_falls 13 = .ok (.iload_n 3, 1) := by decide +kernel
theorem dX7_falls_14 : decode cX7_falls 14 = .ok (.iload_n 1, 1) := by decide +kernel
theorem dX7_falls_15 : decode cX7_falls 15 = .ok (.if_icmp .ne 17, 3) := by decide +kernel
theorem dX7_falls_18 : decode cX7_falls 18 = .ok (.iload 4, 2) := by decide +kernel
theorem dX7_falls_20 : decode cX7_falls 20 = .ok (.iconst 1, 1) := by decide +kernel
theorem dX7_falls_21 : decode cX7_falls 21 = .ok (.if_icmp .ne 11, 3) := by decide +kernel
theorem dX7_falls_24 : decode cX7_falls 24 = .ok (.iload 5, 2) := by decide +kernel
theorem dX7_falls_26 : decode cX7_falls 26 = .ok (.iconst 1, 1) := by decide +kernel
theorem dX7_falls_27 : decode cX7_falls 27 = .ok (.if_icmp .ne 5, 3) := by decide +kernel
theorem dX7_falls_30 : decode cX7_falls 30 = .ok (.iconst 0, 1) := by decide +kernel
theorem dX7_falls_31 : decode cX7_falls 31 = .ok (.ireturn, 1) := by decide +kernel
theorem dX7_falls_32 : decode cX7_falls 32 = .ok (.iload 4, 2) := by decide +kernel
theorem dX7_falls_34 : decode cX7_falls 34 = .ok (.aload_n 0, 1) := by decide +kernel
theorem dX7_falls_35 : decode cX7_falls 35 = .ok (.getfield 9, 3) := by decide +kernel
theorem dX7_falls_38 : decode cX7_falls 38 = .ok (.iload_n 3, 1) := by decide +kernel
theorem dX7_falls_39 : decode cX7_falls 39 = .ok (.iaload, 1) := by decide +kernel
theorem dX7_falls_40 : decode cX7_falls 40 = .ok (.imul, 1) := by decide +kernel
theorem dX7_falls_41 : decode cX7_falls 41 = .ok (.iload 6, 2) := by decide +kernel
theorem dX7_falls_43 : decode cX7_falls 43 = .ok (.iconst 1, 1) := by decide +kernel
theorem dX7_falls_44 : decode cX7_falls 44 = .ok (.if_icmp .ne 11, 3) := by decide +kernel
theorem dX7_falls_47 : decode cX7_falls 47 = .ok (.iload 5, 2) := by decide +kernel
theorem dX7_falls_49 : decode cX7_falls 49 = .ok (.iload 7, 2) := by decide +kernel
theorem dX7_falls_51 : decode cX7_falls 51 = .ok (.imul, 1) := by decide +kernel
theorem dX7_falls_52 : decode cX7_falls 52 = .ok (.goto 9, 3) := by decide +kernel
theorem dX7_falls_55 : decode cX7_falls 55 = .ok (.iload 5, 2) := by decide +kernel
theorem dX7_falls_57 : decode cX7_falls 57 = .ok (.ineg, 1) := by decide +kernel
theorem dX7_falls_58 : decode cX7_falls 58 = .ok (.iload 7, 2) := by decide +kernel
theorem dX7_falls_60 : decode cX7_falls 60 = .ok (.imul, 1) := by decide +kernel
theorem dX7_falls_61 : decode cX7_falls 61 = .ok (.iadd, 1) := by decide +kernel
theorem dX7_falls_62 : decode cX7_falls 62 = .ok (.istore 8, 2) := by decide +kernel
theorem dX7_falls_64 : decode cX7_falls 64 = .ok (.iload 8, 2) := by decide +kernel
theorem dX7_falls_66 : decode cX7_falls 66 = .ok (.invokestatic 91, 3) := by decide +kernel
theorem dX7_falls_69 : decode cX7_falls 69 = .ok (.iload_n 2, 1) := by decide +kernel
theorem dX7_falls_70 : decode cX7_falls 70 = .ok (.isub, 1) := by decide +kernel
theorem dX7_falls_71 : decode cX7_falls 71 = .ok (.invokestatic 91, 3) := by decide +kernel
theorem dX7_falls_74 : decode cX7_falls 74 = .ok (.aload_n 0, 1) := by decide +kernel
theorem dX7_falls_75 : decode cX7_falls 75 = .ok (.getfield 26, 3) := by decide +kernel
theorem dX7_falls_78 : decode cX7_falls 78 = .ok (.if_icmp .gt 7, 3) := by decide +kernel
theorem dX7_falls_81 : decode cX7_falls 81 = .ok (.iconst 1, 1) := by decide +kernel
theorem dX7_falls_82 : decode cX7_falls 82 = .ok (.goto 4, 3) := by decide +kernel
theorem dX7_falls_85 : decode cX7_falls 85 = .ok (.iconst 0, 1) := by decide +kernel
theorem dX7_falls_86 : decode cX7_falls 86 = .ok (.ireturn, 1) := by decide +kernel
theorem dX7_goSpurs_0 : decode cX7_goSpurs 0 = .ok (.iconst 0, 1) := by decide +kernel
theorem dX7_goSpurs_1 : decode cX7_goSpurs 1 = .ok (.istore 4, 2) := by decide +kernel
theorem dX7_goSpurs_3 : decode cX7_goSpurs 3 = .ok (.iconst 0, 1) := by decide +kernel
theorem dX7_goSpurs_4 : decode cX7_goSpurs 4 = .ok (.istore 5, 2) := by decide +kernel
theorem dX7_goSpurs_6 : decode cX7_goSpurs 6 = .ok (.iload 5, 2) := by decide +kernel
theorem dX7_goSpurs_8 : decode cX7_goSpurs 8 = .ok (.aload_n 0, 1) := by decide +kernel
theorem dX7_goSpurs_9 : decode cX7_goSpurs 9 = .ok (.getfield 72, 3) := by decide +kernel
theorem dX7_goSpurs_12 : decode cX7_goSpurs 12 = .ok (.if_icmp .ge 109, 3) := by decide +kernel
theorem dX7_goSpurs_15 : decode cX7_goSpurs 15 = .ok (.iconst 1, 1) := by decide +kernel
theorem dX7_goSpurs_16 : decode cX7_goSpurs 16 = .ok (.istore 6, 2) := by decide +kernel
theorem dX7_goSpurs_18 : decode cX7_goSpurs 18 = .ok (.iload 6, 2) := by decide +kernel
theorem dX7_goSpurs_20 : decode cX7_goSpurs 20 = .ok (.aload_n 0, 1) := by decide +kernel
theorem dX7_goSpurs_21 : decode cX7_goSpurs 21 = .ok (.getfield 23, 3) := by decide +kernel
theorem dX7_goSpurs_24 : decode cX7_goSpurs 24 = .ok (.if_icmp .gt 91, 3) := by decide +kernel
theorem dX7_goSpurs_27 : decode cX7_goSpurs 27 = .ok (.iconst 1, 1) := by decide +kernel
theorem dX7_goSpurs_28 : decode cX7_goSpurs 28 = .ok (.istore 7, 2) := by decide +kernel
theorem dX7_goSpurs_30 : decode cX7_goSpurs 30 = .ok (.iload 7, 2) := by decide +kernel
theorem dX7_goSpurs_32 : decode cX7_goSpurs 32 = .ok (.aload_n 0, 1) := by decide +kernel
theorem dX7_goSpurs_33 : decode cX7_goSpurs 33 = .ok (.getfield 23, 3) := by decide +kernel
theorem dX7_goSpurs_36 : decode cX7_goSpurs 36 = .ok (.if_icmp .gt 73, 3) := by decide +kernel
theorem dX7_goSpurs_39 : decode cX7_goSpurs 39 = .ok (.iconst 1, 1) := by decide +kernel
theorem dX7_goSpurs_40 : decode cX7_goSpurs 40 = .ok (.istore 8, 2) := by decide +kernel
theorem dX7_goSpurs_42 : decode cX7_goSpurs 42 = .ok (.iload 8, 2) := by decide +kernel
theorem dX7_goSpurs_44 : decode cX7_goSpurs 44 = .ok (.ifCond .lt 59, 3) := by decide +kernel
theorem dX7_goSpurs_47 : decode cX7_goSpurs 47 = .ok (.aload_n 0, 1) := by decide +kernel
theorem dX7_goSpurs_48 : decode cX7_goSpurs 48 = .ok (.iload_n 1, 1) := by decide +kernel
theorem dX7_goSpurs_49 : decode cX7_goSpurs 49 = .ok (.iload_n 2, 1) := by decide +kernel
theorem dX7_goSpurs_50 : decode cX7_goSpurs 50 = .ok (.iload 5, 2) := by decide +kernel
theorem dX7_goSpurs_52 : decode cX7_goSpurs 52 = .ok (.iload 6, 2) := by decide +kernel
theorem dX7_goSpurs_54 : decode cX7_goSpurs 54 = .ok (.iload 7, 2) := by decide +kernel
theorem dX7_goSpurs_56 : decode cX7_goSpurs 56 = .ok (.iload 8, 2) := by decide +kernel
theorem dX7_goSpurs_58 : decode cX7_goSpurs 58 = .ok (.invokevirtual 95, 3) := by decide +kernel
theorem dX7_goSpurs_61 : decode cX7_goSpurs 61 = .ok (.ifCond .eq 36, 3) := by decide +kernel
theorem dX7_goSpurs_64 : decode cX7_goSpurs 64 = .ok (.iload 4, 2) := by decide +kernel
theorem dX7_goSpurs_66 : decode cX7_goSpurs 66 = .ok (.iload_n 3, 1) := by decide +kernel
theorem dX7_goSpurs_67 : decode cX7_goSpurs 67 = .ok (.if_icmp .ne 27, 3) := by decide +kernel
theorem dX7_goSpurs_70 : decode cX7_goSpurs 70 = .ok (.aload_n 0, 1) := by decide +kernel
theorem dX7_goSpurs_71 : decode cX7_goSpurs 71 = .ok (.iload 5, 2) := by decide +kernel
theorem dX7_goSpurs_73 : decode cX7_goSpurs 73 = .ok (.putfield 99, 3) := by decide +kernel
theorem dX7_goSpurs_76 : decode cX7_goSpurs 76 = .ok (.aload_n 0, 1) := by decide +kernel
theorem dX7_goSpurs_77 : decode cX7_goSpurs 77 = .ok (.iload 6, 2) := by decide +kernel
theorem dX7_goSpurs_79 : decode cX7_goSpurs 79 = .ok (.putfield 102, 3) := by decide +kernel
theorem dX7_goSpurs_82 : decode cX7_goSpurs 82 = .ok (.aload_n 0, 1) := by decide +kernel
theorem dX7_goSpurs_83 : decode cX7_goSpurs 83 = .ok (.iload 7, 2) := by decide +kernel
theorem dX7_goSpurs_85 : decode cX7_goSpurs 85 = .ok (.putfield 105, 3) := by decide +kernel
theorem dX7_goSpurs_88 : decode cX7_goSpurs 88 = .ok (.aload_n 0, 1) := by decide +kernel
theorem dX7_goSpurs_89 : decode cX7_goSpurs 89 = .ok (.iload 8, 2) := by decide +kernel
theorem dX7_goSpurs_91 : decode cX7_goSpurs 91 = .ok (.putfield 108, 3) := by decide +kernel
theorem dX7_goSpurs_94 : decode cX7_goSpurs 94 = .ok (.iinc 4 1, 3) := by decide +kernel
theorem dX7_goSpurs_97 : decode cX7_goSpurs 97 = .ok (.iinc 8 (-1), 3) := by decide +kernel
theorem dX7_goSpurs_100 : decode cX7_goSpurs 100 = .ok (.goto (-58), 3) := by decide +kernel
theorem dX7_goSpurs_103 : decode cX7_goSpurs 103 = .ok (.iinc 7 1, 3) := by decide +kernel
theorem dX7_goSpurs_106 : decode cX7_goSpurs 106 = .ok (.goto (-76), 3) := by decide +kernel
theorem dX7_goSpurs_109 : decode cX7_goSpurs 109 = .ok (.iinc 6 1, 3) := by decide +kernel
theorem dX7_goSpurs_112 : decode cX7_goSpurs 112 = .ok (.goto (-94), 3) := by decide +kernel
theorem dX7_goSpurs_115 : decode cX7_goSpurs 115 = .ok (.iinc 5 1, 3) := by decide +kernel
theorem dX7_goSpurs_118 : decode cX7_goSpurs 118 = .ok (.goto (-112), 3) := by decide +kernel
theorem dX7_goSpurs_121 : decode cX7_goSpurs 121 = .ok (.iload 4, 2) := by decide +kernel
theorem dX7_goSpurs_123 : decode cX7_goSpurs 123 = .ok (.ireturn, 1) := by decide +kernel
theorem dX7_spurs_0 : decode cX7_spurs 0 = .ok (.aload_n 0, 1) := by decide +kernel
theorem dX7_spurs_1 : decode cX7_spurs 1 = .ok (.iload_n 1, 1) := by decide +kernel
theorem dX7_spurs_2 : decode cX7_spurs 2 = .ok (.invokevirtual 83, 3) := by decide +kernel
theorem dX7_spurs_5 : decode cX7_spurs 5 = .ok (.ifCond .eq 16, 3) := by decide +kernel
theorem dX7_spurs_8 : decode cX7_spurs 8 = .ok (.aload_n 0, 1) := by decide +kernel
theorem dX7_spurs_9 : decode cX7_spurs 9 = .ok (.iload_n 1, 1) := by decide +kernel
theorem dX7_spurs_10 : decode cX7_spurs 10 = .ok (.aload_n 0, 1) := by decide +kernel
theorem dX7_spurs_11 : decode cX7_spurs 11 = .ok (.getfield 16, 3) := by decide +kernel
theorem dX7_spurs_14 : decode cX7_spurs 14 = .ok (.iconst (-1), 1) := by decide +kernel
theorem dX7_spurs_15 : decode cX7_spurs 15 = .ok (.invokevirtual 111, 3) := by decide +kernel
theorem dX7_spurs_18 : decode cX7_spurs 18 = .ok (.goto 4, 3) := by decide +kernel
theorem dX7_spurs_21 : decode cX7_spurs 21 = .ok (.iconst (-1), 1) := by decide +kernel
theorem dX7_spurs_22 : decode cX7_spurs 22 = .ok (.ireturn, 1) := by decide +kernel
theorem dX7_weightAtHand_0 : decode cX7_weightAtHand 0 = .ok (.aload_n 0, 1) := by decide +kernel
theorem dX7_weightAtHand_1 : decode cX7_weightAtHand 1 = .ok (.getfield 13, 3) := by decide +kernel
theorem dX7_weightAtHand_4 : decode cX7_weightAtHand 4 = .ok (.aload_n 0, 1) := by decide +kernel
theorem dX7_weightAtHand_5 : decode cX7_weightAtHand 5 = .ok (.getfield 99, 3) := by decide +kernel
theorem dX7_weightAtHand_8 : decode cX7_weightAtHand 8 = .ok (.iaload, 1) := by decide +kernel
theorem dX7_weightAtHand_9 : decode cX7_weightAtHand 9 = .ok (.aload_n 0, 1) := by decide +kernel
theorem dX7_weightAtHand_10 : decode cX7_weightAtHand 10 = .ok (.getfield 102, 3) := by decide +kernel
theorem dX7_weightAtHand_13 : decode cX7_weightAtHand 13 = .ok (.aload_n 0, 1) := by decide +kernel
theorem dX7_weightAtHand_14 : decode cX7_weightAtHand 14 = .ok (.getfield 105, 3) := by decide +kernel
theorem dX7_weightAtHand_17 : decode cX7_weightAtHand 17 = .ok (.imul, 1) := by decide +kernel
theorem dX7_weightAtHand_18 : decode cX7_weightAtHand 18 = .ok (.idiv, 1) := by decide +kernel
theorem dX7_weightAtHand_19 : decode cX7_weightAtHand 19 = .ok (.ireturn, 1) := by decide +kernel
theorem dX7_spur_0 : decode cX7_spur 0 = .ok (.aload_n 0, 1) := by decide +kernel
theorem dX7_spur_1 : decode cX7_spur 1 = .ok (.iload_n 1, 1) := by decide +kernel
theorem dX7_spur_2 : decode cX7_spur 2 = .ok (.invokevirtual 83, 3) := by decide +kernel
theorem dX7_spur_5 : decode cX7_spur 5 = .ok (.ifCond .eq 30, 3) := by decide +kernel
theorem dX7_spur_8 : decode cX7_spur 8 = .ok (.iload_n 2, 1) := by decide +kernel
theorem dX7_spur_9 : decode cX7_spur 9 = .ok (.ifCond .lt 26, 3) := by decide +kernel
theorem dX7_spur_12 : decode cX7_spur 12 = .ok (.iload_n 3, 1) := by decide +kernel
theorem dX7_spur_13 : decode cX7_spur 13 = .ok (.iconst 0, 1) := by decide +kernel
theorem dX7_spur_14 : decode cX7_spur 14 = .ok (.iconst 4, 1) := by decide +kernel
theorem dX7_spur_15 : decode cX7_spur 15 = .ok (.invokestatic 75, 3) := by decide +kernel
theorem dX7_spur_18 : decode cX7_spur 18 = .ok (.ifCond .eq 17, 3) := by decide +kernel
theorem dX7_spur_21 : decode cX7_spur 21 = .ok (.iload_n 2, 1) := by decide +kernel
theorem dX7_spur_22 : decode cX7_spur 22 = .ok (.aload_n 0, 1) := by decide +kernel
theorem dX7_spur_23 : decode cX7_spur 23 = .ok (.iload_n 1, 1) := by decide +kernel
theorem dX7_spur_24 : decode cX7_spur 24 = .ok (.aload_n 0, 1) := by decide +kernel
theorem dX7_spur_25 : decode cX7_spur 25 = .ok (.getfield 16, 3) := by decide +kernel
theorem dX7_spur_28 : decode cX7_spur 28 = .ok (.iload_n 2, 1) := by decide +kernel
theorem dX7_spur_29 : decode cX7_spur 29 = .ok (.invokevirtual 111, 3) := by decide +kernel
theorem dX7_spur_32 : decode cX7_spur 32 = .ok (.if_icmp .lt 5, 3) := by decide +kernel
theorem dX7_spur_35 : decode cX7_spur 35 = .ok (.iconst (-1), 1) := by decide +kernel
theorem dX7_spur_36 : decode cX7_spur 36 = .ok (.ireturn, 1) := by decide +kernel
theorem dX7_spur_37 : decode cX7_spur 37 = .ok (.iload_n 3, 1) := by decide +kernel
theorem dX7_spur_38 : decode cX7_spur 38 = .ok (.ifCond .ne 10, 3) := by decide +kernel
theorem dX7_spur_41 : decode cX7_spur 41 = .ok (.aload_n 0, 1) := by decide +kernel
theorem dX7_spur_42 : decode cX7_spur 42 = .ok (.getfield 99, 3) := by decide +kernel
theorem dX7_spur_45 : decode cX7_spur 45 = .ok (.goto 43, 3) := by decide +kernel
theorem dX7_spur_48 : decode cX7_spur 48 = .ok (.iload_n 3, 1) := by decide +kernel
theorem dX7_spur_49 : decode cX7_spur 49 = .ok (.iconst 1, 1) := by decide +kernel
theorem dX7_spur_50 : decode cX7_spur 50 = .ok (.if_icmp .ne 10, 3) := by decide +kernel
theorem dX7_spur_53 : decode cX7_spur 53 = .ok (.aload_n 0, 1) := by decide +kernel
theorem dX7_spur_54 : decode cX7_spur 54 = .ok (.getfield 102, 3) := by decide +kernel
theorem dX7_spur_57 : decode cX7_spur 57 = .ok (.goto 31, 3) := by decide +kernel
theorem dX7_spur_60 : decode cX7_spur 60 = .ok (.iload_n 3, 1) := by decide +kernel
theorem dX7_spur_61 : decode cX7_spur 61 = .ok (.iconst 2, 1) := by decide +kernel
theorem dX7_spur_62 : decode cX7_spur 62 = .ok (.if_icmp .ne 10, 3) := by decide +kernel
theorem dX7_spur_65 : decode cX7_spur 65 = .ok (.aload_n 0, 1) := by decide +kernel
theorem dX7_spur_66 : decode cX7_spur 66 = .ok (.getfield 105, 3) := by decide +kernel
theorem dX7_spur_69 : decode cX7_spur 69 = .ok (.goto 19, 3) := by decide +kernel
theorem dX7_spur_72 : decode cX7_spur 72 = .ok (.iload_n 3, 1) := by decide +kernel
theorem dX7_spur_73 : decode cX7_spur 73 = .ok (.iconst 3, 1) := by decide +kernel
theorem dX7_spur_74 : decode cX7_spur 74 = .ok (.if_icmp .ne 10, 3) := by decide +kernel
theorem dX7_spur_77 : decode cX7_spur 77 = .ok (.aload_n 0, 1) := by decide +kernel
theorem dX7_spur_78 : decode cX7_spur 78 = .ok (.getfield 108, 3) := by decide +kernel
theorem dX7_spur_81 : decode cX7_spur 81 = .ok (.goto 7, 3) := by decide +kernel
theorem dX7_spur_84 : decode cX7_spur 84 = .ok (.aload_n 0, 1) := by decide +kernel
theorem dX7_spur_85 : decode cX7_spur 85 = .ok (.invokevirtual 115, 3) := by decide +kernel
theorem dX7_spur_88 : decode cX7_spur 88 = .ok (.ireturn, 1) := by decide +kernel
theorem dX7_image_0 : decode cX7_image 0 = .ok (.aload_n 0, 1) := by decide +kernel
theorem dX7_image_1 : decode cX7_image 1 = .ok (.iload_n 1, 1) := by decide +kernel
theorem dX7_image_2 : decode cX7_image 2 = .ok (.invokevirtual 83, 3) := by decide +kernel
theorem dX7_image_5 : decode cX7_image 5 = .ok (.ifCond .eq 35, 3) := by decide +kernel
theorem dX7_image_8 : decode cX7_image 8 = .ok (.aload_n 0, 1) := by decide +kernel
theorem dX7_image_9 : decode cX7_image 9 = .ok (.iload_n 2, 1) := by decide +kernel
theorem dX7_image_10 : decode cX7_image 10 = .ok (.invokevirtual 83, 3) := by decide +kernel
theorem dX7_image_13 : decode cX7_image 13 = .ok (.ifCond .eq 27, 3) := by decide +kernel
theorem dX7_image_16 : decode cX7_image 16 = .ok (.aload_n 0, 1) := by decide +kernel
theorem dX7_image_17 : decode cX7_image 17 = .ok (.iload_n 1, 1) := by decide +kernel
theorem dX7_image_18 : decode cX7_image 18 = .ok (.aload_n 0, 1) := by decide +kernel
theorem dX7_image_19 : decode cX7_image 19 = .ok (.getfield 16, 3) := by decide +kernel
theorem dX7_image_22 : decode cX7_image 22 = .ok (.iload_n 2, 1) := by decide +kernel
theorem dX7_image_23 : decode cX7_image 23 = .ok (.iconst 1, 1) := by decide +kernel
theorem dX7_image_24 : decode cX7_image 24 = .ok (.iconst 1, 1) := by decide +kernel
theorem dX7_image_25 : decode cX7_image 25 = .ok (.iconst 0, 1) := by decide +kernel
theorem dX7_image_26 : decode cX7_image 26 = .ok (.invokevirtual 95, 3) := by decide +kernel
theorem dX7_image_29 : decode cX7_image 29 = .ok (.ifCond .eq 7, 3) := by decide +kernel
theorem dX7_image_32 : decode cX7_image 32 = .ok (.iconst 1, 1) := by decide +kernel
theorem dX7_image_33 : decode cX7_image 33 = .ok (.goto 8, 3) := by decide +kernel
theorem dX7_image_36 : decode cX7_image 36 = .ok (.iconst 0, 1) := by decide +kernel
theorem dX7_image_37 : decode cX7_image 37 = .ok (.goto 4, 3) := by decide +kernel
theorem dX7_image_40 : decode cX7_image 40 = .ok (.iconst (-1), 1) := by decide +kernel
theorem dX7_image_41 : decode cX7_image 41 = .ok (.ireturn, 1) := by decide +kernel
theorem dX7_worst_0 : decode cX7_worst 0 = .ok (.aload_n 0, 1) := by decide +kernel
theorem dX7_worst_1 : decode cX7_worst 1 = .ok (.iload_n 1, 1) := by decide +kernel
theorem dX7_worst_2 : decode cX7_worst 2 = .ok (.invokevirtual 83, 3) := by decide +kernel
theorem dX7_worst_5 : decode cX7_worst 5 = .ok (.ifCond .ne 5, 3) := by decide +kernel
theorem dX7_worst_8 : decode cX7_worst 8 = .ok (.iconst (-1), 1) := by decide +kernel
theorem dX7_worst_9 : decode cX7_worst 9 = .ok (.ireturn, 1) := by decide +kernel
theorem dX7_worst_10 : decode cX7_worst 10 = .ok (.aload_n 0, 1) := by decide +kernel
theorem dX7_worst_11 : decode cX7_worst 11 = .ok (.iload_n 1, 1) := by decide +kernel
theorem dX7_worst_12 : decode cX7_worst 12 = .ok (.aload_n 0, 1) := by decide +kernel
theorem dX7_worst_13 : decode cX7_worst 13 = .ok (.getfield 16, 3) := by decide +kernel
theorem dX7_worst_16 : decode cX7_worst 16 = .ok (.iconst (-1), 1) := by decide +kernel
theorem dX7_worst_17 : decode cX7_worst 17 = .ok (.invokevirtual 111, 3) := by decide +kernel
theorem dX7_worst_20 : decode cX7_worst 20 = .ok (.istore_n 2, 1) := by decide +kernel
theorem dX7_worst_21 : decode cX7_worst 21 = .ok (.bipush (-4), 2) := by decide +kernel
theorem dX7_worst_23 : decode cX7_worst 23 = .ok (.istore_n 3, 1) := by decide +kernel
theorem dX7_worst_24 : decode cX7_worst 24 = .ok (.iconst 0, 1) := by decide +kernel
theorem dX7_worst_25 : decode cX7_worst 25 = .ok (.istore 4, 2) := by decide +kernel
theorem dX7_worst_27 : decode cX7_worst 27 = .ok (.iconst 0, 1) := by decide +kernel
theorem dX7_worst_28 : decode cX7_worst 28 = .ok (.istore 5, 2) := by decide +kernel
theorem dX7_worst_30 : decode cX7_worst 30 = .ok (.iload 5, 2) := by decide +kernel
theorem dX7_worst_32 : decode cX7_worst 32 = .ok (.iload_n 2, 1) := by decide +kernel
theorem dX7_worst_33 : decode cX7_worst 33 = .ok (.if_icmp .ge 44, 3) := by decide +kernel
theorem dX7_worst_36 : decode cX7_worst 36 = .ok (.aload_n 0, 1) := by decide +kernel
theorem dX7_worst_37 : decode cX7_worst 37 = .ok (.iload_n 1, 1) := by decide +kernel
theorem dX7_worst_38 : decode cX7_worst 38 = .ok (.aload_n 0, 1) := by decide +kernel
theorem dX7_worst_39 : decode cX7_worst 39 = .ok (.getfield 16, 3) := by decide +kernel
theorem dX7_worst_42 : decode cX7_worst 42 = .ok (.iload 5, 2) := by decide +kernel
theorem dX7_worst_44 : decode cX7_worst 44 = .ok (.invokevirtual 111, 3) := by decide +kernel
theorem dX7_worst_47 : decode cX7_worst 47 = .ok (.istore 6, 2) := by decide +kernel
theorem dX7_worst_49 : decode cX7_worst 49 = .ok (.iload_n 3, 1) := by decide +kernel
theorem dX7_worst_50 : decode cX7_worst 50 = .ok (.ifCond .lt 12, 3) := by decide +kernel
theorem dX7_worst_53 : decode cX7_worst 53 = .ok (.aload_n 0, 1) := by decide +kernel
theorem dX7_worst_54 : decode cX7_worst 54 = .ok (.invokevirtual 115, 3) := by decide +kernel
theorem dX7_worst_57 : decode cX7_worst 57 = .ok (.iload 4, 2) := by decide +kernel
theorem dX7_worst_59 : decode cX7_worst 59 = .ok (.if_icmp .le 12, 3) := by decide +kernel
theorem dX7_worst_62 : decode cX7_worst 62 = .ok (.iload 5, 2) := by decide +kernel
theorem dX7_worst_64 : decode cX7_worst 64 = .ok (.istore_n 3, 1) := by decide +kernel
theorem dX7_worst_65 : decode cX7_worst 65 = .ok (.aload_n 0, 1) := by decide +kernel
theorem dX7_worst_66 : decode cX7_worst 66 = .ok (.invokevirtual 115, 3) := by decide +kernel
theorem dX7_worst_69 : decode cX7_worst 69 = .ok (.istore 4, 2) := by decide +kernel
theorem dX7_worst_71 : decode cX7_worst 71 = .ok (.iinc 5 1, 3) := by decide +kernel
theorem dX7_worst_74 : decode cX7_worst 74 = .ok (.goto (-44), 3) := by decide +kernel
theorem dX7_worst_77 : decode cX7_worst 77 = .ok (.iload_n 3, 1) := by decide +kernel
theorem dX7_worst_78 : decode cX7_worst 78 = .ok (.ireturn, 1) := by decide +kernel
theorem dX7_birdiesOf_0 : decode cX7_birdiesOf 0 = .ok (.iconst 0, 1) := by decide +kernel
theorem dX7_birdiesOf_1 : decode cX7_birdiesOf 1 = .ok (.istore_n 2, 1) := by decide +kernel
theorem dX7_birdiesOf_2 : decode cX7_birdiesOf 2 = .ok (.iconst 0, 1) := by decide +kernel
theorem dX7_birdiesOf_3 : decode cX7_birdiesOf 3 = .ok (.istore_n 3, 1) := by decide +kernel
theorem dX7_birdiesOf_4 : decode cX7_birdiesOf 4 = .ok (.iload_n 3, 1) := by decide +kernel
theorem dX7_birdiesOf_5 : decode cX7_birdiesOf 5 = .ok (.aload_n 0, 1) := by decide +kernel
theorem dX7_birdiesOf_6 : decode cX7_birdiesOf 6 = .ok (.getfield 72, 3) := by decide +kernel
theorem dX7_birdiesOf_9 : decode cX7_birdiesOf 9 = .ok (.if_icmp .ge 58, 3) := by decide +kernel
theorem dX7_birdiesOf_12 : decode cX7_birdiesOf 12 = .ok (.iconst 2, 1) := by decide +kernel
theorem dX7_birdiesOf_13 : decode cX7_birdiesOf 13 = .ok (.istore 4, 2) := by decide +kernel
theorem dX7_birdiesOf_15 : decode cX7_birdiesOf 15 = .ok (.iload 4, 2) := by decide +kernel
theorem dX7_birdiesOf_17 : decode cX7_birdiesOf 17 = .ok (.aload_n 0, 1) := by decide +kernel
theorem dX7_birdiesOf_18 : decode cX7_birdiesOf 18 = .ok (.getfield 23, 3) := by decide +kernel
theorem dX7_birdiesOf_21 : decode cX7_birdiesOf 21 = .ok (.iconst 3, 1) := by decide +kernel
theorem dX7_birdiesOf_22 : decode cX7_birdiesOf 22 = .ok (.iadd, 1) := by decide +kernel
theorem dX7_birdiesOf_23 : decode cX7_birdiesOf 23 = .ok (.if_icmp .gt 38, 3) := by decide +kernel
theorem dX7_birdiesOf_26 : decode cX7_birdiesOf 26 = .ok (.iload_n 2, 1) := by decide +kernel
theorem dX7_birdiesOf_27 : decode cX7_birdiesOf 27 = .ok (.iload 4, 2) := by decide +kernel
theorem dX7_birdiesOf_29 : decode cX7_birdiesOf 29 = .ok (.iload_n 1, 1) := by decide +kernel
theorem dX7_birdiesOf_30 : decode cX7_birdiesOf 30 = .ok (.imul, 1) := by decide +kernel
theorem dX7_birdiesOf_31 : decode cX7_birdiesOf 31 = .ok (.aload_n 0, 1) := by decide +kernel
theorem dX7_birdiesOf_32 : decode cX7_birdiesOf 32 = .ok (.getfield 9, 3) := by decide +kernel
theorem dX7_birdiesOf_35 : decode cX7_birdiesOf 35 = .ok (.iload_n 3, 1) := by decide +kernel
theorem dX7_birdiesOf_36 : decode cX7_birdiesOf 36 = .ok (.iaload, 1) := by decide +kernel
theorem dX7_birdiesOf_37 : decode cX7_birdiesOf 37 = .ok (.isub, 1) := by decide +kernel
theorem dX7_birdiesOf_38 : decode cX7_birdiesOf 38 = .ok (.invokestatic 91, 3) := by decide +kernel
theorem dX7_birdiesOf_41 : decode cX7_birdiesOf 41 = .ok (.aload_n 0, 1) := by decide +kernel
theorem dX7_birdiesOf_42 : decode cX7_birdiesOf 42 = .ok (.getfield 26, 3) := by decide +kernel
theorem dX7_birdiesOf_45 : decode cX7_birdiesOf 45 = .ok (.if_icmp .gt 7, 3) := by decide +kernel
theorem dX7_birdiesOf_48 : decode cX7_birdiesOf 48 = .ok (.iconst 1, 1) := by decide +kernel
theorem dX7_birdiesOf_49 : decode cX7_birdiesOf 49 = .ok (.goto 4, 3) := by decide +kernel
theorem dX7_birdiesOf_52 : decode cX7_birdiesOf 52 = .ok (.iconst 0, 1) := by decide +kernel
theorem dX7_birdiesOf_53 : decode cX7_birdiesOf 53 = .ok (.iadd, 1) := by decide +kernel
theorem dX7_birdiesOf_54 : decode cX7_birdiesOf 54 = .ok (.istore_n 2, 1) := by decide +kernel
theorem dX7_birdiesOf_55 : decode cX7_birdiesOf 55 = .ok (.iinc 4 1, 3) := by decide +kernel
theorem dX7_birdiesOf_58 : decode cX7_birdiesOf 58 = .ok (.goto (-43), 3) := by decide +kernel
theorem dX7_birdiesOf_61 : decode cX7_birdiesOf 61 = .ok (.iinc 3 1, 3) := by decide +kernel
theorem dX7_birdiesOf_64 : decode cX7_birdiesOf 64 = .ok (.goto (-60), 3) := by decide +kernel
theorem dX7_birdiesOf_67 : decode cX7_birdiesOf 67 = .ok (.iload_n 2, 1) := by decide +kernel
theorem dX7_birdiesOf_68 : decode cX7_birdiesOf 68 = .ok (.ireturn, 1) := by decide +kernel
theorem dX7_birdies_0 : decode cX7_birdies 0 = .ok (.aload_n 0, 1) := by decide +kernel
theorem dX7_birdies_1 : decode cX7_birdies 1 = .ok (.aload_n 0, 1) := by decide +kernel
theorem dX7_birdies_2 : decode cX7_birdies 2 = .ok (.getfield 16, 3) := by decide +kernel
theorem dX7_birdies_5 : decode cX7_birdies 5 = .ok (.invokevirtual 119, 3) := by decide +kernel
theorem dX7_birdies_8 : decode cX7_birdies 8 = .ok (.ireturn, 1) := by decide +kernel
theorem dX7_loadOf_0 : decode cX7_loadOf 0 = .ok (.bipush 10, 2) := by decide +kernel
theorem dX7_loadOf_2 : decode cX7_loadOf 2 = .ok (.aload_n 0, 1) := by decide +kernel
theorem dX7_loadOf_3 : decode cX7_loadOf 3 = .ok (.iload_n 1, 1) := by decide +kernel
theorem dX7_loadOf_4 : decode cX7_loadOf 4 = .ok (.invokevirtual 119, 3) := by decide +kernel
theorem dX7_loadOf_7 : decode cX7_loadOf 7 = .ok (.imul, 1) := by decide +kernel
theorem dX7_loadOf_8 : decode cX7_loadOf 8 = .ok (.istore_n 2, 1) := by decide +kernel
theorem dX7_loadOf_9 : decode cX7_loadOf 9 = .ok (.iconst 0, 1) := by decide +kernel
theorem dX7_loadOf_10 : decode cX7_loadOf 10 = .ok (.istore_n 3, 1) := by decide +kernel
theorem dX7_loadOf_11 : decode cX7_loadOf 11 = .ok (.iload_n 3, 1) := by decide +kernel
theorem dX7_loadOf_12 : decode cX7_loadOf 12 = .ok (.aload_n 0, 1) := by decide +kernel
theorem dX7_loadOf_13 : decode cX7_loadOf 13 = .ok (.getfield 72, 3) := by decide +kernel
theorem dX7_loadOf_16 : decode cX7_loadOf 16 = .ok (.if_icmp .ge 153, 3) := by decide +kernel
theorem dX7_loadOf_19 : decode cX7_loadOf 19 = .ok (.iload_n 2, 1) := by decide +kernel
theorem dX7_loadOf_20 : decode cX7_loadOf 20 = .ok (.aload_n 0, 1) := by decide +kernel
theorem dX7_loadOf_21 : decode cX7_loadOf 21 = .ok (.iload_n 3, 1) := by decide +kernel
theorem dX7_loadOf_22 : decode cX7_loadOf 22 = .ok (.iload_n 1, 1) := by decide +kernel
theorem dX7_loadOf_23 : decode cX7_loadOf 23 = .ok (.invokevirtual 86, 3) := by decide +kernel
theorem dX7_loadOf_26 : decode cX7_loadOf 26 = .ok (.ifCond .gt 8, 3) := by decide +kernel
theorem dX7_loadOf_29 : decode cX7_loadOf 29 = .ok (.bipush 100, 2) := by decide +kernel
theorem dX7_loadOf_31 : decode cX7_loadOf 31 = .ok (.goto 4, 3) := by decide +kernel
theorem dX7_loadOf_34 : decode cX7_loadOf 34 = .ok (.iconst 0, 1) := by decide +kernel
theorem dX7_loadOf_35 : decode cX7_loadOf 35 = .ok (.iadd, 1) := by decide +kernel
theorem dX7_loadOf_36 : decode cX7_loadOf 36 = .ok (.istore_n 2, 1) := by decide +kernel
theorem dX7_loadOf_37 : decode cX7_loadOf 37 = .ok (.iconst 0, 1) := by decide +kernel
theorem dX7_loadOf_38 : decode cX7_loadOf 38 = .ok (.istore 4, 2) := by decide +kernel
theorem dX7_loadOf_40 : decode cX7_loadOf 40 = .ok (.iload 4, 2) := by decide +kernel
theorem dX7_loadOf_42 : decode cX7_loadOf 42 = .ok (.aload_n 0, 1) := by decide +kernel
theorem dX7_loadOf_43 : decode cX7_loadOf 43 = .ok (.getfield 72, 3) := by decide +kernel
theorem dX7_loadOf_46 : decode cX7_loadOf 46 = .ok (.if_icmp .ge 117, 3) := by decide +kernel
theorem dX7_loadOf_49 : decode cX7_loadOf 49 = .ok (.iconst 1, 1) := by decide +kernel
theorem dX7_loadOf_50 : decode cX7_loadOf 50 = .ok (.istore 5, 2) := by decide +kernel
theorem dX7_loadOf_52 : decode cX7_loadOf 52 = .ok (.iload 5, 2) := by decide +kernel
theorem dX7_loadOf_54 : decode cX7_loadOf 54 = .ok (.aload_n 0, 1) := by decide +kernel
theorem dX7_loadOf_55 : decode cX7_loadOf 55 = .ok (.getfield 23, 3) := by decide +kernel
theorem dX7_loadOf_58 : decode cX7_loadOf 58 = .ok (.if_icmp .gt 99, 3) := by decide +kernel
theorem dX7_loadOf_61 : decode cX7_loadOf 61 = .ok (.iconst 1, 1) := by decide +kernel
theorem dX7_loadOf_62 : decode cX7_loadOf 62 = .ok (.istore 6, 2) := by decide +kernel
theorem dX7_loadOf_64 : decode cX7_loadOf 64 = .ok (.iload 6, 2) := by decide +kernel
theorem dX7_loadOf_66 : decode cX7_loadOf 66 = .ok (.aload_n 0, 1) := by decide +kernel
theorem dX7_loadOf_67 : decode cX7_loadOf 67 = .ok (.getfield 23, 3) := by decide +kernel
theorem dX7_loadOf_70 : decode cX7_loadOf 70 = .ok (.if_icmp .gt 81, 3) := by decide +kernel
theorem dX7_loadOf_73 : decode cX7_loadOf 73 = .ok (.iload_n 2, 1) := by decide +kernel
theorem dX7_loadOf_74 : decode cX7_loadOf 74 = .ok (.aload_n 0, 1) := by decide +kernel
theorem dX7_loadOf_75 : decode cX7_loadOf 75 = .ok (.iload_n 3, 1) := by decide +kernel
theorem dX7_loadOf_76 : decode cX7_loadOf 76 = .ok (.iload_n 1, 1) := by decide +kernel
theorem dX7_loadOf_77 : decode cX7_loadOf 77 = .ok (.iload 4, 2) := by decide +kernel
theorem dX7_loadOf_79 : decode cX7_loadOf 79 = .ok (.iload 5, 2) := by decide +kernel
theorem dX7_loadOf_81 : decode cX7_loadOf 81 = .ok (.iload 6, 2) := by decide +kernel
theorem dX7_loadOf_83 : decode cX7_loadOf 83 = .ok (.iconst 1, 1) := by decide +kernel
theorem dX7_loadOf_84 : decode cX7_loadOf 84 = .ok (.invokevirtual 95, 3) := by decide +kernel
theorem dX7_loadOf_87 : decode cX7_loadOf 87 = .ok (.ifCond .eq 19, 3) := by decide +kernel
theorem dX7_loadOf_90 : decode cX7_loadOf 90 = .ok (.aload_n 0, 1) := by decide +kernel
theorem dX7_loadOf_91 : decode cX7_loadOf 91 = .ok (.getfield 13, 3) := by decide +kernel
theorem dX7_loadOf_94 : decode cX7_loadOf 94 = .ok (.iload 4, 2) := by decide +kernel
theorem dX7_loadOf_96 : decode cX7_loadOf 96 = .ok (.iaload, 1) := by decide +kernel
theorem dX7_loadOf_97 : decode cX7_loadOf 97 = .ok (.iload 5, 2) := by decide +kernel
theorem dX7_loadOf_99 : decode cX7_loadOf 99 = .ok (.iload 6, 2) := by decide +kernel
theorem dX7_loadOf_101 : decode cX7_loadOf 101 = .ok (.imul, 1) := by decide +kernel
theorem dX7_loadOf_102 : decode cX7_loadOf 102 = .ok (.idiv, 1) := by decide +kernel
theorem dX7_loadOf_103 : decode cX7_loadOf 103 = .ok (.goto 4, 3) := by decide +kernel
theorem dX7_loadOf_106 : decode cX7_loadOf 106 = .ok (.iconst 0, 1) := by decide +kernel
theorem dX7_loadOf_107 : decode cX7_loadOf 107 = .ok (.iadd, 1) := by decide +kernel
theorem dX7_loadOf_108 : decode cX7_loadOf 108 = .ok (.istore_n 2, 1) := by decide +kernel
theorem dX7_loadOf_109 : decode cX7_loadOf 109 = .ok (.iload_n 2, 1) := by decide +kernel
theorem dX7_loadOf_110 : decode cX7_loadOf 110 = .ok (.aload_n 0, 1) := by decide +kernel
theorem dX7_loadOf_111 : decode cX7_loadOf 111 = .ok (.iload_n 3, 1) := by decide +kernel
theorem dX7_loadOf_112 : decode cX7_loadOf 112 = .ok (.iload_n 1, 1) := by decide +kernel
theorem dX7_loadOf_113 : decode cX7_loadOf 113 = .ok (.iload 4, 2) := by decide +kernel
theorem dX7_loadOf_115 : decode cX7_loadOf 115 = .ok (.iload 5, 2) := by decide +kernel
theorem dX7_loadOf_117 : decode cX7_loadOf 117 = .ok (.iload 6, 2) := by decide +kernel
theorem dX7_loadOf_119 : decode cX7_loadOf 119 = .ok (.iconst 0, 1) := by decide +kernel
theorem dX7_loadOf_120 : decode cX7_loadOf 120 = .ok (.invokevirtual 95, 3) := by decide +kernel
theorem dX7_loadOf_123 : decode cX7_loadOf 123 = .ok (.ifCond .eq 19, 3) := by decide +kernel
theorem dX7_loadOf_126 : decode cX7_loadOf 126 = .ok (.aload_n 0, 1) := by decide +kernel
theorem dX7_loadOf_127 : decode cX7_loadOf 127 = .ok (.getfield 13, 3) := by decide +kernel
theorem dX7_loadOf_130 : decode cX7_loadOf 130 = .ok (.iload 4, 2) := by decide +kernel
theorem dX7_loadOf_132 : decode cX7_loadOf 132 = .ok (.iaload, 1) := by decide +kernel
theorem dX7_loadOf_133 : decode cX7_loadOf 133 = .ok (.iload 5, 2) := by decide +kernel
theorem dX7_loadOf_135 : decode cX7_loadOf 135 = .ok (.iload 6, 2) := by decide +kernel
theorem dX7_loadOf_137 : decode cX7_loadOf 137 = .ok (.imul, 1) := by decide +kernel
theorem dX7_loadOf_138 : decode cX7_loadOf 138 = .ok (.idiv, 1) := by decide +kernel
theorem dX7_loadOf_139 : decode cX7_loadOf 139 = .ok (.goto 4, 3) := by decide +kernel
theorem dX7_loadOf_142 : decode cX7_loadOf 142 = .ok (.iconst 0, 1) := by decide +kernel
theorem dX7_loadOf_143 : decode cX7_loadOf 143 = .ok (.iadd, 1) := by decide +kernel
theorem dX7_loadOf_144 : decode cX7_loadOf 144 = .ok (.istore_n 2, 1) := by decide +kernel
theorem dX7_loadOf_145 : decode cX7_loadOf 145 = .ok (.iinc 6 1, 3) := by decide +kernel
theorem dX7_loadOf_148 : decode cX7_loadOf 148 = .ok (.goto (-84), 3) := by decide +kernel
theorem dX7_loadOf_151 : decode cX7_loadOf 151 = .ok (.iinc 5 1, 3) := by decide +kernel
theorem dX7_loadOf_154 : decode cX7_loadOf 154 = .ok (.goto (-102), 3) := by decide +kernel
theorem dX7_loadOf_157 : decode cX7_loadOf 157 = .ok (.iinc 4 1, 3) := by decide +kernel
theorem dX7_loadOf_160 : decode cX7_loadOf 160 = .ok (.goto (-120), 3) := by decide +kernel
theorem dX7_loadOf_163 : decode cX7_loadOf 163 = .ok (.iinc 3 1, 3) := by decide +kernel
theorem dX7_loadOf_166 : decode cX7_loadOf 166 = .ok (.goto (-155), 3) := by decide +kernel
theorem dX7_loadOf_169 : decode cX7_loadOf 169 = .ok (.iload_n 2, 1) := by decide +kernel
theorem dX7_loadOf_170 : decode cX7_loadOf 170 = .ok (.ireturn, 1) := by decide +kernel
theorem dX7_load_0 : decode cX7_load 0 = .ok (.iload_n 1, 1) := by decide +kernel
theorem dX7_load_1 : decode cX7_load 1 = .ok (.invokestatic 79, 3) := by decide +kernel
theorem dX7_load_4 : decode cX7_load 4 = .ok (.ifCond .eq 11, 3) := by decide +kernel
theorem dX7_load_7 : decode cX7_load 7 = .ok (.aload_n 0, 1) := by decide +kernel
theorem dX7_load_8 : decode cX7_load 8 = .ok (.iload_n 1, 1) := by decide +kernel
theorem dX7_load_9 : decode cX7_load 9 = .ok (.invokevirtual 122, 3) := by decide +kernel
theorem dX7_load_12 : decode cX7_load 12 = .ok (.goto 4, 3) := by decide +kernel
theorem dX7_load_15 : decode cX7_load 15 = .ok (.iconst (-1), 1) := by decide +kernel
theorem dX7_load_16 : decode cX7_load 16 = .ok (.ireturn, 1) := by decide +kernel
theorem dX7_best_0 : decode cX7_best 0 = .ok (.iload_n 1, 1) := by decide +kernel
theorem dX7_best_1 : decode cX7_best 1 = .ok (.invokestatic 79, 3) := by decide +kernel
theorem dX7_best_4 : decode cX7_best 4 = .ok (.ifCond .eq 37, 3) := by decide +kernel
theorem dX7_best_7 : decode cX7_best 7 = .ok (.iload_n 2, 1) := by decide +kernel
theorem dX7_best_8 : decode cX7_best 8 = .ok (.iconst 1, 1) := by decide +kernel
theorem dX7_best_9 : decode cX7_best 9 = .ok (.bipush 99, 2) := by decide +kernel
theorem dX7_best_11 : decode cX7_best 11 = .ok (.invokestatic 75, 3) := by decide +kernel
theorem dX7_best_14 : decode cX7_best 14 = .ok (.ifCond .eq 27, 3) := by decide +kernel
theorem dX7_best_17 : decode cX7_best 17 = .ok (.iload_n 3, 1) := by decide +kernel
theorem dX7_best_18 : decode cX7_best 18 = .ok (.iconst 1, 1) := by decide +kernel
theorem dX7_best_19 : decode cX7_best 19 = .ok (.sipush 200, 3) := by decide +kernel
theorem dX7_best_22 : decode cX7_best 22 = .ok (.invokestatic 75, 3) := by decide +kernel
theorem dX7_best_25 : decode cX7_best 25 = .ok (.ifCond .eq 16, 3) := by decide +kernel
theorem dX7_best_28 : decode cX7_best 28 = .ok (.iload_n 1, 1) := by decide +kernel
theorem dX7_best_29 : decode cX7_best 29 = .ok (.iload_n 2, 1) := by decide +kernel
theorem dX7_best_30 : decode cX7_best 30 = .ok (.iload_n 3, 1) := by decide +kernel
theorem dX7_best_31 : decode cX7_best 31 = .ok (.iconst 1, 1) := by decide +kernel
theorem dX7_best_32 : decode cX7_best 32 = .ok (.isub, 1) := by decide +kernel
theorem dX7_best_33 : decode cX7_best 33 = .ok (.imul, 1) := by decide +kernel
theorem dX7_best_34 : decode cX7_best 34 = .ok (.iadd, 1) := by decide +kernel
theorem dX7_best_35 : decode cX7_best 35 = .ok (.sipush 900, 3) := by decide +kernel
theorem dX7_best_38 : decode cX7_best 38 = .ok (.if_icmp .le 5, 3) := by decide +kernel
theorem dX7_best_41 : decode cX7_best 41 = .ok (.iconst (-1), 1) := by decide +kernel
theorem dX7_best_42 : decode cX7_best 42 = .ok (.ireturn, 1) := by decide +kernel
theorem dX7_best_43 : decode cX7_best 43 = .ok (.iload_n 1, 1) := by decide +kernel
theorem dX7_best_44 : decode cX7_best 44 = .ok (.istore 4, 2) := by decide +kernel
theorem dX7_best_46 : decode cX7_best 46 = .ok (.aload_n 0, 1) := by decide +kernel
theorem dX7_best_47 : decode cX7_best 47 = .ok (.iload_n 1, 1) := by decide +kernel
theorem dX7_best_48 : decode cX7_best 48 = .ok (.invokevirtual 122, 3) := by decide +kernel
theorem dX7_best_51 : decode cX7_best 51 = .ok (.istore 5, 2) := by decide +kernel
theorem dX7_best_53 : decode cX7_best 53 = .ok (.iconst 1, 1) := by decide +kernel
theorem dX7_best_54 : decode cX7_best 54 = .ok (.istore 6, 2) := by decide +kernel
theorem dX7_best_56 : decode cX7_best 56 = .ok (.iload 6, 2) := by decide +kernel
theorem dX7_best_58 : decode cX7_best 58 = .ok (.iload_n 3, 1) := by decide +kernel
theorem dX7_best_59 : decode cX7_best 59 = .ok (.if_icmp .ge 40, 3) := by decide +kernel
theorem dX7_best_62 : decode cX7_best 62 = .ok (.aload_n 0, 1) := by decide +kernel
theorem dX7_best_63 : decode cX7_best 63 = .ok (.iload_n 1, 1) := by decide +kernel
theorem dX7_best_64 : decode cX7_best 64 = .ok (.iload_n 2, 1) := by decide +kernel
theorem dX7_best_65 : decode cX7_best 65 = .ok (.iload 6, 2) := by decide +kernel
theorem dX7_best_67 : decode cX7_best 67 = .ok (.imul, 1) := by decide +kernel
theorem dX7_best_68 : decode cX7_best 68 = .ok (.iadd, 1) := by decide +kernel
theorem dX7_best_69 : decode cX7_best 69 = .ok (.invokevirtual 122, 3) := by decide +kernel
theorem dX7_best_72 : decode cX7_best 72 = .ok (.istore 7, 2) := by decide +kernel
theorem dX7_best_74 : decode cX7_best 74 = .ok (.iload 7, 2) := by decide +kernel
theorem dX7_best_76 : decode cX7_best 76 = .ok (.iload 5, 2) := by decide +kernel
theorem dX7_best_78 : decode cX7_best 78 = .ok (.if_icmp .ge 15, 3) := by decide +kernel
theorem dX7_best_81 : decode cX7_best 81 = .ok (.iload_n 1, 1) := by decide +kernel
theorem dX7_best_82 : decode cX7_best 82 = .ok (.iload_n 2, 1) := by decide +kernel
theorem dX7_best_83 : decode cX7_best 83 = .ok (.iload 6, 2) := by decide +kernel
theorem dX7_best_85 : decode cX7_best 85 = .ok (.imul, 1) := by decide +kernel
theorem dX7_best_86 : decode cX7_best 86 = .ok (.iadd, 1) := by decide +kernel
theorem dX7_best_87 : decode cX7_best 87 = .ok (.istore 4, 2) := by decide +kernel
theorem dX7_best_89 : decode cX7_best 89 = .ok (.iload 7, 2) := by decide +kernel
theorem dX7_best_91 : decode cX7_best 91 = .ok (.istore 5, 2) := by decide +kernel
theorem dX7_best_93 : decode cX7_best 93 = .ok (.iinc 6 1, 3) := by decide +kernel
theorem dX7_best_96 : decode cX7_best 96 = .ok (.goto (-40), 3) := by decide +kernel
theorem dX7_best_99 : decode cX7_best 99 = .ok (.iload 4, 2) := by decide +kernel
theorem dX7_best_101 : decode cX7_best 101 = .ok (.ireturn, 1) := by decide +kernel
theorem dX7_isPlace_0 : decode cX7_isPlace 0 = .ok (.iload_n 0, 1) := by decide +kernel
theorem dX7_isPlace_1 : decode cX7_isPlace 1 = .ok (.iconst 0, 1) := by decide +kernel
theorem dX7_isPlace_2 : decode cX7_isPlace 2 = .ok (.bipush 100, 2) := by decide +kernel
theorem dX7_isPlace_4 : decode cX7_isPlace 4 = .ok (.invokestatic 75, 3) := by decide +kernel
theorem dX7_isPlace_7 : decode cX7_isPlace 7 = .ok (.ireturn, 1) := by decide +kernel
theorem dX7_gang_0 : decode cX7_gang 0 = .ok (.iload_n 1, 1) := by decide +kernel
theorem dX7_gang_1 : decode cX7_gang 1 = .ok (.bipush 10, 2) := by decide +kernel
theorem dX7_gang_3 : decode cX7_gang 3 = .ok (.sipush 999, 3) := by decide +kernel
theorem dX7_gang_6 : decode cX7_gang 6 = .ok (.invokestatic 75, 3) := by decide +kernel
theorem dX7_gang_9 : decode cX7_gang 9 = .ok (.ifCond .eq 15, 3) := by decide +kernel
theorem dX7_gang_12 : decode cX7_gang 12 = .ok (.iload_n 2, 1) := by decide +kernel
theorem dX7_gang_13 : decode cX7_gang 13 = .ok (.bipush 10, 2) := by decide +kernel
theorem dX7_gang_15 : decode cX7_gang 15 = .ok (.sipush 999, 3) := by decide +kernel
theorem dX7_gang_18 : decode cX7_gang 18 = .ok (.invokestatic 75, 3) := by decide +kernel
theorem dX7_gang_21 : decode cX7_gang 21 = .ok (.ifCond .ne 5, 3) := by decide +kernel
theorem dX7_gang_24 : decode cX7_gang 24 = .ok (.iconst (-1), 1) := by decide +kernel
theorem dX7_gang_25 : decode cX7_gang 25 = .ok (.ireturn, 1) := by decide +kernel
theorem dX7_gang_26 : decode cX7_gang 26 = .ok (.aload_n 0, 1) := by decide +kernel
theorem dX7_gang_27 : decode cX7_gang 27 = .ok (.iload_n 1, 1) := by decide +kernel
theorem dX7_gang_28 : decode cX7_gang 28 = .ok (.putfield 29, 3) := by decide +kernel
theorem dX7_gang_31 : decode cX7_gang 31 = .ok (.aload_n 0, 1) := by decide +kernel
theorem dX7_gang_32 : decode cX7_gang 32 = .ok (.iload_n 2, 1) := by decide +kernel
theorem dX7_gang_33 : decode cX7_gang 33 = .ok (.putfield 32, 3) := by decide +kernel
theorem dX7_gang_36 : decode cX7_gang 36 = .ok (.iconst 1, 1) := by decide +kernel
theorem dX7_gang_37 : decode cX7_gang 37 = .ok (.ireturn, 1) := by decide +kernel
theorem dX7_isPart_0 : decode cX7_isPart 0 = .ok (.iload_n 0, 1) := by decide +kernel
theorem dX7_isPart_1 : decode cX7_isPart 1 = .ok (.iconst 0, 1) := by decide +kernel
theorem dX7_isPart_2 : decode cX7_isPart 2 = .ok (.iconst 1, 1) := by decide +kernel
theorem dX7_isPart_3 : decode cX7_isPart 3 = .ok (.invokestatic 75, 3) := by decide +kernel
theorem dX7_isPart_6 : decode cX7_isPart 6 = .ok (.ifCond .eq 13, 3) := by decide +kernel
theorem dX7_isPart_9 : decode cX7_isPart 9 = .ok (.iload_n 1, 1) := by decide +kernel
theorem dX7_isPart_10 : decode cX7_isPart 10 = .ok (.iconst 0, 1) := by decide +kernel
theorem dX7_isPart_11 : decode cX7_isPart 11 = .ok (.bipush 99, 2) := by decide +kernel
theorem dX7_isPart_13 : decode cX7_isPart 13 = .ok (.invokestatic 75, 3) := by decide +kernel
theorem dX7_isPart_16 : decode cX7_isPart 16 = .ok (.ifCond .ne 23, 3) := by decide +kernel
theorem dX7_isPart_19 : decode cX7_isPart 19 = .ok (.iload_n 0, 1) := by decide +kernel
theorem dX7_isPart_20 : decode cX7_isPart 20 = .ok (.iconst 2, 1) := by decide +kernel
theorem dX7_isPart_21 : decode cX7_isPart 21 = .ok (.iconst 4, 1) := by decide +kernel
theorem dX7_isPart_22 : decode cX7_isPart 22 = .ok (.invokestatic 75, 3) := by decide +kernel
theorem dX7_isPart_25 : decode cX7_isPart 25 = .ok (.ifCond .eq 18, 3) := by decide +kernel
theorem dX7_isPart_28 : decode cX7_isPart 28 = .ok (.iload_n 1, 1) := by decide +kernel
theorem dX7_isPart_29 : decode cX7_isPart 29 = .ok (.iconst 1, 1) := by decide +kernel
theorem dX7_isPart_30 : decode cX7_isPart 30 = .ok (.sipush 9999, 3) := by decide +kernel
theorem dX7_isPart_33 : decode cX7_isPart 33 = .ok (.invokestatic 75, 3) := by decide +kernel
theorem dX7_isPart_36 : decode cX7_isPart 36 = .ok (.ifCond .eq 7, 3) := by decide +kernel
theorem dX7_isPart_39 : decode cX7_isPart 39 = .ok (.iconst 1, 1) := by decide +kernel
theorem dX7_isPart_40 : decode cX7_isPart 40 = .ok (.goto 4, 3) := by decide +kernel
theorem dX7_isPart_43 : decode cX7_isPart 43 = .ok (.iconst 0, 1) := by decide +kernel
theorem dX7_isPart_44 : decode cX7_isPart 44 = .ok (.ireturn, 1) := by decide +kernel
theorem dX7_part_0 : decode cX7_part 0 = .ok (.iload_n 1, 1) := by decide +kernel
theorem dX7_part_1 : decode cX7_part 1 = .ok (.iload_n 2, 1) := by decide +kernel
theorem dX7_part_2 : decode cX7_part 2 = .ok (.invokestatic 125, 3) := by decide +kernel
theorem dX7_part_5 : decode cX7_part 5 = .ok (.ifCond .ne 5, 3) := by decide +kernel
theorem dX7_part_8 : decode cX7_part 8 = .ok (.iconst (-1), 1) := by decide +kernel
theorem dX7_part_9 : decode cX7_part 9 = .ok (.ireturn, 1) := by decide +kernel
theorem dX7_part_10 : decode cX7_part 10 = .ok (.aload_n 0, 1) := by decide +kernel
theorem dX7_part_11 : decode cX7_part 11 = .ok (.getfield 35, 3) := by decide +kernel
theorem dX7_part_14 : decode cX7_part 14 = .ok (.iload_n 1, 1) := by decide +kernel
