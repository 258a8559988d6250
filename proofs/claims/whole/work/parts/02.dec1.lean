theorem dX1_init_14 : decode cX1_init 14 = .ok (.iload_n 1, 1) := by decide +kernel
theorem dX1_init_15 : decode cX1_init 15 = .ok (.invokespecial 17, 3) := by decide +kernel
theorem dX1_init_18 : decode cX1_init 18 = .ok (.putfield 20, 3) := by decide +kernel
theorem dX1_init_21 : decode cX1_init 21 = .ok (.aload_n 0, 1) := by decide +kernel
theorem dX1_init_22 : decode cX1_init 22 = .ok (.new 15, 3) := by decide +kernel
theorem dX1_init_25 : decode cX1_init 25 = .ok (.dup, 1) := by decide +kernel
theorem dX1_init_26 : decode cX1_init 26 = .ok (.iload_n 1, 1) := by decide +kernel
theorem dX1_init_27 : decode cX1_init 27 = .ok (.invokespecial 17, 3) := by decide +kernel
theorem dX1_init_30 : decode cX1_init 30 = .ok (.putfield 24, 3) := by decide +kernel
theorem dX1_init_33 : decode cX1_init 33 = .ok (.aload_n 0, 1) := by decide +kernel
theorem dX1_init_34 : decode cX1_init 34 = .ok (.new 15, 3) := by decide +kernel
theorem dX1_init_37 : decode cX1_init 37 = .ok (.dup, 1) := by decide +kernel
theorem dX1_init_38 : decode cX1_init 38 = .ok (.iload_n 1, 1) := by decide +kernel
theorem dX1_init_39 : decode cX1_init 39 = .ok (.invokespecial 17, 3) := by decide +kernel
theorem dX1_init_42 : decode cX1_init 42 = .ok (.putfield 27, 3) := by decide +kernel
theorem dX1_init_45 : decode cX1_init 45 = .ok (.aload_n 0, 1) := by decide +kernel
theorem dX1_init_46 : decode cX1_init 46 = .ok (.new 15, 3) := by decide +kernel
theorem dX1_init_49 : decode cX1_init 49 = .ok (.dup, 1) := by decide +kernel
theorem dX1_init_50 : decode cX1_init 50 = .ok (.iload_n 1, 1) := by decide +kernel
theorem dX1_init_51 : decode cX1_init 51 = .ok (.invokespecial 17, 3) := by decide +kernel
theorem dX1_init_54 : decode cX1_init 54 = .ok (.putfield 30, 3) := by decide +kernel
theorem dX1_init_57 : decode cX1_init 57 = .ok (.return_, 1) := by decide +kernel
theorem dX1_byHalves_0 : decode cX1_byHalves 0 = .ok (.aload_n 0, 1) := by decide +kernel
theorem dX1_byHalves_1 : decode cX1_byHalves 1 = .ok (.aload_n 1, 1) := by decide +kernel
theorem dX1_byHalves_2 : decode cX1_byHalves 2 = .ok (.aload_n 2, 1) := by decide +kernel
theorem dX1_byHalves_3 : decode cX1_byHalves 3 = .ok (.invokevirtual 33, 3) := by decide +kernel
theorem dX1_byHalves_6 : decode cX1_byHalves 6 = .ok (.aload_n 0, 1) := by decide +kernel
theorem dX1_byHalves_7 : decode cX1_byHalves 7 = .ok (.getfield 27, 3) := by decide +kernel
theorem dX1_byHalves_10 : decode cX1_byHalves 10 = .ok (.getfield 37, 3) := by decide +kernel
theorem dX1_byHalves_13 : decode cX1_byHalves 13 = .ok (.ifCond .ne 8, 3) := by decide +kernel
theorem dX1_byHalves_16 : decode cX1_byHalves 16 = .ok (.aload_n 0, 1) := by decide +kernel
theorem dX1_byHalves_17 : decode cX1_byHalves 17 = .ok (.getfield 24, 3) := by decide +kernel
theorem dX1_byHalves_20 : decode cX1_byHalves 20 = .ok (.areturn, 1) := by decide +kernel
theorem dX1_byHalves_21 : decode cX1_byHalves 21 = .ok (.aload_n 0, 1) := by decide +kernel
theorem dX1_byHalves_22 : decode cX1_byHalves 22 = .ok (.getfield 24, 3) := by decide +kernel
theorem dX1_byHalves_25 : decode cX1_byHalves 25 = .ok (.getfield 37, 3) := by decide +kernel
theorem dX1_byHalves_28 : decode cX1_byHalves 28 = .ok (.ifCond .ne 8, 3) := by decide +kernel
theorem dX1_byHalves_31 : decode cX1_byHalves 31 = .ok (.aload_n 0, 1) := by decide +kernel
theorem dX1_byHalves_32 : decode cX1_byHalves 32 = .ok (.getfield 27, 3) := by decide +kernel
theorem dX1_byHalves_35 : decode cX1_byHalves 35 = .ok (.areturn, 1) := by decide +kernel
theorem dX1_byHalves_36 : decode cX1_byHalves 36 = .ok (.aload_n 0, 1) := by decide +kernel
theorem dX1_byHalves_37 : decode cX1_byHalves 37 = .ok (.getfield 24, 3) := by decide +kernel
theorem dX1_byHalves_40 : decode cX1_byHalves 40 = .ok (.invokevirtual 41, 3) := by decide +kernel
theorem dX1_byHalves_43 : decode cX1_byHalves 43 = .ok (.aload_n 0, 1) := by decide +kernel
theorem dX1_byHalves_44 : decode cX1_byHalves 44 = .ok (.getfield 27, 3) := by decide +kernel
theorem dX1_byHalves_47 : decode cX1_byHalves 47 = .ok (.invokevirtual 41, 3) := by decide +kernel
theorem dX1_byHalves_50 : decode cX1_byHalves 50 = .ok (.invokestatic 45, 3) := by decide +kernel
theorem dX1_byHalves_53 : decode cX1_byHalves 53 = .ok (.istore_n 3, 1) := by decide +kernel
theorem dX1_byHalves_54 : decode cX1_byHalves 54 = .ok (.aload_n 0, 1) := by decide +kernel
theorem dX1_byHalves_55 : decode cX1_byHalves 55 = .ok (.getfield 24, 3) := by decide +kernel
theorem dX1_byHalves_58 : decode cX1_byHalves 58 = .ok (.aload_n 0, 1) := by decide +kernel
theorem dX1_byHalves_59 : decode cX1_byHalves 59 = .ok (.getfield 24, 3) := by decide +kernel
theorem dX1_byHalves_62 : decode cX1_byHalves 62 = .ok (.aload_n 0, 1) := by decide +kernel
theorem dX1_byHalves_63 : decode cX1_byHalves 63 = .ok (.getfield 24, 3) := by decide +kernel
theorem dX1_byHalves_66 : decode cX1_byHalves 66 = .ok (.invokevirtual 41, 3) := by decide +kernel
theorem dX1_byHalves_69 : decode cX1_byHalves 69 = .ok (.invokestatic 51, 3) := by decide +kernel
theorem dX1_byHalves_72 : decode cX1_byHalves 72 = .ok (.aload_n 0, 1) := by decide +kernel
theorem dX1_byHalves_73 : decode cX1_byHalves 73 = .ok (.getfield 27, 3) := by decide +kernel
theorem dX1_byHalves_76 : decode cX1_byHalves 76 = .ok (.aload_n 0, 1) := by decide +kernel
theorem dX1_byHalves_77 : decode cX1_byHalves 77 = .ok (.getfield 27, 3) := by decide +kernel
theorem dX1_byHalves_80 : decode cX1_byHalves 80 = .ok (.aload_n 0, 1) := by decide +kernel
theorem dX1_byHalves_81 : decode cX1_byHalves 81 = .ok (.getfield 27, 3) := by decide +kernel
theorem dX1_byHalves_84 : decode cX1_byHalves 84 = .ok (.invokevirtual 41, 3) := by decide +kernel
theorem dX1_byHalves_87 : decode cX1_byHalves 87 = .ok (.invokestatic 51, 3) := by decide +kernel
theorem dX1_byHalves_90 : decode cX1_byHalves 90 = .ok (.iconst 0, 1) := by decide +kernel
theorem dX1_byHalves_91 : decode cX1_byHalves 91 = .ok (.istore 4, 2) := by decide +kernel
theorem dX1_byHalves_93 : decode cX1_byHalves 93 = .ok (.iload 4, 2) := by decide +kernel
theorem dX1_byHalves_95 : decode cX1_byHalves 95 = .ok (.ldc 57, 2) := by decide +kernel
theorem dX1_byHalves_97 : decode cX1_byHalves 97 = .ok (.if_icmp .ge 88, 3) := by decide +kernel
theorem dX1_byHalves_100 : decode cX1_byHalves 100 = .ok (.aload_n 0, 1) := by decide +kernel
theorem dX1_byHalves_101 : decode cX1_byHalves 101 = .ok (.getfield 24, 3) := by decide +kernel
theorem dX1_byHalves_104 : decode cX1_byHalves 104 = .ok (.aload_n 0, 1) := by decide +kernel
theorem dX1_byHalves_105 : decode cX1_byHalves 105 = .ok (.getfield 27, 3) := by decide +kernel
theorem dX1_byHalves_108 : decode cX1_byHalves 108 = .ok (.invokestatic 58, 3) := by decide +kernel
theorem dX1_byHalves_111 : decode cX1_byHalves 111 = .ok (.istore 5, 2) := by decide +kernel
theorem dX1_byHalves_113 : decode cX1_byHalves 113 = .ok (.iload 5, 2) := by decide +kernel
theorem dX1_byHalves_115 : decode cX1_byHalves 115 = .ok (.ifCond .ne 6, 3) := by decide +kernel
theorem dX1_byHalves_118 : decode cX1_byHalves 118 = .ok (.goto 67, 3) := by decide +kernel
theorem dX1_byHalves_121 : decode cX1_byHalves 121 = .ok (.iload 5, 2) := by decide +kernel
theorem dX1_byHalves_123 : decode cX1_byHalves 123 = .ok (.ifCond .ge 23, 3) := by decide +kernel
theorem dX1_byHalves_126 : decode cX1_byHalves 126 = .ok (.aload_n 0, 1) := by decide +kernel
theorem dX1_byHalves_127 : decode cX1_byHalves 127 = .ok (.getfield 24, 3) := by decide +kernel
theorem dX1_byHalves_130 : decode cX1_byHalves 130 = .ok (.astore 6, 2) := by decide +kernel
theorem dX1_byHalves_132 : decode cX1_byHalves 132 = .ok (.aload_n 0, 1) := by decide +kernel
theorem dX1_byHalves_133 : decode cX1_byHalves 133 = .ok (.aload_n 0, 1) := by decide +kernel
theorem dX1_byHalves_134 : decode cX1_byHalves 134 = .ok (.getfield 27, 3) := by decide +kernel
theorem dX1_byHalves_137 : decode cX1_byHalves 137 = .ok (.putfield 24, 3) := by decide +kernel
theorem dX1_byHalves_140 : decode cX1_byHalves 140 = .ok (.aload_n 0, 1) := by decide +kernel
theorem dX1_byHalves_141 : decode cX1_byHalves 141 = .ok (.aload 6, 2) := by decide +kernel
theorem dX1_byHalves_143 : decode cX1_byHalves 143 = .ok (.putfield 27, 3) := by decide +kernel
theorem dX1_byHalves_146 : decode cX1_byHalves 146 = .ok (.aload_n 0, 1) := by decide +kernel
theorem dX1_byHalves_147 : decode cX1_byHalves 147 = .ok (.getfield 24, 3) := by decide +kernel
theorem dX1_byHalves_150 : decode cX1_byHalves 150 = .ok (.aload_n 0, 1) := by decide +kernel
theorem dX1_byHalves_151 : decode cX1_byHalves 151 = .ok (.getfield 24, 3) := by decide +kernel
theorem dX1_byHalves_154 : decode cX1_byHalves 154 = .ok (.aload_n 0, 1) := by decide +kernel
theorem dX1_byHalves_155 : decode cX1_byHalves 155 = .ok (.getfield 27, 3) := by decide +kernel
theorem dX1_byHalves_158 : decode cX1_byHalves 158 = .ok (.invokestatic 62, 3) := by decide +kernel
theorem dX1_byHalves_161 : decode cX1_byHalves 161 = .ok (.aload_n 0, 1) := by decide +kernel
theorem dX1_byHalves_162 : decode cX1_byHalves 162 = .ok (.getfield 24, 3) := by decide +kernel
theorem dX1_byHalves_165 : decode cX1_byHalves 165 = .ok (.aload_n 0, 1) := by decide +kernel
theorem dX1_byHalves_166 : decode cX1_byHalves 166 = .ok (.getfield 24, 3) := by decide +kernel
theorem dX1_byHalves_169 : decode cX1_byHalves 169 = .ok (.aload_n 0, 1) := by decide +kernel
theorem dX1_byHalves_170 : decode cX1_byHalves 170 = .ok (.getfield 24, 3) := by decide +kernel
theorem dX1_byHalves_173 : decode cX1_byHalves 173 = .ok (.invokevirtual 41, 3) := by decide +kernel
theorem dX1_byHalves_176 : decode cX1_byHalves 176 = .ok (.invokestatic 51, 3) := by decide +kernel
theorem dX1_byHalves_179 : decode cX1_byHalves 179 = .ok (.iinc 4 1, 3) := by decide +kernel
theorem dX1_byHalves_182 : decode cX1_byHalves 182 = .ok (.goto (-89), 3) := by decide +kernel
theorem dX1_byHalves_185 : decode cX1_byHalves 185 = .ok (.aload_n 0, 1) := by decide +kernel
theorem dX1_byHalves_186 : decode cX1_byHalves 186 = .ok (.getfield 24, 3) := by decide +kernel
theorem dX1_byHalves_189 : decode cX1_byHalves 189 = .ok (.aload_n 0, 1) := by decide +kernel
theorem dX1_byHalves_190 : decode cX1_byHalves 190 = .ok (.getfield 24, 3) := by decide +kernel
theorem dX1_byHalves_193 : decode cX1_byHalves 193 = .ok (.iload_n 3, 1) := by decide +kernel
theorem dX1_byHalves_194 : decode cX1_byHalves 194 = .ok (.invokestatic 66, 3) := by decide +kernel
theorem dX1_byHalves_197 : decode cX1_byHalves 197 = .ok (.aload_n 0, 1) := by decide +kernel
theorem dX1_byHalves_198 : decode cX1_byHalves 198 = .ok (.getfield 24, 3) := by decide +kernel
theorem dX1_byHalves_201 : decode cX1_byHalves 201 = .ok (.areturn, 1) := by decide +kernel
theorem dX1_byQuotients_0 : decode cX1_byQuotients 0 = .ok (.aload_n 0, 1) := by decide +kernel
theorem dX1_byQuotients_1 : decode cX1_byQuotients 1 = .ok (.aload_n 1, 1) := by decide +kernel
theorem dX1_byQuotients_2 : decode cX1_byQuotients 2 = .ok (.aload_n 2, 1) := by decide +kernel
theorem dX1_byQuotients_3 : decode cX1_byQuotients 3 = .ok (.invokevirtual 33, 3) := by decide +kernel
theorem dX1_byQuotients_6 : decode cX1_byQuotients 6 = .ok (.iconst 0, 1) := by decide +kernel
theorem dX1_byQuotients_7 : decode cX1_byQuotients 7 = .ok (.istore_n 3, 1) := by decide +kernel
theorem dX1_byQuotients_8 : decode cX1_byQuotients 8 = .ok (.iload_n 3, 1) := by decide +kernel
theorem dX1_byQuotients_9 : decode cX1_byQuotients 9 = .ok (.ldc 57, 2) := by decide +kernel
theorem dX1_byQuotients_11 : decode cX1_byQuotients 11 = .ok (.if_icmp .ge 70, 3) := by decide +kernel
theorem dX1_byQuotients_14 : decode cX1_byQuotients 14 = .ok (.aload_n 0, 1) := by decide +kernel
theorem dX1_byQuotients_15 : decode cX1_byQuotients 15 = .ok (.getfield 27, 3) := by decide +kernel
theorem dX1_byQuotients_18 : decode cX1_byQuotients 18 = .ok (.getfield 37, 3) := by decide +kernel
theorem dX1_byQuotients_21 : decode cX1_byQuotients 21 = .ok (.ifCond .le 60, 3) := by decide +kernel
theorem dX1_byQuotients_24 : decode cX1_byQuotients 24 = .ok (.aload_n 0, 1) := by decide +kernel
theorem dX1_byQuotients_25 : decode cX1_byQuotients 25 = .ok (.getfield 9, 3) := by decide +kernel
theorem dX1_byQuotients_28 : decode cX1_byQuotients 28 = .ok (.aload_n 0, 1) := by decide +kernel
theorem dX1_byQuotients_29 : decode cX1_byQuotients 29 = .ok (.getfield 20, 3) := by decide +kernel
theorem dX1_byQuotients_32 : decode cX1_byQuotients 32 = .ok (.aload_n 0, 1) := by decide +kernel
theorem dX1_byQuotients_33 : decode cX1_byQuotients 33 = .ok (.getfield 30, 3) := by decide +kernel
theorem dX1_byQuotients_36 : decode cX1_byQuotients 36 = .ok (.aload_n 0, 1) := by decide +kernel
theorem dX1_byQuotients_37 : decode cX1_byQuotients 37 = .ok (.getfield 24, 3) := by decide +kernel
theorem dX1_byQuotients_40 : decode cX1_byQuotients 40 = .ok (.aload_n 0, 1) := by decide +kernel
theorem dX1_byQuotients_41 : decode cX1_byQuotients 41 = .ok (.getfield 27, 3) := by decide +kernel
theorem dX1_byQuotients_44 : decode cX1_byQuotients 44 = .ok (.invokevirtual 69, 3) := by decide +kernel
theorem dX1_byQuotients_47 : decode cX1_byQuotients 47 = .ok (.aload_n 0, 1) := by decide +kernel
theorem dX1_byQuotients_48 : decode cX1_byQuotients 48 = .ok (.getfield 24, 3) := by decide +kernel
theorem dX1_byQuotients_51 : decode cX1_byQuotients 51 = .ok (.astore 4, 2) := by decide +kernel
theorem dX1_byQuotients_53 : decode cX1_byQuotients 53 = .ok (.aload_n 0, 1) := by decide +kernel
theorem dX1_byQuotients_54 : decode cX1_byQuotients 54 = .ok (.aload_n 0, 1) := by decide +kernel
theorem dX1_byQuotients_55 : decode cX1_byQuotients 55 = .ok (.getfield 27, 3) := by decide +kernel
theorem dX1_byQuotients_58 : decode cX1_byQuotients 58 = .ok (.putfield 24, 3) := by decide +kernel
theorem dX1_byQuotients_61 : decode cX1_byQuotients 61 = .ok (.aload_n 0, 1) := by decide +kernel
theorem dX1_byQuotients_62 : decode cX1_byQuotients 62 = .ok (.aload_n 0, 1) := by decide +kernel
theorem dX1_byQuotients_63 : decode cX1_byQuotients 63 = .ok (.getfield 30, 3) := by decide +kernel
theorem dX1_byQuotients_66 : decode cX1_byQuotients 66 = .ok (.putfield 27, 3) := by decide +kernel
theorem dX1_byQuotients_69 : decode cX1_byQuotients 69 = .ok (.aload_n 0, 1) := by decide +kernel
theorem dX1_byQuotients_70 : decode cX1_byQuotients 70 = .ok (.aload 4, 2) := by decide +kernel
theorem dX1_byQuotients_72 : decode cX1_byQuotients 72 = .ok (.putfield 30, 3) := by decide +kernel
theorem dX1_byQuotients_75 : decode cX1_byQuotients 75 = .ok (.iinc 3 1, 3) := by decide +kernel
theorem dX1_byQuotients_78 : decode cX1_byQuotients 78 = .ok (.goto (-70), 3) := by decide +kernel
theorem dX1_byQuotients_81 : decode cX1_byQuotients 81 = .ok (.aload_n 0, 1) := by decide +kernel
theorem dX1_byQuotients_82 : decode cX1_byQuotients 82 = .ok (.getfield 24, 3) := by decide +kernel
theorem dX1_byQuotients_85 : decode cX1_byQuotients 85 = .ok (.areturn, 1) := by decide +kernel
theorem dX1_begin_0 : decode cX1_begin 0 = .ok (.aload_n 0, 1) := by decide +kernel
theorem dX1_begin_1 : decode cX1_begin 1 = .ok (.getfield 24, 3) := by decide +kernel
theorem dX1_begin_4 : decode cX1_begin 4 = .ok (.aload_n 1, 1) := by decide +kernel
theorem dX1_begin_5 : decode cX1_begin 5 = .ok (.invokevirtual 75, 3) := by decide +kernel
theorem dX1_begin_8 : decode cX1_begin 8 = .ok (.aload_n 0, 1) := by decide +kernel
theorem dX1_begin_9 : decode cX1_begin 9 = .ok (.getfield 24, 3) := by decide +kernel
theorem dX1_begin_12 : decode cX1_begin 12 = .ok (.iconst 0, 1) := by decide +kernel
theorem dX1_begin_13 : decode cX1_begin 13 = .ok (.putfield 79, 3) := by decide +kernel
theorem dX1_begin_16 : decode cX1_begin 16 = .ok (.aload_n 0, 1) := by decide +kernel
theorem dX1_begin_17 : decode cX1_begin 17 = .ok (.getfield 27, 3) := by decide +kernel
theorem dX1_begin_20 : decode cX1_begin 20 = .ok (.aload_n 2, 1) := by decide +kernel
theorem dX1_begin_21 : decode cX1_begin 21 = .ok (.invokevirtual 75, 3) := by decide +kernel
theorem dX1_begin_24 : decode cX1_begin 24 = .ok (.aload_n 0, 1) := by decide +kernel
theorem dX1_begin_25 : decode cX1_begin 25 = .ok (.getfield 27, 3) := by decide +kernel
theorem dX1_begin_28 : decode cX1_begin 28 = .ok (.iconst 0, 1) := by decide +kernel
theorem dX1_begin_29 : decode cX1_begin 29 = .ok (.putfield 79, 3) := by decide +kernel
theorem dX1_begin_32 : decode cX1_begin 32 = .ok (.return_, 1) := by decide +kernel
theorem dX2_init_0 : decode cX2_init 0 = .ok (.aload_n 0, 1) := by decide +kernel
theorem dX2_init_1 : decode cX2_init 1 = .ok (.invokespecial 3, 3) := by decide +kernel
theorem dX2_init_4 : decode cX2_init 4 = .ok (.aload_n 0, 1) := by decide +kernel
theorem dX2_init_5 : decode cX2_init 5 = .ok (.aload_n 2, 1) := by decide +kernel
theorem dX2_init_6 : decode cX2_init 6 = .ok (.putfield 9, 3) := by decide +kernel
theorem dX2_init_9 : decode cX2_init 9 = .ok (.aload_n 0, 1) := by decide +kernel
theorem dX2_init_10 : decode cX2_init 10 = .ok (.new 15, 3) := by decide +kernel
theorem dX2_init_13 : decode cX2_init 13 = .ok (.dup, 1) := by decide +kernel
theorem dX2_init_14 : decode cX2_init 14 = .ok (.iload_n 1, 1) := by decide +kernel
theorem dX2_init_15 : decode cX2_init 15 = .ok (.invokespecial 17, 3) := by decide +kernel
theorem dX2_init_18 : decode cX2_init 18 = .ok (.putfield 20, 3) := by decide +kernel
theorem dX2_init_21 : decode cX2_init 21 = .ok (.aload_n 0, 1) := by decide +kernel
theorem dX2_init_22 : decode cX2_init 22 = .ok (.new 15, 3) := by decide +kernel
theorem dX2_init_25 : decode cX2_init 25 = .ok (.dup, 1) := by decide +kernel
theorem dX2_init_26 : decode cX2_init 26 = .ok (.iload_n 1, 1) := by decide +kernel
theorem dX2_init_27 : decode cX2_init 27 = .ok (.invokespecial 17, 3) := by decide +kernel
theorem dX2_init_30 : decode cX2_init 30 = .ok (.putfield 24, 3) := by decide +kernel
theorem dX2_init_33 : decode cX2_init 33 = .ok (.aload_n 0, 1) := by decide +kernel
theorem dX2_init_34 : decode cX2_init 34 = .ok (.new 15, 3) := by decide +kernel
theorem dX2_init_37 : decode cX2_init 37 = .ok (.dup, 1) := by decide +kernel
theorem dX2_init_38 : decode cX2_init 38 = .ok (.iload_n 1, 1) := by decide +kernel
theorem dX2_init_39 : decode cX2_init 39 = .ok (.invokespecial 17, 3) := by decide +kernel
theorem dX2_init_42 : decode cX2_init 42 = .ok (.putfield 27, 3) := by decide +kernel
theorem dX2_init_45 : decode cX2_init 45 = .ok (.aload_n 0, 1) := by decide +kernel
theorem dX2_init_46 : decode cX2_init 46 = .ok (.new 15, 3) := by decide +kernel
theorem dX2_init_49 : decode cX2_init 49 = .ok (.dup, 1) := by decide +kernel
theorem dX2_init_50 : decode cX2_init 50 = .ok (.iload_n 1, 1) := by decide +kernel
theorem dX2_init_51 : decode cX2_init 51 = .ok (.invokespecial 17, 3) := by decide +kernel
theorem dX2_init_54 : decode cX2_init 54 = .ok (.putfield 30, 3) := by decide +kernel
theorem dX2_init_57 : decode cX2_init 57 = .ok (.aload_n 0, 1) := by decide +kernel
theorem dX2_init_58 : decode cX2_init 58 = .ok (.new 15, 3) := by decide +kernel
theorem dX2_init_61 : decode cX2_init 61 = .ok (.dup, 1) := by decide +kernel
theorem dX2_init_62 : decode cX2_init 62 = .ok (.iload_n 1, 1) := by decide +kernel
theorem dX2_init_63 : decode cX2_init 63 = .ok (.invokespecial 17, 3) := by decide +kernel
theorem dX2_init_66 : decode cX2_init 66 = .ok (.putfield 33, 3) := by decide +kernel
theorem dX2_init_69 : decode cX2_init 69 = .ok (.aload_n 0, 1) := by decide +kernel
theorem dX2_init_70 : decode cX2_init 70 = .ok (.new 15, 3) := by decide +kernel
theorem dX2_init_73 : decode cX2_init 73 = .ok (.dup, 1) := by decide +kernel
theorem dX2_init_74 : decode cX2_init 74 = .ok (.iload_n 1, 1) := by decide +kernel
theorem dX2_init_75 : decode cX2_init 75 = .ok (.invokespecial 17, 3) := by decide +kernel
theorem dX2_init_78 : decode cX2_init 78 = .ok (.putfield 36, 3) := by decide +kernel
theorem dX2_init_81 : decode cX2_init 81 = .ok (.aload_n 0, 1) := by decide +kernel
theorem dX2_init_82 : decode cX2_init 82 = .ok (.new 15, 3) := by decide +kernel
theorem dX2_init_85 : decode cX2_init 85 = .ok (.dup, 1) := by decide +kernel
theorem dX2_init_86 : decode cX2_init 86 = .ok (.iload_n 1, 1) := by decide +kernel
theorem dX2_init_87 : decode cX2_init 87 = .ok (.invokespecial 17, 3) := by decide +kernel
theorem dX2_init_90 : decode cX2_init 90 = .ok (.putfield 39, 3) := by decide +kernel
theorem dX2_init_93 : decode cX2_init 93 = .ok (.aload_n 0, 1) := by decide +kernel
theorem dX2_init_94 : decode cX2_init 94 = .ok (.new 15, 3) := by decide +kernel
theorem dX2_init_97 : decode cX2_init 97 = .ok (.dup, 1) := by decide +kernel
theorem dX2_init_98 : decode cX2_init 98 = .ok (.iload_n 1, 1) := by decide +kernel
theorem dX2_init_99 : decode cX2_init 99 = .ok (.invokespecial 17, 3) := by decide +kernel
theorem dX2_init_102 : decode cX2_init 102 = .ok (.putfield 42, 3) := by decide +kernel
theorem dX2_init_105 : decode cX2_init 105 = .ok (.aload_n 0, 1) := by decide +kernel
theorem dX2_init_106 : decode cX2_init 106 = .ok (.new 15, 3) := by decide +kernel
theorem dX2_init_109 : decode cX2_init 109 = .ok (.dup, 1) := by decide +kernel
theorem dX2_init_110 : decode cX2_init 110 = .ok (.iload_n 1, 1) := by decide +kernel
theorem dX2_init_111 : decode cX2_init 111 = .ok (.invokespecial 17, 3) := by decide +kernel
theorem dX2_init_114 : decode cX2_init 114 = .ok (.putfield 45, 3) := by decide +kernel
theorem dX2_init_117 : decode cX2_init 117 = .ok (.return_, 1) := by decide +kernel
theorem dX2_find_0 : decode cX2_find 0 = .ok (.aload_n 0, 1) := by decide +kernel
theorem dX2_find_1 : decode cX2_find 1 = .ok (.getfield 27, 3) := by decide +kernel
theorem dX2_find_4 : decode cX2_find 4 = .ok (.aload_n 1, 1) := by decide +kernel
theorem dX2_find_5 : decode cX2_find 5 = .ok (.invokevirtual 48, 3) := by decide +kernel
theorem dX2_find_8 : decode cX2_find 8 = .ok (.aload_n 0, 1) := by decide +kernel
theorem dX2_find_9 : decode cX2_find 9 = .ok (.getfield 27, 3) := by decide +kernel
theorem dX2_find_12 : decode cX2_find 12 = .ok (.iconst 0, 1) := by decide +kernel
theorem dX2_find_13 : decode cX2_find 13 = .ok (.putfield 52, 3) := by decide +kernel
theorem dX2_find_16 : decode cX2_find 16 = .ok (.aload_n 0, 1) := by decide +kernel
theorem dX2_find_17 : decode cX2_find 17 = .ok (.getfield 30, 3) := by decide +kernel
theorem dX2_find_20 : decode cX2_find 20 = .ok (.aload_n 2, 1) := by decide +kernel
theorem dX2_find_21 : decode cX2_find 21 = .ok (.invokevirtual 48, 3) := by decide +kernel
theorem dX2_find_24 : decode cX2_find 24 = .ok (.aload_n 0, 1) := by decide +kernel
theorem dX2_find_25 : decode cX2_find 25 = .ok (.getfield 30, 3) := by decide +kernel
theorem dX2_find_28 : decode cX2_find 28 = .ok (.iconst 0, 1) := by decide +kernel
theorem dX2_find_29 : decode cX2_find 29 = .ok (.putfield 52, 3) := by decide +kernel
theorem dX2_find_32 : decode cX2_find 32 = .ok (.aload_n 0, 1) := by decide +kernel
theorem dX2_find_33 : decode cX2_find 33 = .ok (.getfield 36, 3) := by decide +kernel
theorem dX2_find_36 : decode cX2_find 36 = .ok (.iconst 1, 1) := by decide +kernel
theorem dX2_find_37 : decode cX2_find 37 = .ok (.invokevirtual 56, 3) := by decide +kernel
theorem dX2_find_40 : decode cX2_find 40 = .ok (.aload_n 0, 1) := by decide +kernel
theorem dX2_find_41 : decode cX2_find 41 = .ok (.getfield 42, 3) := by decide +kernel
theorem dX2_find_44 : decode cX2_find 44 = .ok (.iconst 0, 1) := by decide +kernel
theorem dX2_find_45 : decode cX2_find 45 = .ok (.invokevirtual 56, 3) := by decide +kernel
theorem dX2_find_48 : decode cX2_find 48 = .ok (.aload_n 0, 1) := by decide +kernel
theorem dX2_find_49 : decode cX2_find 49 = .ok (.getfield 39, 3) := by decide +kernel
theorem dX2_find_52 : decode cX2_find 52 = .ok (.iconst 0, 1) := by decide +kernel
theorem dX2_find_53 : decode cX2_find 53 = .ok (.invokevirtual 56, 3) := by decide +kernel
theorem dX2_find_56 : decode cX2_find 56 = .ok (.aload_n 0, 1) := by decide +kernel
theorem dX2_find_57 : decode cX2_find 57 = .ok (.getfield 45, 3) := by decide +kernel
theorem dX2_find_60 : decode cX2_find 60 = .ok (.iconst 1, 1) := by decide +kernel
theorem dX2_find_61 : decode cX2_find 61 = .ok (.invokevirtual 56, 3) := by decide +kernel
theorem dX2_find_64 : decode cX2_find 64 = .ok (.iconst 0, 1) := by decide +kernel
theorem dX2_find_65 : decode cX2_find 65 = .ok (.istore_n 3, 1) := by decide +kernel
theorem dX2_find_66 : decode cX2_find 66 = .ok (.iconst 0, 1) := by decide +kernel
theorem dX2_find_67 : decode cX2_find 67 = .ok (.istore 4, 2) := by decide +kernel
theorem dX2_find_69 : decode cX2_find 69 = .ok (.iload 4, 2) := by decide +kernel
theorem dX2_find_71 : decode cX2_find 71 = .ok (.ldc 59, 2) := by decide +kernel
theorem dX2_find_73 : decode cX2_find 73 = .ok (.if_icmp .ge 33, 3) := by decide +kernel
theorem dX2_find_76 : decode cX2_find 76 = .ok (.aload_n 0, 1) := by decide +kernel
theorem dX2_find_77 : decode cX2_find 77 = .ok (.getfield 30, 3) := by decide +kernel
theorem dX2_find_80 : decode cX2_find 80 = .ok (.getfield 60, 3) := by decide +kernel
theorem dX2_find_83 : decode cX2_find 83 = .ok (.ifCond .le 23, 3) := by decide +kernel
theorem dX2_find_86 : decode cX2_find 86 = .ok (.aload_n 0, 1) := by decide +kernel
theorem dX2_find_87 : decode cX2_find 87 = .ok (.invokevirtual 64, 3) := by decide +kernel
theorem dX2_find_90 : decode cX2_find 90 = .ok (.iload_n 3, 1) := by decide +kernel
theorem dX2_find_91 : decode cX2_find 91 = .ok (.ifCond .ne 7, 3) := by decide +kernel
theorem dX2_find_94 : decode cX2_find 94 = .ok (.iconst 1, 1) := by decide +kernel
theorem dX2_find_95 : decode cX2_find 95 = .ok (.goto 4, 3) := by decide +kernel
theorem dX2_find_98 : decode cX2_find 98 = .ok (.iconst 0, 1) := by decide +kernel
theorem dX2_find_99 : decode cX2_find 99 = .ok (.istore_n 3, 1) := by decide +kernel
theorem dX2_find_100 : decode cX2_find 100 = .ok (.iinc 4 1, 3) := by decide +kernel
theorem dX2_find_103 : decode cX2_find 103 = .ok (.goto (-34), 3) := by decide +kernel
theorem dX2_find_106 : decode cX2_find 106 = .ok (.aload_n 0, 1) := by decide +kernel
theorem dX2_find_107 : decode cX2_find 107 = .ok (.getfield 36, 3) := by decide +kernel
theorem dX2_find_110 : decode cX2_find 110 = .ok (.iload_n 3, 1) := by decide +kernel
theorem dX2_find_111 : decode cX2_find 111 = .ok (.aload_n 1, 1) := by decide +kernel
theorem dX2_find_112 : decode cX2_find 112 = .ok (.getfield 52, 3) := by decide +kernel
theorem dX2_find_115 : decode cX2_find 115 = .ok (.if_icmp .eq 7, 3) := by decide +kernel
theorem dX2_find_118 : decode cX2_find 118 = .ok (.iconst 1, 1) := by decide +kernel
theorem dX2_find_119 : decode cX2_find 119 = .ok (.goto 4, 3) := by decide +kernel
theorem dX2_find_122 : decode cX2_find 122 = .ok (.iconst 0, 1) := by decide +kernel
theorem dX2_find_123 : decode cX2_find 123 = .ok (.invokevirtual 67, 3) := by decide +kernel
theorem dX2_find_126 : decode cX2_find 126 = .ok (.aload_n 0, 1) := by decide +kernel
theorem dX2_find_127 : decode cX2_find 127 = .ok (.getfield 42, 3) := by decide +kernel
theorem dX2_find_130 : decode cX2_find 130 = .ok (.iload_n 3, 1) := by decide +kernel
theorem dX2_find_131 : decode cX2_find 131 = .ok (.aload_n 2, 1) := by decide +kernel
theorem dX2_find_132 : decode cX2_find 132 = .ok (.getfield 52, 3) := by decide +kernel
theorem dX2_find_135 : decode cX2_find 135 = .ok (.if_icmp .ne 7, 3) := by decide +kernel
theorem dX2_find_138 : decode cX2_find 138 = .ok (.iconst 1, 1) := by decide +kernel
theorem dX2_find_139 : decode cX2_find 139 = .ok (.goto 4, 3) := by decide +kernel
theorem dX2_find_142 : decode cX2_find 142 = .ok (.iconst 0, 1) := by decide +kernel
theorem dX2_find_143 : decode cX2_find 143 = .ok (.invokevirtual 67, 3) := by decide +kernel
theorem dX2_find_146 : decode cX2_find 146 = .ok (.return_, 1) := by decide +kernel
theorem dX2_turnOnce_0 : decode cX2_turnOnce 0 = .ok (.aload_n 0, 1) := by decide +kernel
theorem dX2_turnOnce_1 : decode cX2_turnOnce 1 = .ok (.getfield 9, 3) := by decide +kernel
theorem dX2_turnOnce_4 : decode cX2_turnOnce 4 = .ok (.aload_n 0, 1) := by decide +kernel
theorem dX2_turnOnce_5 : decode cX2_turnOnce 5 = .ok (.getfield 20, 3) := by decide +kernel
theorem dX2_turnOnce_8 : decode cX2_turnOnce 8 = .ok (.aload_n 0, 1) := by decide +kernel
theorem dX2_turnOnce_9 : decode cX2_turnOnce 9 = .ok (.getfield 33, 3) := by decide +kernel
theorem dX2_turnOnce_12 : decode cX2_turnOnce 12 = .ok (.aload_n 0, 1) := by decide +kernel
theorem dX2_turnOnce_13 : decode cX2_turnOnce 13 = .ok (.getfield 27, 3) := by decide +kernel
theorem dX2_turnOnce_16 : decode cX2_turnOnce 16 = .ok (.aload_n 0, 1) := by decide +kernel
theorem dX2_turnOnce_17 : decode cX2_turnOnce 17 = .ok (.getfield 30, 3) := by decide +kernel
theorem dX2_turnOnce_20 : decode cX2_turnOnce 20 = .ok (.invokevirtual 71, 3) := by decide +kernel
theorem dX2_turnOnce_23 : decode cX2_turnOnce 23 = .ok (.aload_n 0, 1) := by decide +kernel
theorem dX2_turnOnce_24 : decode cX2_turnOnce 24 = .ok (.getfield 27, 3) := by decide +kernel
theorem dX2_turnOnce_27 : decode cX2_turnOnce 27 = .ok (.astore_n 1, 1) := by decide +kernel
theorem dX2_turnOnce_28 : decode cX2_turnOnce 28 = .ok (.aload_n 0, 1) := by decide +kernel
theorem dX2_turnOnce_29 : decode cX2_turnOnce 29 = .ok (.aload_n 0, 1) := by decide +kernel
theorem dX2_turnOnce_30 : decode cX2_turnOnce 30 = .ok (.getfield 30, 3) := by decide +kernel
theorem dX2_turnOnce_33 : decode cX2_turnOnce 33 = .ok (.putfield 27, 3) := by decide +kernel
theorem dX2_turnOnce_36 : decode cX2_turnOnce 36 = .ok (.aload_n 0, 1) := by decide +kernel
theorem dX2_turnOnce_37 : decode cX2_turnOnce 37 = .ok (.aload_n 0, 1) := by decide +kernel
theorem dX2_turnOnce_38 : decode cX2_turnOnce 38 = .ok (.getfield 33, 3) := by decide +kernel
theorem dX2_turnOnce_41 : decode cX2_turnOnce 41 = .ok (.putfield 30, 3) := by decide +kernel
theorem dX2_turnOnce_44 : decode cX2_turnOnce 44 = .ok (.aload_n 0, 1) := by decide +kernel
theorem dX2_turnOnce_45 : decode cX2_turnOnce 45 = .ok (.aload_n 1, 1) := by decide +kernel
theorem dX2_turnOnce_46 : decode cX2_turnOnce 46 = .ok (.putfield 33, 3) := by decide +kernel
theorem dX2_turnOnce_49 : decode cX2_turnOnce 49 = .ok (.aload_n 0, 1) := by decide +kernel
theorem dX2_turnOnce_50 : decode cX2_turnOnce 50 = .ok (.aload_n 0, 1) := by decide +kernel
theorem dX2_turnOnce_51 : decode cX2_turnOnce 51 = .ok (.getfield 36, 3) := by decide +kernel
theorem dX2_turnOnce_54 : decode cX2_turnOnce 54 = .ok (.aload_n 0, 1) := by decide +kernel
theorem dX2_turnOnce_55 : decode cX2_turnOnce 55 = .ok (.getfield 39, 3) := by decide +kernel
theorem dX2_turnOnce_58 : decode cX2_turnOnce 58 = .ok (.invokevirtual 77, 3) := by decide +kernel
theorem dX2_turnOnce_61 : decode cX2_turnOnce 61 = .ok (.aload_n 0, 1) := by decide +kernel
theorem dX2_turnOnce_62 : decode cX2_turnOnce 62 = .ok (.getfield 36, 3) := by decide +kernel
theorem dX2_turnOnce_65 : decode cX2_turnOnce 65 = .ok (.astore_n 1, 1) := by decide +kernel
theorem dX2_turnOnce_66 : decode cX2_turnOnce 66 = .ok (.aload_n 0, 1) := by decide +kernel
theorem dX2_turnOnce_67 : decode cX2_turnOnce 67 = .ok (.aload_n 0, 1) := by decide +kernel
theorem dX2_turnOnce_68 : decode cX2_turnOnce 68 = .ok (.getfield 39, 3) := by decide +kernel
theorem dX2_turnOnce_71 : decode cX2_turnOnce 71 = .ok (.putfield 36, 3) := by decide +kernel
theorem dX2_turnOnce_74 : decode cX2_turnOnce 74 = .ok (.aload_n 0, 1) := by decide +kernel
theorem dX2_turnOnce_75 : decode cX2_turnOnce 75 = .ok (.aload_n 1, 1) := by decide +kernel
theorem dX2_turnOnce_76 : decode cX2_turnOnce 76 = .ok (.putfield 39, 3) := by decide +kernel
theorem dX2_turnOnce_79 : decode cX2_turnOnce 79 = .ok (.aload_n 0, 1) := by decide +kernel
theorem dX2_turnOnce_80 : decode cX2_turnOnce 80 = .ok (.aload_n 0, 1) := by decide +kernel
theorem dX2_turnOnce_81 : decode cX2_turnOnce 81 = .ok (.getfield 42, 3) := by decide +kernel
theorem dX2_turnOnce_84 : decode cX2_turnOnce 84 = .ok (.aload_n 0, 1) := by decide +kernel
theorem dX2_turnOnce_85 : decode cX2_turnOnce 85 = .ok (.getfield 45, 3) := by decide +kernel
theorem dX2_turnOnce_88 : decode cX2_turnOnce 88 = .ok (.invokevirtual 77, 3) := by decide +kernel
theorem dX2_turnOnce_91 : decode cX2_turnOnce 91 = .ok (.aload_n 0, 1) := by decide +kernel
theorem dX2_turnOnce_92 : decode cX2_turnOnce 92 = .ok (.getfield 42, 3) := by decide +kernel
theorem dX2_turnOnce_95 : decode cX2_turnOnce 95 = .ok (.astore_n 1, 1) := by decide +kernel
theorem dX2_turnOnce_96 : decode cX2_turnOnce 96 = .ok (.aload_n 0, 1) := by decide +kernel
theorem dX2_turnOnce_97 : decode cX2_turnOnce 97 = .ok (.aload_n 0, 1) := by decide +kernel
theorem dX2_turnOnce_98 : decode cX2_turnOnce 98 = .ok (.getfield 45, 3) := by decide +kernel
theorem dX2_turnOnce_101 : decode cX2_turnOnce 101 = .ok (.putfield 42, 3) := by decide +kernel
theorem dX2_turnOnce_104 : decode cX2_turnOnce 104 = .ok (.aload_n 0, 1) := by decide +kernel
theorem dX2_turnOnce_105 : decode cX2_turnOnce 105 = .ok (.aload_n 1, 1) := by decide +kernel
theorem dX2_turnOnce_106 : decode cX2_turnOnce 106 = .ok (.putfield 45, 3) := by decide +kernel
theorem dX2_turnOnce_109 : decode cX2_turnOnce 109 = .ok (.return_, 1) := by decide +kernel
theorem dX2_addMultiple_0 : decode cX2_addMultiple 0 = .ok (.aload_n 0, 1) := by decide +kernel
theorem dX2_addMultiple_1 : decode cX2_addMultiple 1 = .ok (.getfield 24, 3) := by decide +kernel
theorem dX2_addMultiple_4 : decode cX2_addMultiple 4 = .ok (.aload_n 0, 1) := by decide +kernel
theorem dX2_addMultiple_5 : decode cX2_addMultiple 5 = .ok (.getfield 20, 3) := by decide +kernel
theorem dX2_addMultiple_8 : decode cX2_addMultiple 8 = .ok (.aload_n 2, 1) := by decide +kernel
theorem dX2_addMultiple_9 : decode cX2_addMultiple 9 = .ok (.invokestatic 81, 3) := by decide +kernel
theorem dX2_addMultiple_12 : decode cX2_addMultiple 12 = .ok (.aload_n 1, 1) := by decide +kernel
theorem dX2_addMultiple_13 : decode cX2_addMultiple 13 = .ok (.aload_n 1, 1) := by decide +kernel
theorem dX2_addMultiple_14 : decode cX2_addMultiple 14 = .ok (.aload_n 0, 1) := by decide +kernel
theorem dX2_addMultiple_15 : decode cX2_addMultiple 15 = .ok (.getfield 24, 3) := by decide +kernel
theorem dX2_addMultiple_18 : decode cX2_addMultiple 18 = .ok (.invokestatic 86, 3) := by decide +kernel
theorem dX2_addMultiple_21 : decode cX2_addMultiple 21 = .ok (.return_, 1) := by decide +kernel
theorem dX3_init_0 : decode cX3_init 0 = .ok (.aload_n 0, 1) := by decide +kernel
theorem dX3_init_1 : decode cX3_init 1 = .ok (.invokespecial 3, 3) := by decide +kernel
theorem dX3_init_4 : decode cX3_init 4 = .ok (.aload_n 0, 1) := by decide +kernel
theorem dX3_init_5 : decode cX3_init 5 = .ok (.aload_n 2, 1) := by decide +kernel
theorem dX3_init_6 : decode cX3_init 6 = .ok (.putfield 9, 3) := by decide +kernel
theorem dX3_init_9 : decode cX3_init 9 = .ok (.aload_n 0, 1) := by decide +kernel
theorem dX3_init_10 : decode cX3_init 10 = .ok (.new 15, 3) := by decide +kernel
theorem dX3_init_13 : decode cX3_init 13 = .ok (.dup, 1) := by decide +kernel
theorem dX3_init_14 : decode cX3_init 14 = .ok (.iload_n 1, 1) := by decide +kernel
theorem dX3_init_15 : decode cX3_init 15 = .ok (.invokespecial 17, 3) := by decide +kernel
theorem dX3_init_18 : decode cX3_init 18 = .ok (.putfield 20, 3) := by decide +kernel
theorem dX3_init_21 : decode cX3_init 21 = .ok (.aload_n 0, 1) := by decide +kernel
theorem dX3_init_22 : decode cX3_init 22 = .ok (.new 15, 3) := by decide +kernel
theorem dX3_init_25 : decode cX3_init 25 = .ok (.dup, 1) := by decide +kernel
theorem dX3_init_26 : decode cX3_init 26 = .ok (.iload_n 1, 1) := by decide +kernel
theorem dX3_init_27 : decode cX3_init 27 = .ok (.invokespecial 17, 3) := by decide +kernel
theorem dX3_init_30 : decode cX3_init 30 = .ok (.putfield 24, 3) := by decide +kernel
theorem dX3_init_33 : decode cX3_init 33 = .ok (.aload_n 0, 1) := by decide +kernel
theorem dX3_init_34 : decode cX3_init 34 = .ok (.new 15, 3) := by decide +kernel
theorem dX3_init_37 : decode cX3_init 37 = .ok (.dup, 1) := by decide +kernel
theorem dX3_init_38 : decode cX3_init 38 = .ok (.iload_n 1, 1) := by decide +kernel
theorem dX3_init_39 : decode cX3_init 39 = .ok (.invokespecial 17, 3) := by decide +kernel
theorem dX3_init_42 : decode cX3_init 42 = .ok (.putfield 27, 3) := by decide +kernel
theorem dX3_init_45 : decode cX3_init 45 = .ok (.aload_n 0, 1) := by decide +kernel
theorem dX3_init_46 : decode cX3_init 46 = .ok (.new 15, 3) := by decide +kernel
theorem dX3_init_49 : decode cX3_init 49 = .ok (.dup, 1) := by decide +kernel
theorem dX3_init_50 : decode cX3_init 50 = .ok (.iload_n 1, 1) := by decide +kernel
theorem dX3_init_51 : decode cX3_init 51 = .ok (.invokespecial 17, 3) := by decide +kernel
theorem dX3_init_54 : decode cX3_init 54 = .ok (.putfield 30, 3) := by decide +kernel
theorem dX3_init_57 : decode cX3_init 57 = .ok (.aload_n 0, 1) := by decide +kernel
theorem dX3_init_58 : decode cX3_init 58 = .ok (.new 15, 3) := by decide +kernel
theorem dX3_init_61 : decode cX3_init 61 = .ok (.dup, 1) := by decide +kernel
theorem dX3_init_62 : decode cX3_init 62 = .ok (.iload_n 1, 1) := by decide +kernel
theorem dX3_init_63 : decode cX3_init 63 = .ok (.invokespecial 17, 3) := by decide +kernel
theorem dX3_init_66 : decode cX3_init 66 = .ok (.putfield 33, 3) := by decide +kernel
theorem dX3_init_69 : decode cX3_init 69 = .ok (.return_, 1) := by decide +kernel
theorem dX3_divisor_0 : decode cX3_divisor 0 = .ok (.aload_n 1, 1) := by decide +kernel
theorem dX3_divisor_1 : decode cX3_divisor 1 = .ok (.aload_n 2, 1) := by decide +kernel
theorem dX3_divisor_2 : decode cX3_divisor 2 = .ok (.invokestatic 36, 3) := by decide +kernel
theorem dX3_divisor_5 : decode cX3_divisor 5 = .ok (.ifCond .lt 7, 3) := by decide +kernel
theorem dX3_divisor_8 : decode cX3_divisor 8 = .ok (.iconst 1, 1) := by decide +kernel
theorem dX3_divisor_9 : decode cX3_divisor 9 = .ok (.goto 4, 3) := by decide +kernel
theorem dX3_divisor_12 : decode cX3_divisor 12 = .ok (.iconst 0, 1) := by decide +kernel
theorem dX3_divisor_13 : decode cX3_divisor 13 = .ok (.istore_n 3, 1) := by decide +kernel
theorem dX3_divisor_14 : decode cX3_divisor 14 = .ok (.aload_n 0, 1) := by decide +kernel
theorem dX3_divisor_15 : decode cX3_divisor 15 = .ok (.getfield 24, 3) := by decide +kernel
theorem dX3_divisor_18 : decode cX3_divisor 18 = .ok (.iload_n 3, 1) := by decide +kernel
theorem dX3_divisor_19 : decode cX3_divisor 19 = .ok (.ifCond .eq 7, 3) := by decide +kernel
theorem dX3_divisor_22 : decode cX3_divisor 22 = .ok (.aload_n 1, 1) := by decide +kernel
theorem dX3_divisor_23 : decode cX3_divisor 23 = .ok (.goto 4, 3) := by decide +kernel
theorem dX3_divisor_26 : decode cX3_divisor 26 = .ok (.aload_n 2, 1) := by decide +kernel
theorem dX3_divisor_27 : decode cX3_divisor 27 = .ok (.invokevirtual 42, 3) := by decide +kernel
theorem dX3_divisor_30 : decode cX3_divisor 30 = .ok (.aload_n 0, 1) := by decide +kernel
theorem dX3_divisor_31 : decode cX3_divisor 31 = .ok (.getfield 24, 3) := by decide +kernel
theorem dX3_divisor_34 : decode cX3_divisor 34 = .ok (.iconst 0, 1) := by decide +kernel
theorem dX3_divisor_35 : decode cX3_divisor 35 = .ok (.putfield 46, 3) := by decide +kernel
theorem dX3_divisor_38 : decode cX3_divisor 38 = .ok (.aload_n 0, 1) := by decide +kernel
theorem dX3_divisor_39 : decode cX3_divisor 39 = .ok (.getfield 27, 3) := by decide +kernel
theorem dX3_divisor_42 : decode cX3_divisor 42 = .ok (.iload_n 3, 1) := by decide +kernel
theorem dX3_divisor_43 : decode cX3_divisor 43 = .ok (.ifCond .eq 7, 3) := by decide +kernel
theorem dX3_divisor_46 : decode cX3_divisor 46 = .ok (.aload_n 2, 1) := by decide +kernel
theorem dX3_divisor_47 : decode cX3_divisor 47 = .ok (.goto 4, 3) := by decide +kernel
theorem dX3_divisor_50 : decode cX3_divisor 50 = .ok (.aload_n 1, 1) := by decide +kernel
theorem dX3_divisor_51 : decode cX3_divisor 51 = .ok (.invokevirtual 42, 3) := by decide +kernel
theorem dX3_divisor_54 : decode cX3_divisor 54 = .ok (.aload_n 0, 1) := by decide +kernel
theorem dX3_divisor_55 : decode cX3_divisor 55 = .ok (.getfield 27, 3) := by decide +kernel
theorem dX3_divisor_58 : decode cX3_divisor 58 = .ok (.iconst 0, 1) := by decide +kernel
theorem dX3_divisor_59 : decode cX3_divisor 59 = .ok (.putfield 46, 3) := by decide +kernel
theorem dX3_divisor_62 : decode cX3_divisor 62 = .ok (.aload_n 0, 1) := by decide +kernel
theorem dX3_divisor_63 : decode cX3_divisor 63 = .ok (.iconst 0, 1) := by decide +kernel
theorem dX3_divisor_64 : decode cX3_divisor 64 = .ok (.putfield 50, 3) := by decide +kernel
theorem dX3_divisor_67 : decode cX3_divisor 67 = .ok (.iconst 0, 1) := by decide +kernel
theorem dX3_divisor_68 : decode cX3_divisor 68 = .ok (.istore 4, 2) := by decide +kernel
theorem dX3_divisor_70 : decode cX3_divisor 70 = .ok (.iload 4, 2) := by decide +kernel
theorem dX3_divisor_72 : decode cX3_divisor 72 = .ok (.ldc 54, 2) := by decide +kernel
theorem dX3_divisor_74 : decode cX3_divisor 74 = .ok (.if_icmp .ge 44, 3) := by decide +kernel
theorem dX3_divisor_77 : decode cX3_divisor 77 = .ok (.aload_n 0, 1) := by decide +kernel
theorem dX3_divisor_78 : decode cX3_divisor 78 = .ok (.getfield 27, 3) := by decide +kernel
theorem dX3_divisor_81 : decode cX3_divisor 81 = .ok (.getfield 55, 3) := by decide +kernel
theorem dX3_divisor_84 : decode cX3_divisor 84 = .ok (.iconst 1, 1) := by decide +kernel
theorem dX3_divisor_85 : decode cX3_divisor 85 = .ok (.if_icmp .le 33, 3) := by decide +kernel
theorem dX3_divisor_88 : decode cX3_divisor 88 = .ok (.aload_n 0, 1) := by decide +kernel
theorem dX3_divisor_89 : decode cX3_divisor 89 = .ok (.invokevirtual 58, 3) := by decide +kernel
theorem dX3_divisor_92 : decode cX3_divisor 92 = .ok (.aload_n 0, 1) := by decide +kernel
theorem dX3_divisor_93 : decode cX3_divisor 93 = .ok (.getfield 61, 3) := by decide +kernel
theorem dX3_divisor_96 : decode cX3_divisor 96 = .ok (.lconst 0, 1) := by decide +kernel
theorem dX3_divisor_97 : decode cX3_divisor 97 = .ok (.lcmp, 1) := by decide +kernel
theorem dX3_divisor_98 : decode cX3_divisor 98 = .ok (.ifCond .ne 10, 3) := by decide +kernel
theorem dX3_divisor_101 : decode cX3_divisor 101 = .ok (.aload_n 0, 1) := by decide +kernel
theorem dX3_divisor_102 : decode cX3_divisor 102 = .ok (.invokevirtual 65, 3) := by decide +kernel
theorem dX3_divisor_105 : decode cX3_divisor 105 = .ok (.goto 7, 3) := by decide +kernel
theorem dX3_divisor_108 : decode cX3_divisor 108 = .ok (.aload_n 0, 1) := by decide +kernel
theorem dX3_divisor_109 : decode cX3_divisor 109 = .ok (.invokevirtual 68, 3) := by decide +kernel
theorem dX3_divisor_112 : decode cX3_divisor 112 = .ok (.iinc 4 1, 3) := by decide +kernel
theorem dX3_divisor_115 : decode cX3_divisor 115 = .ok (.goto (-45), 3) := by decide +kernel
theorem dX3_divisor_118 : decode cX3_divisor 118 = .ok (.aload_n 0, 1) := by decide +kernel
theorem dX3_divisor_119 : decode cX3_divisor 119 = .ok (.getfield 27, 3) := by decide +kernel
theorem dX3_divisor_122 : decode cX3_divisor 122 = .ok (.getfield 55, 3) := by decide +kernel
theorem dX3_divisor_125 : decode cX3_divisor 125 = .ok (.ifCond .le 18, 3) := by decide +kernel
theorem dX3_divisor_128 : decode cX3_divisor 128 = .ok (.aload_n 0, 1) := by decide +kernel
theorem dX3_divisor_129 : decode cX3_divisor 129 = .ok (.getfield 24, 3) := by decide +kernel
theorem dX3_divisor_132 : decode cX3_divisor 132 = .ok (.getfield 55, 3) := by decide +kernel
theorem dX3_divisor_135 : decode cX3_divisor 135 = .ok (.iconst 1, 1) := by decide +kernel
theorem dX3_divisor_136 : decode cX3_divisor 136 = .ok (.if_icmp .le 7, 3) := by decide +kernel
theorem dX3_divisor_139 : decode cX3_divisor 139 = .ok (.aload_n 0, 1) := by decide +kernel
theorem dX3_divisor_140 : decode cX3_divisor 140 = .ok (.invokevirtual 65, 3) := by decide +kernel
theorem dX3_divisor_143 : decode cX3_divisor 143 = .ok (.aload_n 0, 1) := by decide +kernel
theorem dX3_divisor_144 : decode cX3_divisor 144 = .ok (.getfield 27, 3) := by decide +kernel
theorem dX3_divisor_147 : decode cX3_divisor 147 = .ok (.getfield 55, 3) := by decide +kernel
theorem dX3_divisor_150 : decode cX3_divisor 150 = .ok (.ifCond .le 29, 3) := by decide +kernel
theorem dX3_divisor_153 : decode cX3_divisor 153 = .ok (.aload_n 0, 1) := by decide +kernel
theorem dX3_divisor_154 : decode cX3_divisor 154 = .ok (.getfield 24, 3) := by decide +kernel
theorem dX3_divisor_157 : decode cX3_divisor 157 = .ok (.aload_n 0, 1) := by decide +kernel
theorem dX3_divisor_158 : decode cX3_divisor 158 = .ok (.getfield 24, 3) := by decide +kernel
theorem dX3_divisor_161 : decode cX3_divisor 161 = .ok (.iconst 0, 1) := by decide +kernel
theorem dX3_divisor_162 : decode cX3_divisor 162 = .ok (.invokevirtual 71, 3) := by decide +kernel
theorem dX3_divisor_165 : decode cX3_divisor 165 = .ok (.aload_n 0, 1) := by decide +kernel
theorem dX3_divisor_166 : decode cX3_divisor 166 = .ok (.getfield 27, 3) := by decide +kernel
theorem dX3_divisor_169 : decode cX3_divisor 169 = .ok (.iconst 0, 1) := by decide +kernel
theorem dX3_divisor_170 : decode cX3_divisor 170 = .ok (.invokevirtual 71, 3) := by decide +kernel
theorem dX3_divisor_173 : decode cX3_divisor 173 = .ok (.invokestatic 75, 3) := by decide +kernel
theorem dX3_divisor_176 : decode cX3_divisor 176 = .ok (.invokevirtual 79, 3) := by decide +kernel
theorem dX3_divisor_179 : decode cX3_divisor 179 = .ok (.aload_n 0, 1) := by decide +kernel
theorem dX3_divisor_180 : decode cX3_divisor 180 = .ok (.getfield 24, 3) := by decide +kernel
theorem dX3_divisor_183 : decode cX3_divisor 183 = .ok (.areturn, 1) := by decide +kernel
theorem dX3_findCofactors_0 : decode cX3_findCofactors 0 = .ok (.aload_n 0, 1) := by decide +kernel
theorem dX3_findCofactors_1 : decode cX3_findCofactors 1 = .ok (.getfield 24, 3) := by decide +kernel
theorem dX3_findCofactors_4 : decode cX3_findCofactors 4 = .ok (.invokevirtual 82, 3) := by decide +kernel
theorem dX3_findCofactors_7 : decode cX3_findCofactors 7 = .ok (.bipush 32, 2) := by decide +kernel
theorem dX3_findCofactors_9 : decode cX3_findCofactors 9 = .ok (.isub, 1) := by decide +kernel
theorem dX3_findCofactors_10 : decode cX3_findCofactors 10 = .ok (.istore_n 1, 1) := by decide +kernel
theorem dX3_findCofactors_11 : decode cX3_findCofactors 11 = .ok (.aload_n 0, 1) := by decide +kernel
theorem dX3_findCofactors_12 : decode cX3_findCofactors 12 = .ok (.getfield 24, 3) := by decide +kernel
theorem dX3_findCofactors_15 : decode cX3_findCofactors 15 = .ok (.iload_n 1, 1) := by decide +kernel
theorem dX3_findCofactors_16 : decode cX3_findCofactors 16 = .ok (.invokevirtual 86, 3) := by decide +kernel
theorem dX3_findCofactors_19 : decode cX3_findCofactors 19 = .ok (.lstore_n 2, 1) := by decide +kernel
theorem dX3_findCofactors_20 : decode cX3_findCofactors 20 = .ok (.aload_n 0, 1) := by decide +kernel
theorem dX3_findCofactors_21 : decode cX3_findCofactors 21 = .ok (.getfield 27, 3) := by decide +kernel
theorem dX3_findCofactors_24 : decode cX3_findCofactors 24 = .ok (.iload_n 1, 1) := by decide +kernel
theorem dX3_findCofactors_25 : decode cX3_findCofactors 25 = .ok (.invokevirtual 86, 3) := by decide +kernel
theorem dX3_findCofactors_28 : decode cX3_findCofactors 28 = .ok (.lstore 4, 2) := by decide +kernel
theorem dX3_findCofactors_30 : decode cX3_findCofactors 30 = .ok (.aload_n 0, 1) := by decide +kernel
theorem dX3_findCofactors_31 : decode cX3_findCofactors 31 = .ok (.lconst 1, 1) := by decide +kernel
theorem dX3_findCofactors_32 : decode cX3_findCofactors 32 = .ok (.putfield 89, 3) := by decide +kernel
theorem dX3_findCofactors_35 : decode cX3_findCofactors 35 = .ok (.aload_n 0, 1) := by decide +kernel
theorem dX3_findCofactors_36 : decode cX3_findCofactors 36 = .ok (.lconst 0, 1) := by decide +kernel
theorem dX3_findCofactors_37 : decode cX3_findCofactors 37 = .ok (.putfield 61, 3) := by decide +kernel
theorem dX3_findCofactors_40 : decode cX3_findCofactors 40 = .ok (.aload_n 0, 1) := by decide +kernel
theorem dX3_findCofactors_41 : decode cX3_findCofactors 41 = .ok (.lconst 0, 1) := by decide +kernel
theorem dX3_findCofactors_42 : decode cX3_findCofactors 42 = .ok (.putfield 92, 3) := by decide +kernel
theorem dX3_findCofactors_45 : decode cX3_findCofactors 45 = .ok (.aload_n 0, 1) := by decide +kernel
theorem dX3_findCofactors_46 : decode cX3_findCofactors 46 = .ok (.lconst 1, 1) := by decide +kernel
theorem dX3_findCofactors_47 : decode cX3_findCofactors 47 = .ok (.putfield 95, 3) := by decide +kernel
theorem dX3_findCofactors_50 : decode cX3_findCofactors 50 = .ok (.iconst 0, 1) := by decide +kernel
theorem dX3_findCofactors_51 : decode cX3_findCofactors 51 = .ok (.istore 6, 2) := by decide +kernel
theorem dX3_findCofactors_53 : decode cX3_findCofactors 53 = .ok (.iload 6, 2) := by decide +kernel
theorem dX3_findCofactors_55 : decode cX3_findCofactors 55 = .ok (.ldc 54, 2) := by decide +kernel
theorem dX3_findCofactors_57 : decode cX3_findCofactors 57 = .ok (.if_icmp .ge 143, 3) := by decide +kernel
theorem dX3_findCofactors_60 : decode cX3_findCofactors 60 = .ok (.lload 4, 2) := by decide +kernel
theorem dX3_findCofactors_62 : decode cX3_findCofactors 62 = .ok (.aload_n 0, 1) := by decide +kernel
theorem dX3_findCofactors_63 : decode cX3_findCofactors 63 = .ok (.getfield 92, 3) := by decide +kernel
theorem dX3_findCofactors_66 : decode cX3_findCofactors 66 = .ok (.ladd, 1) := by decide +kernel
theorem dX3_findCofactors_67 : decode cX3_findCofactors 67 = .ok (.lconst 0, 1) := by decide +kernel
theorem dX3_findCofactors_68 : decode cX3_findCofactors 68 = .ok (.lcmp, 1) := by decide +kernel
theorem dX3_findCofactors_69 : decode cX3_findCofactors 69 = .ok (.ifCond .eq 15, 3) := by decide +kernel
theorem dX3_findCofactors_72 : decode cX3_findCofactors 72 = .ok (.lload 4, 2) := by decide +kernel
theorem dX3_findCofactors_74 : decode cX3_findCofactors 74 = .ok (.aload_n 0, 1) := by decide +kernel
theorem dX3_findCofactors_75 : decode cX3_findCofactors 75 = .ok (.getfield 95, 3) := by decide +kernel
theorem dX3_findCofactors_78 : decode cX3_findCofactors 78 = .ok (.ladd, 1) := by decide +kernel
theorem dX3_findCofactors_79 : decode cX3_findCofactors 79 = .ok (.lconst 0, 1) := by decide +kernel
theorem dX3_findCofactors_80 : decode cX3_findCofactors 80 = .ok (.lcmp, 1) := by decide +kernel
theorem dX3_findCofactors_81 : decode cX3_findCofactors 81 = .ok (.ifCond .ne 4, 3) := by decide +kernel
theorem dX3_findCofactors_84 : decode cX3_findCofactors 84 = .ok (.return_, 1) := by decide +kernel
theorem dX3_findCofactors_85 : decode cX3_findCofactors 85 = .ok (.lload_n 2, 1) := by decide +kernel
theorem dX3_findCofactors_86 : decode cX3_findCofactors 86 = .ok (.aload_n 0, 1) := by decide +kernel
theorem dX3_findCofactors_87 : decode cX3_findCofactors 87 = .ok (.getfield 89, 3) := by decide +kernel
theorem dX3_findCofactors_90 : decode cX3_findCofactors 90 = .ok (.ladd, 1) := by decide +kernel
theorem dX3_findCofactors_91 : decode cX3_findCofactors 91 = .ok (.lload 4, 2) := by decide +kernel
theorem dX3_findCofactors_93 : decode cX3_findCofactors 93 = .ok (.aload_n 0, 1) := by decide +kernel
theorem dX3_findCofactors_94 : decode cX3_findCofactors 94 = .ok (.getfield 92, 3) := by decide +kernel
theorem dX3_findCofactors_97 : decode cX3_findCofactors 97 = .ok (.ladd, 1) := by decide +kernel
theorem dX3_findCofactors_98 : decode cX3_findCofactors 98 = .ok (.ldiv, 1) := by decide +kernel
theorem dX3_findCofactors_99 : decode cX3_findCofactors 99 = .ok (.lstore 7, 2) := by decide +kernel
theorem dX3_findCofactors_101 : decode cX3_findCofactors 101 = .ok (.lload 7, 2) := by decide +kernel
theorem dX3_findCofactors_103 : decode cX3_findCofactors 103 = .ok (.lload_n 2, 1) := by decide +kernel
theorem dX3_findCofactors_104 : decode cX3_findCofactors 104 = .ok (.aload_n 0, 1) := by decide +kernel
theorem dX3_findCofactors_105 : decode cX3_findCofactors 105 = .ok (.getfield 61, 3) := by decide +kernel
theorem dX3_findCofactors_108 : decode cX3_findCofactors 108 = .ok (.ladd, 1) := by decide +kernel
theorem dX3_findCofactors_109 : decode cX3_findCofactors 109 = .ok (.lload 4, 2) := by decide +kernel
theorem dX3_findCofactors_111 : decode cX3_findCofactors 111 = .ok (.aload_n 0, 1) := by decide +kernel
theorem dX3_findCofactors_112 : decode cX3_findCofactors 112 = .ok (.getfield 95, 3) := by decide +kernel
theorem dX3_findCofactors_115 : decode cX3_findCofactors 115 = .ok (.ladd, 1) := by decide +kernel
theorem dX3_findCofactors_116 : decode cX3_findCofactors 116 = .ok (.ldiv, 1) := by decide +kernel
theorem dX3_findCofactors_117 : decode cX3_findCofactors 117 = .ok (.lcmp, 1) := by decide +kernel
theorem dX3_findCofactors_118 : decode cX3_findCofactors 118 = .ok (.ifCond .eq 4, 3) := by decide +kernel
theorem dX3_findCofactors_121 : decode cX3_findCofactors 121 = .ok (.return_, 1) := by decide +kernel
theorem dX3_findCofactors_122 : decode cX3_findCofactors 122 = .ok (.aload_n 0, 1) := by decide +kernel
theorem dX3_findCofactors_123 : decode cX3_findCofactors 123 = .ok (.getfield 89, 3) := by decide +kernel
theorem dX3_findCofactors_126 : decode cX3_findCofactors 126 = .ok (.lload 7, 2) := by decide +kernel
theorem dX3_findCofactors_128 : decode cX3_findCofactors 128 = .ok (.aload_n 0, 1) := by decide +kernel
theorem dX3_findCofactors_129 : decode cX3_findCofactors 129 = .ok (.getfield 92, 3) := by decide +kernel
theorem dX3_findCofactors_132 : decode cX3_findCofactors 132 = .ok (.lmul, 1) := by decide +kernel
theorem dX3_findCofactors_133 : decode cX3_findCofactors 133 = .ok (.lsub, 1) := by decide +kernel
theorem dX3_findCofactors_134 : decode cX3_findCofactors 134 = .ok (.lstore 9, 2) := by decide +kernel
theorem dX3_findCofactors_136 : decode cX3_findCofactors 136 = .ok (.aload_n 0, 1) := by decide +kernel
theorem dX3_findCofactors_137 : decode cX3_findCofactors 137 = .ok (.aload_n 0, 1) := by decide +kernel
theorem dX3_findCofactors_138 : decode cX3_findCofactors 138 = .ok (.getfield 92, 3) := by decide +kernel
theorem dX3_findCofactors_141 : decode cX3_findCofactors 141 = .ok (.putfield 89, 3) := by decide +kernel
theorem dX3_findCofactors_144 : decode cX3_findCofactors 144 = .ok (.aload_n 0, 1) := by decide +kernel
theorem dX3_findCofactors_145 : decode cX3_findCofactors 145 = .ok (.lload 9, 2) := by decide +kernel
theorem dX3_findCofactors_147 : decode cX3_findCofactors 147 = .ok (.putfield 92, 3) := by decide +kernel
theorem dX3_findCofactors_150 : decode cX3_findCofactors 150 = .ok (.aload_n 0, 1) := by decide +kernel
theorem dX3_findCofactors_151 : decode cX3_findCofactors 151 = .ok (.getfield 61, 3) := by decide +kernel
theorem dX3_findCofactors_154 : decode cX3_findCofactors 154 = .ok (.lload 7, 2) := by decide +kernel
theorem dX3_findCofactors_156 : decode cX3_findCofactors 156 = .ok (.aload_n 0, 1) := by decide +kernel
theorem dX3_findCofactors_157 : decode cX3_findCofactors 157 = .ok (.getfield 95, 3) := by decide +kernel
theorem dX3_findCofactors_160 : decode cX3_findCofactors 160 = .ok (.lmul, 1) := by decide +kernel
theorem dX3_findCofactors_161 : decode cX3_findCofactors 161 = .ok (.lsub, 1) := by decide +kernel
theorem dX3_findCofactors_162 : decode cX3_findCofactors 162 = .ok (.lstore 11, 2) := by decide +kernel
theorem dX3_findCofactors_164 : decode cX3_findCofactors 164 = .ok (.aload_n 0, 1) := by decide +kernel
theorem dX3_findCofactors_165 : decode cX3_findCofactors 165 = .ok (.aload_n 0, 1) := by decide +kernel
theorem dX3_findCofactors_166 : decode cX3_findCofactors 166 = .ok (.getfield 95, 3) := by decide +kernel
theorem dX3_findCofactors_169 : decode cX3_findCofactors 169 = .ok (.putfield 61, 3) := by decide +kernel
theorem dX3_findCofactors_172 : decode cX3_findCofactors 172 = .ok (.aload_n 0, 1) := by decide +kernel
theorem dX3_findCofactors_173 : decode cX3_findCofactors 173 = .ok (.lload 11, 2) := by decide +kernel
theorem dX3_findCofactors_175 : decode cX3_findCofactors 175 = .ok (.putfield 95, 3) := by decide +kernel
theorem dX3_findCofactors_178 : decode cX3_findCofactors 178 = .ok (.lload_n 2, 1) := by decide +kernel
theorem dX3_findCofactors_179 : decode cX3_findCofactors 179 = .ok (.lload 7, 2) := by decide +kernel
theorem dX3_findCofactors_181 : decode cX3_findCofactors 181 = .ok (.lload 4, 2) := by decide +kernel
theorem dX3_findCofactors_183 : decode cX3_findCofactors 183 = .ok (.lmul, 1) := by decide +kernel
theorem dX3_findCofactors_184 : decode cX3_findCofactors 184 = .ok (.lsub, 1) := by decide +kernel
theorem dX3_findCofactors_185 : decode cX3_findCofactors 185 = .ok (.lstore 13, 2) := by decide +kernel
theorem dX3_findCofactors_187 : decode cX3_findCofactors 187 = .ok (.lload 4, 2) := by decide +kernel
theorem dX3_findCofactors_189 : decode cX3_findCofactors 189 = .ok (.lstore_n 2, 1) := by decide +kernel
theorem dX3_findCofactors_190 : decode cX3_findCofactors 190 = .ok (.lload 13, 2) := by decide +kernel
theorem dX3_findCofactors_192 : decode cX3_findCofactors 192 = .ok (.lstore 4, 2) := by decide +kernel
theorem dX3_findCofactors_194 : decode cX3_findCofactors 194 = .ok (.iinc 6 1, 3) := by decide +kernel
theorem dX3_findCofactors_197 : decode cX3_findCofactors 197 = .ok (.goto (-144), 3) := by decide +kernel
theorem dX3_findCofactors_200 : decode cX3_findCofactors 200 = .ok (.return_, 1) := by decide +kernel
theorem dX3_takeStep_0 : decode cX3_takeStep 0 = .ok (.aload_n 0, 1) := by decide +kernel
theorem dX3_takeStep_1 : decode cX3_takeStep 1 = .ok (.getfield 9, 3) := by decide +kernel
theorem dX3_takeStep_4 : decode cX3_takeStep 4 = .ok (.aload_n 0, 1) := by decide +kernel
theorem dX3_takeStep_5 : decode cX3_takeStep 5 = .ok (.getfield 20, 3) := by decide +kernel
theorem dX3_takeStep_8 : decode cX3_takeStep 8 = .ok (.aload_n 0, 1) := by decide +kernel
theorem dX3_takeStep_9 : decode cX3_takeStep 9 = .ok (.getfield 30, 3) := by decide +kernel
theorem dX3_takeStep_12 : decode cX3_takeStep 12 = .ok (.aload_n 0, 1) := by decide +kernel
theorem dX3_takeStep_13 : decode cX3_takeStep 13 = .ok (.getfield 24, 3) := by decide +kernel
theorem dX3_takeStep_16 : decode cX3_takeStep 16 = .ok (.aload_n 0, 1) := by decide +kernel
theorem dX3_takeStep_17 : decode cX3_takeStep 17 = .ok (.getfield 27, 3) := by decide +kernel
theorem dX3_takeStep_20 : decode cX3_takeStep 20 = .ok (.invokevirtual 98, 3) := by decide +kernel
theorem dX3_takeStep_23 : decode cX3_takeStep 23 = .ok (.aload_n 0, 1) := by decide +kernel
theorem dX3_takeStep_24 : decode cX3_takeStep 24 = .ok (.getfield 24, 3) := by decide +kernel
theorem dX3_takeStep_27 : decode cX3_takeStep 27 = .ok (.astore_n 1, 1) := by decide +kernel
theorem dX3_takeStep_28 : decode cX3_takeStep 28 = .ok (.aload_n 0, 1) := by decide +kernel
theorem dX3_takeStep_29 : decode cX3_takeStep 29 = .ok (.aload_n 0, 1) := by decide +kernel
theorem dX3_takeStep_30 : decode cX3_takeStep 30 = .ok (.getfield 27, 3) := by decide +kernel
theorem dX3_takeStep_33 : decode cX3_takeStep 33 = .ok (.putfield 24, 3) := by decide +kernel
theorem dX3_takeStep_36 : decode cX3_takeStep 36 = .ok (.aload_n 0, 1) := by decide +kernel
theorem dX3_takeStep_37 : decode cX3_takeStep 37 = .ok (.aload_n 0, 1) := by decide +kernel
theorem dX3_takeStep_38 : decode cX3_takeStep 38 = .ok (.getfield 30, 3) := by decide +kernel
theorem dX3_takeStep_41 : decode cX3_takeStep 41 = .ok (.putfield 27, 3) := by decide +kernel
theorem dX3_takeStep_44 : decode cX3_takeStep 44 = .ok (.aload_n 0, 1) := by decide +kernel
theorem dX3_takeStep_45 : decode cX3_takeStep 45 = .ok (.aload_n 1, 1) := by decide +kernel
theorem dX3_takeStep_46 : decode cX3_takeStep 46 = .ok (.putfield 30, 3) := by decide +kernel
theorem dX3_takeStep_49 : decode cX3_takeStep 49 = .ok (.aload_n 0, 1) := by decide +kernel
theorem dX3_takeStep_50 : decode cX3_takeStep 50 = .ok (.dup, 1) := by decide +kernel
theorem dX3_takeStep_51 : decode cX3_takeStep 51 = .ok (.getfield 50, 3) := by decide +kernel
theorem dX3_takeStep_54 : decode cX3_takeStep 54 = .ok (.iconst 1, 1) := by decide +kernel
theorem dX3_takeStep_55 : decode cX3_takeStep 55 = .ok (.iadd, 1) := by decide +kernel
theorem dX3_takeStep_56 : decode cX3_takeStep 56 = .ok (.putfield 50, 3) := by decide +kernel
theorem dX3_takeStep_59 : decode cX3_takeStep 59 = .ok (.return_, 1) := by decide +kernel
theorem dX3_combineBoth_0 : decode cX3_combineBoth 0 = .ok (.aload_n 0, 1) := by decide +kernel
theorem dX3_combineBoth_1 : decode cX3_combineBoth 1 = .ok (.aload_n 0, 1) := by decide +kernel
theorem dX3_combineBoth_2 : decode cX3_combineBoth 2 = .ok (.getfield 30, 3) := by decide +kernel
theorem dX3_combineBoth_5 : decode cX3_combineBoth 5 = .ok (.aload_n 0, 1) := by decide +kernel
theorem dX3_combineBoth_6 : decode cX3_combineBoth 6 = .ok (.getfield 89, 3) := by decide +kernel
theorem dX3_combineBoth_9 : decode cX3_combineBoth 9 = .ok (.aload_n 0, 1) := by decide +kernel
theorem dX3_combineBoth_10 : decode cX3_combineBoth 10 = .ok (.getfield 61, 3) := by decide +kernel
theorem dX3_combineBoth_13 : decode cX3_combineBoth 13 = .ok (.invokevirtual 104, 3) := by decide +kernel
theorem dX3_combineBoth_16 : decode cX3_combineBoth 16 = .ok (.aload_n 0, 1) := by decide +kernel
theorem dX3_combineBoth_17 : decode cX3_combineBoth 17 = .ok (.aload_n 0, 1) := by decide +kernel
theorem dX3_combineBoth_18 : decode cX3_combineBoth 18 = .ok (.getfield 33, 3) := by decide +kernel
theorem dX3_combineBoth_21 : decode cX3_combineBoth 21 = .ok (.aload_n 0, 1) := by decide +kernel
theorem dX3_combineBoth_22 : decode cX3_combineBoth 22 = .ok (.getfield 92, 3) := by decide +kernel
theorem dX3_combineBoth_25 : decode cX3_combineBoth 25 = .ok (.aload_n 0, 1) := by decide +kernel
theorem dX3_combineBoth_26 : decode cX3_combineBoth 26 = .ok (.getfield 95, 3) := by decide +kernel
theorem dX3_combineBoth_29 : decode cX3_combineBoth 29 = .ok (.invokevirtual 104, 3) := by decide +kernel
theorem dX3_combineBoth_32 : decode cX3_combineBoth 32 = .ok (.aload_n 0, 1) := by decide +kernel
theorem dX3_combineBoth_33 : decode cX3_combineBoth 33 = .ok (.getfield 24, 3) := by decide +kernel
theorem dX3_combineBoth_36 : decode cX3_combineBoth 36 = .ok (.astore_n 1, 1) := by decide +kernel
theorem dX3_combineBoth_37 : decode cX3_combineBoth 37 = .ok (.aload_n 0, 1) := by decide +kernel
theorem dX3_combineBoth_38 : decode cX3_combineBoth 38 = .ok (.getfield 27, 3) := by decide +kernel
theorem dX3_combineBoth_41 : decode cX3_combineBoth 41 = .ok (.astore_n 2, 1) := by decide +kernel
theorem dX3_combineBoth_42 : decode cX3_combineBoth 42 = .ok (.aload_n 0, 1) := by decide +kernel
theorem dX3_combineBoth_43 : decode cX3_combineBoth 43 = .ok (.aload_n 0, 1) := by decide +kernel
theorem dX3_combineBoth_44 : decode cX3_combineBoth 44 = .ok (.getfield 30, 3) := by decide +kernel
theorem dX3_combineBoth_47 : decode cX3_combineBoth 47 = .ok (.putfield 24, 3) := by decide +kernel
theorem dX3_combineBoth_50 : decode cX3_combineBoth 50 = .ok (.aload_n 0, 1) := by decide +kernel
theorem dX3_combineBoth_51 : decode cX3_combineBoth 51 = .ok (.aload_n 0, 1) := by decide +kernel
theorem dX3_combineBoth_52 : decode cX3_combineBoth 52 = .ok (.getfield 33, 3) := by decide +kernel
theorem dX3_combineBoth_55 : decode cX3_combineBoth 55 = .ok (.putfield 27, 3) := by decide +kernel
theorem dX3_combineBoth_58 : decode cX3_combineBoth 58 = .ok (.aload_n 0, 1) := by decide +kernel
theorem dX3_combineBoth_59 : decode cX3_combineBoth 59 = .ok (.aload_n 1, 1) := by decide +kernel
theorem dX3_combineBoth_60 : decode cX3_combineBoth 60 = .ok (.putfield 30, 3) := by decide +kernel
theorem dX3_combineBoth_63 : decode cX3_combineBoth 63 = .ok (.aload_n 0, 1) := by decide +kernel
theorem dX3_combineBoth_64 : decode cX3_combineBoth 64 = .ok (.aload_n 2, 1) := by decide +kernel
theorem dX3_combineBoth_65 : decode cX3_combineBoth 65 = .ok (.putfield 33, 3) := by decide +kernel
theorem dX3_combineBoth_68 : decode cX3_combineBoth 68 = .ok (.return_, 1) := by decide +kernel
theorem dX3_combine_0 : decode cX3_combine 0 = .ok (.aload_n 0, 1) := by decide +kernel
theorem dX3_combine_1 : decode cX3_combine 1 = .ok (.getfield 24, 3) := by decide +kernel
theorem dX3_combine_4 : decode cX3_combine 4 = .ok (.getfield 55, 3) := by decide +kernel
theorem dX3_combine_7 : decode cX3_combine 7 = .ok (.aload_n 1, 1) := by decide +kernel
theorem dX3_combine_8 : decode cX3_combine 8 = .ok (.getfield 108, 3) := by decide +kernel
theorem dX3_combine_11 : decode cX3_combine 11 = .ok (.arraylength, 1) := by decide +kernel
theorem dX3_combine_12 : decode cX3_combine 12 = .ok (.invokestatic 112, 3) := by decide +kernel
theorem dX3_combine_15 : decode cX3_combine 15 = .ok (.istore 6, 2) := by decide +kernel
theorem dX3_combine_17 : decode cX3_combine 17 = .ok (.lconst 0, 1) := by decide +kernel
theorem dX3_combine_18 : decode cX3_combine 18 = .ok (.lstore 7, 2) := by decide +kernel
theorem dX3_combine_20 : decode cX3_combine 20 = .ok (.iconst 0, 1) := by decide +kernel
theorem dX3_combine_21 : decode cX3_combine 21 = .ok (.istore 9, 2) := by decide +kernel
theorem dX3_combine_23 : decode cX3_combine 23 = .ok (.iload 9, 2) := by decide +kernel
theorem dX3_combine_25 : decode cX3_combine 25 = .ok (.iload 6, 2) := by decide +kernel
theorem dX3_combine_27 : decode cX3_combine 27 = .ok (.if_icmp .ge 55, 3) := by decide +kernel
theorem dX3_combine_30 : decode cX3_combine 30 = .ok (.lload 7, 2) := by decide +kernel
theorem dX3_combine_32 : decode cX3_combine 32 = .ok (.lload_n 2, 1) := by decide +kernel
theorem dX3_combine_33 : decode cX3_combine 33 = .ok (.aload_n 0, 1) := by decide +kernel
theorem dX3_combine_34 : decode cX3_combine 34 = .ok (.getfield 24, 3) := by decide +kernel
theorem dX3_combine_37 : decode cX3_combine 37 = .ok (.iload 9, 2) := by decide +kernel
theorem dX3_combine_39 : decode cX3_combine 39 = .ok (.invokevirtual 71, 3) := by decide +kernel
theorem dX3_combine_42 : decode cX3_combine 42 = .ok (.lmul, 1) := by decide +kernel
theorem dX3_combine_43 : decode cX3_combine 43 = .ok (.lload 4, 2) := by decide +kernel
theorem dX3_combine_45 : decode cX3_combine 45 = .ok (.aload_n 0, 1) := by decide +kernel
theorem dX3_combine_46 : decode cX3_combine 46 = .ok (.getfield 27, 3) := by decide +kernel
theorem dX3_combine_49 : decode cX3_combine 49 = .ok (.iload 9, 2) := by decide +kernel
theorem dX3_combine_51 : decode cX3_combine 51 = .ok (.invokevirtual 71, 3) := by decide +kernel
theorem dX3_combine_54 : decode cX3_combine 54 = .ok (.lmul, 1) := by decide +kernel
theorem dX3_combine_55 : decode cX3_combine 55 = .ok (.ladd, 1) := by decide +kernel
theorem dX3_combine_56 : decode cX3_combine 56 = .ok (.ladd, 1) := by decide +kernel
theorem dX3_combine_57 : decode cX3_combine 57 = .ok (.lstore 7, 2) := by decide +kernel
theorem dX3_combine_59 : decode cX3_combine 59 = .ok (.aload_n 1, 1) := by decide +kernel
theorem dX3_combine_60 : decode cX3_combine 60 = .ok (.getfield 108, 3) := by decide +kernel
theorem dX3_combine_63 : decode cX3_combine 63 = .ok (.iload 9, 2) := by decide +kernel
theorem dX3_combine_65 : decode cX3_combine 65 = .ok (.lload 7, 2) := by decide +kernel
theorem dX3_combine_67 : decode cX3_combine 67 = .ok (.l2i, 1) := by decide +kernel
theorem dX3_combine_68 : decode cX3_combine 68 = .ok (.iastore, 1) := by decide +kernel
theorem dX3_combine_69 : decode cX3_combine 69 = .ok (.lload 7, 2) := by decide +kernel
theorem dX3_combine_71 : decode cX3_combine 71 = .ok (.bipush 32, 2) := by decide +kernel
theorem dX3_combine_73 : decode cX3_combine 73 = .ok (.lshr, 1) := by decide +kernel
theorem dX3_combine_74 : decode cX3_combine 74 = .ok (.lstore 7, 2) := by decide +kernel
theorem dX3_combine_76 : decode cX3_combine 76 = .ok (.iinc 9 1, 3) := by decide +kernel
theorem dX3_combine_79 : decode cX3_combine 79 = .ok (.goto (-56), 3) := by decide +kernel
theorem dX3_combine_82 : decode cX3_combine 82 = .ok (.aload_n 1, 1) := by decide +kernel
theorem dX3_combine_83 : decode cX3_combine 83 = .ok (.iload 6, 2) := by decide +kernel
theorem dX3_combine_85 : decode cX3_combine 85 = .ok (.invokevirtual 118, 3) := by decide +kernel
theorem dX3_combine_88 : decode cX3_combine 88 = .ok (.return_, 1) := by decide +kernel
theorem dX3_divisorOfLimbs_0 : decode cX3_divisorOfLimbs 0 = .ok (.lload_n 0, 1) := by decide +kernel
theorem dX3_divisorOfLimbs_1 : decode cX3_divisorOfLimbs 1 = .ok (.lstore 4, 2) := by decide +kernel
theorem dX3_divisorOfLimbs_3 : decode cX3_divisorOfLimbs 3 = .ok (.lload_n 2, 1) := by decide +kernel
theorem dX3_divisorOfLimbs_4 : decode cX3_divisorOfLimbs 4 = .ok (.lstore 6, 2) := by decide +kernel
theorem dX3_divisorOfLimbs_6 : decode cX3_divisorOfLimbs 6 = .ok (.iconst 0, 1) := by decide +kernel
theorem dX3_divisorOfLimbs_7 : decode cX3_divisorOfLimbs 7 = .ok (.istore 8, 2) := by decide +kernel
theorem dX3_divisorOfLimbs_9 : decode cX3_divisorOfLimbs 9 = .ok (.iload 8, 2) := by decide +kernel
theorem dX3_divisorOfLimbs_11 : decode cX3_divisorOfLimbs 11 = .ok (.ldc 54, 2) := by decide +kernel
theorem dX3_divisorOfLimbs_13 : decode cX3_divisorOfLimbs 13 = .ok (.if_icmp .ge 31, 3) := by decide +kernel
theorem dX3_divisorOfLimbs_16 : decode cX3_divisorOfLimbs 16 = .ok (.lload 6, 2) := by decide +kernel
theorem dX3_divisorOfLimbs_18 : decode cX3_divisorOfLimbs 18 = .ok (.lconst 0, 1) := by decide +kernel
theorem dX3_divisorOfLimbs_19 : decode cX3_divisorOfLimbs 19 = .ok (.lcmp, 1) := by decide +kernel
theorem dX3_divisorOfLimbs_20 : decode cX3_divisorOfLimbs 20 = .ok (.ifCond .eq 24, 3) := by decide +kernel
theorem dX3_divisorOfLimbs_23 : decode cX3_divisorOfLimbs 23 = .ok (.lload 4, 2) := by decide +kernel
theorem dX3_divisorOfLimbs_25 : decode cX3_divisorOfLimbs 25 = .ok (.lload 6, 2) := by decide +kernel
theorem dX3_divisorOfLimbs_27 : decode cX3_divisorOfLimbs 27 = .ok (.lrem, 1) := by decide +kernel
theorem dX3_divisorOfLimbs_28 : decode cX3_divisorOfLimbs 28 = .ok (.lstore 9, 2) := by decide +kernel
theorem dX3_divisorOfLimbs_30 : decode cX3_divisorOfLimbs 30 = .ok (.lload 6, 2) := by decide +kernel
theorem dX3_divisorOfLimbs_32 : decode cX3_divisorOfLimbs 32 = .ok (.lstore 4, 2) := by decide +kernel
theorem dX3_divisorOfLimbs_34 : decode cX3_divisorOfLimbs 34 = .ok (.lload 9, 2) := by decide +kernel
theorem dX3_divisorOfLimbs_36 : decode cX3_divisorOfLimbs 36 = .ok (.lstore 6, 2) := by decide +kernel
theorem dX3_divisorOfLimbs_38 : decode cX3_divisorOfLimbs 38 = .ok (.iinc 8 1, 3) := by decide +kernel
theorem dX3_divisorOfLimbs_41 : decode cX3_divisorOfLimbs 41 = .ok (.goto (-32), 3) := by decide +kernel
theorem dX3_divisorOfLimbs_44 : decode cX3_divisorOfLimbs 44 = .ok (.lload 4, 2) := by decide +kernel
theorem dX3_divisorOfLimbs_46 : decode cX3_divisorOfLimbs 46 = .ok (.l2i, 1) := by decide +kernel
theorem dX3_divisorOfLimbs_47 : decode cX3_divisorOfLimbs 47 = .ok (.ireturn, 1) := by decide +kernel
theorem dX4_init_0 : decode cX4_init 0 = .ok (.aload_n 0, 1) := by decide +kernel
theorem dX4_init_1 : decode cX4_init 1 = .ok (.invokespecial 3, 3) := by decide +kernel
theorem dX4_init_4 : decode cX4_init 4 = .ok (.aload_n 0, 1) := by decide +kernel
theorem dX4_init_5 : decode cX4_init 5 = .ok (.bipush 10, 2) := by decide +kernel
theorem dX4_init_7 : decode cX4_init 7 = .ok (.iconst 1, 1) := by decide +kernel
theorem dX4_init_8 : decode cX4_init 8 = .ok (.iload_n 1, 1) := by decide +kernel
theorem dX4_init_9 : decode cX4_init 9 = .ok (.invokestatic 9, 3) := by decide +kernel
theorem dX4_init_12 : decode cX4_init 12 = .ok (.imul, 1) := by decide +kernel
theorem dX4_init_13 : decode cX4_init 13 = .ok (.iconst 2, 1) := by decide +kernel
theorem dX4_init_14 : decode cX4_init 14 = .ok (.iadd, 1) := by decide +kernel
theorem dX4_init_15 : decode cX4_init 15 = .ok (.newarray .byte, 2) := by decide +kernel
theorem dX4_init_17 : decode cX4_init 17 = .ok (.putfield 15, 3) := by decide +kernel
theorem dX4_init_20 : decode cX4_init 20 = .ok (.aload_n 0, 1) := by decide +kernel
theorem dX4_init_21 : decode cX4_init 21 = .ok (.new 21, 3) := by decide +kernel
theorem dX4_init_24 : decode cX4_init 24 = .ok (.dup, 1) := by decide +kernel
theorem dX4_init_25 : decode cX4_init 25 = .ok (.iload_n 2, 1) := by decide +kernel
theorem dX4_init_26 : decode cX4_init 26 = .ok (.invokespecial 23, 3) := by decide +kernel
theorem dX4_init_29 : decode cX4_init 29 = .ok (.putfield 26, 3) := by decide +kernel
theorem dX4_init_32 : decode cX4_init 32 = .ok (.return_, 1) := by decide +kernel
theorem dX4_print_0 : decode cX4_print 0 = .ok (.aload_n 0, 1) := by decide +kernel
theorem dX4_print_1 : decode cX4_print 1 = .ok (.iconst 0, 1) := by decide +kernel
theorem dX4_print_2 : decode cX4_print 2 = .ok (.putfield 30, 3) := by decide +kernel
theorem dX4_print_5 : decode cX4_print 5 = .ok (.aload_n 0, 1) := by decide +kernel
theorem dX4_print_6 : decode cX4_print 6 = .ok (.getfield 26, 3) := by decide +kernel
theorem dX4_print_9 : decode cX4_print 9 = .ok (.aload_n 1, 1) := by decide +kernel
theorem dX4_print_10 : decode cX4_print 10 = .ok (.invokevirtual 34, 3) := by decide +kernel
theorem dX4_print_13 : decode cX4_print 13 = .ok (.iconst 0, 1) := by decide +kernel
theorem dX4_print_14 : decode cX4_print 14 = .ok (.istore_n 2, 1) := by decide +kernel
theorem dX4_print_15 : decode cX4_print 15 = .ok (.iload_n 2, 1) := by decide +kernel
theorem dX4_print_16 : decode cX4_print 16 = .ok (.aload_n 0, 1) := by decide +kernel
theorem dX4_print_17 : decode cX4_print 17 = .ok (.getfield 15, 3) := by decide +kernel
theorem dX4_print_20 : decode cX4_print 20 = .ok (.arraylength, 1) := by decide +kernel
theorem dX4_print_21 : decode cX4_print 21 = .ok (.if_icmp .ge 27, 3) := by decide +kernel
theorem dX4_print_24 : decode cX4_print 24 = .ok (.aload_n 0, 1) := by decide +kernel
theorem dX4_print_25 : decode cX4_print 25 = .ok (.getfield 26, 3) := by decide +kernel
theorem dX4_print_28 : decode cX4_print 28 = .ok (.getfield 38, 3) := by decide +kernel
theorem dX4_print_31 : decode cX4_print 31 = .ok (.ifCond .le 17, 3) := by decide +kernel
theorem dX4_print_34 : decode cX4_print 34 = .ok (.aload_n 0, 1) := by decide +kernel
theorem dX4_print_35 : decode cX4_print 35 = .ok (.aload_n 0, 1) := by decide +kernel
theorem dX4_print_36 : decode cX4_print 36 = .ok (.invokevirtual 41, 3) := by decide +kernel
theorem dX4_print_39 : decode cX4_print 39 = .ok (.invokevirtual 45, 3) := by decide +kernel
theorem dX4_print_42 : decode cX4_print 42 = .ok (.iinc 2 1, 3) := by decide +kernel
theorem dX4_print_45 : decode cX4_print 45 = .ok (.goto (-30), 3) := by decide +kernel
theorem dX4_print_48 : decode cX4_print 48 = .ok (.aload_n 0, 1) := by decide +kernel
theorem dX4_print_49 : decode cX4_print 49 = .ok (.getfield 30, 3) := by decide +kernel
theorem dX4_print_52 : decode cX4_print 52 = .ok (.ifCond .ne 9, 3) := by decide +kernel
theorem dX4_print_55 : decode cX4_print 55 = .ok (.aload_n 0, 1) := by decide +kernel
theorem dX4_print_56 : decode cX4_print 56 = .ok (.bipush 48, 2) := by decide +kernel
theorem dX4_print_58 : decode cX4_print 58 = .ok (.invokevirtual 48, 3) := by decide +kernel
theorem dX4_print_61 : decode cX4_print 61 = .ok (.aload_n 1, 1) := by decide +kernel
theorem dX4_print_62 : decode cX4_print 62 = .ok (.getfield 51, 3) := by decide +kernel
theorem dX4_print_65 : decode cX4_print 65 = .ok (.ifCond .eq 9, 3) := by decide +kernel
theorem dX4_print_68 : decode cX4_print 68 = .ok (.aload_n 0, 1) := by decide +kernel
theorem dX4_print_69 : decode cX4_print 69 = .ok (.bipush 45, 2) := by decide +kernel
theorem dX4_print_71 : decode cX4_print 71 = .ok (.invokevirtual 48, 3) := by decide +kernel
theorem dX4_print_74 : decode cX4_print 74 = .ok (.aload_n 0, 1) := by decide +kernel
theorem dX4_print_75 : decode cX4_print 75 = .ok (.invokevirtual 55, 3) := by decide +kernel
theorem dX4_print_78 : decode cX4_print 78 = .ok (.return_, 1) := by decide +kernel
theorem dX4_appendChunk_0 : decode cX4_appendChunk 0 = .ok (.iload_n 1, 1) := by decide +kernel
theorem dX4_appendChunk_1 : decode cX4_appendChunk 1 = .ok (.istore_n 2, 1) := by decide +kernel
theorem dX4_appendChunk_2 : decode cX4_appendChunk 2 = .ok (.iconst 0, 1) := by decide +kernel
theorem dX4_appendChunk_3 : decode cX4_appendChunk 3 = .ok (.istore_n 3, 1) := by decide +kernel
theorem dX4_appendChunk_4 : decode cX4_appendChunk 4 = .ok (.iload_n 3, 1) := by decide +kernel
theorem dX4_appendChunk_5 : decode cX4_appendChunk 5 = .ok (.bipush 9, 2) := by decide +kernel
theorem dX4_appendChunk_7 : decode cX4_appendChunk 7 = .ok (.if_icmp .ge 39, 3) := by decide +kernel
theorem dX4_appendChunk_10 : decode cX4_appendChunk 10 = .ok (.aload_n 0, 1) := by decide +kernel
theorem dX4_appendChunk_11 : decode cX4_appendChunk 11 = .ok (.getfield 26, 3) := by decide +kernel
theorem dX4_appendChunk_14 : decode cX4_appendChunk 14 = .ok (.getfield 38, 3) := by decide +kernel
theorem dX4_appendChunk_17 : decode cX4_appendChunk 17 = .ok (.ifCond .gt 7, 3) := by decide +kernel
theorem dX4_appendChunk_20 : decode cX4_appendChunk 20 = .ok (.iload_n 2, 1) := by decide +kernel
theorem dX4_appendChunk_21 : decode cX4_appendChunk 21 = .ok (.ifCond .le 25, 3) := by decide +kernel
theorem dX4_appendChunk_24 : decode cX4_appendChunk 24 = .ok (.aload_n 0, 1) := by decide +kernel
theorem dX4_appendChunk_25 : decode cX4_appendChunk 25 = .ok (.bipush 48, 2) := by decide +kernel
theorem dX4_appendChunk_27 : decode cX4_appendChunk 27 = .ok (.iload_n 2, 1) := by decide +kernel
theorem dX4_appendChunk_28 : decode cX4_appendChunk 28 = .ok (.bipush 10, 2) := by decide +kernel
theorem dX4_appendChunk_30 : decode cX4_appendChunk 30 = .ok (.irem, 1) := by decide +kernel
theorem dX4_appendChunk_31 : decode cX4_appendChunk 31 = .ok (.iadd, 1) := by decide +kernel
theorem dX4_appendChunk_32 : decode cX4_appendChunk 32 = .ok (.invokevirtual 48, 3) := by decide +kernel
theorem dX4_appendChunk_35 : decode cX4_appendChunk 35 = .ok (.iload_n 2, 1) := by decide +kernel
theorem dX4_appendChunk_36 : decode cX4_appendChunk 36 = .ok (.bipush 10, 2) := by decide +kernel
theorem dX4_appendChunk_38 : decode cX4_appendChunk 38 = .ok (.idiv, 1) := by decide +kernel
theorem dX4_appendChunk_39 : decode cX4_appendChunk 39 = .ok (.istore_n 2, 1) := by decide +kernel
theorem dX4_appendChunk_40 : decode cX4_appendChunk 40 = .ok (.iinc 3 1, 3) := by decide +kernel
theorem dX4_appendChunk_43 : decode cX4_appendChunk 43 = .ok (.goto (-39), 3) := by decide +kernel
theorem dX4_appendChunk_46 : decode cX4_appendChunk 46 = .ok (.return_, 1) := by decide +kernel
theorem dX4_takeChunk_0 : decode cX4_takeChunk 0 = .ok (.lconst 0, 1) := by decide +kernel
theorem dX4_takeChunk_1 : decode cX4_takeChunk 1 = .ok (.lstore_n 1, 1) := by decide +kernel
theorem dX4_takeChunk_2 : decode cX4_takeChunk 2 = .ok (.aload_n 0, 1) := by decide +kernel
theorem dX4_takeChunk_3 : decode cX4_takeChunk 3 = .ok (.getfield 26, 3) := by decide +kernel
theorem dX4_takeChunk_6 : decode cX4_takeChunk 6 = .ok (.getfield 38, 3) := by decide +kernel
theorem dX4_takeChunk_9 : decode cX4_takeChunk 9 = .ok (.iconst 1, 1) := by decide +kernel
theorem dX4_takeChunk_10 : decode cX4_takeChunk 10 = .ok (.isub, 1) := by decide +kernel
theorem dX4_takeChunk_11 : decode cX4_takeChunk 11 = .ok (.istore_n 3, 1) := by decide +kernel
theorem dX4_takeChunk_12 : decode cX4_takeChunk 12 = .ok (.iload_n 3, 1) := by decide +kernel
theorem dX4_takeChunk_13 : decode cX4_takeChunk 13 = .ok (.ifCond .lt 47, 3) := by decide +kernel
theorem dX4_takeChunk_16 : decode cX4_takeChunk 16 = .ok (.lload_n 1, 1) := by decide +kernel
theorem dX4_takeChunk_17 : decode cX4_takeChunk 17 = .ok (.bipush 32, 2) := by decide +kernel
theorem dX4_takeChunk_19 : decode cX4_takeChunk 19 = .ok (.lshl, 1) := by decide +kernel
theorem dX4_takeChunk_20 : decode cX4_takeChunk 20 = .ok (.aload_n 0, 1) := by decide +kernel
theorem dX4_takeChunk_21 : decode cX4_takeChunk 21 = .ok (.getfield 26, 3) := by decide +kernel
theorem dX4_takeChunk_24 : decode cX4_takeChunk 24 = .ok (.iload_n 3, 1) := by decide +kernel
theorem dX4_takeChunk_25 : decode cX4_takeChunk 25 = .ok (.invokevirtual 58, 3) := by decide +kernel
theorem dX4_takeChunk_28 : decode cX4_takeChunk 28 = .ok (.lor, 1) := by decide +kernel
theorem dX4_takeChunk_29 : decode cX4_takeChunk 29 = .ok (.lstore 4, 2) := by decide +kernel
theorem dX4_takeChunk_31 : decode cX4_takeChunk 31 = .ok (.aload_n 0, 1) := by decide +kernel
theorem dX4_takeChunk_32 : decode cX4_takeChunk 32 = .ok (.getfield 26, 3) := by decide +kernel
theorem dX4_takeChunk_35 : decode cX4_takeChunk 35 = .ok (.getfield 62, 3) := by decide +kernel
theorem dX4_takeChunk_38 : decode cX4_takeChunk 38 = .ok (.iload_n 3, 1) := by decide +kernel
theorem dX4_takeChunk_39 : decode cX4_takeChunk 39 = .ok (.lload 4, 2) := by decide +kernel
theorem dX4_takeChunk_41 : decode cX4_takeChunk 41 = .ok (.ldc2_w 66, 3) := by decide +kernel
theorem dX4_takeChunk_44 : decode cX4_takeChunk 44 = .ok (.ldiv, 1) := by decide +kernel
theorem dX4_takeChunk_45 : decode cX4_takeChunk 45 = .ok (.l2i, 1) := by decide +kernel
theorem dX4_takeChunk_46 : decode cX4_takeChunk 46 = .ok (.iastore, 1) := by decide +kernel
theorem dX4_takeChunk_47 : decode cX4_takeChunk 47 = .ok (.lload 4, 2) := by decide +kernel
theorem dX4_takeChunk_49 : decode cX4_takeChunk 49 = .ok (.ldc2_w 66, 3) := by decide +kernel
theorem dX4_takeChunk_52 : decode cX4_takeChunk 52 = .ok (.lrem, 1) := by decide +kernel
theorem dX4_takeChunk_53 : decode cX4_takeChunk 53 = .ok (.lstore_n 1, 1) := by decide +kernel
theorem dX4_takeChunk_54 : decode cX4_takeChunk 54 = .ok (.iinc 3 (-1), 3) := by decide +kernel
theorem dX4_takeChunk_57 : decode cX4_takeChunk 57 = .ok (.goto (-45), 3) := by decide +kernel
theorem dX4_takeChunk_60 : decode cX4_takeChunk 60 = .ok (.aload_n 0, 1) := by decide +kernel
theorem dX4_takeChunk_61 : decode cX4_takeChunk 61 = .ok (.getfield 26, 3) := by decide +kernel
theorem dX4_takeChunk_64 : decode cX4_takeChunk 64 = .ok (.aload_n 0, 1) := by decide +kernel
theorem dX4_takeChunk_65 : decode cX4_takeChunk 65 = .ok (.getfield 26, 3) := by decide +kernel
theorem dX4_takeChunk_68 : decode cX4_takeChunk 68 = .ok (.getfield 38, 3) := by decide +kernel
theorem dX4_takeChunk_71 : decode cX4_takeChunk 71 = .ok (.invokevirtual 68, 3) := by decide +kernel
theorem dX4_takeChunk_74 : decode cX4_takeChunk 74 = .ok (.lload_n 1, 1) := by decide +kernel
theorem dX4_takeChunk_75 : decode cX4_takeChunk 75 = .ok (.l2i, 1) := by decide +kernel
theorem dX4_takeChunk_76 : decode cX4_takeChunk 76 = .ok (.ireturn, 1) := by decide +kernel
theorem dX4_append_0 : decode cX4_append 0 = .ok (.aload_n 0, 1) := by decide +kernel
theorem dX4_append_1 : decode cX4_append 1 = .ok (.getfield 30, 3) := by decide +kernel
theorem dX4_append_4 : decode cX4_append 4 = .ok (.aload_n 0, 1) := by decide +kernel
theorem dX4_append_5 : decode cX4_append 5 = .ok (.getfield 15, 3) := by decide +kernel
theorem dX4_append_8 : decode cX4_append 8 = .ok (.arraylength, 1) := by decide +kernel
theorem dX4_append_9 : decode cX4_append 9 = .ok (.if_icmp .ge 24, 3) := by decide +kernel
theorem dX4_append_12 : decode cX4_append 12 = .ok (.aload_n 0, 1) := by decide +kernel
theorem dX4_append_13 : decode cX4_append 13 = .ok (.getfield 15, 3) := by decide +kernel
theorem dX4_append_16 : decode cX4_append 16 = .ok (.aload_n 0, 1) := by decide +kernel
theorem dX4_append_17 : decode cX4_append 17 = .ok (.getfield 30, 3) := by decide +kernel
theorem dX4_append_20 : decode cX4_append 20 = .ok (.iload_n 1, 1) := by decide +kernel
theorem dX4_append_21 : decode cX4_append 21 = .ok (.i2b, 1) := by decide +kernel
theorem dX4_append_22 : decode cX4_append 22 = .ok (.bastore, 1) := by decide +kernel
theorem dX4_append_23 : decode cX4_append 23 = .ok (.aload_n 0, 1) := by decide +kernel
theorem dX4_append_24 : decode cX4_append 24 = .ok (.dup, 1) := by decide +kernel
theorem dX4_append_25 : decode cX4_append 25 = .ok (.getfield 30, 3) := by decide +kernel
theorem dX4_append_28 : decode cX4_append 28 = .ok (.iconst 1, 1) := by decide +kernel
theorem dX4_append_29 : decode cX4_append 29 = .ok (.iadd, 1) := by decide +kernel
theorem dX4_append_30 : decode cX4_append 30 = .ok (.putfield 30, 3) := by decide +kernel
theorem dX4_append_33 : decode cX4_append 33 = .ok (.return_, 1) := by decide +kernel
theorem dX4_turnRound_0 : decode cX4_turnRound 0 = .ok (.iconst 0, 1) := by decide +kernel
theorem dX4_turnRound_1 : decode cX4_turnRound 1 = .ok (.istore_n 1, 1) := by decide +kernel
theorem dX4_turnRound_2 : decode cX4_turnRound 2 = .ok (.aload_n 0, 1) := by decide +kernel
theorem dX4_turnRound_3 : decode cX4_turnRound 3 = .ok (.getfield 30, 3) := by decide +kernel
theorem dX4_turnRound_6 : decode cX4_turnRound 6 = .ok (.iconst 1, 1) := by decide +kernel
theorem dX4_turnRound_7 : decode cX4_turnRound 7 = .ok (.isub, 1) := by decide +kernel
theorem dX4_turnRound_8 : decode cX4_turnRound 8 = .ok (.istore_n 2, 1) := by decide +kernel
theorem dX4_turnRound_9 : decode cX4_turnRound 9 = .ok (.iload_n 1, 1) := by decide +kernel
theorem dX4_turnRound_10 : decode cX4_turnRound 10 = .ok (.iload_n 2, 1) := by decide +kernel
theorem dX4_turnRound_11 : decode cX4_turnRound 11 = .ok (.if_icmp .ge 38, 3) := by decide +kernel
theorem dX4_turnRound_14 : decode cX4_turnRound 14 = .ok (.aload_n 0, 1) := by decide +kernel
theorem dX4_turnRound_15 : decode cX4_turnRound 15 = .ok (.getfield 15, 3) := by decide +kernel
theorem dX4_turnRound_18 : decode cX4_turnRound 18 = .ok (.iload_n 1, 1) := by decide +kernel
theorem dX4_turnRound_19 : decode cX4_turnRound 19 = .ok (.baload, 1) := by decide +kernel
theorem dX4_turnRound_20 : decode cX4_turnRound 20 = .ok (.istore_n 3, 1) := by decide +kernel
theorem dX4_turnRound_21 : decode cX4_turnRound 21 = .ok (.aload_n 0, 1) := by decide +kernel
theorem dX4_turnRound_22 : decode cX4_turnRound 22 = .ok (.getfield 15, 3) := by decide +kernel
theorem dX4_turnRound_25 : decode cX4_turnRound 25 = .ok (.iload_n 1, 1) := by decide +kernel
theorem dX4_turnRound_26 : decode cX4_turnRound 26 = .ok (.aload_n 0, 1) := by decide +kernel
theorem dX4_turnRound_27 : decode cX4_turnRound 27 = .ok (.getfield 15, 3) := by decide +kernel
theorem dX4_turnRound_30 : decode cX4_turnRound 30 = .ok (.iload_n 2, 1) := by decide +kernel
theorem dX4_turnRound_31 : decode cX4_turnRound 31 = .ok (.baload, 1) := by decide +kernel
theorem dX4_turnRound_32 : decode cX4_turnRound 32 = .ok (.bastore, 1) := by decide +kernel
theorem dX4_turnRound_33 : decode cX4_turnRound 33 = .ok (.aload_n 0, 1) := by decide +kernel
theorem dX4_turnRound_34 : decode cX4_turnRound 34 = .ok (.getfield 15, 3) := by decide +kernel
theorem dX4_turnRound_37 : decode cX4_turnRound 37 = .ok (.iload_n 2, 1) := by decide +kernel
theorem dX4_turnRound_38 : decode cX4_turnRound 38 = .ok (.iload_n 3, 1) := by decide +kernel
theorem dX4_turnRound_39 : decode cX4_turnRound 39 = .ok (.bastore, 1) := by decide +kernel
theorem dX4_turnRound_40 : decode cX4_turnRound 40 = .ok (.iinc 1 1, 3) := by decide +kernel
theorem dX4_turnRound_43 : decode cX4_turnRound 43 = .ok (.iinc 2 (-1), 3) := by decide +kernel
theorem dX4_turnRound_46 : decode cX4_turnRound 46 = .ok (.goto (-37), 3) := by decide +kernel
theorem dX4_turnRound_49 : decode cX4_turnRound 49 = .ok (.return_, 1) := by decide +kernel
theorem dX5_init_0 : decode cX5_init 0 = .ok (.aload_n 0, 1) := by decide +kernel
theorem dX5_init_1 : decode cX5_init 1 = .ok (.invokespecial 3, 3) := by decide +kernel
theorem dX5_init_4 : decode cX5_init 4 = .ok (.aload_n 0, 1) := by decide +kernel
theorem dX5_init_5 : decode cX5_init 5 = .ok (.aload_n 2, 1) := by decide +kernel
theorem dX5_init_6 : decode cX5_init 6 = .ok (.putfield 9, 3) := by decide +kernel
theorem dX5_init_9 : decode cX5_init 9 = .ok (.aload_n 0, 1) := by decide +kernel
theorem dX5_init_10 : decode cX5_init 10 = .ok (.new 15, 3) := by decide +kernel
theorem dX5_init_13 : decode cX5_init 13 = .ok (.dup, 1) := by decide +kernel
theorem dX5_init_14 : decode cX5_init 14 = .ok (.iload_n 1, 1) := by decide +kernel
theorem dX5_init_15 : decode cX5_init 15 = .ok (.invokespecial 17, 3) := by decide +kernel
theorem dX5_init_18 : decode cX5_init 18 = .ok (.putfield 20, 3) := by decide +kernel
theorem dX5_init_21 : decode cX5_init 21 = .ok (.aload_n 0, 1) := by decide +kernel
theorem dX5_init_22 : decode cX5_init 22 = .ok (.new 15, 3) := by decide +kernel
theorem dX5_init_25 : decode cX5_init 25 = .ok (.dup, 1) := by decide +kernel
theorem dX5_init_26 : decode cX5_init 26 = .ok (.iload_n 1, 1) := by decide +kernel
theorem dX5_init_27 : decode cX5_init 27 = .ok (.invokespecial 17, 3) := by decide +kernel
theorem dX5_init_30 : decode cX5_init 30 = .ok (.putfield 24, 3) := by decide +kernel
theorem dX5_init_33 : decode cX5_init 33 = .ok (.aload_n 0, 1) := by decide +kernel
theorem dX5_init_34 : decode cX5_init 34 = .ok (.new 15, 3) := by decide +kernel
theorem dX5_init_37 : decode cX5_init 37 = .ok (.dup, 1) := by decide +kernel
theorem dX5_init_38 : decode cX5_init 38 = .ok (.iload_n 1, 1) := by decide +kernel
theorem dX5_init_39 : decode cX5_init 39 = .ok (.invokespecial 17, 3) := by decide +kernel
theorem dX5_init_42 : decode cX5_init 42 = .ok (.putfield 27, 3) := by decide +kernel
theorem dX5_init_45 : decode cX5_init 45 = .ok (.aload_n 0, 1) := by decide +kernel
theorem dX5_init_46 : decode cX5_init 46 = .ok (.new 15, 3) := by decide +kernel
theorem dX5_init_49 : decode cX5_init 49 = .ok (.dup, 1) := by decide +kernel
theorem dX5_init_50 : decode cX5_init 50 = .ok (.iload_n 1, 1) := by decide +kernel
theorem dX5_init_51 : decode cX5_init 51 = .ok (.invokespecial 17, 3) := by decide +kernel
theorem dX5_init_54 : decode cX5_init 54 = .ok (.putfield 30, 3) := by decide +kernel
theorem dX5_init_57 : decode cX5_init 57 = .ok (.aload_n 0, 1) := by decide +kernel
theorem dX5_init_58 : decode cX5_init 58 = .ok (.new 15, 3) := by decide +kernel
theorem dX5_init_61 : decode cX5_init 61 = .ok (.dup, 1) := by decide +kernel
theorem dX5_init_62 : decode cX5_init 62 = .ok (.iload_n 1, 1) := by decide +kernel
theorem dX5_init_63 : decode cX5_init 63 = .ok (.invokespecial 17, 3) := by decide +kernel
theorem dX5_init_66 : decode cX5_init 66 = .ok (.putfield 33, 3) := by decide +kernel
theorem dX5_init_69 : decode cX5_init 69 = .ok (.aload_n 0, 1) := by decide +kernel
theorem dX5_init_70 : decode cX5_init 70 = .ok (.new 15, 3) := by decide +kernel
theorem dX5_init_73 : decode cX5_init 73 = .ok (.dup, 1) := by decide +kernel
theorem dX5_init_74 : decode cX5_init 74 = .ok (.iload_n 1, 1) := by decide +kernel
theorem dX5_init_75 : decode cX5_init 75 = .ok (.invokespecial 17, 3) := by decide +kernel
theorem dX5_init_78 : decode cX5_init 78 = .ok (.putfield 36, 3) := by decide +kernel
theorem dX5_init_81 : decode cX5_init 81 = .ok (.aload_n 0, 1) := by decide +kernel
theorem dX5_init_82 : decode cX5_init 82 = .ok (.new 15, 3) := by decide +kernel
theorem dX5_init_85 : decode cX5_init 85 = .ok (.dup, 1) := by decide +kernel
theorem dX5_init_86 : decode cX5_init 86 = .ok (.iload_n 1, 1) := by decide +kernel
theorem dX5_init_87 : decode cX5_init 87 = .ok (.invokespecial 17, 3) := by decide +kernel
theorem dX5_init_90 : decode cX5_init 90 = .ok (.putfield 39, 3) := by decide +kernel
theorem dX5_init_93 : decode cX5_init 93 = .ok (.return_, 1) := by decide +kernel
theorem dX5_reduce_0 : decode cX5_reduce 0 = .ok (.aload_n 0, 1) := by decide +kernel
theorem dX5_reduce_1 : decode cX5_reduce 1 = .ok (.getfield 9, 3) := by decide +kernel
theorem dX5_reduce_4 : decode cX5_reduce 4 = .ok (.aload_n 0, 1) := by decide +kernel
theorem dX5_reduce_5 : decode cX5_reduce 5 = .ok (.getfield 20, 3) := by decide +kernel
theorem dX5_reduce_8 : decode cX5_reduce 8 = .ok (.aload_n 1, 1) := by decide +kernel
theorem dX5_reduce_9 : decode cX5_reduce 9 = .ok (.aload_n 2, 1) := by decide +kernel
theorem dX5_reduce_10 : decode cX5_reduce 10 = .ok (.aload_n 3, 1) := by decide +kernel
theorem dX5_reduce_11 : decode cX5_reduce 11 = .ok (.invokevirtual 42, 3) := by decide +kernel
theorem dX5_reduce_14 : decode cX5_reduce 14 = .ok (.aload_n 2, 1) := by decide +kernel
theorem dX5_reduce_15 : decode cX5_reduce 15 = .ok (.getfield 48, 3) := by decide +kernel
theorem dX5_reduce_18 : decode cX5_reduce 18 = .ok (.ifCond .eq 16, 3) := by decide +kernel
theorem dX5_reduce_21 : decode cX5_reduce 21 = .ok (.aload_n 1, 1) := by decide +kernel
theorem dX5_reduce_22 : decode cX5_reduce 22 = .ok (.getfield 52, 3) := by decide +kernel
theorem dX5_reduce_25 : decode cX5_reduce 25 = .ok (.ifCond .le 9, 3) := by decide +kernel
theorem dX5_reduce_28 : decode cX5_reduce 28 = .ok (.aload_n 1, 1) := by decide +kernel
theorem dX5_reduce_29 : decode cX5_reduce 29 = .ok (.aload_n 3, 1) := by decide +kernel
theorem dX5_reduce_30 : decode cX5_reduce 30 = .ok (.aload_n 1, 1) := by decide +kernel
theorem dX5_reduce_31 : decode cX5_reduce 31 = .ok (.invokestatic 56, 3) := by decide +kernel
theorem dX5_reduce_34 : decode cX5_reduce 34 = .ok (.return_, 1) := by decide +kernel
theorem dX5_raise_0 : decode cX5_raise 0 = .ok (.aload_n 0, 1) := by decide +kernel
theorem dX5_raise_1 : decode cX5_raise 1 = .ok (.aload_n 0, 1) := by decide +kernel
theorem dX5_raise_2 : decode cX5_raise 2 = .ok (.getfield 27, 3) := by decide +kernel
theorem dX5_raise_5 : decode cX5_raise 5 = .ok (.aload_n 1, 1) := by decide +kernel
theorem dX5_raise_6 : decode cX5_raise 6 = .ok (.aload_n 3, 1) := by decide +kernel
theorem dX5_raise_7 : decode cX5_raise 7 = .ok (.invokevirtual 62, 3) := by decide +kernel
theorem dX5_raise_10 : decode cX5_raise 10 = .ok (.aload_n 0, 1) := by decide +kernel
theorem dX5_raise_11 : decode cX5_raise 11 = .ok (.getfield 24, 3) := by decide +kernel
theorem dX5_raise_14 : decode cX5_raise 14 = .ok (.iconst 1, 1) := by decide +kernel
theorem dX5_raise_15 : decode cX5_raise 15 = .ok (.invokevirtual 65, 3) := by decide +kernel
theorem dX5_raise_18 : decode cX5_raise 18 = .ok (.aload_n 0, 1) := by decide +kernel
theorem dX5_raise_19 : decode cX5_raise 19 = .ok (.aload_n 0, 1) := by decide +kernel
theorem dX5_raise_20 : decode cX5_raise 20 = .ok (.getfield 30, 3) := by decide +kernel
theorem dX5_raise_23 : decode cX5_raise 23 = .ok (.aload_n 0, 1) := by decide +kernel
theorem dX5_raise_24 : decode cX5_raise 24 = .ok (.getfield 24, 3) := by decide +kernel
theorem dX5_raise_27 : decode cX5_raise 27 = .ok (.aload_n 3, 1) := by decide +kernel
theorem dX5_raise_28 : decode cX5_raise 28 = .ok (.invokevirtual 62, 3) := by decide +kernel
theorem dX5_raise_31 : decode cX5_raise 31 = .ok (.aload_n 2, 1) := by decide +kernel
theorem dX5_raise_32 : decode cX5_raise 32 = .ok (.getfield 52, 3) := by decide +kernel
theorem dX5_raise_35 : decode cX5_raise 35 = .ok (.ifCond .le 14, 3) := by decide +kernel
theorem dX5_raise_38 : decode cX5_raise 38 = .ok (.aload_n 0, 1) := by decide +kernel
theorem dX5_raise_39 : decode cX5_raise 39 = .ok (.getfield 30, 3) := by decide +kernel
theorem dX5_raise_42 : decode cX5_raise 42 = .ok (.aload_n 0, 1) := by decide +kernel
theorem dX5_raise_43 : decode cX5_raise 43 = .ok (.getfield 27, 3) := by decide +kernel
theorem dX5_raise_46 : decode cX5_raise 46 = .ok (.invokevirtual 68, 3) := by decide +kernel
theorem dX5_raise_49 : decode cX5_raise 49 = .ok (.aload_n 2, 1) := by decide +kernel
theorem dX5_raise_50 : decode cX5_raise 50 = .ok (.invokevirtual 72, 3) := by decide +kernel
theorem dX5_raise_53 : decode cX5_raise 53 = .ok (.iconst 2, 1) := by decide +kernel
theorem dX5_raise_54 : decode cX5_raise 54 = .ok (.isub, 1) := by decide +kernel
theorem dX5_raise_55 : decode cX5_raise 55 = .ok (.istore 4, 2) := by decide +kernel
theorem dX5_raise_57 : decode cX5_raise 57 = .ok (.iload 4, 2) := by decide +kernel
theorem dX5_raise_59 : decode cX5_raise 59 = .ok (.ifCond .lt 44, 3) := by decide +kernel
theorem dX5_raise_62 : decode cX5_raise 62 = .ok (.aload_n 0, 1) := by decide +kernel
theorem dX5_raise_63 : decode cX5_raise 63 = .ok (.aload_n 0, 1) := by decide +kernel
theorem dX5_raise_64 : decode cX5_raise 64 = .ok (.getfield 30, 3) := by decide +kernel
theorem dX5_raise_67 : decode cX5_raise 67 = .ok (.aload_n 0, 1) := by decide +kernel
theorem dX5_raise_68 : decode cX5_raise 68 = .ok (.getfield 30, 3) := by decide +kernel
theorem dX5_raise_71 : decode cX5_raise 71 = .ok (.aload_n 3, 1) := by decide +kernel
theorem dX5_raise_72 : decode cX5_raise 72 = .ok (.invokevirtual 76, 3) := by decide +kernel
theorem dX5_raise_75 : decode cX5_raise 75 = .ok (.aload_n 2, 1) := by decide +kernel
theorem dX5_raise_76 : decode cX5_raise 76 = .ok (.iload 4, 2) := by decide +kernel
theorem dX5_raise_78 : decode cX5_raise 78 = .ok (.invokevirtual 79, 3) := by decide +kernel
theorem dX5_raise_81 : decode cX5_raise 81 = .ok (.ifCond .eq 16, 3) := by decide +kernel
theorem dX5_raise_84 : decode cX5_raise 84 = .ok (.aload_n 0, 1) := by decide +kernel
theorem dX5_raise_85 : decode cX5_raise 85 = .ok (.aload_n 0, 1) := by decide +kernel
theorem dX5_raise_86 : decode cX5_raise 86 = .ok (.getfield 30, 3) := by decide +kernel
theorem dX5_raise_89 : decode cX5_raise 89 = .ok (.aload_n 0, 1) := by decide +kernel
theorem dX5_raise_90 : decode cX5_raise 90 = .ok (.getfield 27, 3) := by decide +kernel
theorem dX5_raise_93 : decode cX5_raise 93 = .ok (.aload_n 3, 1) := by decide +kernel
theorem dX5_raise_94 : decode cX5_raise 94 = .ok (.invokevirtual 76, 3) := by decide +kernel
theorem dX5_raise_97 : decode cX5_raise 97 = .ok (.iinc 4 (-1), 3) := by decide +kernel
theorem dX5_raise_100 : decode cX5_raise 100 = .ok (.goto (-43), 3) := by decide +kernel
theorem dX5_raise_103 : decode cX5_raise 103 = .ok (.aload_n 0, 1) := by decide +kernel
theorem dX5_raise_104 : decode cX5_raise 104 = .ok (.getfield 30, 3) := by decide +kernel
theorem dX5_raise_107 : decode cX5_raise 107 = .ok (.areturn, 1) := by decide +kernel
theorem dX5_timesInto_0 : decode cX5_timesInto 0 = .ok (.aload_n 0, 1) := by decide +kernel
theorem dX5_timesInto_1 : decode cX5_timesInto 1 = .ok (.getfield 24, 3) := by decide +kernel
theorem dX5_timesInto_4 : decode cX5_timesInto 4 = .ok (.aload_n 1, 1) := by decide +kernel
theorem dX5_timesInto_5 : decode cX5_timesInto 5 = .ok (.aload_n 2, 1) := by decide +kernel
theorem dX5_timesInto_6 : decode cX5_timesInto 6 = .ok (.invokestatic 83, 3) := by decide +kernel
theorem dX5_timesInto_9 : decode cX5_timesInto 9 = .ok (.aload_n 0, 1) := by decide +kernel
theorem dX5_timesInto_10 : decode cX5_timesInto 10 = .ok (.getfield 9, 3) := by decide +kernel
theorem dX5_timesInto_13 : decode cX5_timesInto 13 = .ok (.aload_n 0, 1) := by decide +kernel
theorem dX5_timesInto_14 : decode cX5_timesInto 14 = .ok (.getfield 20, 3) := by decide +kernel
theorem dX5_timesInto_17 : decode cX5_timesInto 17 = .ok (.aload_n 1, 1) := by decide +kernel
theorem dX5_timesInto_18 : decode cX5_timesInto 18 = .ok (.aload_n 0, 1) := by decide +kernel
theorem dX5_timesInto_19 : decode cX5_timesInto 19 = .ok (.getfield 24, 3) := by decide +kernel
theorem dX5_timesInto_22 : decode cX5_timesInto 22 = .ok (.aload_n 3, 1) := by decide +kernel
theorem dX5_timesInto_23 : decode cX5_timesInto 23 = .ok (.invokevirtual 42, 3) := by decide +kernel
theorem dX5_timesInto_26 : decode cX5_timesInto 26 = .ok (.return_, 1) := by decide +kernel
theorem dX5_symbol_0 : decode cX5_symbol 0 = .ok (.aload_n 0, 1) := by decide +kernel
theorem dX5_symbol_1 : decode cX5_symbol 1 = .ok (.aload_n 0, 1) := by decide +kernel
theorem dX5_symbol_2 : decode cX5_symbol 2 = .ok (.getfield 33, 3) := by decide +kernel
theorem dX5_symbol_5 : decode cX5_symbol 5 = .ok (.aload_n 1, 1) := by decide +kernel
theorem dX5_symbol_6 : decode cX5_symbol 6 = .ok (.aload_n 2, 1) := by decide +kernel
theorem dX5_symbol_7 : decode cX5_symbol 7 = .ok (.invokevirtual 62, 3) := by decide +kernel
theorem dX5_symbol_10 : decode cX5_symbol 10 = .ok (.aload_n 0, 1) := by decide +kernel
theorem dX5_symbol_11 : decode cX5_symbol 11 = .ok (.getfield 36, 3) := by decide +kernel
theorem dX5_symbol_14 : decode cX5_symbol 14 = .ok (.aload_n 2, 1) := by decide +kernel
theorem dX5_symbol_15 : decode cX5_symbol 15 = .ok (.invokevirtual 68, 3) := by decide +kernel
theorem dX5_symbol_18 : decode cX5_symbol 18 = .ok (.iconst 1, 1) := by decide +kernel
theorem dX5_symbol_19 : decode cX5_symbol 19 = .ok (.istore_n 3, 1) := by decide +kernel
theorem dX5_symbol_20 : decode cX5_symbol 20 = .ok (.iconst 0, 1) := by decide +kernel
theorem dX5_symbol_21 : decode cX5_symbol 21 = .ok (.istore 4, 2) := by decide +kernel
theorem dX5_symbol_23 : decode cX5_symbol 23 = .ok (.iload 4, 2) := by decide +kernel
theorem dX5_symbol_25 : decode cX5_symbol 25 = .ok (.ldc 85, 2) := by decide +kernel
theorem dX5_symbol_27 : decode cX5_symbol 27 = .ok (.if_icmp .ge 170, 3) := by decide +kernel
theorem dX5_symbol_30 : decode cX5_symbol 30 = .ok (.aload_n 0, 1) := by decide +kernel
theorem dX5_symbol_31 : decode cX5_symbol 31 = .ok (.getfield 33, 3) := by decide +kernel
theorem dX5_symbol_34 : decode cX5_symbol 34 = .ok (.getfield 52, 3) := by decide +kernel
theorem dX5_symbol_37 : decode cX5_symbol 37 = .ok (.ifCond .le 160, 3) := by decide +kernel
theorem dX5_symbol_40 : decode cX5_symbol 40 = .ok (.aload_n 0, 1) := by decide +kernel
theorem dX5_symbol_41 : decode cX5_symbol 41 = .ok (.getfield 33, 3) := by decide +kernel
theorem dX5_symbol_44 : decode cX5_symbol 44 = .ok (.invokevirtual 86, 3) := by decide +kernel
theorem dX5_symbol_47 : decode cX5_symbol 47 = .ok (.istore 5, 2) := by decide +kernel
theorem dX5_symbol_49 : decode cX5_symbol 49 = .ok (.aload_n 0, 1) := by decide +kernel
theorem dX5_symbol_50 : decode cX5_symbol 50 = .ok (.getfield 33, 3) := by decide +kernel
theorem dX5_symbol_53 : decode cX5_symbol 53 = .ok (.aload_n 0, 1) := by decide +kernel
theorem dX5_symbol_54 : decode cX5_symbol 54 = .ok (.getfield 33, 3) := by decide +kernel
theorem dX5_symbol_57 : decode cX5_symbol 57 = .ok (.iload 5, 2) := by decide +kernel
theorem dX5_symbol_59 : decode cX5_symbol 59 = .ok (.invokestatic 89, 3) := by decide +kernel
theorem dX5_symbol_62 : decode cX5_symbol 62 = .ok (.aload_n 0, 1) := by decide +kernel
theorem dX5_symbol_63 : decode cX5_symbol 63 = .ok (.getfield 36, 3) := by decide +kernel
theorem dX5_symbol_66 : decode cX5_symbol 66 = .ok (.iconst 0, 1) := by decide +kernel
theorem dX5_symbol_67 : decode cX5_symbol 67 = .ok (.invokevirtual 93, 3) := by decide +kernel
theorem dX5_symbol_70 : decode cX5_symbol 70 = .ok (.ldc2_w 97, 3) := by decide +kernel
theorem dX5_symbol_73 : decode cX5_symbol 73 = .ok (.land, 1) := by decide +kernel
theorem dX5_symbol_74 : decode cX5_symbol 74 = .ok (.lstore 6, 2) := by decide +kernel
theorem dX5_symbol_76 : decode cX5_symbol 76 = .ok (.iload 5, 2) := by decide +kernel
theorem dX5_symbol_78 : decode cX5_symbol 78 = .ok (.iconst 1, 1) := by decide +kernel
theorem dX5_symbol_79 : decode cX5_symbol 79 = .ok (.iand, 1) := by decide +kernel
theorem dX5_symbol_80 : decode cX5_symbol 80 = .ok (.iconst 1, 1) := by decide +kernel
theorem dX5_symbol_81 : decode cX5_symbol 81 = .ok (.if_icmp .ne 24, 3) := by decide +kernel
theorem dX5_symbol_84 : decode cX5_symbol 84 = .ok (.lload 6, 2) := by decide +kernel
theorem dX5_symbol_86 : decode cX5_symbol 86 = .ok (.ldc2_w 99, 3) := by decide +kernel
theorem dX5_symbol_89 : decode cX5_symbol 89 = .ok (.lcmp, 1) := by decide +kernel
theorem dX5_symbol_90 : decode cX5_symbol 90 = .ok (.ifCond .eq 12, 3) := by decide +kernel
theorem dX5_symbol_93 : decode cX5_symbol 93 = .ok (.lload 6, 2) := by decide +kernel
theorem dX5_symbol_95 : decode cX5_symbol 95 = .ok (.ldc2_w 101, 3) := by decide +kernel
theorem dX5_symbol_98 : decode cX5_symbol 98 = .ok (.lcmp, 1) := by decide +kernel
theorem dX5_symbol_99 : decode cX5_symbol 99 = .ok (.ifCond .ne 6, 3) := by decide +kernel
theorem dX5_symbol_102 : decode cX5_symbol 102 = .ok (.iload_n 3, 1) := by decide +kernel
theorem dX5_symbol_103 : decode cX5_symbol 103 = .ok (.ineg, 1) := by decide +kernel
theorem dX5_symbol_104 : decode cX5_symbol 104 = .ok (.istore_n 3, 1) := by decide +kernel
theorem dX5_symbol_105 : decode cX5_symbol 105 = .ok (.aload_n 0, 1) := by decide +kernel
theorem dX5_symbol_106 : decode cX5_symbol 106 = .ok (.getfield 33, 3) := by decide +kernel
theorem dX5_symbol_109 : decode cX5_symbol 109 = .ok (.iconst 0, 1) := by decide +kernel
theorem dX5_symbol_110 : decode cX5_symbol 110 = .ok (.invokevirtual 93, 3) := by decide +kernel
theorem dX5_symbol_113 : decode cX5_symbol 113 = .ok (.ldc2_w 99, 3) := by decide +kernel
theorem dX5_symbol_116 : decode cX5_symbol 116 = .ok (.land, 1) := by decide +kernel
theorem dX5_symbol_117 : decode cX5_symbol 117 = .ok (.ldc2_w 99, 3) := by decide +kernel
theorem dX5_symbol_120 : decode cX5_symbol 120 = .ok (.lcmp, 1) := by decide +kernel
theorem dX5_symbol_121 : decode cX5_symbol 121 = .ok (.ifCond .ne 19, 3) := by decide +kernel
theorem dX5_symbol_124 : decode cX5_symbol 124 = .ok (.lload 6, 2) := by decide +kernel
theorem dX5_symbol_126 : decode cX5_symbol 126 = .ok (.ldc2_w 99, 3) := by decide +kernel
theorem dX5_symbol_129 : decode cX5_symbol 129 = .ok (.land, 1) := by decide +kernel
theorem dX5_symbol_130 : decode cX5_symbol 130 = .ok (.ldc2_w 99, 3) := by decide +kernel
theorem dX5_symbol_133 : decode cX5_symbol 133 = .ok (.lcmp, 1) := by decide +kernel
theorem dX5_symbol_134 : decode cX5_symbol 134 = .ok (.ifCond .ne 6, 3) := by decide +kernel
theorem dX5_symbol_137 : decode cX5_symbol 137 = .ok (.iload_n 3, 1) := by decide +kernel
theorem dX5_symbol_138 : decode cX5_symbol 138 = .ok (.ineg, 1) := by decide +kernel
theorem dX5_symbol_139 : decode cX5_symbol 139 = .ok (.istore_n 3, 1) := by decide +kernel
theorem dX5_symbol_140 : decode cX5_symbol 140 = .ok (.aload_n 0, 1) := by decide +kernel
theorem dX5_symbol_141 : decode cX5_symbol 141 = .ok (.getfield 9, 3) := by decide +kernel
theorem dX5_symbol_144 : decode cX5_symbol 144 = .ok (.aload_n 0, 1) := by decide +kernel
theorem dX5_symbol_145 : decode cX5_symbol 145 = .ok (.getfield 20, 3) := by decide +kernel
theorem dX5_symbol_148 : decode cX5_symbol 148 = .ok (.aload_n 0, 1) := by decide +kernel
theorem dX5_symbol_149 : decode cX5_symbol 149 = .ok (.getfield 39, 3) := by decide +kernel
theorem dX5_symbol_152 : decode cX5_symbol 152 = .ok (.aload_n 0, 1) := by decide +kernel
theorem dX5_symbol_153 : decode cX5_symbol 153 = .ok (.getfield 36, 3) := by decide +kernel
theorem dX5_symbol_156 : decode cX5_symbol 156 = .ok (.aload_n 0, 1) := by decide +kernel
theorem dX5_symbol_157 : decode cX5_symbol 157 = .ok (.getfield 33, 3) := by decide +kernel
theorem dX5_symbol_160 : decode cX5_symbol 160 = .ok (.invokevirtual 42, 3) := by decide +kernel
theorem dX5_symbol_163 : decode cX5_symbol 163 = .ok (.aload_n 0, 1) := by decide +kernel
theorem dX5_symbol_164 : decode cX5_symbol 164 = .ok (.getfield 36, 3) := by decide +kernel
theorem dX5_symbol_167 : decode cX5_symbol 167 = .ok (.astore 8, 2) := by decide +kernel
theorem dX5_symbol_169 : decode cX5_symbol 169 = .ok (.aload_n 0, 1) := by decide +kernel
theorem dX5_symbol_170 : decode cX5_symbol 170 = .ok (.aload_n 0, 1) := by decide +kernel
theorem dX5_symbol_171 : decode cX5_symbol 171 = .ok (.getfield 33, 3) := by decide +kernel
theorem dX5_symbol_174 : decode cX5_symbol 174 = .ok (.putfield 36, 3) := by decide +kernel
theorem dX5_symbol_177 : decode cX5_symbol 177 = .ok (.aload_n 0, 1) := by decide +kernel
theorem dX5_symbol_178 : decode cX5_symbol 178 = .ok (.aload_n 0, 1) := by decide +kernel
theorem dX5_symbol_179 : decode cX5_symbol 179 = .ok (.getfield 39, 3) := by decide +kernel
theorem dX5_symbol_182 : decode cX5_symbol 182 = .ok (.putfield 33, 3) := by decide +kernel
theorem dX5_symbol_185 : decode cX5_symbol 185 = .ok (.aload_n 0, 1) := by decide +kernel
theorem dX5_symbol_186 : decode cX5_symbol 186 = .ok (.aload 8, 2) := by decide +kernel
theorem dX5_symbol_188 : decode cX5_symbol 188 = .ok (.putfield 39, 3) := by decide +kernel
theorem dX5_symbol_191 : decode cX5_symbol 191 = .ok (.iinc 4 1, 3) := by decide +kernel
theorem dX5_symbol_194 : decode cX5_symbol 194 = .ok (.goto (-171), 3) := by decide +kernel
theorem dX5_symbol_197 : decode cX5_symbol 197 = .ok (.aload_n 0, 1) := by decide +kernel
theorem dX5_symbol_198 : decode cX5_symbol 198 = .ok (.getfield 36, 3) := by decide +kernel
theorem dX5_symbol_201 : decode cX5_symbol 201 = .ok (.invokevirtual 72, 3) := by decide +kernel
theorem dX5_symbol_204 : decode cX5_symbol 204 = .ok (.iconst 1, 1) := by decide +kernel
theorem dX5_symbol_205 : decode cX5_symbol 205 = .ok (.if_icmp .ne 7, 3) := by decide +kernel
theorem dX5_symbol_208 : decode cX5_symbol 208 = .ok (.iload_n 3, 1) := by decide +kernel
theorem dX5_symbol_209 : decode cX5_symbol 209 = .ok (.goto 4, 3) := by decide +kernel
theorem dX5_symbol_212 : decode cX5_symbol 212 = .ok (.iconst 0, 1) := by decide +kernel
theorem dX5_symbol_213 : decode cX5_symbol 213 = .ok (.ireturn, 1) := by decide +kernel
theorem dX6_init_0 : decode cX6_init 0 = .ok (.aload_n 0, 1) := by decide +kernel
theorem dX6_init_1 : decode cX6_init 1 = .ok (.invokespecial 3, 3) := by decide +kernel
theorem dX6_init_4 : decode cX6_init 4 = .ok (.aload_n 0, 1) := by decide +kernel
theorem dX6_init_5 : decode cX6_init 5 = .ok (.aload_n 2, 1) := by decide +kernel
theorem dX6_init_6 : decode cX6_init 6 = .ok (.putfield 9, 3) := by decide +kernel
theorem dX6_init_9 : decode cX6_init 9 = .ok (.aload_n 0, 1) := by decide +kernel
theorem dX6_init_10 : decode cX6_init 10 = .ok (.new 15, 3) := by decide +kernel
theorem dX6_init_13 : decode cX6_init 13 = .ok (.dup, 1) := by decide +kernel
theorem dX6_init_14 : decode cX6_init 14 = .ok (.iload_n 1, 1) := by decide +kernel
theorem dX6_init_15 : decode cX6_init 15 = .ok (.invokespecial 17, 3) := by decide +kernel
theorem dX6_init_18 : decode cX6_init 18 = .ok (.putfield 20, 3) := by decide +kernel
theorem dX6_init_21 : decode cX6_init 21 = .ok (.aload_n 0, 1) := by decide +kernel
theorem dX6_init_22 : decode cX6_init 22 = .ok (.new 15, 3) := by decide +kernel
theorem dX6_init_25 : decode cX6_init 25 = .ok (.dup, 1) := by decide +kernel
