theorem dX6_init_26 : decode cX6_init 26 = .ok (.iload_n 1, 1) := by decide +kernel
theorem dX6_init_27 : decode cX6_init 27 = .ok (.invokespecial 17, 3) := by decide +kernel
theorem dX6_init_30 : decode cX6_init 30 = .ok (.putfield 24, 3) := by decide +kernel
theorem dX6_init_33 : decode cX6_init 33 = .ok (.aload_n 0, 1) := by decide +kernel
theorem dX6_init_34 : decode cX6_init 34 = .ok (.new 15, 3) := by decide +kernel
theorem dX6_init_37 : decode cX6_init 37 = .ok (.dup, 1) := by decide +kernel
theorem dX6_init_38 : decode cX6_init 38 = .ok (.iload_n 1, 1) := by decide +kernel
theorem dX6_init_39 : decode cX6_init 39 = .ok (.invokespecial 17, 3) := by decide +kernel
theorem dX6_init_42 : decode cX6_init 42 = .ok (.putfield 27, 3) := by decide +kernel
theorem dX6_init_45 : decode cX6_init 45 = .ok (.aload_n 0, 1) := by decide +kernel
theorem dX6_init_46 : decode cX6_init 46 = .ok (.new 15, 3) := by decide +kernel
theorem dX6_init_49 : decode cX6_init 49 = .ok (.dup, 1) := by decide +kernel
theorem dX6_init_50 : decode cX6_init 50 = .ok (.iload_n 1, 1) := by decide +kernel
theorem dX6_init_51 : decode cX6_init 51 = .ok (.invokespecial 17, 3) := by decide +kernel
theorem dX6_init_54 : decode cX6_init 54 = .ok (.putfield 30, 3) := by decide +kernel
theorem dX6_init_57 : decode cX6_init 57 = .ok (.aload_n 0, 1) := by decide +kernel
theorem dX6_init_58 : decode cX6_init 58 = .ok (.new 15, 3) := by decide +kernel
theorem dX6_init_61 : decode cX6_init 61 = .ok (.dup, 1) := by decide +kernel
theorem dX6_init_62 : decode cX6_init 62 = .ok (.iload_n 1, 1) := by decide +kernel
theorem dX6_init_63 : decode cX6_init 63 = .ok (.invokespecial 17, 3) := by decide +kernel
theorem dX6_init_66 : decode cX6_init 66 = .ok (.putfield 33, 3) := by decide +kernel
theorem dX6_init_69 : decode cX6_init 69 = .ok (.aload_n 0, 1) := by decide +kernel
theorem dX6_init_70 : decode cX6_init 70 = .ok (.new 15, 3) := by decide +kernel
theorem dX6_init_73 : decode cX6_init 73 = .ok (.dup, 1) := by decide +kernel
theorem dX6_init_74 : decode cX6_init 74 = .ok (.iconst 1, 1) := by decide +kernel
theorem dX6_init_75 : decode cX6_init 75 = .ok (.invokespecial 17, 3) := by decide +kernel
theorem dX6_init_78 : decode cX6_init 78 = .ok (.putfield 36, 3) := by decide +kernel
theorem dX6_init_81 : decode cX6_init 81 = .ok (.aload_n 0, 1) := by decide +kernel
theorem dX6_init_82 : decode cX6_init 82 = .ok (.getfield 36, 3) := by decide +kernel
theorem dX6_init_85 : decode cX6_init 85 = .ok (.iconst 1, 1) := by decide +kernel
theorem dX6_init_86 : decode cX6_init 86 = .ok (.invokevirtual 39, 3) := by decide +kernel
theorem dX6_init_89 : decode cX6_init 89 = .ok (.aload_n 0, 1) := by decide +kernel
theorem dX6_init_90 : decode cX6_init 90 = .ok (.new 15, 3) := by decide +kernel
theorem dX6_init_93 : decode cX6_init 93 = .ok (.dup, 1) := by decide +kernel
theorem dX6_init_94 : decode cX6_init 94 = .ok (.iload_n 1, 1) := by decide +kernel
theorem dX6_init_95 : decode cX6_init 95 = .ok (.invokespecial 17, 3) := by decide +kernel
theorem dX6_init_98 : decode cX6_init 98 = .ok (.putfield 42, 3) := by decide +kernel
theorem dX6_init_101 : decode cX6_init 101 = .ok (.aload_n 0, 1) := by decide +kernel
theorem dX6_init_102 : decode cX6_init 102 = .ok (.new 15, 3) := by decide +kernel
theorem dX6_init_105 : decode cX6_init 105 = .ok (.dup, 1) := by decide +kernel
theorem dX6_init_106 : decode cX6_init 106 = .ok (.iload_n 1, 1) := by decide +kernel
theorem dX6_init_107 : decode cX6_init 107 = .ok (.invokespecial 17, 3) := by decide +kernel
theorem dX6_init_110 : decode cX6_init 110 = .ok (.putfield 45, 3) := by decide +kernel
theorem dX6_init_113 : decode cX6_init 113 = .ok (.return_, 1) := by decide +kernel
theorem dX6_find_0 : decode cX6_find 0 = .ok (.aload_n 0, 1) := by decide +kernel
theorem dX6_find_1 : decode cX6_find 1 = .ok (.getfield 42, 3) := by decide +kernel
theorem dX6_find_4 : decode cX6_find 4 = .ok (.iconst 0, 1) := by decide +kernel
theorem dX6_find_5 : decode cX6_find 5 = .ok (.invokevirtual 39, 3) := by decide +kernel
theorem dX6_find_8 : decode cX6_find 8 = .ok (.aload_n 1, 1) := by decide +kernel
theorem dX6_find_9 : decode cX6_find 9 = .ok (.getfield 48, 3) := by decide +kernel
theorem dX6_find_12 : decode cX6_find 12 = .ok (.ifCond .eq 8, 3) := by decide +kernel
theorem dX6_find_15 : decode cX6_find 15 = .ok (.iload_n 2, 1) := by decide +kernel
theorem dX6_find_16 : decode cX6_find 16 = .ok (.iconst 1, 1) := by decide +kernel
theorem dX6_find_17 : decode cX6_find 17 = .ok (.if_icmp .ge 8, 3) := by decide +kernel
theorem dX6_find_20 : decode cX6_find 20 = .ok (.aload_n 0, 1) := by decide +kernel
theorem dX6_find_21 : decode cX6_find 21 = .ok (.getfield 42, 3) := by decide +kernel
theorem dX6_find_24 : decode cX6_find 24 = .ok (.areturn, 1) := by decide +kernel
theorem dX6_find_25 : decode cX6_find 25 = .ok (.iload_n 2, 1) := by decide +kernel
theorem dX6_find_26 : decode cX6_find 26 = .ok (.iconst 1, 1) := by decide +kernel
theorem dX6_find_27 : decode cX6_find 27 = .ok (.if_icmp .ne 16, 3) := by decide +kernel
theorem dX6_find_30 : decode cX6_find 30 = .ok (.aload_n 0, 1) := by decide +kernel
theorem dX6_find_31 : decode cX6_find 31 = .ok (.getfield 42, 3) := by decide +kernel
theorem dX6_find_34 : decode cX6_find 34 = .ok (.aload_n 1, 1) := by decide +kernel
theorem dX6_find_35 : decode cX6_find 35 = .ok (.invokevirtual 52, 3) := by decide +kernel
theorem dX6_find_38 : decode cX6_find 38 = .ok (.aload_n 0, 1) := by decide +kernel
theorem dX6_find_39 : decode cX6_find 39 = .ok (.getfield 42, 3) := by decide +kernel
theorem dX6_find_42 : decode cX6_find 42 = .ok (.areturn, 1) := by decide +kernel
theorem dX6_find_43 : decode cX6_find 43 = .ok (.aload_n 1, 1) := by decide +kernel
theorem dX6_find_44 : decode cX6_find 44 = .ok (.invokevirtual 56, 3) := by decide +kernel
theorem dX6_find_47 : decode cX6_find 47 = .ok (.iconst 1, 1) := by decide +kernel
theorem dX6_find_48 : decode cX6_find 48 = .ok (.isub, 1) := by decide +kernel
theorem dX6_find_49 : decode cX6_find 49 = .ok (.iload_n 2, 1) := by decide +kernel
theorem dX6_find_50 : decode cX6_find 50 = .ok (.idiv, 1) := by decide +kernel
theorem dX6_find_51 : decode cX6_find 51 = .ok (.istore_n 3, 1) := by decide +kernel
theorem dX6_find_52 : decode cX6_find 52 = .ok (.iconst 0, 1) := by decide +kernel
theorem dX6_find_53 : decode cX6_find 53 = .ok (.iload_n 3, 1) := by decide +kernel
theorem dX6_find_54 : decode cX6_find 54 = .ok (.bipush 8, 2) := by decide +kernel
theorem dX6_find_56 : decode cX6_find 56 = .ok (.isub, 1) := by decide +kernel
theorem dX6_find_57 : decode cX6_find 57 = .ok (.iconst 1, 1) := by decide +kernel
theorem dX6_find_58 : decode cX6_find 58 = .ok (.iadd, 1) := by decide +kernel
theorem dX6_find_59 : decode cX6_find 59 = .ok (.invokestatic 60, 3) := by decide +kernel
theorem dX6_find_62 : decode cX6_find 62 = .ok (.istore 4, 2) := by decide +kernel
theorem dX6_find_64 : decode cX6_find 64 = .ok (.iload_n 3, 1) := by decide +kernel
theorem dX6_find_65 : decode cX6_find 65 = .ok (.istore 5, 2) := by decide +kernel
theorem dX6_find_67 : decode cX6_find 67 = .ok (.iload 5, 2) := by decide +kernel
theorem dX6_find_69 : decode cX6_find 69 = .ok (.iload 4, 2) := by decide +kernel
theorem dX6_find_71 : decode cX6_find 71 = .ok (.if_icmp .lt 39, 3) := by decide +kernel
theorem dX6_find_74 : decode cX6_find 74 = .ok (.aload_n 0, 1) := by decide +kernel
theorem dX6_find_75 : decode cX6_find 75 = .ok (.iload 5, 2) := by decide +kernel
theorem dX6_find_77 : decode cX6_find 77 = .ok (.invokevirtual 66, 3) := by decide +kernel
theorem dX6_find_80 : decode cX6_find 80 = .ok (.aload_n 0, 1) := by decide +kernel
theorem dX6_find_81 : decode cX6_find 81 = .ok (.aload_n 0, 1) := by decide +kernel
theorem dX6_find_82 : decode cX6_find 82 = .ok (.getfield 45, 3) := by decide +kernel
theorem dX6_find_85 : decode cX6_find 85 = .ok (.iload_n 2, 1) := by decide +kernel
theorem dX6_find_86 : decode cX6_find 86 = .ok (.aload_n 1, 1) := by decide +kernel
theorem dX6_find_87 : decode cX6_find 87 = .ok (.invokevirtual 69, 3) := by decide +kernel
theorem dX6_find_90 : decode cX6_find 90 = .ok (.ifCond .eq 14, 3) := by decide +kernel
theorem dX6_find_93 : decode cX6_find 93 = .ok (.aload_n 0, 1) := by decide +kernel
theorem dX6_find_94 : decode cX6_find 94 = .ok (.getfield 42, 3) := by decide +kernel
theorem dX6_find_97 : decode cX6_find 97 = .ok (.aload_n 0, 1) := by decide +kernel
theorem dX6_find_98 : decode cX6_find 98 = .ok (.getfield 45, 3) := by decide +kernel
theorem dX6_find_101 : decode cX6_find 101 = .ok (.invokevirtual 52, 3) := by decide +kernel
theorem dX6_find_104 : decode cX6_find 104 = .ok (.iinc 5 (-1), 3) := by decide +kernel
theorem dX6_find_107 : decode cX6_find 107 = .ok (.goto (-40), 3) := by decide +kernel
theorem dX6_find_110 : decode cX6_find 110 = .ok (.iload 4, 2) := by decide +kernel
theorem dX6_find_112 : decode cX6_find 112 = .ok (.ifCond .le 52, 3) := by decide +kernel
theorem dX6_find_115 : decode cX6_find 115 = .ok (.aload_n 0, 1) := by decide +kernel
theorem dX6_find_116 : decode cX6_find 116 = .ok (.iload 4, 2) := by decide +kernel
theorem dX6_find_118 : decode cX6_find 118 = .ok (.invokevirtual 66, 3) := by decide +kernel
theorem dX6_find_121 : decode cX6_find 121 = .ok (.aload_n 0, 1) := by decide +kernel
theorem dX6_find_122 : decode cX6_find 122 = .ok (.getfield 42, 3) := by decide +kernel
theorem dX6_find_125 : decode cX6_find 125 = .ok (.aload_n 0, 1) := by decide +kernel
theorem dX6_find_126 : decode cX6_find 126 = .ok (.getfield 45, 3) := by decide +kernel
theorem dX6_find_129 : decode cX6_find 129 = .ok (.invokevirtual 52, 3) := by decide +kernel
theorem dX6_find_132 : decode cX6_find 132 = .ok (.iconst 1, 1) := by decide +kernel
theorem dX6_find_133 : decode cX6_find 133 = .ok (.istore 5, 2) := by decide +kernel
theorem dX6_find_135 : decode cX6_find 135 = .ok (.iconst 0, 1) := by decide +kernel
theorem dX6_find_136 : decode cX6_find 136 = .ok (.istore 6, 2) := by decide +kernel
theorem dX6_find_138 : decode cX6_find 138 = .ok (.iload 6, 2) := by decide +kernel
theorem dX6_find_140 : decode cX6_find 140 = .ok (.ldc 73, 2) := by decide +kernel
theorem dX6_find_142 : decode cX6_find 142 = .ok (.if_icmp .ge 22, 3) := by decide +kernel
theorem dX6_find_145 : decode cX6_find 145 = .ok (.iload 5, 2) := by decide +kernel
theorem dX6_find_147 : decode cX6_find 147 = .ok (.ifCond .eq 17, 3) := by decide +kernel
theorem dX6_find_150 : decode cX6_find 150 = .ok (.aload_n 0, 1) := by decide +kernel
theorem dX6_find_151 : decode cX6_find 151 = .ok (.aload_n 1, 1) := by decide +kernel
theorem dX6_find_152 : decode cX6_find 152 = .ok (.iload_n 2, 1) := by decide +kernel
theorem dX6_find_153 : decode cX6_find 153 = .ok (.invokevirtual 74, 3) := by decide +kernel
theorem dX6_find_156 : decode cX6_find 156 = .ok (.istore 5, 2) := by decide +kernel
theorem dX6_find_158 : decode cX6_find 158 = .ok (.iinc 6 1, 3) := by decide +kernel
theorem dX6_find_161 : decode cX6_find 161 = .ok (.goto (-23), 3) := by decide +kernel
theorem dX6_find_164 : decode cX6_find 164 = .ok (.aload_n 0, 1) := by decide +kernel
theorem dX6_find_165 : decode cX6_find 165 = .ok (.getfield 42, 3) := by decide +kernel
theorem dX6_find_168 : decode cX6_find 168 = .ok (.areturn, 1) := by decide +kernel
theorem dX6_guessWithBit_0 : decode cX6_guessWithBit 0 = .ok (.aload_n 0, 1) := by decide +kernel
theorem dX6_guessWithBit_1 : decode cX6_guessWithBit 1 = .ok (.getfield 33, 3) := by decide +kernel
theorem dX6_guessWithBit_4 : decode cX6_guessWithBit 4 = .ok (.aload_n 0, 1) := by decide +kernel
theorem dX6_guessWithBit_5 : decode cX6_guessWithBit 5 = .ok (.getfield 36, 3) := by decide +kernel
theorem dX6_guessWithBit_8 : decode cX6_guessWithBit 8 = .ok (.iload_n 1, 1) := by decide +kernel
theorem dX6_guessWithBit_9 : decode cX6_guessWithBit 9 = .ok (.invokestatic 78, 3) := by decide +kernel
theorem dX6_guessWithBit_12 : decode cX6_guessWithBit 12 = .ok (.aload_n 0, 1) := by decide +kernel
theorem dX6_guessWithBit_13 : decode cX6_guessWithBit 13 = .ok (.getfield 45, 3) := by decide +kernel
theorem dX6_guessWithBit_16 : decode cX6_guessWithBit 16 = .ok (.aload_n 0, 1) := by decide +kernel
theorem dX6_guessWithBit_17 : decode cX6_guessWithBit 17 = .ok (.getfield 42, 3) := by decide +kernel
theorem dX6_guessWithBit_20 : decode cX6_guessWithBit 20 = .ok (.aload_n 0, 1) := by decide +kernel
theorem dX6_guessWithBit_21 : decode cX6_guessWithBit 21 = .ok (.getfield 33, 3) := by decide +kernel
theorem dX6_guessWithBit_24 : decode cX6_guessWithBit 24 = .ok (.invokestatic 84, 3) := by decide +kernel
theorem dX6_guessWithBit_27 : decode cX6_guessWithBit 27 = .ok (.return_, 1) := by decide +kernel
theorem dX6_stepDown_0 : decode cX6_stepDown 0 = .ok (.aload_n 0, 1) := by decide +kernel
theorem dX6_stepDown_1 : decode cX6_stepDown 1 = .ok (.getfield 20, 3) := by decide +kernel
theorem dX6_stepDown_4 : decode cX6_stepDown 4 = .ok (.iconst 0, 1) := by decide +kernel
theorem dX6_stepDown_5 : decode cX6_stepDown 5 = .ok (.invokevirtual 39, 3) := by decide +kernel
theorem dX6_stepDown_8 : decode cX6_stepDown 8 = .ok (.aload_n 0, 1) := by decide +kernel
theorem dX6_stepDown_9 : decode cX6_stepDown 9 = .ok (.aload_n 0, 1) := by decide +kernel
theorem dX6_stepDown_10 : decode cX6_stepDown 10 = .ok (.getfield 42, 3) := by decide +kernel
theorem dX6_stepDown_13 : decode cX6_stepDown 13 = .ok (.iload_n 2, 1) := by decide +kernel
theorem dX6_stepDown_14 : decode cX6_stepDown 14 = .ok (.iconst 1, 1) := by decide +kernel
theorem dX6_stepDown_15 : decode cX6_stepDown 15 = .ok (.isub, 1) := by decide +kernel
theorem dX6_stepDown_16 : decode cX6_stepDown 16 = .ok (.aload_n 1, 1) := by decide +kernel
theorem dX6_stepDown_17 : decode cX6_stepDown 17 = .ok (.invokevirtual 69, 3) := by decide +kernel
theorem dX6_stepDown_20 : decode cX6_stepDown 20 = .ok (.ifCond .eq 23, 3) := by decide +kernel
theorem dX6_stepDown_23 : decode cX6_stepDown 23 = .ok (.aload_n 0, 1) := by decide +kernel
theorem dX6_stepDown_24 : decode cX6_stepDown 24 = .ok (.getfield 9, 3) := by decide +kernel
theorem dX6_stepDown_27 : decode cX6_stepDown 27 = .ok (.aload_n 0, 1) := by decide +kernel
theorem dX6_stepDown_28 : decode cX6_stepDown 28 = .ok (.getfield 20, 3) := by decide +kernel
theorem dX6_stepDown_31 : decode cX6_stepDown 31 = .ok (.aload_n 0, 1) := by decide +kernel
theorem dX6_stepDown_32 : decode cX6_stepDown 32 = .ok (.getfield 24, 3) := by decide +kernel
theorem dX6_stepDown_35 : decode cX6_stepDown 35 = .ok (.aload_n 1, 1) := by decide +kernel
theorem dX6_stepDown_36 : decode cX6_stepDown 36 = .ok (.aload_n 0, 1) := by decide +kernel
theorem dX6_stepDown_37 : decode cX6_stepDown 37 = .ok (.getfield 30, 3) := by decide +kernel
theorem dX6_stepDown_40 : decode cX6_stepDown 40 = .ok (.invokevirtual 88, 3) := by decide +kernel
theorem dX6_stepDown_43 : decode cX6_stepDown 43 = .ok (.aload_n 0, 1) := by decide +kernel
theorem dX6_stepDown_44 : decode cX6_stepDown 44 = .ok (.getfield 33, 3) := by decide +kernel
theorem dX6_stepDown_47 : decode cX6_stepDown 47 = .ok (.iload_n 2, 1) := by decide +kernel
theorem dX6_stepDown_48 : decode cX6_stepDown 48 = .ok (.iconst 1, 1) := by decide +kernel
theorem dX6_stepDown_49 : decode cX6_stepDown 49 = .ok (.isub, 1) := by decide +kernel
theorem dX6_stepDown_50 : decode cX6_stepDown 50 = .ok (.invokevirtual 39, 3) := by decide +kernel
theorem dX6_stepDown_53 : decode cX6_stepDown 53 = .ok (.aload_n 0, 1) := by decide +kernel
theorem dX6_stepDown_54 : decode cX6_stepDown 54 = .ok (.getfield 27, 3) := by decide +kernel
theorem dX6_stepDown_57 : decode cX6_stepDown 57 = .ok (.aload_n 0, 1) := by decide +kernel
theorem dX6_stepDown_58 : decode cX6_stepDown 58 = .ok (.getfield 42, 3) := by decide +kernel
theorem dX6_stepDown_61 : decode cX6_stepDown 61 = .ok (.aload_n 0, 1) := by decide +kernel
theorem dX6_stepDown_62 : decode cX6_stepDown 62 = .ok (.getfield 33, 3) := by decide +kernel
theorem dX6_stepDown_65 : decode cX6_stepDown 65 = .ok (.invokestatic 94, 3) := by decide +kernel
theorem dX6_stepDown_68 : decode cX6_stepDown 68 = .ok (.aload_n 0, 1) := by decide +kernel
theorem dX6_stepDown_69 : decode cX6_stepDown 69 = .ok (.getfield 27, 3) := by decide +kernel
theorem dX6_stepDown_72 : decode cX6_stepDown 72 = .ok (.aload_n 0, 1) := by decide +kernel
theorem dX6_stepDown_73 : decode cX6_stepDown 73 = .ok (.getfield 27, 3) := by decide +kernel
theorem dX6_stepDown_76 : decode cX6_stepDown 76 = .ok (.aload_n 0, 1) := by decide +kernel
theorem dX6_stepDown_77 : decode cX6_stepDown 77 = .ok (.getfield 20, 3) := by decide +kernel
theorem dX6_stepDown_80 : decode cX6_stepDown 80 = .ok (.invokestatic 84, 3) := by decide +kernel
theorem dX6_stepDown_83 : decode cX6_stepDown 83 = .ok (.aload_n 0, 1) := by decide +kernel
theorem dX6_stepDown_84 : decode cX6_stepDown 84 = .ok (.getfield 33, 3) := by decide +kernel
theorem dX6_stepDown_87 : decode cX6_stepDown 87 = .ok (.iload_n 2, 1) := by decide +kernel
theorem dX6_stepDown_88 : decode cX6_stepDown 88 = .ok (.invokevirtual 39, 3) := by decide +kernel
theorem dX6_stepDown_91 : decode cX6_stepDown 91 = .ok (.aload_n 0, 1) := by decide +kernel
theorem dX6_stepDown_92 : decode cX6_stepDown 92 = .ok (.getfield 9, 3) := by decide +kernel
theorem dX6_stepDown_95 : decode cX6_stepDown 95 = .ok (.aload_n 0, 1) := by decide +kernel
theorem dX6_stepDown_96 : decode cX6_stepDown 96 = .ok (.getfield 45, 3) := by decide +kernel
theorem dX6_stepDown_99 : decode cX6_stepDown 99 = .ok (.aload_n 0, 1) := by decide +kernel
theorem dX6_stepDown_100 : decode cX6_stepDown 100 = .ok (.getfield 24, 3) := by decide +kernel
theorem dX6_stepDown_103 : decode cX6_stepDown 103 = .ok (.aload_n 0, 1) := by decide +kernel
theorem dX6_stepDown_104 : decode cX6_stepDown 104 = .ok (.getfield 27, 3) := by decide +kernel
theorem dX6_stepDown_107 : decode cX6_stepDown 107 = .ok (.aload_n 0, 1) := by decide +kernel
theorem dX6_stepDown_108 : decode cX6_stepDown 108 = .ok (.getfield 33, 3) := by decide +kernel
theorem dX6_stepDown_111 : decode cX6_stepDown 111 = .ok (.invokevirtual 88, 3) := by decide +kernel
theorem dX6_stepDown_114 : decode cX6_stepDown 114 = .ok (.aload_n 0, 1) := by decide +kernel
theorem dX6_stepDown_115 : decode cX6_stepDown 115 = .ok (.getfield 45, 3) := by decide +kernel
theorem dX6_stepDown_118 : decode cX6_stepDown 118 = .ok (.aload_n 0, 1) := by decide +kernel
theorem dX6_stepDown_119 : decode cX6_stepDown 119 = .ok (.getfield 42, 3) := by decide +kernel
theorem dX6_stepDown_122 : decode cX6_stepDown 122 = .ok (.invokestatic 96, 3) := by decide +kernel
theorem dX6_stepDown_125 : decode cX6_stepDown 125 = .ok (.ifCond .lt 5, 3) := by decide +kernel
theorem dX6_stepDown_128 : decode cX6_stepDown 128 = .ok (.iconst 0, 1) := by decide +kernel
theorem dX6_stepDown_129 : decode cX6_stepDown 129 = .ok (.ireturn, 1) := by decide +kernel
theorem dX6_stepDown_130 : decode cX6_stepDown 130 = .ok (.aload_n 0, 1) := by decide +kernel
theorem dX6_stepDown_131 : decode cX6_stepDown 131 = .ok (.getfield 42, 3) := by decide +kernel
theorem dX6_stepDown_134 : decode cX6_stepDown 134 = .ok (.astore_n 3, 1) := by decide +kernel
theorem dX6_stepDown_135 : decode cX6_stepDown 135 = .ok (.aload_n 0, 1) := by decide +kernel
theorem dX6_stepDown_136 : decode cX6_stepDown 136 = .ok (.aload_n 0, 1) := by decide +kernel
theorem dX6_stepDown_137 : decode cX6_stepDown 137 = .ok (.getfield 45, 3) := by decide +kernel
theorem dX6_stepDown_140 : decode cX6_stepDown 140 = .ok (.putfield 42, 3) := by decide +kernel
theorem dX6_stepDown_143 : decode cX6_stepDown 143 = .ok (.aload_n 0, 1) := by decide +kernel
theorem dX6_stepDown_144 : decode cX6_stepDown 144 = .ok (.aload_n 3, 1) := by decide +kernel
theorem dX6_stepDown_145 : decode cX6_stepDown 145 = .ok (.putfield 45, 3) := by decide +kernel
theorem dX6_stepDown_148 : decode cX6_stepDown 148 = .ok (.iconst 1, 1) := by decide +kernel
theorem dX6_stepDown_149 : decode cX6_stepDown 149 = .ok (.ireturn, 1) := by decide +kernel
theorem dX6_raiseUpTo_0 : decode cX6_raiseUpTo 0 = .ok (.aload_n 0, 1) := by decide +kernel
theorem dX6_raiseUpTo_1 : decode cX6_raiseUpTo 1 = .ok (.getfield 30, 3) := by decide +kernel
theorem dX6_raiseUpTo_4 : decode cX6_raiseUpTo 4 = .ok (.iconst 1, 1) := by decide +kernel
theorem dX6_raiseUpTo_5 : decode cX6_raiseUpTo 5 = .ok (.invokevirtual 39, 3) := by decide +kernel
theorem dX6_raiseUpTo_8 : decode cX6_raiseUpTo 8 = .ok (.bipush 31, 2) := by decide +kernel
theorem dX6_raiseUpTo_10 : decode cX6_raiseUpTo 10 = .ok (.iload_n 2, 1) := by decide +kernel
theorem dX6_raiseUpTo_11 : decode cX6_raiseUpTo 11 = .ok (.invokestatic 100, 3) := by decide +kernel
theorem dX6_raiseUpTo_14 : decode cX6_raiseUpTo 14 = .ok (.isub, 1) := by decide +kernel
theorem dX6_raiseUpTo_15 : decode cX6_raiseUpTo 15 = .ok (.istore 4, 2) := by decide +kernel
theorem dX6_raiseUpTo_17 : decode cX6_raiseUpTo 17 = .ok (.iload 4, 2) := by decide +kernel
theorem dX6_raiseUpTo_19 : decode cX6_raiseUpTo 19 = .ok (.ifCond .lt 92, 3) := by decide +kernel
theorem dX6_raiseUpTo_22 : decode cX6_raiseUpTo 22 = .ok (.aload_n 0, 1) := by decide +kernel
theorem dX6_raiseUpTo_23 : decode cX6_raiseUpTo 23 = .ok (.getfield 27, 3) := by decide +kernel
theorem dX6_raiseUpTo_26 : decode cX6_raiseUpTo 26 = .ok (.aload_n 0, 1) := by decide +kernel
theorem dX6_raiseUpTo_27 : decode cX6_raiseUpTo 27 = .ok (.getfield 30, 3) := by decide +kernel
theorem dX6_raiseUpTo_30 : decode cX6_raiseUpTo 30 = .ok (.aload_n 0, 1) := by decide +kernel
theorem dX6_raiseUpTo_31 : decode cX6_raiseUpTo 31 = .ok (.getfield 30, 3) := by decide +kernel
theorem dX6_raiseUpTo_34 : decode cX6_raiseUpTo 34 = .ok (.invokestatic 94, 3) := by decide +kernel
theorem dX6_raiseUpTo_37 : decode cX6_raiseUpTo 37 = .ok (.aload_n 0, 1) := by decide +kernel
theorem dX6_raiseUpTo_38 : decode cX6_raiseUpTo 38 = .ok (.getfield 30, 3) := by decide +kernel
theorem dX6_raiseUpTo_41 : decode cX6_raiseUpTo 41 = .ok (.aload_n 0, 1) := by decide +kernel
theorem dX6_raiseUpTo_42 : decode cX6_raiseUpTo 42 = .ok (.getfield 27, 3) := by decide +kernel
theorem dX6_raiseUpTo_45 : decode cX6_raiseUpTo 45 = .ok (.invokevirtual 52, 3) := by decide +kernel
theorem dX6_raiseUpTo_48 : decode cX6_raiseUpTo 48 = .ok (.iload_n 2, 1) := by decide +kernel
theorem dX6_raiseUpTo_49 : decode cX6_raiseUpTo 49 = .ok (.iload 4, 2) := by decide +kernel
theorem dX6_raiseUpTo_51 : decode cX6_raiseUpTo 51 = .ok (.iushr, 1) := by decide +kernel
theorem dX6_raiseUpTo_52 : decode cX6_raiseUpTo 52 = .ok (.iconst 1, 1) := by decide +kernel
theorem dX6_raiseUpTo_53 : decode cX6_raiseUpTo 53 = .ok (.iand, 1) := by decide +kernel
theorem dX6_raiseUpTo_54 : decode cX6_raiseUpTo 54 = .ok (.iconst 1, 1) := by decide +kernel
theorem dX6_raiseUpTo_55 : decode cX6_raiseUpTo 55 = .ok (.if_icmp .ne 37, 3) := by decide +kernel
theorem dX6_raiseUpTo_58 : decode cX6_raiseUpTo 58 = .ok (.aload_n 0, 1) := by decide +kernel
theorem dX6_raiseUpTo_59 : decode cX6_raiseUpTo 59 = .ok (.getfield 30, 3) := by decide +kernel
theorem dX6_raiseUpTo_62 : decode cX6_raiseUpTo 62 = .ok (.aload_n 3, 1) := by decide +kernel
theorem dX6_raiseUpTo_63 : decode cX6_raiseUpTo 63 = .ok (.invokestatic 96, 3) := by decide +kernel
theorem dX6_raiseUpTo_66 : decode cX6_raiseUpTo 66 = .ok (.ifCond .gt 26, 3) := by decide +kernel
theorem dX6_raiseUpTo_69 : decode cX6_raiseUpTo 69 = .ok (.aload_n 0, 1) := by decide +kernel
theorem dX6_raiseUpTo_70 : decode cX6_raiseUpTo 70 = .ok (.getfield 27, 3) := by decide +kernel
theorem dX6_raiseUpTo_73 : decode cX6_raiseUpTo 73 = .ok (.aload_n 0, 1) := by decide +kernel
theorem dX6_raiseUpTo_74 : decode cX6_raiseUpTo 74 = .ok (.getfield 30, 3) := by decide +kernel
theorem dX6_raiseUpTo_77 : decode cX6_raiseUpTo 77 = .ok (.aload_n 1, 1) := by decide +kernel
theorem dX6_raiseUpTo_78 : decode cX6_raiseUpTo 78 = .ok (.invokestatic 94, 3) := by decide +kernel
theorem dX6_raiseUpTo_81 : decode cX6_raiseUpTo 81 = .ok (.aload_n 0, 1) := by decide +kernel
theorem dX6_raiseUpTo_82 : decode cX6_raiseUpTo 82 = .ok (.getfield 30, 3) := by decide +kernel
theorem dX6_raiseUpTo_85 : decode cX6_raiseUpTo 85 = .ok (.aload_n 0, 1) := by decide +kernel
theorem dX6_raiseUpTo_86 : decode cX6_raiseUpTo 86 = .ok (.getfield 27, 3) := by decide +kernel
theorem dX6_raiseUpTo_89 : decode cX6_raiseUpTo 89 = .ok (.invokevirtual 52, 3) := by decide +kernel
theorem dX6_raiseUpTo_92 : decode cX6_raiseUpTo 92 = .ok (.aload_n 0, 1) := by decide +kernel
theorem dX6_raiseUpTo_93 : decode cX6_raiseUpTo 93 = .ok (.getfield 30, 3) := by decide +kernel
theorem dX6_raiseUpTo_96 : decode cX6_raiseUpTo 96 = .ok (.aload_n 3, 1) := by decide +kernel
theorem dX6_raiseUpTo_97 : decode cX6_raiseUpTo 97 = .ok (.invokestatic 96, 3) := by decide +kernel
theorem dX6_raiseUpTo_100 : decode cX6_raiseUpTo 100 = .ok (.ifCond .le 5, 3) := by decide +kernel
theorem dX6_raiseUpTo_103 : decode cX6_raiseUpTo 103 = .ok (.iconst 0, 1) := by decide +kernel
theorem dX6_raiseUpTo_104 : decode cX6_raiseUpTo 104 = .ok (.ireturn, 1) := by decide +kernel
theorem dX6_raiseUpTo_105 : decode cX6_raiseUpTo 105 = .ok (.iinc 4 (-1), 3) := by decide +kernel
theorem dX6_raiseUpTo_108 : decode cX6_raiseUpTo 108 = .ok (.goto (-91), 3) := by decide +kernel
theorem dX6_raiseUpTo_111 : decode cX6_raiseUpTo 111 = .ok (.iconst 1, 1) := by decide +kernel
theorem dX6_raiseUpTo_112 : decode cX6_raiseUpTo 112 = .ok (.ireturn, 1) := by decide +kernel
theorem dX8_init_0 : decode cX8_init 0 = .ok (.aload_n 0, 1) := by decide +kernel
theorem dX8_init_1 : decode cX8_init 1 = .ok (.invokespecial 3, 3) := by decide +kernel
theorem dX8_init_4 : decode cX8_init 4 = .ok (.aload_n 0, 1) := by decide +kernel
theorem dX8_init_5 : decode cX8_init 5 = .ok (.sipush 1000, 3) := by decide +kernel
theorem dX8_init_8 : decode cX8_init 8 = .ok (.newarray .byte, 2) := by decide +kernel
theorem dX8_init_10 : decode cX8_init 10 = .ok (.putfield 9, 3) := by decide +kernel
theorem dX8_init_13 : decode cX8_init 13 = .ok (.return_, 1) := by decide +kernel
theorem dX8_append_0 : decode cX8_append 0 = .ok (.bipush 24, 2) := by decide +kernel
theorem dX8_append_2 : decode cX8_append 2 = .ok (.istore_n 2, 1) := by decide +kernel
theorem dX8_append_3 : decode cX8_append 3 = .ok (.iload_n 2, 1) := by decide +kernel
theorem dX8_append_4 : decode cX8_append 4 = .ok (.ifCond .lt 44, 3) := by decide +kernel
theorem dX8_append_7 : decode cX8_append 7 = .ok (.aload_n 0, 1) := by decide +kernel
theorem dX8_append_8 : decode cX8_append 8 = .ok (.getfield 15, 3) := by decide +kernel
theorem dX8_append_11 : decode cX8_append 11 = .ok (.aload_n 0, 1) := by decide +kernel
theorem dX8_append_12 : decode cX8_append 12 = .ok (.getfield 9, 3) := by decide +kernel
theorem dX8_append_15 : decode cX8_append 15 = .ok (.arraylength, 1) := by decide +kernel
theorem dX8_append_16 : decode cX8_append 16 = .ok (.if_icmp .ge 32, 3) := by decide +kernel
theorem dX8_append_19 : decode cX8_append 19 = .ok (.aload_n 0, 1) := by decide +kernel
theorem dX8_append_20 : decode cX8_append 20 = .ok (.getfield 9, 3) := by decide +kernel
theorem dX8_append_23 : decode cX8_append 23 = .ok (.aload_n 0, 1) := by decide +kernel
theorem dX8_append_24 : decode cX8_append 24 = .ok (.getfield 15, 3) := by decide +kernel
theorem dX8_append_27 : decode cX8_append 27 = .ok (.iload_n 1, 1) := by decide +kernel
theorem dX8_append_28 : decode cX8_append 28 = .ok (.iload_n 2, 1) := by decide +kernel
theorem dX8_append_29 : decode cX8_append 29 = .ok (.iushr, 1) := by decide +kernel
theorem dX8_append_30 : decode cX8_append 30 = .ok (.i2b, 1) := by decide +kernel
theorem dX8_append_31 : decode cX8_append 31 = .ok (.bastore, 1) := by decide +kernel
theorem dX8_append_32 : decode cX8_append 32 = .ok (.aload_n 0, 1) := by decide +kernel
theorem dX8_append_33 : decode cX8_append 33 = .ok (.dup, 1) := by decide +kernel
theorem dX8_append_34 : decode cX8_append 34 = .ok (.getfield 15, 3) := by decide +kernel
theorem dX8_append_37 : decode cX8_append 37 = .ok (.iconst 1, 1) := by decide +kernel
theorem dX8_append_38 : decode cX8_append 38 = .ok (.iadd, 1) := by decide +kernel
theorem dX8_append_39 : decode cX8_append 39 = .ok (.putfield 15, 3) := by decide +kernel
theorem dX8_append_42 : decode cX8_append 42 = .ok (.iinc 2 (-8), 3) := by decide +kernel
theorem dX8_append_45 : decode cX8_append 45 = .ok (.goto (-42), 3) := by decide +kernel
theorem dX8_append_48 : decode cX8_append 48 = .ok (.return_, 1) := by decide +kernel
theorem dX8_isDecimal_0 : decode cX8_isDecimal 0 = .ok (.aload_n 0, 1) := by decide +kernel
theorem dX8_isDecimal_1 : decode cX8_isDecimal 1 = .ok (.invokevirtual 19, 3) := by decide +kernel
theorem dX8_isDecimal_4 : decode cX8_isDecimal 4 = .ok (.istore_n 1, 1) := by decide +kernel
theorem dX8_isDecimal_5 : decode cX8_isDecimal 5 = .ok (.iload_n 1, 1) := by decide +kernel
theorem dX8_isDecimal_6 : decode cX8_isDecimal 6 = .ok (.istore_n 2, 1) := by decide +kernel
theorem dX8_isDecimal_7 : decode cX8_isDecimal 7 = .ok (.iload_n 2, 1) := by decide +kernel
theorem dX8_isDecimal_8 : decode cX8_isDecimal 8 = .ok (.aload_n 0, 1) := by decide +kernel
theorem dX8_isDecimal_9 : decode cX8_isDecimal 9 = .ok (.getfield 15, 3) := by decide +kernel
theorem dX8_isDecimal_12 : decode cX8_isDecimal 12 = .ok (.if_icmp .ge 33, 3) := by decide +kernel
theorem dX8_isDecimal_15 : decode cX8_isDecimal 15 = .ok (.aload_n 0, 1) := by decide +kernel
theorem dX8_isDecimal_16 : decode cX8_isDecimal 16 = .ok (.getfield 9, 3) := by decide +kernel
theorem dX8_isDecimal_19 : decode cX8_isDecimal 19 = .ok (.iload_n 2, 1) := by decide +kernel
theorem dX8_isDecimal_20 : decode cX8_isDecimal 20 = .ok (.baload, 1) := by decide +kernel
theorem dX8_isDecimal_21 : decode cX8_isDecimal 21 = .ok (.bipush 48, 2) := by decide +kernel
theorem dX8_isDecimal_23 : decode cX8_isDecimal 23 = .ok (.if_icmp .lt 14, 3) := by decide +kernel
theorem dX8_isDecimal_26 : decode cX8_isDecimal 26 = .ok (.aload_n 0, 1) := by decide +kernel
theorem dX8_isDecimal_27 : decode cX8_isDecimal 27 = .ok (.getfield 9, 3) := by decide +kernel
theorem dX8_isDecimal_30 : decode cX8_isDecimal 30 = .ok (.iload_n 2, 1) := by decide +kernel
theorem dX8_isDecimal_31 : decode cX8_isDecimal 31 = .ok (.baload, 1) := by decide +kernel
theorem dX8_isDecimal_32 : decode cX8_isDecimal 32 = .ok (.bipush 57, 2) := by decide +kernel
theorem dX8_isDecimal_34 : decode cX8_isDecimal 34 = .ok (.if_icmp .le 5, 3) := by decide +kernel
theorem dX8_isDecimal_37 : decode cX8_isDecimal 37 = .ok (.iconst 0, 1) := by decide +kernel
theorem dX8_isDecimal_38 : decode cX8_isDecimal 38 = .ok (.ireturn, 1) := by decide +kernel
theorem dX8_isDecimal_39 : decode cX8_isDecimal 39 = .ok (.iinc 2 1, 3) := by decide +kernel
theorem dX8_isDecimal_42 : decode cX8_isDecimal 42 = .ok (.goto (-35), 3) := by decide +kernel
theorem dX8_isDecimal_45 : decode cX8_isDecimal 45 = .ok (.iload_n 1, 1) := by decide +kernel
theorem dX8_isDecimal_46 : decode cX8_isDecimal 46 = .ok (.aload_n 0, 1) := by decide +kernel
theorem dX8_isDecimal_47 : decode cX8_isDecimal 47 = .ok (.getfield 15, 3) := by decide +kernel
theorem dX8_isDecimal_50 : decode cX8_isDecimal 50 = .ok (.if_icmp .ge 7, 3) := by decide +kernel
theorem dX8_isDecimal_53 : decode cX8_isDecimal 53 = .ok (.iconst 1, 1) := by decide +kernel
theorem dX8_isDecimal_54 : decode cX8_isDecimal 54 = .ok (.goto 4, 3) := by decide +kernel
theorem dX8_isDecimal_57 : decode cX8_isDecimal 57 = .ok (.iconst 0, 1) := by decide +kernel
theorem dX8_isDecimal_58 : decode cX8_isDecimal 58 = .ok (.ireturn, 1) := by decide +kernel
theorem dX8_hasMinus_0 : decode cX8_hasMinus 0 = .ok (.aload_n 0, 1) := by decide +kernel
theorem dX8_hasMinus_1 : decode cX8_hasMinus 1 = .ok (.getfield 15, 3) := by decide +kernel
theorem dX8_hasMinus_4 : decode cX8_hasMinus 4 = .ok (.ifCond .le 18, 3) := by decide +kernel
theorem dX8_hasMinus_7 : decode cX8_hasMinus 7 = .ok (.aload_n 0, 1) := by decide +kernel
theorem dX8_hasMinus_8 : decode cX8_hasMinus 8 = .ok (.getfield 9, 3) := by decide +kernel
theorem dX8_hasMinus_11 : decode cX8_hasMinus 11 = .ok (.iconst 0, 1) := by decide +kernel
theorem dX8_hasMinus_12 : decode cX8_hasMinus 12 = .ok (.baload, 1) := by decide +kernel
theorem dX8_hasMinus_13 : decode cX8_hasMinus 13 = .ok (.bipush 45, 2) := by decide +kernel
theorem dX8_hasMinus_15 : decode cX8_hasMinus 15 = .ok (.if_icmp .ne 7, 3) := by decide +kernel
theorem dX8_hasMinus_18 : decode cX8_hasMinus 18 = .ok (.iconst 1, 1) := by decide +kernel
theorem dX8_hasMinus_19 : decode cX8_hasMinus 19 = .ok (.goto 4, 3) := by decide +kernel
theorem dX8_hasMinus_22 : decode cX8_hasMinus 22 = .ok (.iconst 0, 1) := by decide +kernel
theorem dX8_hasMinus_23 : decode cX8_hasMinus 23 = .ok (.ireturn, 1) := by decide +kernel
theorem dX8_firstDigit_0 : decode cX8_firstDigit 0 = .ok (.aload_n 0, 1) := by decide +kernel
theorem dX8_firstDigit_1 : decode cX8_firstDigit 1 = .ok (.invokevirtual 23, 3) := by decide +kernel
theorem dX8_firstDigit_4 : decode cX8_firstDigit 4 = .ok (.ifCond .eq 7, 3) := by decide +kernel
theorem dX8_firstDigit_7 : decode cX8_firstDigit 7 = .ok (.iconst 1, 1) := by decide +kernel
theorem dX8_firstDigit_8 : decode cX8_firstDigit 8 = .ok (.goto 4, 3) := by decide +kernel
theorem dX8_firstDigit_11 : decode cX8_firstDigit 11 = .ok (.iconst 0, 1) := by decide +kernel
theorem dX8_firstDigit_12 : decode cX8_firstDigit 12 = .ok (.ireturn, 1) := by decide +kernel
theorem dX8_parse_0 : decode cX8_parse 0 = .ok (.aload_n 1, 1) := by decide +kernel
theorem dX8_parse_1 : decode cX8_parse 1 = .ok (.iconst 0, 1) := by decide +kernel
theorem dX8_parse_2 : decode cX8_parse 2 = .ok (.invokevirtual 27, 3) := by decide +kernel
theorem dX8_parse_5 : decode cX8_parse 5 = .ok (.iconst 0, 1) := by decide +kernel
theorem dX8_parse_6 : decode cX8_parse 6 = .ok (.istore_n 3, 1) := by decide +kernel
theorem dX8_parse_7 : decode cX8_parse 7 = .ok (.iconst 1, 1) := by decide +kernel
theorem dX8_parse_8 : decode cX8_parse 8 = .ok (.istore 4, 2) := by decide +kernel
theorem dX8_parse_10 : decode cX8_parse 10 = .ok (.aload_n 0, 1) := by decide +kernel
theorem dX8_parse_11 : decode cX8_parse 11 = .ok (.invokevirtual 19, 3) := by decide +kernel
theorem dX8_parse_14 : decode cX8_parse 14 = .ok (.istore 5, 2) := by decide +kernel
theorem dX8_parse_16 : decode cX8_parse 16 = .ok (.iload 5, 2) := by decide +kernel
theorem dX8_parse_18 : decode cX8_parse 18 = .ok (.aload_n 0, 1) := by decide +kernel
theorem dX8_parse_19 : decode cX8_parse 19 = .ok (.getfield 15, 3) := by decide +kernel
theorem dX8_parse_22 : decode cX8_parse 22 = .ok (.if_icmp .ge 72, 3) := by decide +kernel
theorem dX8_parse_25 : decode cX8_parse 25 = .ok (.bipush 10, 2) := by decide +kernel
theorem dX8_parse_27 : decode cX8_parse 27 = .ok (.iload_n 3, 1) := by decide +kernel
theorem dX8_parse_28 : decode cX8_parse 28 = .ok (.imul, 1) := by decide +kernel
theorem dX8_parse_29 : decode cX8_parse 29 = .ok (.aload_n 0, 1) := by decide +kernel
theorem dX8_parse_30 : decode cX8_parse 30 = .ok (.getfield 9, 3) := by decide +kernel
theorem dX8_parse_33 : decode cX8_parse 33 = .ok (.iload 5, 2) := by decide +kernel
theorem dX8_parse_35 : decode cX8_parse 35 = .ok (.baload, 1) := by decide +kernel
theorem dX8_parse_36 : decode cX8_parse 36 = .ok (.iadd, 1) := by decide +kernel
theorem dX8_parse_37 : decode cX8_parse 37 = .ok (.bipush 48, 2) := by decide +kernel
theorem dX8_parse_39 : decode cX8_parse 39 = .ok (.isub, 1) := by decide +kernel
theorem dX8_parse_40 : decode cX8_parse 40 = .ok (.istore_n 3, 1) := by decide +kernel
theorem dX8_parse_41 : decode cX8_parse 41 = .ok (.bipush 10, 2) := by decide +kernel
theorem dX8_parse_43 : decode cX8_parse 43 = .ok (.iload 4, 2) := by decide +kernel
theorem dX8_parse_45 : decode cX8_parse 45 = .ok (.imul, 1) := by decide +kernel
theorem dX8_parse_46 : decode cX8_parse 46 = .ok (.istore 4, 2) := by decide +kernel
theorem dX8_parse_48 : decode cX8_parse 48 = .ok (.iload 4, 2) := by decide +kernel
theorem dX8_parse_50 : decode cX8_parse 50 = .ok (.ldc 33, 2) := by decide +kernel
theorem dX8_parse_52 : decode cX8_parse 52 = .ok (.if_icmp .eq 14, 3) := by decide +kernel
theorem dX8_parse_55 : decode cX8_parse 55 = .ok (.iload 5, 2) := by decide +kernel
theorem dX8_parse_57 : decode cX8_parse 57 = .ok (.aload_n 0, 1) := by decide +kernel
theorem dX8_parse_58 : decode cX8_parse 58 = .ok (.getfield 15, 3) := by decide +kernel
theorem dX8_parse_61 : decode cX8_parse 61 = .ok (.iconst 1, 1) := by decide +kernel
theorem dX8_parse_62 : decode cX8_parse 62 = .ok (.isub, 1) := by decide +kernel
theorem dX8_parse_63 : decode cX8_parse 63 = .ok (.if_icmp .ne 15, 3) := by decide +kernel
theorem dX8_parse_66 : decode cX8_parse 66 = .ok (.aload_n 1, 1) := by decide +kernel
theorem dX8_parse_67 : decode cX8_parse 67 = .ok (.iload 4, 2) := by decide +kernel
theorem dX8_parse_69 : decode cX8_parse 69 = .ok (.iload_n 3, 1) := by decide +kernel
theorem dX8_parse_70 : decode cX8_parse 70 = .ok (.invokestatic 34, 3) := by decide +kernel
theorem dX8_parse_73 : decode cX8_parse 73 = .ok (.iconst 0, 1) := by decide +kernel
theorem dX8_parse_74 : decode cX8_parse 74 = .ok (.istore_n 3, 1) := by decide +kernel
theorem dX8_parse_75 : decode cX8_parse 75 = .ok (.iconst 1, 1) := by decide +kernel
theorem dX8_parse_76 : decode cX8_parse 76 = .ok (.istore 4, 2) := by decide +kernel
theorem dX8_parse_78 : decode cX8_parse 78 = .ok (.aload_n 1, 1) := by decide +kernel
theorem dX8_parse_79 : decode cX8_parse 79 = .ok (.getfield 38, 3) := by decide +kernel
theorem dX8_parse_82 : decode cX8_parse 82 = .ok (.iload_n 2, 1) := by decide +kernel
theorem dX8_parse_83 : decode cX8_parse 83 = .ok (.if_icmp .le 5, 3) := by decide +kernel
theorem dX8_parse_86 : decode cX8_parse 86 = .ok (.iconst 0, 1) := by decide +kernel
theorem dX8_parse_87 : decode cX8_parse 87 = .ok (.ireturn, 1) := by decide +kernel
theorem dX8_parse_88 : decode cX8_parse 88 = .ok (.iinc 5 1, 3) := by decide +kernel
theorem dX8_parse_91 : decode cX8_parse 91 = .ok (.goto (-75), 3) := by decide +kernel
theorem dX8_parse_94 : decode cX8_parse 94 = .ok (.aload_n 1, 1) := by decide +kernel
theorem dX8_parse_95 : decode cX8_parse 95 = .ok (.aload_n 0, 1) := by decide +kernel
theorem dX8_parse_96 : decode cX8_parse 96 = .ok (.invokevirtual 23, 3) := by decide +kernel
theorem dX8_parse_99 : decode cX8_parse 99 = .ok (.invokevirtual 41, 3) := by decide +kernel
theorem dX8_parse_102 : decode cX8_parse 102 = .ok (.iconst 1, 1) := by decide +kernel
theorem dX8_parse_103 : decode cX8_parse 103 = .ok (.ireturn, 1) := by decide +kernel
theorem dX8_foldIn_0 : decode cX8_foldIn 0 = .ok (.iload_n 2, 1) := by decide +kernel
theorem dX8_foldIn_1 : decode cX8_foldIn 1 = .ok (.i2l, 1) := by decide +kernel
theorem dX8_foldIn_2 : decode cX8_foldIn 2 = .ok (.lstore_n 3, 1) := by decide +kernel
theorem dX8_foldIn_3 : decode cX8_foldIn 3 = .ok (.aload_n 0, 1) := by decide +kernel
theorem dX8_foldIn_4 : decode cX8_foldIn 4 = .ok (.getfield 38, 3) := by decide +kernel
theorem dX8_foldIn_7 : decode cX8_foldIn 7 = .ok (.istore 5, 2) := by decide +kernel
theorem dX8_foldIn_9 : decode cX8_foldIn 9 = .ok (.iconst 0, 1) := by decide +kernel
theorem dX8_foldIn_10 : decode cX8_foldIn 10 = .ok (.istore 6, 2) := by decide +kernel
theorem dX8_foldIn_12 : decode cX8_foldIn 12 = .ok (.iload 6, 2) := by decide +kernel
theorem dX8_foldIn_14 : decode cX8_foldIn 14 = .ok (.iload 5, 2) := by decide +kernel
theorem dX8_foldIn_16 : decode cX8_foldIn 16 = .ok (.if_icmp .ge 35, 3) := by decide +kernel
theorem dX8_foldIn_19 : decode cX8_foldIn 19 = .ok (.lload_n 3, 1) := by decide +kernel
theorem dX8_foldIn_20 : decode cX8_foldIn 20 = .ok (.iload_n 1, 1) := by decide +kernel
theorem dX8_foldIn_21 : decode cX8_foldIn 21 = .ok (.i2l, 1) := by decide +kernel
theorem dX8_foldIn_22 : decode cX8_foldIn 22 = .ok (.aload_n 0, 1) := by decide +kernel
theorem dX8_foldIn_23 : decode cX8_foldIn 23 = .ok (.iload 6, 2) := by decide +kernel
theorem dX8_foldIn_25 : decode cX8_foldIn 25 = .ok (.invokevirtual 45, 3) := by decide +kernel
theorem dX8_foldIn_28 : decode cX8_foldIn 28 = .ok (.lmul, 1) := by decide +kernel
theorem dX8_foldIn_29 : decode cX8_foldIn 29 = .ok (.ladd, 1) := by decide +kernel
theorem dX8_foldIn_30 : decode cX8_foldIn 30 = .ok (.lstore_n 3, 1) := by decide +kernel
theorem dX8_foldIn_31 : decode cX8_foldIn 31 = .ok (.aload_n 0, 1) := by decide +kernel
theorem dX8_foldIn_32 : decode cX8_foldIn 32 = .ok (.getfield 49, 3) := by decide +kernel
theorem dX8_foldIn_35 : decode cX8_foldIn 35 = .ok (.iload 6, 2) := by decide +kernel
theorem dX8_foldIn_37 : decode cX8_foldIn 37 = .ok (.lload_n 3, 1) := by decide +kernel
theorem dX8_foldIn_38 : decode cX8_foldIn 38 = .ok (.l2i, 1) := by decide +kernel
theorem dX8_foldIn_39 : decode cX8_foldIn 39 = .ok (.iastore, 1) := by decide +kernel
theorem dX8_foldIn_40 : decode cX8_foldIn 40 = .ok (.lload_n 3, 1) := by decide +kernel
theorem dX8_foldIn_41 : decode cX8_foldIn 41 = .ok (.bipush 32, 2) := by decide +kernel
theorem dX8_foldIn_43 : decode cX8_foldIn 43 = .ok (.lushr, 1) := by decide +kernel
theorem dX8_foldIn_44 : decode cX8_foldIn 44 = .ok (.lstore_n 3, 1) := by decide +kernel
theorem dX8_foldIn_45 : decode cX8_foldIn 45 = .ok (.iinc 6 1, 3) := by decide +kernel
theorem dX8_foldIn_48 : decode cX8_foldIn 48 = .ok (.goto (-36), 3) := by decide +kernel
theorem dX8_foldIn_51 : decode cX8_foldIn 51 = .ok (.iload 5, 2) := by decide +kernel
theorem dX8_foldIn_53 : decode cX8_foldIn 53 = .ok (.aload_n 0, 1) := by decide +kernel
theorem dX8_foldIn_54 : decode cX8_foldIn 54 = .ok (.getfield 49, 3) := by decide +kernel
theorem dX8_foldIn_57 : decode cX8_foldIn 57 = .ok (.arraylength, 1) := by decide +kernel
theorem dX8_foldIn_58 : decode cX8_foldIn 58 = .ok (.if_icmp .ge 20, 3) := by decide +kernel
theorem dX8_foldIn_61 : decode cX8_foldIn 61 = .ok (.aload_n 0, 1) := by decide +kernel
theorem dX8_foldIn_62 : decode cX8_foldIn 62 = .ok (.getfield 49, 3) := by decide +kernel
theorem dX8_foldIn_65 : decode cX8_foldIn 65 = .ok (.iload 5, 2) := by decide +kernel
theorem dX8_foldIn_67 : decode cX8_foldIn 67 = .ok (.lload_n 3, 1) := by decide +kernel
theorem dX8_foldIn_68 : decode cX8_foldIn 68 = .ok (.l2i, 1) := by decide +kernel
theorem dX8_foldIn_69 : decode cX8_foldIn 69 = .ok (.iastore, 1) := by decide +kernel
theorem dX8_foldIn_70 : decode cX8_foldIn 70 = .ok (.aload_n 0, 1) := by decide +kernel
theorem dX8_foldIn_71 : decode cX8_foldIn 71 = .ok (.iload 5, 2) := by decide +kernel
theorem dX8_foldIn_73 : decode cX8_foldIn 73 = .ok (.iconst 1, 1) := by decide +kernel
theorem dX8_foldIn_74 : decode cX8_foldIn 74 = .ok (.iadd, 1) := by decide +kernel
theorem dX8_foldIn_75 : decode cX8_foldIn 75 = .ok (.invokevirtual 53, 3) := by decide +kernel
theorem dX8_foldIn_78 : decode cX8_foldIn 78 = .ok (.return_, 1) := by decide +kernel
theorem dX10_init_0 : decode cX10_init 0 = .ok (.aload_n 0, 1) := by decide +kernel
theorem dX10_init_1 : decode cX10_init 1 = .ok (.invokespecial 1, 3) := by decide +kernel
theorem dX10_init_4 : decode cX10_init 4 = .ok (.aload_n 0, 1) := by decide +kernel
theorem dX10_init_5 : decode cX10_init 5 = .ok (.iconst 1, 1) := by decide +kernel
theorem dX10_init_6 : decode cX10_init 6 = .ok (.iload_n 2, 1) := by decide +kernel
theorem dX10_init_7 : decode cX10_init 7 = .ok (.bipush 40, 2) := by decide +kernel
theorem dX10_init_9 : decode cX10_init 9 = .ok (.invokestatic 9, 3) := by decide +kernel
theorem dX10_init_12 : decode cX10_init 12 = .ok (.invokestatic 15, 3) := by decide +kernel
theorem dX10_init_15 : decode cX10_init 15 = .ok (.putfield 18, 3) := by decide +kernel
theorem dX10_init_18 : decode cX10_init 18 = .ok (.aload_n 0, 1) := by decide +kernel
theorem dX10_init_19 : decode cX10_init 19 = .ok (.iconst 1, 1) := by decide +kernel
theorem dX10_init_20 : decode cX10_init 20 = .ok (.iload_n 1, 1) := by decide +kernel
theorem dX10_init_21 : decode cX10_init 21 = .ok (.bipush 16, 2) := by decide +kernel
theorem dX10_init_23 : decode cX10_init 23 = .ok (.invokestatic 9, 3) := by decide +kernel
theorem dX10_init_26 : decode cX10_init 26 = .ok (.invokestatic 15, 3) := by decide +kernel
theorem dX10_init_29 : decode cX10_init 29 = .ok (.anewarray 22, 3) := by decide +kernel
theorem dX10_init_32 : decode cX10_init 32 = .ok (.putfield 24, 3) := by decide +kernel
theorem dX10_init_35 : decode cX10_init 35 = .ok (.iconst 0, 1) := by decide +kernel
theorem dX10_init_36 : decode cX10_init 36 = .ok (.istore_n 3, 1) := by decide +kernel
theorem dX10_init_37 : decode cX10_init 37 = .ok (.iload_n 3, 1) := by decide +kernel
theorem dX10_init_38 : decode cX10_init 38 = .ok (.aload_n 0, 1) := by decide +kernel
theorem dX10_init_39 : decode cX10_init 39 = .ok (.getfield 24, 3) := by decide +kernel
theorem dX10_init_42 : decode cX10_init 42 = .ok (.arraylength, 1) := by decide +kernel
theorem dX10_init_43 : decode cX10_init 43 = .ok (.if_icmp .ge 26, 3) := by decide +kernel
theorem dX10_init_46 : decode cX10_init 46 = .ok (.aload_n 0, 1) := by decide +kernel
theorem dX10_init_47 : decode cX10_init 47 = .ok (.getfield 24, 3) := by decide +kernel
theorem dX10_init_50 : decode cX10_init 50 = .ok (.iload_n 3, 1) := by decide +kernel
theorem dX10_init_51 : decode cX10_init 51 = .ok (.new 22, 3) := by decide +kernel
theorem dX10_init_54 : decode cX10_init 54 = .ok (.dup, 1) := by decide +kernel
theorem dX10_init_55 : decode cX10_init 55 = .ok (.aload_n 0, 1) := by decide +kernel
theorem dX10_init_56 : decode cX10_init 56 = .ok (.getfield 18, 3) := by decide +kernel
theorem dX10_init_59 : decode cX10_init 59 = .ok (.invokespecial 28, 3) := by decide +kernel
theorem dX10_init_62 : decode cX10_init 62 = .ok (.aastore, 1) := by decide +kernel
theorem dX10_init_63 : decode cX10_init 63 = .ok (.iinc 3 1, 3) := by decide +kernel
theorem dX10_init_66 : decode cX10_init 66 = .ok (.goto (-29), 3) := by decide +kernel
theorem dX10_init_69 : decode cX10_init 69 = .ok (.iconst 2, 1) := by decide +kernel
theorem dX10_init_70 : decode cX10_init 70 = .ok (.aload_n 0, 1) := by decide +kernel
theorem dX10_init_71 : decode cX10_init 71 = .ok (.getfield 18, 3) := by decide +kernel
theorem dX10_init_74 : decode cX10_init 74 = .ok (.imul, 1) := by decide +kernel
theorem dX10_init_75 : decode cX10_init 75 = .ok (.iconst 2, 1) := by decide +kernel
theorem dX10_init_76 : decode cX10_init 76 = .ok (.iadd, 1) := by decide +kernel
theorem dX10_init_77 : decode cX10_init 77 = .ok (.istore_n 3, 1) := by decide +kernel
theorem dX10_init_78 : decode cX10_init 78 = .ok (.aload_n 0, 1) := by decide +kernel
theorem dX10_init_79 : decode cX10_init 79 = .ok (.new 31, 3) := by decide +kernel
theorem dX10_init_82 : decode cX10_init 82 = .ok (.dup, 1) := by decide +kernel
theorem dX10_init_83 : decode cX10_init 83 = .ok (.iload_n 3, 1) := by decide +kernel
theorem dX10_init_84 : decode cX10_init 84 = .ok (.invokespecial 33, 3) := by decide +kernel
theorem dX10_init_87 : decode cX10_init 87 = .ok (.putfield 34, 3) := by decide +kernel
theorem dX10_init_90 : decode cX10_init 90 = .ok (.aload_n 0, 1) := by decide +kernel
theorem dX10_init_91 : decode cX10_init 91 = .ok (.new 38, 3) := by decide +kernel
theorem dX10_init_94 : decode cX10_init 94 = .ok (.dup, 1) := by decide +kernel
theorem dX10_init_95 : decode cX10_init 95 = .ok (.iload_n 3, 1) := by decide +kernel
theorem dX10_init_96 : decode cX10_init 96 = .ok (.aload_n 0, 1) := by decide +kernel
theorem dX10_init_97 : decode cX10_init 97 = .ok (.getfield 34, 3) := by decide +kernel
theorem dX10_init_100 : decode cX10_init 100 = .ok (.invokespecial 40, 3) := by decide +kernel
theorem dX10_init_103 : decode cX10_init 103 = .ok (.putfield 43, 3) := by decide +kernel
theorem dX10_init_106 : decode cX10_init 106 = .ok (.aload_n 0, 1) := by decide +kernel
theorem dX10_init_107 : decode cX10_init 107 = .ok (.new 47, 3) := by decide +kernel
theorem dX10_init_110 : decode cX10_init 110 = .ok (.dup, 1) := by decide +kernel
theorem dX10_init_111 : decode cX10_init 111 = .ok (.iload_n 3, 1) := by decide +kernel
theorem dX10_init_112 : decode cX10_init 112 = .ok (.aload_n 0, 1) := by decide +kernel
theorem dX10_init_113 : decode cX10_init 113 = .ok (.getfield 34, 3) := by decide +kernel
theorem dX10_init_116 : decode cX10_init 116 = .ok (.invokespecial 49, 3) := by decide +kernel
theorem dX10_init_119 : decode cX10_init 119 = .ok (.putfield 50, 3) := by decide +kernel
theorem dX10_init_122 : decode cX10_init 122 = .ok (.aload_n 0, 1) := by decide +kernel
theorem dX10_init_123 : decode cX10_init 123 = .ok (.new 54, 3) := by decide +kernel
theorem dX10_init_126 : decode cX10_init 126 = .ok (.dup, 1) := by decide +kernel
theorem dX10_init_127 : decode cX10_init 127 = .ok (.iload_n 3, 1) := by decide +kernel
theorem dX10_init_128 : decode cX10_init 128 = .ok (.aload_n 0, 1) := by decide +kernel
theorem dX10_init_129 : decode cX10_init 129 = .ok (.getfield 34, 3) := by decide +kernel
theorem dX10_init_132 : decode cX10_init 132 = .ok (.invokespecial 56, 3) := by decide +kernel
theorem dX10_init_135 : decode cX10_init 135 = .ok (.putfield 57, 3) := by decide +kernel
theorem dX10_init_138 : decode cX10_init 138 = .ok (.aload_n 0, 1) := by decide +kernel
theorem dX10_init_139 : decode cX10_init 139 = .ok (.new 61, 3) := by decide +kernel
theorem dX10_init_142 : decode cX10_init 142 = .ok (.dup, 1) := by decide +kernel
theorem dX10_init_143 : decode cX10_init 143 = .ok (.iload_n 3, 1) := by decide +kernel
theorem dX10_init_144 : decode cX10_init 144 = .ok (.aload_n 0, 1) := by decide +kernel
theorem dX10_init_145 : decode cX10_init 145 = .ok (.getfield 34, 3) := by decide +kernel
theorem dX10_init_148 : decode cX10_init 148 = .ok (.invokespecial 63, 3) := by decide +kernel
theorem dX10_init_151 : decode cX10_init 151 = .ok (.putfield 64, 3) := by decide +kernel
theorem dX10_init_154 : decode cX10_init 154 = .ok (.aload_n 0, 1) := by decide +kernel
theorem dX10_init_155 : decode cX10_init 155 = .ok (.new 68, 3) := by decide +kernel
theorem dX10_init_158 : decode cX10_init 158 = .ok (.dup, 1) := by decide +kernel
theorem dX10_init_159 : decode cX10_init 159 = .ok (.iload_n 3, 1) := by decide +kernel
theorem dX10_init_160 : decode cX10_init 160 = .ok (.aload_n 0, 1) := by decide +kernel
theorem dX10_init_161 : decode cX10_init 161 = .ok (.getfield 34, 3) := by decide +kernel
theorem dX10_init_164 : decode cX10_init 164 = .ok (.invokespecial 70, 3) := by decide +kernel
theorem dX10_init_167 : decode cX10_init 167 = .ok (.putfield 71, 3) := by decide +kernel
theorem dX10_init_170 : decode cX10_init 170 = .ok (.aload_n 0, 1) := by decide +kernel
theorem dX10_init_171 : decode cX10_init 171 = .ok (.new 75, 3) := by decide +kernel
theorem dX10_init_174 : decode cX10_init 174 = .ok (.dup, 1) := by decide +kernel
theorem dX10_init_175 : decode cX10_init 175 = .ok (.invokespecial 77, 3) := by decide +kernel
theorem dX10_init_178 : decode cX10_init 178 = .ok (.putfield 78, 3) := by decide +kernel
theorem dX10_init_181 : decode cX10_init 181 = .ok (.aload_n 0, 1) := by decide +kernel
theorem dX10_init_182 : decode cX10_init 182 = .ok (.new 82, 3) := by decide +kernel
theorem dX10_init_185 : decode cX10_init 185 = .ok (.dup, 1) := by decide +kernel
theorem dX10_init_186 : decode cX10_init 186 = .ok (.aload_n 0, 1) := by decide +kernel
theorem dX10_init_187 : decode cX10_init 187 = .ok (.getfield 18, 3) := by decide +kernel
theorem dX10_init_190 : decode cX10_init 190 = .ok (.iload_n 3, 1) := by decide +kernel
theorem dX10_init_191 : decode cX10_init 191 = .ok (.invokespecial 84, 3) := by decide +kernel
theorem dX10_init_194 : decode cX10_init 194 = .ok (.putfield 87, 3) := by decide +kernel
theorem dX10_init_197 : decode cX10_init 197 = .ok (.aload_n 0, 1) := by decide +kernel
theorem dX10_init_198 : decode cX10_init 198 = .ok (.new 22, 3) := by decide +kernel
theorem dX10_init_201 : decode cX10_init 201 = .ok (.dup, 1) := by decide +kernel
theorem dX10_init_202 : decode cX10_init 202 = .ok (.iload_n 3, 1) := by decide +kernel
theorem dX10_init_203 : decode cX10_init 203 = .ok (.invokespecial 28, 3) := by decide +kernel
theorem dX10_init_206 : decode cX10_init 206 = .ok (.putfield 91, 3) := by decide +kernel
theorem dX10_init_209 : decode cX10_init 209 = .ok (.aload_n 0, 1) := by decide +kernel
theorem dX10_init_210 : decode cX10_init 210 = .ok (.new 22, 3) := by decide +kernel
theorem dX10_init_213 : decode cX10_init 213 = .ok (.dup, 1) := by decide +kernel
theorem dX10_init_214 : decode cX10_init 214 = .ok (.iload_n 3, 1) := by decide +kernel
theorem dX10_init_215 : decode cX10_init 215 = .ok (.invokespecial 28, 3) := by decide +kernel
theorem dX10_init_218 : decode cX10_init 218 = .ok (.putfield 95, 3) := by decide +kernel
theorem dX10_init_221 : decode cX10_init 221 = .ok (.aload_n 0, 1) := by decide +kernel
theorem dX10_init_222 : decode cX10_init 222 = .ok (.new 22, 3) := by decide +kernel
theorem dX10_init_225 : decode cX10_init 225 = .ok (.dup, 1) := by decide +kernel
theorem dX10_init_226 : decode cX10_init 226 = .ok (.iconst 1, 1) := by decide +kernel
theorem dX10_init_227 : decode cX10_init 227 = .ok (.invokespecial 28, 3) := by decide +kernel
theorem dX10_init_230 : decode cX10_init 230 = .ok (.putfield 98, 3) := by decide +kernel
theorem dX10_init_233 : decode cX10_init 233 = .ok (.aload_n 0, 1) := by decide +kernel
theorem dX10_init_234 : decode cX10_init 234 = .ok (.getfield 98, 3) := by decide +kernel
theorem dX10_init_237 : decode cX10_init 237 = .ok (.iconst 1, 1) := by decide +kernel
theorem dX10_init_238 : decode cX10_init 238 = .ok (.invokevirtual 101, 3) := by decide +kernel
theorem dX10_init_241 : decode cX10_init 241 = .ok (.return_, 1) := by decide +kernel
theorem dX10_pushLimb_0 : decode cX10_pushLimb 0 = .ok (.aload_n 0, 1) := by decide +kernel
theorem dX10_pushLimb_1 : decode cX10_pushLimb 1 = .ok (.iload_n 1, 1) := by decide +kernel
theorem dX10_pushLimb_2 : decode cX10_pushLimb 2 = .ok (.invokevirtual 104, 3) := by decide +kernel
theorem dX10_pushLimb_5 : decode cX10_pushLimb 5 = .ok (.ifCond .ne 5, 3) := by decide +kernel
theorem dX10_pushLimb_8 : decode cX10_pushLimb 8 = .ok (.iconst 3, 1) := by decide +kernel
theorem dX10_pushLimb_9 : decode cX10_pushLimb 9 = .ok (.ireturn, 1) := by decide +kernel
theorem dX10_pushLimb_10 : decode cX10_pushLimb 10 = .ok (.aload_n 0, 1) := by decide +kernel
theorem dX10_pushLimb_11 : decode cX10_pushLimb 11 = .ok (.getfield 24, 3) := by decide +kernel
theorem dX10_pushLimb_14 : decode cX10_pushLimb 14 = .ok (.iload_n 1, 1) := by decide +kernel
theorem dX10_pushLimb_15 : decode cX10_pushLimb 15 = .ok (.aaload, 1) := by decide +kernel
theorem dX10_pushLimb_16 : decode cX10_pushLimb 16 = .ok (.astore_n 3, 1) := by decide +kernel
theorem dX10_pushLimb_17 : decode cX10_pushLimb 17 = .ok (.aload_n 0, 1) := by decide +kernel
theorem dX10_pushLimb_18 : decode cX10_pushLimb 18 = .ok (.getfield 91, 3) := by decide +kernel
theorem dX10_pushLimb_21 : decode cX10_pushLimb 21 = .ok (.aload_n 3, 1) := by decide +kernel
theorem dX10_pushLimb_22 : decode cX10_pushLimb 22 = .ok (.bipush 32, 2) := by decide +kernel
theorem dX10_pushLimb_24 : decode cX10_pushLimb 24 = .ok (.invokestatic 108, 3) := by decide +kernel
theorem dX10_pushLimb_27 : decode cX10_pushLimb 27 = .ok (.aload_n 0, 1) := by decide +kernel
theorem dX10_pushLimb_28 : decode cX10_pushLimb 28 = .ok (.getfield 95, 3) := by decide +kernel
theorem dX10_pushLimb_31 : decode cX10_pushLimb 31 = .ok (.iload_n 2, 1) := by decide +kernel
theorem dX10_pushLimb_32 : decode cX10_pushLimb 32 = .ok (.invokevirtual 101, 3) := by decide +kernel
theorem dX10_pushLimb_35 : decode cX10_pushLimb 35 = .ok (.aload_n 0, 1) := by decide +kernel
theorem dX10_pushLimb_36 : decode cX10_pushLimb 36 = .ok (.getfield 91, 3) := by decide +kernel
theorem dX10_pushLimb_39 : decode cX10_pushLimb 39 = .ok (.aload_n 0, 1) := by decide +kernel
theorem dX10_pushLimb_40 : decode cX10_pushLimb 40 = .ok (.getfield 91, 3) := by decide +kernel
theorem dX10_pushLimb_43 : decode cX10_pushLimb 43 = .ok (.aload_n 0, 1) := by decide +kernel
theorem dX10_pushLimb_44 : decode cX10_pushLimb 44 = .ok (.getfield 95, 3) := by decide +kernel
theorem dX10_pushLimb_47 : decode cX10_pushLimb 47 = .ok (.invokestatic 114, 3) := by decide +kernel
theorem dX10_pushLimb_50 : decode cX10_pushLimb 50 = .ok (.aload_n 0, 1) := by decide +kernel
theorem dX10_pushLimb_51 : decode cX10_pushLimb 51 = .ok (.getfield 91, 3) := by decide +kernel
theorem dX10_pushLimb_54 : decode cX10_pushLimb 54 = .ok (.aload_n 3, 1) := by decide +kernel
theorem dX10_pushLimb_55 : decode cX10_pushLimb 55 = .ok (.getfield 118, 3) := by decide +kernel
theorem dX10_pushLimb_58 : decode cX10_pushLimb 58 = .ok (.invokevirtual 122, 3) := by decide +kernel
theorem dX10_pushLimb_61 : decode cX10_pushLimb 61 = .ok (.aload_n 0, 1) := by decide +kernel
theorem dX10_pushLimb_62 : decode cX10_pushLimb 62 = .ok (.iload_n 1, 1) := by decide +kernel
theorem dX10_pushLimb_63 : decode cX10_pushLimb 63 = .ok (.aload_n 0, 1) := by decide +kernel
theorem dX10_pushLimb_64 : decode cX10_pushLimb 64 = .ok (.getfield 91, 3) := by decide +kernel
theorem dX10_pushLimb_67 : decode cX10_pushLimb 67 = .ok (.invokevirtual 126, 3) := by decide +kernel
theorem dX10_pushLimb_70 : decode cX10_pushLimb 70 = .ok (.ireturn, 1) := by decide +kernel
theorem dX10_clear_0 : decode cX10_clear 0 = .ok (.aload_n 0, 1) := by decide +kernel
theorem dX10_clear_1 : decode cX10_clear 1 = .ok (.iload_n 1, 1) := by decide +kernel
theorem dX10_clear_2 : decode cX10_clear 2 = .ok (.invokevirtual 104, 3) := by decide +kernel
theorem dX10_clear_5 : decode cX10_clear 5 = .ok (.ifCond .ne 5, 3) := by decide +kernel
theorem dX10_clear_8 : decode cX10_clear 8 = .ok (.iconst 0, 1) := by decide +kernel
theorem dX10_clear_9 : decode cX10_clear 9 = .ok (.ireturn, 1) := by decide +kernel
theorem dX10_clear_10 : decode cX10_clear 10 = .ok (.aload_n 0, 1) := by decide +kernel
theorem dX10_clear_11 : decode cX10_clear 11 = .ok (.getfield 24, 3) := by decide +kernel
theorem dX10_clear_14 : decode cX10_clear 14 = .ok (.iload_n 1, 1) := by decide +kernel
theorem dX10_clear_15 : decode cX10_clear 15 = .ok (.aaload, 1) := by decide +kernel
theorem dX10_clear_16 : decode cX10_clear 16 = .ok (.iconst 0, 1) := by decide +kernel
theorem dX10_clear_17 : decode cX10_clear 17 = .ok (.invokevirtual 101, 3) := by decide +kernel
theorem dX10_clear_20 : decode cX10_clear 20 = .ok (.iconst 1, 1) := by decide +kernel
theorem dX10_clear_21 : decode cX10_clear 21 = .ok (.ireturn, 1) := by decide +kernel
theorem dX10_negate_0 : decode cX10_negate 0 = .ok (.aload_n 0, 1) := by decide +kernel
theorem dX10_negate_1 : decode cX10_negate 1 = .ok (.iload_n 1, 1) := by decide +kernel
theorem dX10_negate_2 : decode cX10_negate 2 = .ok (.iload_n 2, 1) := by decide +kernel
theorem dX10_negate_3 : decode cX10_negate 3 = .ok (.invokevirtual 130, 3) := by decide +kernel
theorem dX10_negate_6 : decode cX10_negate 6 = .ok (.ifCond .ne 5, 3) := by decide +kernel
theorem dX10_negate_9 : decode cX10_negate 9 = .ok (.iconst 3, 1) := by decide +kernel
theorem dX10_negate_10 : decode cX10_negate 10 = .ok (.ireturn, 1) := by decide +kernel
theorem dX10_negate_11 : decode cX10_negate 11 = .ok (.aload_n 0, 1) := by decide +kernel
theorem dX10_negate_12 : decode cX10_negate 12 = .ok (.getfield 91, 3) := by decide +kernel
theorem dX10_negate_15 : decode cX10_negate 15 = .ok (.aload_n 0, 1) := by decide +kernel
theorem dX10_negate_16 : decode cX10_negate 16 = .ok (.getfield 24, 3) := by decide +kernel
theorem dX10_negate_19 : decode cX10_negate 19 = .ok (.iload_n 2, 1) := by decide +kernel
theorem dX10_negate_20 : decode cX10_negate 20 = .ok (.aaload, 1) := by decide +kernel
theorem dX10_negate_21 : decode cX10_negate 21 = .ok (.invokevirtual 134, 3) := by decide +kernel
theorem dX10_negate_24 : decode cX10_negate 24 = .ok (.aload_n 0, 1) := by decide +kernel
theorem dX10_negate_25 : decode cX10_negate 25 = .ok (.getfield 91, 3) := by decide +kernel
theorem dX10_negate_28 : decode cX10_negate 28 = .ok (.aload_n 0, 1) := by decide +kernel
theorem dX10_negate_29 : decode cX10_negate 29 = .ok (.getfield 24, 3) := by decide +kernel
theorem dX10_negate_32 : decode cX10_negate 32 = .ok (.iload_n 2, 1) := by decide +kernel
theorem dX10_negate_33 : decode cX10_negate 33 = .ok (.aaload, 1) := by decide +kernel
theorem dX10_negate_34 : decode cX10_negate 34 = .ok (.getfield 118, 3) := by decide +kernel
theorem dX10_negate_37 : decode cX10_negate 37 = .ok (.ifCond .ne 7, 3) := by decide +kernel
theorem dX10_negate_40 : decode cX10_negate 40 = .ok (.iconst 1, 1) := by decide +kernel
theorem dX10_negate_41 : decode cX10_negate 41 = .ok (.goto 4, 3) := by decide +kernel
theorem dX10_negate_44 : decode cX10_negate 44 = .ok (.iconst 0, 1) := by decide +kernel
theorem dX10_negate_45 : decode cX10_negate 45 = .ok (.invokevirtual 122, 3) := by decide +kernel
theorem dX10_negate_48 : decode cX10_negate 48 = .ok (.aload_n 0, 1) := by decide +kernel
theorem dX10_negate_49 : decode cX10_negate 49 = .ok (.iload_n 1, 1) := by decide +kernel
theorem dX10_negate_50 : decode cX10_negate 50 = .ok (.aload_n 0, 1) := by decide +kernel
theorem dX10_negate_51 : decode cX10_negate 51 = .ok (.getfield 91, 3) := by decide +kernel
theorem dX10_negate_54 : decode cX10_negate 54 = .ok (.invokevirtual 126, 3) := by decide +kernel
theorem dX10_negate_57 : decode cX10_negate 57 = .ok (.ireturn, 1) := by decide +kernel
theorem dX10_add_0 : decode cX10_add 0 = .ok (.aload_n 0, 1) := by decide +kernel
theorem dX10_add_1 : decode cX10_add 1 = .ok (.iload_n 1, 1) := by decide +kernel
theorem dX10_add_2 : decode cX10_add 2 = .ok (.iload_n 2, 1) := by decide +kernel
theorem dX10_add_3 : decode cX10_add 3 = .ok (.iload_n 3, 1) := by decide +kernel
theorem dX10_add_4 : decode cX10_add 4 = .ok (.invokevirtual 138, 3) := by decide +kernel
theorem dX10_add_7 : decode cX10_add 7 = .ok (.ifCond .ne 5, 3) := by decide +kernel
theorem dX10_add_10 : decode cX10_add 10 = .ok (.iconst 3, 1) := by decide +kernel
theorem dX10_add_11 : decode cX10_add 11 = .ok (.ireturn, 1) := by decide +kernel
theorem dX10_add_12 : decode cX10_add 12 = .ok (.aload_n 0, 1) := by decide +kernel
theorem dX10_add_13 : decode cX10_add 13 = .ok (.getfield 91, 3) := by decide +kernel
theorem dX10_add_16 : decode cX10_add 16 = .ok (.aload_n 0, 1) := by decide +kernel
theorem dX10_add_17 : decode cX10_add 17 = .ok (.getfield 24, 3) := by decide +kernel
theorem dX10_add_20 : decode cX10_add 20 = .ok (.iload_n 2, 1) := by decide +kernel
theorem dX10_add_21 : decode cX10_add 21 = .ok (.aaload, 1) := by decide +kernel
theorem dX10_add_22 : decode cX10_add 22 = .ok (.aload_n 0, 1) := by decide +kernel
theorem dX10_add_23 : decode cX10_add 23 = .ok (.getfield 24, 3) := by decide +kernel
theorem dX10_add_26 : decode cX10_add 26 = .ok (.iload_n 3, 1) := by decide +kernel
theorem dX10_add_27 : decode cX10_add 27 = .ok (.aaload, 1) := by decide +kernel
theorem dX10_add_28 : decode cX10_add 28 = .ok (.aload_n 0, 1) := by decide +kernel
theorem dX10_add_29 : decode cX10_add 29 = .ok (.getfield 24, 3) := by decide +kernel
theorem dX10_add_32 : decode cX10_add 32 = .ok (.iload_n 3, 1) := by decide +kernel
theorem dX10_add_33 : decode cX10_add 33 = .ok (.aaload, 1) := by decide +kernel
theorem dX10_add_34 : decode cX10_add 34 = .ok (.getfield 118, 3) := by decide +kernel
theorem dX10_add_37 : decode cX10_add 37 = .ok (.invokestatic 141, 3) := by decide +kernel
theorem dX10_add_40 : decode cX10_add 40 = .ok (.aload_n 0, 1) := by decide +kernel
theorem dX10_add_41 : decode cX10_add 41 = .ok (.iload_n 1, 1) := by decide +kernel
theorem dX10_add_42 : decode cX10_add 42 = .ok (.aload_n 0, 1) := by decide +kernel
theorem dX10_add_43 : decode cX10_add 43 = .ok (.getfield 91, 3) := by decide +kernel
theorem dX10_add_46 : decode cX10_add 46 = .ok (.invokevirtual 126, 3) := by decide +kernel
theorem dX10_add_49 : decode cX10_add 49 = .ok (.ireturn, 1) := by decide +kernel
theorem dX10_subtract_0 : decode cX10_subtract 0 = .ok (.aload_n 0, 1) := by decide +kernel
theorem dX10_subtract_1 : decode cX10_subtract 1 = .ok (.iload_n 1, 1) := by decide +kernel
theorem dX10_subtract_2 : decode cX10_subtract 2 = .ok (.iload_n 2, 1) := by decide +kernel
theorem dX10_subtract_3 : decode cX10_subtract 3 = .ok (.iload_n 3, 1) := by decide +kernel
theorem dX10_subtract_4 : decode cX10_subtract 4 = .ok (.invokevirtual 138, 3) := by decide +kernel
theorem dX10_subtract_7 : decode cX10_subtract 7 = .ok (.ifCond .ne 5, 3) := by decide +kernel
theorem dX10_subtract_10 : decode cX10_subtract 10 = .ok (.iconst 3, 1) := by decide +kernel
theorem dX10_subtract_11 : decode cX10_subtract 11 = .ok (.ireturn, 1) := by decide +kernel
theorem dX10_subtract_12 : decode cX10_subtract 12 = .ok (.aload_n 0, 1) := by decide +kernel
theorem dX10_subtract_13 : decode cX10_subtract 13 = .ok (.getfield 91, 3) := by decide +kernel
theorem dX10_subtract_16 : decode cX10_subtract 16 = .ok (.aload_n 0, 1) := by decide +kernel
theorem dX10_subtract_17 : decode cX10_subtract 17 = .ok (.getfield 24, 3) := by decide +kernel
theorem dX10_subtract_20 : decode cX10_subtract 20 = .ok (.iload_n 2, 1) := by decide +kernel
theorem dX10_subtract_21 : decode cX10_subtract 21 = .ok (.aaload, 1) := by decide +kernel
theorem dX10_subtract_22 : decode cX10_subtract 22 = .ok (.aload_n 0, 1) := by decide +kernel
theorem dX10_subtract_23 : decode cX10_subtract 23 = .ok (.getfield 24, 3) := by decide +kernel
theorem dX10_subtract_26 : decode cX10_subtract 26 = .ok (.iload_n 3, 1) := by decide +kernel
theorem dX10_subtract_27 : decode cX10_subtract 27 = .ok (.aaload, 1) := by decide +kernel
theorem dX10_subtract_28 : decode cX10_subtract 28 = .ok (.aload_n 0, 1) := by decide +kernel
theorem dX10_subtract_29 : decode cX10_subtract 29 = .ok (.getfield 24, 3) := by decide +kernel
theorem dX10_subtract_32 : decode cX10_subtract 32 = .ok (.iload_n 3, 1) := by decide +kernel
theorem dX10_subtract_33 : decode cX10_subtract 33 = .ok (.aaload, 1) := by decide +kernel
theorem dX10_subtract_34 : decode cX10_subtract 34 = .ok (.getfield 118, 3) := by decide +kernel
theorem dX10_subtract_37 : decode cX10_subtract 37 = .ok (.ifCond .ne 7, 3) := by decide +kernel
theorem dX10_subtract_40 : decode cX10_subtract 40 = .ok (.iconst 1, 1) := by decide +kernel
theorem dX10_subtract_41 : decode cX10_subtract 41 = .ok (.goto 4, 3) := by decide +kernel
theorem dX10_subtract_44 : decode cX10_subtract 44 = .ok (.iconst 0, 1) := by decide +kernel
theorem dX10_subtract_45 : decode cX10_subtract 45 = .ok (.invokestatic 141, 3) := by decide +kernel
theorem dX10_subtract_48 : decode cX10_subtract 48 = .ok (.aload_n 0, 1) := by decide +kernel
theorem dX10_subtract_49 : decode cX10_subtract 49 = .ok (.iload_n 1, 1) := by decide +kernel
theorem dX10_subtract_50 : decode cX10_subtract 50 = .ok (.aload_n 0, 1) := by decide +kernel
theorem dX10_subtract_51 : decode cX10_subtract 51 = .ok (.getfield 91, 3) := by decide +kernel
theorem dX10_subtract_54 : decode cX10_subtract 54 = .ok (.invokevirtual 126, 3) := by decide +kernel
theorem dX10_subtract_57 : decode cX10_subtract 57 = .ok (.ireturn, 1) := by decide +kernel
theorem dX10_multiply_0 : decode cX10_multiply 0 = .ok (.aload_n 0, 1) := by decide +kernel
theorem dX10_multiply_1 : decode cX10_multiply 1 = .ok (.iload_n 1, 1) := by decide +kernel
theorem dX10_multiply_2 : decode cX10_multiply 2 = .ok (.iload_n 2, 1) := by decide +kernel
theorem dX10_multiply_3 : decode cX10_multiply 3 = .ok (.iload_n 3, 1) := by decide +kernel
theorem dX10_multiply_4 : decode cX10_multiply 4 = .ok (.invokevirtual 138, 3) := by decide +kernel
theorem dX10_multiply_7 : decode cX10_multiply 7 = .ok (.ifCond .ne 5, 3) := by decide +kernel
theorem dX10_multiply_10 : decode cX10_multiply 10 = .ok (.iconst 3, 1) := by decide +kernel
theorem dX10_multiply_11 : decode cX10_multiply 11 = .ok (.ireturn, 1) := by decide +kernel
theorem dX10_multiply_12 : decode cX10_multiply 12 = .ok (.aload_n 0, 1) := by decide +kernel
theorem dX10_multiply_13 : decode cX10_multiply 13 = .ok (.getfield 91, 3) := by decide +kernel
theorem dX10_multiply_16 : decode cX10_multiply 16 = .ok (.aload_n 0, 1) := by decide +kernel
theorem dX10_multiply_17 : decode cX10_multiply 17 = .ok (.getfield 24, 3) := by decide +kernel
theorem dX10_multiply_20 : decode cX10_multiply 20 = .ok (.iload_n 2, 1) := by decide +kernel
theorem dX10_multiply_21 : decode cX10_multiply 21 = .ok (.aaload, 1) := by decide +kernel
theorem dX10_multiply_22 : decode cX10_multiply 22 = .ok (.aload_n 0, 1) := by decide +kernel
theorem dX10_multiply_23 : decode cX10_multiply 23 = .ok (.getfield 24, 3) := by decide +kernel
theorem dX10_multiply_26 : decode cX10_multiply 26 = .ok (.iload_n 3, 1) := by decide +kernel
theorem dX10_multiply_27 : decode cX10_multiply 27 = .ok (.aaload, 1) := by decide +kernel
theorem dX10_multiply_28 : decode cX10_multiply 28 = .ok (.invokestatic 145, 3) := by decide +kernel
theorem dX10_multiply_31 : decode cX10_multiply 31 = .ok (.aload_n 0, 1) := by decide +kernel
theorem dX10_multiply_32 : decode cX10_multiply 32 = .ok (.getfield 91, 3) := by decide +kernel
theorem dX10_multiply_35 : decode cX10_multiply 35 = .ok (.aload_n 0, 1) := by decide +kernel
theorem dX10_multiply_36 : decode cX10_multiply 36 = .ok (.getfield 24, 3) := by decide +kernel
theorem dX10_multiply_39 : decode cX10_multiply 39 = .ok (.iload_n 2, 1) := by decide +kernel
theorem dX10_multiply_40 : decode cX10_multiply 40 = .ok (.aaload, 1) := by decide +kernel
theorem dX10_multiply_41 : decode cX10_multiply 41 = .ok (.getfield 118, 3) := by decide +kernel
theorem dX10_multiply_44 : decode cX10_multiply 44 = .ok (.aload_n 0, 1) := by decide +kernel
theorem dX10_multiply_45 : decode cX10_multiply 45 = .ok (.getfield 24, 3) := by decide +kernel
theorem dX10_multiply_48 : decode cX10_multiply 48 = .ok (.iload_n 3, 1) := by decide +kernel
theorem dX10_multiply_49 : decode cX10_multiply 49 = .ok (.aaload, 1) := by decide +kernel
theorem dX10_multiply_50 : decode cX10_multiply 50 = .ok (.getfield 118, 3) := by decide +kernel
theorem dX10_multiply_53 : decode cX10_multiply 53 = .ok (.if_icmp .eq 7, 3) := by decide +kernel
theorem dX10_multiply_56 : decode cX10_multiply 56 = .ok (.iconst 1, 1) := by decide +kernel
theorem dX10_multiply_57 : decode cX10_multiply 57 = .ok (.goto 4, 3) := by decide +kernel
theorem dX10_multiply_60 : decode cX10_multiply 60 = .ok (.iconst 0, 1) := by decide +kernel
theorem dX10_multiply_61 : decode cX10_multiply 61 = .ok (.invokevirtual 122, 3) := by decide +kernel
theorem dX10_multiply_64 : decode cX10_multiply 64 = .ok (.aload_n 0, 1) := by decide +kernel
theorem dX10_multiply_65 : decode cX10_multiply 65 = .ok (.iload_n 1, 1) := by decide +kernel
theorem dX10_multiply_66 : decode cX10_multiply 66 = .ok (.aload_n 0, 1) := by decide +kernel
theorem dX10_multiply_67 : decode cX10_multiply 67 = .ok (.getfield 91, 3) := by decide +kernel
theorem dX10_multiply_70 : decode cX10_multiply 70 = .ok (.invokevirtual 126, 3) := by decide +kernel
theorem dX10_multiply_73 : decode cX10_multiply 73 = .ok (.ireturn, 1) := by decide +kernel
theorem dX10_divide_0 : decode cX10_divide 0 = .ok (.aload_n 0, 1) := by decide +kernel
theorem dX10_divide_1 : decode cX10_divide 1 = .ok (.iload_n 1, 1) := by decide +kernel
theorem dX10_divide_2 : decode cX10_divide 2 = .ok (.iload_n 2, 1) := by decide +kernel
theorem dX10_divide_3 : decode cX10_divide 3 = .ok (.invokevirtual 130, 3) := by decide +kernel
theorem dX10_divide_6 : decode cX10_divide 6 = .ok (.ifCond .eq 18, 3) := by decide +kernel
theorem dX10_divide_9 : decode cX10_divide 9 = .ok (.aload_n 0, 1) := by decide +kernel
theorem dX10_divide_10 : decode cX10_divide 10 = .ok (.iload_n 3, 1) := by decide +kernel
theorem dX10_divide_11 : decode cX10_divide 11 = .ok (.iload 4, 2) := by decide +kernel
theorem dX10_divide_13 : decode cX10_divide 13 = .ok (.invokevirtual 130, 3) := by decide +kernel
theorem dX10_divide_16 : decode cX10_divide 16 = .ok (.ifCond .eq 8, 3) := by decide +kernel
theorem dX10_divide_19 : decode cX10_divide 19 = .ok (.iload_n 1, 1) := by decide +kernel
theorem dX10_divide_20 : decode cX10_divide 20 = .ok (.iload_n 2, 1) := by decide +kernel
theorem dX10_divide_21 : decode cX10_divide 21 = .ok (.if_icmp .ne 5, 3) := by decide +kernel
theorem dX10_divide_24 : decode cX10_divide 24 = .ok (.iconst 3, 1) := by decide +kernel
theorem dX10_divide_25 : decode cX10_divide 25 = .ok (.ireturn, 1) := by decide +kernel
theorem dX10_divide_26 : decode cX10_divide 26 = .ok (.aload_n 0, 1) := by decide +kernel
theorem dX10_divide_27 : decode cX10_divide 27 = .ok (.getfield 24, 3) := by decide +kernel
theorem dX10_divide_30 : decode cX10_divide 30 = .ok (.iload_n 3, 1) := by decide +kernel
theorem dX10_divide_31 : decode cX10_divide 31 = .ok (.aaload, 1) := by decide +kernel
theorem dX10_divide_32 : decode cX10_divide 32 = .ok (.astore 5, 2) := by decide +kernel
theorem dX10_divide_34 : decode cX10_divide 34 = .ok (.aload_n 0, 1) := by decide +kernel
theorem dX10_divide_35 : decode cX10_divide 35 = .ok (.getfield 24, 3) := by decide +kernel
theorem dX10_divide_38 : decode cX10_divide 38 = .ok (.iload 4, 2) := by decide +kernel
theorem dX10_divide_40 : decode cX10_divide 40 = .ok (.aaload, 1) := by decide +kernel
theorem dX10_divide_41 : decode cX10_divide 41 = .ok (.astore 6, 2) := by decide +kernel
theorem dX10_divide_43 : decode cX10_divide 43 = .ok (.aload 6, 2) := by decide +kernel
theorem dX10_divide_45 : decode cX10_divide 45 = .ok (.getfield 148, 3) := by decide +kernel
theorem dX10_divide_48 : decode cX10_divide 48 = .ok (.ifCond .ne 5, 3) := by decide +kernel
theorem dX10_divide_51 : decode cX10_divide 51 = .ok (.iconst 2, 1) := by decide +kernel
theorem dX10_divide_52 : decode cX10_divide 52 = .ok (.ireturn, 1) := by decide +kernel
theorem dX10_divide_53 : decode cX10_divide 53 = .ok (.aload_n 0, 1) := by decide +kernel
theorem dX10_divide_54 : decode cX10_divide 54 = .ok (.getfield 34, 3) := by decide +kernel
theorem dX10_divide_57 : decode cX10_divide 57 = .ok (.aload_n 0, 1) := by decide +kernel
theorem dX10_divide_58 : decode cX10_divide 58 = .ok (.getfield 91, 3) := by decide +kernel
theorem dX10_divide_61 : decode cX10_divide 61 = .ok (.aload_n 0, 1) := by decide +kernel
theorem dX10_divide_62 : decode cX10_divide 62 = .ok (.getfield 95, 3) := by decide +kernel
theorem dX10_divide_65 : decode cX10_divide 65 = .ok (.aload 5, 2) := by decide +kernel
theorem dX10_divide_67 : decode cX10_divide 67 = .ok (.aload 6, 2) := by decide +kernel
theorem dX10_divide_69 : decode cX10_divide 69 = .ok (.invokevirtual 151, 3) := by decide +kernel
theorem dX10_divide_72 : decode cX10_divide 72 = .ok (.aload 5, 2) := by decide +kernel
theorem dX10_divide_74 : decode cX10_divide 74 = .ok (.getfield 118, 3) := by decide +kernel
theorem dX10_divide_77 : decode cX10_divide 77 = .ok (.ifCond .eq 41, 3) := by decide +kernel
theorem dX10_divide_80 : decode cX10_divide 80 = .ok (.aload_n 0, 1) := by decide +kernel
theorem dX10_divide_81 : decode cX10_divide 81 = .ok (.getfield 95, 3) := by decide +kernel
theorem dX10_divide_84 : decode cX10_divide 84 = .ok (.getfield 148, 3) := by decide +kernel
theorem dX10_divide_87 : decode cX10_divide 87 = .ok (.ifCond .le 31, 3) := by decide +kernel
theorem dX10_divide_90 : decode cX10_divide 90 = .ok (.aload_n 0, 1) := by decide +kernel
theorem dX10_divide_91 : decode cX10_divide 91 = .ok (.getfield 91, 3) := by decide +kernel
theorem dX10_divide_94 : decode cX10_divide 94 = .ok (.aload_n 0, 1) := by decide +kernel
theorem dX10_divide_95 : decode cX10_divide 95 = .ok (.getfield 91, 3) := by decide +kernel
theorem dX10_divide_98 : decode cX10_divide 98 = .ok (.aload_n 0, 1) := by decide +kernel
theorem dX10_divide_99 : decode cX10_divide 99 = .ok (.getfield 98, 3) := by decide +kernel
theorem dX10_divide_102 : decode cX10_divide 102 = .ok (.invokestatic 114, 3) := by decide +kernel
theorem dX10_divide_105 : decode cX10_divide 105 = .ok (.aload_n 0, 1) := by decide +kernel
theorem dX10_divide_106 : decode cX10_divide 106 = .ok (.getfield 95, 3) := by decide +kernel
theorem dX10_divide_109 : decode cX10_divide 109 = .ok (.aload 6, 2) := by decide +kernel
theorem dX10_divide_111 : decode cX10_divide 111 = .ok (.aload_n 0, 1) := by decide +kernel
theorem dX10_divide_112 : decode cX10_divide 112 = .ok (.getfield 95, 3) := by decide +kernel
theorem dX10_divide_115 : decode cX10_divide 115 = .ok (.invokestatic 155, 3) := by decide +kernel
theorem dX10_divide_118 : decode cX10_divide 118 = .ok (.aload_n 0, 1) := by decide +kernel
theorem dX10_divide_119 : decode cX10_divide 119 = .ok (.getfield 91, 3) := by decide +kernel
theorem dX10_divide_122 : decode cX10_divide 122 = .ok (.aload 5, 2) := by decide +kernel
theorem dX10_divide_124 : decode cX10_divide 124 = .ok (.getfield 118, 3) := by decide +kernel
theorem dX10_divide_127 : decode cX10_divide 127 = .ok (.aload 6, 2) := by decide +kernel
theorem dX10_divide_129 : decode cX10_divide 129 = .ok (.getfield 118, 3) := by decide +kernel
theorem dX10_divide_132 : decode cX10_divide 132 = .ok (.if_icmp .eq 7, 3) := by decide +kernel
theorem dX10_divide_135 : decode cX10_divide 135 = .ok (.iconst 1, 1) := by decide +kernel
theorem dX10_divide_136 : decode cX10_divide 136 = .ok (.goto 4, 3) := by decide +kernel
theorem dX10_divide_139 : decode cX10_divide 139 = .ok (.iconst 0, 1) := by decide +kernel
theorem dX10_divide_140 : decode cX10_divide 140 = .ok (.invokevirtual 122, 3) := by decide +kernel
theorem dX10_divide_143 : decode cX10_divide 143 = .ok (.aload_n 0, 1) := by decide +kernel
theorem dX10_divide_144 : decode cX10_divide 144 = .ok (.getfield 91, 3) := by decide +kernel
theorem dX10_divide_147 : decode cX10_divide 147 = .ok (.getfield 148, 3) := by decide +kernel
theorem dX10_divide_150 : decode cX10_divide 150 = .ok (.aload_n 0, 1) := by decide +kernel
theorem dX10_divide_151 : decode cX10_divide 151 = .ok (.getfield 18, 3) := by decide +kernel
theorem dX10_divide_154 : decode cX10_divide 154 = .ok (.if_icmp .gt 17, 3) := by decide +kernel
theorem dX10_divide_157 : decode cX10_divide 157 = .ok (.aload_n 0, 1) := by decide +kernel
theorem dX10_divide_158 : decode cX10_divide 158 = .ok (.getfield 95, 3) := by decide +kernel
theorem dX10_divide_161 : decode cX10_divide 161 = .ok (.getfield 148, 3) := by decide +kernel
theorem dX10_divide_164 : decode cX10_divide 164 = .ok (.aload_n 0, 1) := by decide +kernel
theorem dX10_divide_165 : decode cX10_divide 165 = .ok (.getfield 18, 3) := by decide +kernel
theorem dX10_divide_168 : decode cX10_divide 168 = .ok (.if_icmp .le 5, 3) := by decide +kernel
theorem dX10_divide_171 : decode cX10_divide 171 = .ok (.iconst 1, 1) := by decide +kernel
theorem dX10_divide_172 : decode cX10_divide 172 = .ok (.ireturn, 1) := by decide +kernel
theorem dX10_divide_173 : decode cX10_divide 173 = .ok (.aload_n 0, 1) := by decide +kernel
theorem dX10_divide_174 : decode cX10_divide 174 = .ok (.getfield 24, 3) := by decide +kernel
theorem dX10_divide_177 : decode cX10_divide 177 = .ok (.iload_n 1, 1) := by decide +kernel
theorem dX10_divide_178 : decode cX10_divide 178 = .ok (.aaload, 1) := by decide +kernel
theorem dX10_divide_179 : decode cX10_divide 179 = .ok (.aload_n 0, 1) := by decide +kernel
theorem dX10_divide_180 : decode cX10_divide 180 = .ok (.getfield 91, 3) := by decide +kernel
theorem dX10_divide_183 : decode cX10_divide 183 = .ok (.invokevirtual 134, 3) := by decide +kernel
theorem dX10_divide_186 : decode cX10_divide 186 = .ok (.aload_n 0, 1) := by decide +kernel
theorem dX10_divide_187 : decode cX10_divide 187 = .ok (.getfield 24, 3) := by decide +kernel
theorem dX10_divide_190 : decode cX10_divide 190 = .ok (.iload_n 2, 1) := by decide +kernel
theorem dX10_divide_191 : decode cX10_divide 191 = .ok (.aaload, 1) := by decide +kernel
theorem dX10_divide_192 : decode cX10_divide 192 = .ok (.aload_n 0, 1) := by decide +kernel
theorem dX10_divide_193 : decode cX10_divide 193 = .ok (.getfield 95, 3) := by decide +kernel
theorem dX10_divide_196 : decode cX10_divide 196 = .ok (.invokevirtual 134, 3) := by decide +kernel
theorem dX10_divide_199 : decode cX10_divide 199 = .ok (.iconst 0, 1) := by decide +kernel
theorem dX10_divide_200 : decode cX10_divide 200 = .ok (.ireturn, 1) := by decide +kernel
theorem dX10_shift_0 : decode cX10_shift 0 = .ok (.aload_n 0, 1) := by decide +kernel
theorem dX10_shift_1 : decode cX10_shift 1 = .ok (.iload_n 1, 1) := by decide +kernel
theorem dX10_shift_2 : decode cX10_shift 2 = .ok (.iload_n 2, 1) := by decide +kernel
theorem dX10_shift_3 : decode cX10_shift 3 = .ok (.invokevirtual 130, 3) := by decide +kernel
theorem dX10_shift_6 : decode cX10_shift 6 = .ok (.ifCond .ne 5, 3) := by decide +kernel
theorem dX10_shift_9 : decode cX10_shift 9 = .ok (.iconst 3, 1) := by decide +kernel
theorem dX10_shift_10 : decode cX10_shift 10 = .ok (.ireturn, 1) := by decide +kernel
theorem dX10_shift_11 : decode cX10_shift 11 = .ok (.aload_n 0, 1) := by decide +kernel
theorem dX10_shift_12 : decode cX10_shift 12 = .ok (.getfield 24, 3) := by decide +kernel
theorem dX10_shift_15 : decode cX10_shift 15 = .ok (.iload_n 2, 1) := by decide +kernel
theorem dX10_shift_16 : decode cX10_shift 16 = .ok (.aaload, 1) := by decide +kernel
theorem dX10_shift_17 : decode cX10_shift 17 = .ok (.astore 4, 2) := by decide +kernel
theorem dX10_shift_19 : decode cX10_shift 19 = .ok (.iload_n 3, 1) := by decide +kernel
theorem dX10_shift_20 : decode cX10_shift 20 = .ok (.ifCond .ge 22, 3) := by decide +kernel
theorem dX10_shift_23 : decode cX10_shift 23 = .ok (.aload_n 0, 1) := by decide +kernel
theorem dX10_shift_24 : decode cX10_shift 24 = .ok (.aload 4, 2) := by decide +kernel
theorem dX10_shift_26 : decode cX10_shift 26 = .ok (.iload_n 3, 1) := by decide +kernel
theorem dX10_shift_27 : decode cX10_shift 27 = .ok (.i2l, 1) := by decide +kernel
theorem dX10_shift_28 : decode cX10_shift 28 = .ok (.lneg, 1) := by decide +kernel
theorem dX10_shift_29 : decode cX10_shift 29 = .ok (.invokevirtual 158, 3) := by decide +kernel
theorem dX10_shift_32 : decode cX10_shift 32 = .ok (.aload_n 0, 1) := by decide +kernel
theorem dX10_shift_33 : decode cX10_shift 33 = .ok (.iload_n 1, 1) := by decide +kernel
theorem dX10_shift_34 : decode cX10_shift 34 = .ok (.aload_n 0, 1) := by decide +kernel
theorem dX10_shift_35 : decode cX10_shift 35 = .ok (.getfield 91, 3) := by decide +kernel
theorem dX10_shift_38 : decode cX10_shift 38 = .ok (.invokevirtual 126, 3) := by decide +kernel
theorem dX10_shift_41 : decode cX10_shift 41 = .ok (.ireturn, 1) := by decide +kernel
theorem dX10_shift_42 : decode cX10_shift 42 = .ok (.aload 4, 2) := by decide +kernel
theorem dX10_shift_44 : decode cX10_shift 44 = .ok (.getfield 148, 3) := by decide +kernel
theorem dX10_shift_47 : decode cX10_shift 47 = .ok (.ifCond .le 27, 3) := by decide +kernel
theorem dX10_shift_50 : decode cX10_shift 50 = .ok (.aload 4, 2) := by decide +kernel
theorem dX10_shift_52 : decode cX10_shift 52 = .ok (.invokevirtual 162, 3) := by decide +kernel
theorem dX10_shift_55 : decode cX10_shift 55 = .ok (.i2l, 1) := by decide +kernel
theorem dX10_shift_56 : decode cX10_shift 56 = .ok (.iload_n 3, 1) := by decide +kernel
theorem dX10_shift_57 : decode cX10_shift 57 = .ok (.i2l, 1) := by decide +kernel
theorem dX10_shift_58 : decode cX10_shift 58 = .ok (.ladd, 1) := by decide +kernel
theorem dX10_shift_59 : decode cX10_shift 59 = .ok (.ldc2_w 166, 3) := by decide +kernel
theorem dX10_shift_62 : decode cX10_shift 62 = .ok (.aload_n 0, 1) := by decide +kernel
theorem dX10_shift_63 : decode cX10_shift 63 = .ok (.getfield 18, 3) := by decide +kernel
theorem dX10_shift_66 : decode cX10_shift 66 = .ok (.i2l, 1) := by decide +kernel
theorem dX10_shift_67 : decode cX10_shift 67 = .ok (.lmul, 1) := by decide +kernel
theorem dX10_shift_68 : decode cX10_shift 68 = .ok (.lcmp, 1) := by decide +kernel
theorem dX10_shift_69 : decode cX10_shift 69 = .ok (.ifCond .le 5, 3) := by decide +kernel
theorem dX10_shift_72 : decode cX10_shift 72 = .ok (.iconst 1, 1) := by decide +kernel
theorem dX10_shift_73 : decode cX10_shift 73 = .ok (.ireturn, 1) := by decide +kernel
theorem dX10_shift_74 : decode cX10_shift 74 = .ok (.aload_n 0, 1) := by decide +kernel
theorem dX10_shift_75 : decode cX10_shift 75 = .ok (.getfield 91, 3) := by decide +kernel
theorem dX10_shift_78 : decode cX10_shift 78 = .ok (.aload 4, 2) := by decide +kernel
theorem dX10_shift_80 : decode cX10_shift 80 = .ok (.aload 4, 2) := by decide +kernel
theorem dX10_shift_82 : decode cX10_shift 82 = .ok (.getfield 148, 3) := by decide +kernel
theorem dX10_shift_85 : decode cX10_shift 85 = .ok (.ifCond .le 7, 3) := by decide +kernel
theorem dX10_shift_88 : decode cX10_shift 88 = .ok (.iload_n 3, 1) := by decide +kernel
theorem dX10_shift_89 : decode cX10_shift 89 = .ok (.goto 4, 3) := by decide +kernel
theorem dX10_shift_92 : decode cX10_shift 92 = .ok (.iconst 0, 1) := by decide +kernel
theorem dX10_shift_93 : decode cX10_shift 93 = .ok (.invokestatic 108, 3) := by decide +kernel
theorem dX10_shift_96 : decode cX10_shift 96 = .ok (.aload_n 0, 1) := by decide +kernel
theorem dX10_shift_97 : decode cX10_shift 97 = .ok (.getfield 91, 3) := by decide +kernel
theorem dX10_shift_100 : decode cX10_shift 100 = .ok (.aload 4, 2) := by decide +kernel
theorem dX10_shift_102 : decode cX10_shift 102 = .ok (.getfield 118, 3) := by decide +kernel
theorem dX10_shift_105 : decode cX10_shift 105 = .ok (.invokevirtual 122, 3) := by decide +kernel
theorem dX10_shift_108 : decode cX10_shift 108 = .ok (.aload_n 0, 1) := by decide +kernel
theorem dX10_shift_109 : decode cX10_shift 109 = .ok (.iload_n 1, 1) := by decide +kernel
theorem dX10_shift_110 : decode cX10_shift 110 = .ok (.aload_n 0, 1) := by decide +kernel
theorem dX10_shift_111 : decode cX10_shift 111 = .ok (.getfield 91, 3) := by decide +kernel
theorem dX10_shift_114 : decode cX10_shift 114 = .ok (.invokevirtual 126, 3) := by decide +kernel
theorem dX10_shift_117 : decode cX10_shift 117 = .ok (.ireturn, 1) := by decide +kernel
theorem dX10_compare_0 : decode cX10_compare 0 = .ok (.aload_n 0, 1) := by decide +kernel
theorem dX10_compare_1 : decode cX10_compare 1 = .ok (.iload_n 1, 1) := by decide +kernel
theorem dX10_compare_2 : decode cX10_compare 2 = .ok (.iload_n 2, 1) := by decide +kernel
theorem dX10_compare_3 : decode cX10_compare 3 = .ok (.invokevirtual 130, 3) := by decide +kernel
theorem dX10_compare_6 : decode cX10_compare 6 = .ok (.ifCond .ne 5, 3) := by decide +kernel
theorem dX10_compare_9 : decode cX10_compare 9 = .ok (.iconst 3, 1) := by decide +kernel
theorem dX10_compare_10 : decode cX10_compare 10 = .ok (.ireturn, 1) := by decide +kernel
theorem dX10_compare_11 : decode cX10_compare 11 = .ok (.aload_n 0, 1) := by decide +kernel
theorem dX10_compare_12 : decode cX10_compare 12 = .ok (.getfield 24, 3) := by decide +kernel
theorem dX10_compare_15 : decode cX10_compare 15 = .ok (.iload_n 1, 1) := by decide +kernel
theorem dX10_compare_16 : decode cX10_compare 16 = .ok (.aaload, 1) := by decide +kernel
theorem dX10_compare_17 : decode cX10_compare 17 = .ok (.astore_n 3, 1) := by decide +kernel
theorem dX10_compare_18 : decode cX10_compare 18 = .ok (.aload_n 0, 1) := by decide +kernel
theorem dX10_compare_19 : decode cX10_compare 19 = .ok (.getfield 24, 3) := by decide +kernel
theorem dX10_compare_22 : decode cX10_compare 22 = .ok (.iload_n 2, 1) := by decide +kernel
theorem dX10_compare_23 : decode cX10_compare 23 = .ok (.aaload, 1) := by decide +kernel
theorem dX10_compare_24 : decode cX10_compare 24 = .ok (.astore 4, 2) := by decide +kernel
theorem dX10_compare_26 : decode cX10_compare 26 = .ok (.aload_n 3, 1) := by decide +kernel
theorem dX10_compare_27 : decode cX10_compare 27 = .ok (.getfield 118, 3) := by decide +kernel
theorem dX10_compare_30 : decode cX10_compare 30 = .ok (.aload 4, 2) := by decide +kernel
theorem dX10_compare_32 : decode cX10_compare 32 = .ok (.getfield 118, 3) := by decide +kernel
theorem dX10_compare_35 : decode cX10_compare 35 = .ok (.if_icmp .eq 16, 3) := by decide +kernel
theorem dX10_compare_38 : decode cX10_compare 38 = .ok (.aload_n 3, 1) := by decide +kernel
theorem dX10_compare_39 : decode cX10_compare 39 = .ok (.getfield 118, 3) := by decide +kernel
theorem dX10_compare_42 : decode cX10_compare 42 = .ok (.ifCond .eq 7, 3) := by decide +kernel
theorem dX10_compare_45 : decode cX10_compare 45 = .ok (.iconst (-1), 1) := by decide +kernel
theorem dX10_compare_46 : decode cX10_compare 46 = .ok (.goto 4, 3) := by decide +kernel
theorem dX10_compare_49 : decode cX10_compare 49 = .ok (.iconst 1, 1) := by decide +kernel
theorem dX10_compare_50 : decode cX10_compare 50 = .ok (.ireturn, 1) := by decide +kernel
theorem dX10_compare_51 : decode cX10_compare 51 = .ok (.aload_n 3, 1) := by decide +kernel
theorem dX10_compare_52 : decode cX10_compare 52 = .ok (.aload 4, 2) := by decide +kernel
theorem dX10_compare_54 : decode cX10_compare 54 = .ok (.invokestatic 168, 3) := by decide +kernel
theorem dX10_compare_57 : decode cX10_compare 57 = .ok (.istore 5, 2) := by decide +kernel
theorem dX10_compare_59 : decode cX10_compare 59 = .ok (.aload_n 3, 1) := by decide +kernel
theorem dX10_compare_60 : decode cX10_compare 60 = .ok (.getfield 118, 3) := by decide +kernel
theorem dX10_compare_63 : decode cX10_compare 63 = .ok (.ifCond .eq 9, 3) := by decide +kernel
theorem dX10_compare_66 : decode cX10_compare 66 = .ok (.iload 5, 2) := by decide +kernel
theorem dX10_compare_68 : decode cX10_compare 68 = .ok (.ineg, 1) := by decide +kernel
theorem dX10_compare_69 : decode cX10_compare 69 = .ok (.goto 5, 3) := by decide +kernel
theorem dX10_compare_72 : decode cX10_compare 72 = .ok (.iload 5, 2) := by decide +kernel
theorem dX10_compare_74 : decode cX10_compare 74 = .ok (.ireturn, 1) := by decide +kernel
theorem dX10_gcdBinary_0 : decode cX10_gcdBinary 0 = .ok (.aload_n 0, 1) := by decide +kernel
theorem dX10_gcdBinary_1 : decode cX10_gcdBinary 1 = .ok (.iload_n 1, 1) := by decide +kernel
theorem dX10_gcdBinary_2 : decode cX10_gcdBinary 2 = .ok (.iload_n 2, 1) := by decide +kernel
theorem dX10_gcdBinary_3 : decode cX10_gcdBinary 3 = .ok (.iload_n 3, 1) := by decide +kernel
theorem dX10_gcdBinary_4 : decode cX10_gcdBinary 4 = .ok (.invokevirtual 138, 3) := by decide +kernel
theorem dX10_gcdBinary_7 : decode cX10_gcdBinary 7 = .ok (.ifCond .ne 5, 3) := by decide +kernel
theorem dX10_gcdBinary_10 : decode cX10_gcdBinary 10 = .ok (.iconst 3, 1) := by decide +kernel
theorem dX10_gcdBinary_11 : decode cX10_gcdBinary 11 = .ok (.ireturn, 1) := by decide +kernel
theorem dX10_gcdBinary_12 : decode cX10_gcdBinary 12 = .ok (.aload_n 0, 1) := by decide +kernel
theorem dX10_gcdBinary_13 : decode cX10_gcdBinary 13 = .ok (.iload_n 1, 1) := by decide +kernel
theorem dX10_gcdBinary_14 : decode cX10_gcdBinary 14 = .ok (.aload_n 0, 1) := by decide +kernel
theorem dX10_gcdBinary_15 : decode cX10_gcdBinary 15 = .ok (.getfield 43, 3) := by decide +kernel
theorem dX10_gcdBinary_18 : decode cX10_gcdBinary 18 = .ok (.aload_n 0, 1) := by decide +kernel
theorem dX10_gcdBinary_19 : decode cX10_gcdBinary 19 = .ok (.getfield 24, 3) := by decide +kernel
theorem dX10_gcdBinary_22 : decode cX10_gcdBinary 22 = .ok (.iload_n 2, 1) := by decide +kernel
theorem dX10_gcdBinary_23 : decode cX10_gcdBinary 23 = .ok (.aaload, 1) := by decide +kernel
theorem dX10_gcdBinary_24 : decode cX10_gcdBinary 24 = .ok (.aload_n 0, 1) := by decide +kernel
theorem dX10_gcdBinary_25 : decode cX10_gcdBinary 25 = .ok (.getfield 24, 3) := by decide +kernel
theorem dX10_gcdBinary_28 : decode cX10_gcdBinary 28 = .ok (.iload_n 3, 1) := by decide +kernel
theorem dX10_gcdBinary_29 : decode cX10_gcdBinary 29 = .ok (.aaload, 1) := by decide +kernel
theorem dX10_gcdBinary_30 : decode cX10_gcdBinary 30 = .ok (.invokevirtual 172, 3) := by decide +kernel
theorem dX10_gcdBinary_33 : decode cX10_gcdBinary 33 = .ok (.invokevirtual 126, 3) := by decide +kernel
theorem dX10_gcdBinary_36 : decode cX10_gcdBinary 36 = .ok (.ireturn, 1) := by decide +kernel
theorem dX10_gcdEuclid_0 : decode cX10_gcdEuclid 0 = .ok (.aload_n 0, 1) := by decide +kernel
theorem dX10_gcdEuclid_1 : decode cX10_gcdEuclid 1 = .ok (.iload_n 1, 1) := by decide +kernel
theorem dX10_gcdEuclid_2 : decode cX10_gcdEuclid 2 = .ok (.iload_n 2, 1) := by decide +kernel
theorem dX10_gcdEuclid_3 : decode cX10_gcdEuclid 3 = .ok (.iload_n 3, 1) := by decide +kernel
theorem dX10_gcdEuclid_4 : decode cX10_gcdEuclid 4 = .ok (.invokevirtual 138, 3) := by decide +kernel
theorem dX10_gcdEuclid_7 : decode cX10_gcdEuclid 7 = .ok (.ifCond .ne 5, 3) := by decide +kernel
theorem dX10_gcdEuclid_10 : decode cX10_gcdEuclid 10 = .ok (.iconst 3, 1) := by decide +kernel
theorem dX10_gcdEuclid_11 : decode cX10_gcdEuclid 11 = .ok (.ireturn, 1) := by decide +kernel
theorem dX10_gcdEuclid_12 : decode cX10_gcdEuclid 12 = .ok (.aload_n 0, 1) := by decide +kernel
theorem dX10_gcdEuclid_13 : decode cX10_gcdEuclid 13 = .ok (.iload_n 1, 1) := by decide +kernel
theorem dX10_gcdEuclid_14 : decode cX10_gcdEuclid 14 = .ok (.aload_n 0, 1) := by decide +kernel
theorem dX10_gcdEuclid_15 : decode cX10_gcdEuclid 15 = .ok (.getfield 43, 3) := by decide +kernel
theorem dX10_gcdEuclid_18 : decode cX10_gcdEuclid 18 = .ok (.aload_n 0, 1) := by decide +kernel
theorem dX10_gcdEuclid_19 : decode cX10_gcdEuclid 19 = .ok (.getfield 24, 3) := by decide +kernel
theorem dX10_gcdEuclid_22 : decode cX10_gcdEuclid 22 = .ok (.iload_n 2, 1) := by decide +kernel
theorem dX10_gcdEuclid_23 : decode cX10_gcdEuclid 23 = .ok (.aaload, 1) := by decide +kernel
theorem dX10_gcdEuclid_24 : decode cX10_gcdEuclid 24 = .ok (.aload_n 0, 1) := by decide +kernel
theorem dX10_gcdEuclid_25 : decode cX10_gcdEuclid 25 = .ok (.getfield 24, 3) := by decide +kernel
theorem dX10_gcdEuclid_28 : decode cX10_gcdEuclid 28 = .ok (.iload_n 3, 1) := by decide +kernel
theorem dX10_gcdEuclid_29 : decode cX10_gcdEuclid 29 = .ok (.aaload, 1) := by decide +kernel
theorem dX10_gcdEuclid_30 : decode cX10_gcdEuclid 30 = .ok (.invokevirtual 176, 3) := by decide +kernel
theorem dX10_gcdEuclid_33 : decode cX10_gcdEuclid 33 = .ok (.invokevirtual 126, 3) := by decide +kernel
theorem dX10_gcdEuclid_36 : decode cX10_gcdEuclid 36 = .ok (.ireturn, 1) := by decide +kernel
theorem dX10_gcdLehmer_0 : decode cX10_gcdLehmer 0 = .ok (.aload_n 0, 1) := by decide +kernel
theorem dX10_gcdLehmer_1 : decode cX10_gcdLehmer 1 = .ok (.iload_n 1, 1) := by decide +kernel
theorem dX10_gcdLehmer_2 : decode cX10_gcdLehmer 2 = .ok (.iload_n 2, 1) := by decide +kernel
theorem dX10_gcdLehmer_3 : decode cX10_gcdLehmer 3 = .ok (.iload_n 3, 1) := by decide +kernel
theorem dX10_gcdLehmer_4 : decode cX10_gcdLehmer 4 = .ok (.invokevirtual 138, 3) := by decide +kernel
theorem dX10_gcdLehmer_7 : decode cX10_gcdLehmer 7 = .ok (.ifCond .ne 5, 3) := by decide +kernel
theorem dX10_gcdLehmer_10 : decode cX10_gcdLehmer 10 = .ok (.iconst 3, 1) := by decide +kernel
theorem dX10_gcdLehmer_11 : decode cX10_gcdLehmer 11 = .ok (.ireturn, 1) := by decide +kernel
theorem dX10_gcdLehmer_12 : decode cX10_gcdLehmer 12 = .ok (.aload_n 0, 1) := by decide +kernel
theorem dX10_gcdLehmer_13 : decode cX10_gcdLehmer 13 = .ok (.iload_n 1, 1) := by decide +kernel
theorem dX10_gcdLehmer_14 : decode cX10_gcdLehmer 14 = .ok (.aload_n 0, 1) := by decide +kernel
theorem dX10_gcdLehmer_15 : decode cX10_gcdLehmer 15 = .ok (.getfield 50, 3) := by decide +kernel
theorem dX10_gcdLehmer_18 : decode cX10_gcdLehmer 18 = .ok (.aload_n 0, 1) := by decide +kernel
theorem dX10_gcdLehmer_19 : decode cX10_gcdLehmer 19 = .ok (.getfield 24, 3) := by decide +kernel
theorem dX10_gcdLehmer_22 : decode cX10_gcdLehmer 22 = .ok (.iload_n 2, 1) := by decide +kernel
theorem dX10_gcdLehmer_23 : decode cX10_gcdLehmer 23 = .ok (.aaload, 1) := by decide +kernel
theorem dX10_gcdLehmer_24 : decode cX10_gcdLehmer 24 = .ok (.aload_n 0, 1) := by decide +kernel
theorem dX10_gcdLehmer_25 : decode cX10_gcdLehmer 25 = .ok (.getfield 24, 3) := by decide +kernel
theorem dX10_gcdLehmer_28 : decode cX10_gcdLehmer 28 = .ok (.iload_n 3, 1) := by decide +kernel
theorem dX10_gcdLehmer_29 : decode cX10_gcdLehmer 29 = .ok (.aaload, 1) := by decide +kernel
theorem dX10_gcdLehmer_30 : decode cX10_gcdLehmer 30 = .ok (.invokevirtual 179, 3) := by decide +kernel
theorem dX10_gcdLehmer_33 : decode cX10_gcdLehmer 33 = .ok (.invokevirtual 126, 3) := by decide +kernel
theorem dX10_gcdLehmer_36 : decode cX10_gcdLehmer 36 = .ok (.istore 4, 2) := by decide +kernel
theorem dX10_gcdLehmer_38 : decode cX10_gcdLehmer 38 = .ok (.aload_n 0, 1) := by decide +kernel
theorem dX10_gcdLehmer_39 : decode cX10_gcdLehmer 39 = .ok (.aload_n 0, 1) := by decide +kernel
theorem dX10_gcdLehmer_40 : decode cX10_gcdLehmer 40 = .ok (.getfield 50, 3) := by decide +kernel
theorem dX10_gcdLehmer_43 : decode cX10_gcdLehmer 43 = .ok (.getfield 182, 3) := by decide +kernel
theorem dX10_gcdLehmer_46 : decode cX10_gcdLehmer 46 = .ok (.putfield 185, 3) := by decide +kernel
theorem dX10_gcdLehmer_49 : decode cX10_gcdLehmer 49 = .ok (.iload 4, 2) := by decide +kernel
theorem dX10_gcdLehmer_51 : decode cX10_gcdLehmer 51 = .ok (.ireturn, 1) := by decide +kernel
theorem dX10_lastSteps_0 : decode cX10_lastSteps 0 = .ok (.aload_n 0, 1) := by decide +kernel
theorem dX10_lastSteps_1 : decode cX10_lastSteps 1 = .ok (.getfield 185, 3) := by decide +kernel
theorem dX10_lastSteps_4 : decode cX10_lastSteps 4 = .ok (.ireturn, 1) := by decide +kernel
theorem dX10_bezout_0 : decode cX10_bezout 0 = .ok (.aload_n 0, 1) := by decide +kernel
theorem dX10_bezout_1 : decode cX10_bezout 1 = .ok (.iload_n 1, 1) := by decide +kernel
theorem dX10_bezout_2 : decode cX10_bezout 2 = .ok (.iload_n 2, 1) := by decide +kernel
theorem dX10_bezout_3 : decode cX10_bezout 3 = .ok (.iload_n 3, 1) := by decide +kernel
theorem dX10_bezout_4 : decode cX10_bezout 4 = .ok (.invokevirtual 138, 3) := by decide +kernel
theorem dX10_bezout_7 : decode cX10_bezout 7 = .ok (.ifCond .eq 29, 3) := by decide +kernel
theorem dX10_bezout_10 : decode cX10_bezout 10 = .ok (.aload_n 0, 1) := by decide +kernel
theorem dX10_bezout_11 : decode cX10_bezout 11 = .ok (.iload 4, 2) := by decide +kernel
theorem dX10_bezout_13 : decode cX10_bezout 13 = .ok (.iload 5, 2) := by decide +kernel
theorem dX10_bezout_15 : decode cX10_bezout 15 = .ok (.invokevirtual 130, 3) := by decide +kernel
theorem dX10_bezout_18 : decode cX10_bezout 18 = .ok (.ifCond .eq 18, 3) := by decide +kernel
theorem dX10_bezout_21 : decode cX10_bezout 21 = .ok (.iload_n 1, 1) := by decide +kernel
theorem dX10_bezout_22 : decode cX10_bezout 22 = .ok (.iload_n 2, 1) := by decide +kernel
theorem dX10_bezout_23 : decode cX10_bezout 23 = .ok (.if_icmp .eq 13, 3) := by decide +kernel
theorem dX10_bezout_26 : decode cX10_bezout 26 = .ok (.iload_n 1, 1) := by decide +kernel
theorem dX10_bezout_27 : decode cX10_bezout 27 = .ok (.iload_n 3, 1) := by decide +kernel
theorem dX10_bezout_28 : decode cX10_bezout 28 = .ok (.if_icmp .eq 8, 3) := by decide +kernel
theorem dX10_bezout_31 : decode cX10_bezout 31 = .ok (.iload_n 2, 1) := by decide +kernel
theorem dX10_bezout_32 : decode cX10_bezout 32 = .ok (.iload_n 3, 1) := by decide +kernel
theorem dX10_bezout_33 : decode cX10_bezout 33 = .ok (.if_icmp .ne 5, 3) := by decide +kernel
theorem dX10_bezout_36 : decode cX10_bezout 36 = .ok (.iconst 3, 1) := by decide +kernel
theorem dX10_bezout_37 : decode cX10_bezout 37 = .ok (.ireturn, 1) := by decide +kernel
theorem dX10_bezout_38 : decode cX10_bezout 38 = .ok (.aload_n 0, 1) := by decide +kernel
theorem dX10_bezout_39 : decode cX10_bezout 39 = .ok (.getfield 57, 3) := by decide +kernel
theorem dX10_bezout_42 : decode cX10_bezout 42 = .ok (.aload_n 0, 1) := by decide +kernel
theorem dX10_bezout_43 : decode cX10_bezout 43 = .ok (.getfield 24, 3) := by decide +kernel
theorem dX10_bezout_46 : decode cX10_bezout 46 = .ok (.iload 4, 2) := by decide +kernel
theorem dX10_bezout_48 : decode cX10_bezout 48 = .ok (.aaload, 1) := by decide +kernel
theorem dX10_bezout_49 : decode cX10_bezout 49 = .ok (.aload_n 0, 1) := by decide +kernel
theorem dX10_bezout_50 : decode cX10_bezout 50 = .ok (.getfield 24, 3) := by decide +kernel
theorem dX10_bezout_53 : decode cX10_bezout 53 = .ok (.iload 5, 2) := by decide +kernel
theorem dX10_bezout_55 : decode cX10_bezout 55 = .ok (.aaload, 1) := by decide +kernel
theorem dX10_bezout_56 : decode cX10_bezout 56 = .ok (.invokevirtual 186, 3) := by decide +kernel
theorem dX10_bezout_59 : decode cX10_bezout 59 = .ok (.aload_n 0, 1) := by decide +kernel
theorem dX10_bezout_60 : decode cX10_bezout 60 = .ok (.getfield 57, 3) := by decide +kernel
theorem dX10_bezout_63 : decode cX10_bezout 63 = .ok (.getfield 190, 3) := by decide +kernel
theorem dX10_bezout_66 : decode cX10_bezout 66 = .ok (.getfield 148, 3) := by decide +kernel
theorem dX10_bezout_69 : decode cX10_bezout 69 = .ok (.aload_n 0, 1) := by decide +kernel
theorem dX10_bezout_70 : decode cX10_bezout 70 = .ok (.getfield 18, 3) := by decide +kernel
theorem dX10_bezout_73 : decode cX10_bezout 73 = .ok (.if_icmp .gt 37, 3) := by decide +kernel
theorem dX10_bezout_76 : decode cX10_bezout 76 = .ok (.aload_n 0, 1) := by decide +kernel
theorem dX10_bezout_77 : decode cX10_bezout 77 = .ok (.getfield 57, 3) := by decide +kernel
theorem dX10_bezout_80 : decode cX10_bezout 80 = .ok (.getfield 193, 3) := by decide +kernel
theorem dX10_bezout_83 : decode cX10_bezout 83 = .ok (.getfield 148, 3) := by decide +kernel
theorem dX10_bezout_86 : decode cX10_bezout 86 = .ok (.aload_n 0, 1) := by decide +kernel
theorem dX10_bezout_87 : decode cX10_bezout 87 = .ok (.getfield 18, 3) := by decide +kernel
theorem dX10_bezout_90 : decode cX10_bezout 90 = .ok (.if_icmp .gt 20, 3) := by decide +kernel
theorem dX10_bezout_93 : decode cX10_bezout 93 = .ok (.aload_n 0, 1) := by decide +kernel
theorem dX10_bezout_94 : decode cX10_bezout 94 = .ok (.getfield 57, 3) := by decide +kernel
theorem dX10_bezout_97 : decode cX10_bezout 97 = .ok (.getfield 196, 3) := by decide +kernel
theorem dX10_bezout_100 : decode cX10_bezout 100 = .ok (.getfield 148, 3) := by decide +kernel
theorem dX10_bezout_103 : decode cX10_bezout 103 = .ok (.aload_n 0, 1) := by decide +kernel
theorem dX10_bezout_104 : decode cX10_bezout 104 = .ok (.getfield 18, 3) := by decide +kernel
theorem dX10_bezout_107 : decode cX10_bezout 107 = .ok (.if_icmp .le 5, 3) := by decide +kernel
theorem dX10_bezout_110 : decode cX10_bezout 110 = .ok (.iconst 1, 1) := by decide +kernel
theorem dX10_bezout_111 : decode cX10_bezout 111 = .ok (.ireturn, 1) := by decide +kernel
theorem dX10_bezout_112 : decode cX10_bezout 112 = .ok (.aload_n 0, 1) := by decide +kernel
theorem dX10_bezout_113 : decode cX10_bezout 113 = .ok (.getfield 24, 3) := by decide +kernel
theorem dX10_bezout_116 : decode cX10_bezout 116 = .ok (.iload_n 1, 1) := by decide +kernel
theorem dX10_bezout_117 : decode cX10_bezout 117 = .ok (.aaload, 1) := by decide +kernel
theorem dX10_bezout_118 : decode cX10_bezout 118 = .ok (.aload_n 0, 1) := by decide +kernel
theorem dX10_bezout_119 : decode cX10_bezout 119 = .ok (.getfield 57, 3) := by decide +kernel
theorem dX10_bezout_122 : decode cX10_bezout 122 = .ok (.getfield 190, 3) := by decide +kernel
theorem dX10_bezout_125 : decode cX10_bezout 125 = .ok (.invokevirtual 134, 3) := by decide +kernel
theorem dX10_bezout_128 : decode cX10_bezout 128 = .ok (.aload_n 0, 1) := by decide +kernel
theorem dX10_bezout_129 : decode cX10_bezout 129 = .ok (.getfield 24, 3) := by decide +kernel
theorem dX10_bezout_132 : decode cX10_bezout 132 = .ok (.iload_n 2, 1) := by decide +kernel
theorem dX10_bezout_133 : decode cX10_bezout 133 = .ok (.aaload, 1) := by decide +kernel
theorem dX10_bezout_134 : decode cX10_bezout 134 = .ok (.aload_n 0, 1) := by decide +kernel
theorem dX10_bezout_135 : decode cX10_bezout 135 = .ok (.getfield 57, 3) := by decide +kernel
theorem dX10_bezout_138 : decode cX10_bezout 138 = .ok (.getfield 193, 3) := by decide +kernel
theorem dX10_bezout_141 : decode cX10_bezout 141 = .ok (.invokevirtual 134, 3) := by decide +kernel
theorem dX10_bezout_144 : decode cX10_bezout 144 = .ok (.aload_n 0, 1) := by decide +kernel
theorem dX10_bezout_145 : decode cX10_bezout 145 = .ok (.getfield 24, 3) := by decide +kernel
theorem dX10_bezout_148 : decode cX10_bezout 148 = .ok (.iload_n 3, 1) := by decide +kernel
theorem dX10_bezout_149 : decode cX10_bezout 149 = .ok (.aaload, 1) := by decide +kernel
theorem dX10_bezout_150 : decode cX10_bezout 150 = .ok (.aload_n 0, 1) := by decide +kernel
theorem dX10_bezout_151 : decode cX10_bezout 151 = .ok (.getfield 57, 3) := by decide +kernel
theorem dX10_bezout_154 : decode cX10_bezout 154 = .ok (.getfield 196, 3) := by decide +kernel
theorem dX10_bezout_157 : decode cX10_bezout 157 = .ok (.invokevirtual 134, 3) := by decide +kernel
theorem dX10_bezout_160 : decode cX10_bezout 160 = .ok (.iconst 0, 1) := by decide +kernel
theorem dX10_bezout_161 : decode cX10_bezout 161 = .ok (.ireturn, 1) := by decide +kernel
theorem dX10_inverse_0 : decode cX10_inverse 0 = .ok (.aload_n 0, 1) := by decide +kernel
theorem dX10_inverse_1 : decode cX10_inverse 1 = .ok (.iload_n 1, 1) := by decide +kernel
theorem dX10_inverse_2 : decode cX10_inverse 2 = .ok (.iload_n 2, 1) := by decide +kernel
theorem dX10_inverse_3 : decode cX10_inverse 3 = .ok (.iload_n 3, 1) := by decide +kernel
theorem dX10_inverse_4 : decode cX10_inverse 4 = .ok (.invokevirtual 138, 3) := by decide +kernel
theorem dX10_inverse_7 : decode cX10_inverse 7 = .ok (.ifCond .ne 5, 3) := by decide +kernel
theorem dX10_inverse_10 : decode cX10_inverse 10 = .ok (.iconst 3, 1) := by decide +kernel
theorem dX10_inverse_11 : decode cX10_inverse 11 = .ok (.ireturn, 1) := by decide +kernel
theorem dX10_inverse_12 : decode cX10_inverse 12 = .ok (.aload_n 0, 1) := by decide +kernel
theorem dX10_inverse_13 : decode cX10_inverse 13 = .ok (.getfield 24, 3) := by decide +kernel
theorem dX10_inverse_16 : decode cX10_inverse 16 = .ok (.iload_n 3, 1) := by decide +kernel
theorem dX10_inverse_17 : decode cX10_inverse 17 = .ok (.aaload, 1) := by decide +kernel
theorem dX10_inverse_18 : decode cX10_inverse 18 = .ok (.astore 4, 2) := by decide +kernel
theorem dX10_inverse_20 : decode cX10_inverse 20 = .ok (.aload 4, 2) := by decide +kernel
theorem dX10_inverse_22 : decode cX10_inverse 22 = .ok (.invokevirtual 199, 3) := by decide +kernel
theorem dX10_inverse_25 : decode cX10_inverse 25 = .ok (.ifCond .ne 5, 3) := by decide +kernel
theorem dX10_inverse_28 : decode cX10_inverse 28 = .ok (.iconst 2, 1) := by decide +kernel
theorem dX10_inverse_29 : decode cX10_inverse 29 = .ok (.ireturn, 1) := by decide +kernel
theorem dX10_inverse_30 : decode cX10_inverse 30 = .ok (.aload_n 0, 1) := by decide +kernel
theorem dX10_inverse_31 : decode cX10_inverse 31 = .ok (.getfield 64, 3) := by decide +kernel
theorem dX10_inverse_34 : decode cX10_inverse 34 = .ok (.aload_n 0, 1) := by decide +kernel
theorem dX10_inverse_35 : decode cX10_inverse 35 = .ok (.getfield 95, 3) := by decide +kernel
theorem dX10_inverse_38 : decode cX10_inverse 38 = .ok (.aload_n 0, 1) := by decide +kernel
theorem dX10_inverse_39 : decode cX10_inverse 39 = .ok (.getfield 24, 3) := by decide +kernel
theorem dX10_inverse_42 : decode cX10_inverse 42 = .ok (.iload_n 2, 1) := by decide +kernel
theorem dX10_inverse_43 : decode cX10_inverse 43 = .ok (.aaload, 1) := by decide +kernel
theorem dX10_inverse_44 : decode cX10_inverse 44 = .ok (.aload 4, 2) := by decide +kernel
theorem dX10_inverse_46 : decode cX10_inverse 46 = .ok (.invokevirtual 203, 3) := by decide +kernel
theorem dX10_inverse_49 : decode cX10_inverse 49 = .ok (.aload_n 0, 1) := by decide +kernel
theorem dX10_inverse_50 : decode cX10_inverse 50 = .ok (.getfield 57, 3) := by decide +kernel
theorem dX10_inverse_53 : decode cX10_inverse 53 = .ok (.aload_n 0, 1) := by decide +kernel
theorem dX10_inverse_54 : decode cX10_inverse 54 = .ok (.getfield 95, 3) := by decide +kernel
theorem dX10_inverse_57 : decode cX10_inverse 57 = .ok (.aload 4, 2) := by decide +kernel
theorem dX10_inverse_59 : decode cX10_inverse 59 = .ok (.invokevirtual 186, 3) := by decide +kernel
theorem dX10_inverse_62 : decode cX10_inverse 62 = .ok (.aload_n 0, 1) := by decide +kernel
theorem dX10_inverse_63 : decode cX10_inverse 63 = .ok (.getfield 57, 3) := by decide +kernel
theorem dX10_inverse_66 : decode cX10_inverse 66 = .ok (.getfield 190, 3) := by decide +kernel
theorem dX10_inverse_69 : decode cX10_inverse 69 = .ok (.aload_n 0, 1) := by decide +kernel
theorem dX10_inverse_70 : decode cX10_inverse 70 = .ok (.getfield 98, 3) := by decide +kernel
theorem dX10_inverse_73 : decode cX10_inverse 73 = .ok (.invokestatic 168, 3) := by decide +kernel
