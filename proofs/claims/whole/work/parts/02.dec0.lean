theorem dJ6_numberOfLeadingZeros_0f7a4_0 : decode cJ6_numberOfLeadingZeros_0f7a4 0 = .ok (.iload_n 0, 1) := by decide +kernel
theorem dJ6_numberOfLeadingZeros_0f7a4_1 : decode cJ6_numberOfLeadingZeros_0f7a4 1 = .ok (.ifCond .gt 14, 3) := by decide +kernel
theorem dJ6_numberOfLeadingZeros_0f7a4_4 : decode cJ6_numberOfLeadingZeros_0f7a4 4 = .ok (.iload_n 0, 1) := by decide +kernel
theorem dJ6_numberOfLeadingZeros_0f7a4_5 : decode cJ6_numberOfLeadingZeros_0f7a4 5 = .ok (.ifCond .ne 8, 3) := by decide +kernel
theorem dJ6_numberOfLeadingZeros_0f7a4_8 : decode cJ6_numberOfLeadingZeros_0f7a4 8 = .ok (.bipush 32, 2) := by decide +kernel
theorem dJ6_numberOfLeadingZeros_0f7a4_10 : decode cJ6_numberOfLeadingZeros_0f7a4 10 = .ok (.goto 4, 3) := by decide +kernel
theorem dJ6_numberOfLeadingZeros_0f7a4_13 : decode cJ6_numberOfLeadingZeros_0f7a4 13 = .ok (.iconst 0, 1) := by decide +kernel
theorem dJ6_numberOfLeadingZeros_0f7a4_14 : decode cJ6_numberOfLeadingZeros_0f7a4 14 = .ok (.ireturn, 1) := by decide +kernel
theorem dJ6_numberOfLeadingZeros_0f7a4_15 : decode cJ6_numberOfLeadingZeros_0f7a4 15 = .ok (.bipush 31, 2) := by decide +kernel
theorem dJ6_numberOfLeadingZeros_0f7a4_17 : decode cJ6_numberOfLeadingZeros_0f7a4 17 = .ok (.istore_n 1, 1) := by decide +kernel
theorem dJ6_numberOfLeadingZeros_0f7a4_18 : decode cJ6_numberOfLeadingZeros_0f7a4 18 = .ok (.iload_n 0, 1) := by decide +kernel
theorem dJ6_numberOfLeadingZeros_0f7a4_19 : decode cJ6_numberOfLeadingZeros_0f7a4 19 = .ok (.ldc_w 264, 3) := by decide +kernel
theorem dJ6_numberOfLeadingZeros_0f7a4_22 : decode cJ6_numberOfLeadingZeros_0f7a4 22 = .ok (.if_icmp .lt 11, 3) := by decide +kernel
theorem dJ6_numberOfLeadingZeros_0f7a4_25 : decode cJ6_numberOfLeadingZeros_0f7a4 25 = .ok (.iinc 1 (-16), 3) := by decide +kernel
theorem dJ6_numberOfLeadingZeros_0f7a4_28 : decode cJ6_numberOfLeadingZeros_0f7a4 28 = .ok (.iload_n 0, 1) := by decide +kernel
theorem dJ6_numberOfLeadingZeros_0f7a4_29 : decode cJ6_numberOfLeadingZeros_0f7a4 29 = .ok (.bipush 16, 2) := by decide +kernel
theorem dJ6_numberOfLeadingZeros_0f7a4_31 : decode cJ6_numberOfLeadingZeros_0f7a4 31 = .ok (.iushr, 1) := by decide +kernel
theorem dJ6_numberOfLeadingZeros_0f7a4_32 : decode cJ6_numberOfLeadingZeros_0f7a4 32 = .ok (.istore_n 0, 1) := by decide +kernel
theorem dJ6_numberOfLeadingZeros_0f7a4_33 : decode cJ6_numberOfLeadingZeros_0f7a4 33 = .ok (.iload_n 0, 1) := by decide +kernel
theorem dJ6_numberOfLeadingZeros_0f7a4_34 : decode cJ6_numberOfLeadingZeros_0f7a4 34 = .ok (.sipush 256, 3) := by decide +kernel
theorem dJ6_numberOfLeadingZeros_0f7a4_37 : decode cJ6_numberOfLeadingZeros_0f7a4 37 = .ok (.if_icmp .lt 11, 3) := by decide +kernel
theorem dJ6_numberOfLeadingZeros_0f7a4_40 : decode cJ6_numberOfLeadingZeros_0f7a4 40 = .ok (.iinc 1 (-8), 3) := by decide +kernel
theorem dJ6_numberOfLeadingZeros_0f7a4_43 : decode cJ6_numberOfLeadingZeros_0f7a4 43 = .ok (.iload_n 0, 1) := by decide +kernel
theorem dJ6_numberOfLeadingZeros_0f7a4_44 : decode cJ6_numberOfLeadingZeros_0f7a4 44 = .ok (.bipush 8, 2) := by decide +kernel
theorem dJ6_numberOfLeadingZeros_0f7a4_46 : decode cJ6_numberOfLeadingZeros_0f7a4 46 = .ok (.iushr, 1) := by decide +kernel
theorem dJ6_numberOfLeadingZeros_0f7a4_47 : decode cJ6_numberOfLeadingZeros_0f7a4 47 = .ok (.istore_n 0, 1) := by decide +kernel
theorem dJ6_numberOfLeadingZeros_0f7a4_48 : decode cJ6_numberOfLeadingZeros_0f7a4 48 = .ok (.iload_n 0, 1) := by decide +kernel
theorem dJ6_numberOfLeadingZeros_0f7a4_49 : decode cJ6_numberOfLeadingZeros_0f7a4 49 = .ok (.bipush 16, 2) := by decide +kernel
theorem dJ6_numberOfLeadingZeros_0f7a4_51 : decode cJ6_numberOfLeadingZeros_0f7a4 51 = .ok (.if_icmp .lt 10, 3) := by decide +kernel
theorem dJ6_numberOfLeadingZeros_0f7a4_54 : decode cJ6_numberOfLeadingZeros_0f7a4 54 = .ok (.iinc 1 (-4), 3) := by decide +kernel
theorem dJ6_numberOfLeadingZeros_0f7a4_57 : decode cJ6_numberOfLeadingZeros_0f7a4 57 = .ok (.iload_n 0, 1) := by decide +kernel
theorem dJ6_numberOfLeadingZeros_0f7a4_58 : decode cJ6_numberOfLeadingZeros_0f7a4 58 = .ok (.iconst 4, 1) := by decide +kernel
theorem dJ6_numberOfLeadingZeros_0f7a4_59 : decode cJ6_numberOfLeadingZeros_0f7a4 59 = .ok (.iushr, 1) := by decide +kernel
theorem dJ6_numberOfLeadingZeros_0f7a4_60 : decode cJ6_numberOfLeadingZeros_0f7a4 60 = .ok (.istore_n 0, 1) := by decide +kernel
theorem dJ6_numberOfLeadingZeros_0f7a4_61 : decode cJ6_numberOfLeadingZeros_0f7a4 61 = .ok (.iload_n 0, 1) := by decide +kernel
theorem dJ6_numberOfLeadingZeros_0f7a4_62 : decode cJ6_numberOfLeadingZeros_0f7a4 62 = .ok (.iconst 4, 1) := by decide +kernel
theorem dJ6_numberOfLeadingZeros_0f7a4_63 : decode cJ6_numberOfLeadingZeros_0f7a4 63 = .ok (.if_icmp .lt 10, 3) := by decide +kernel
theorem dJ6_numberOfLeadingZeros_0f7a4_66 : decode cJ6_numberOfLeadingZeros_0f7a4 66 = .ok (.iinc 1 (-2), 3) := by decide +kernel
theorem dJ6_numberOfLeadingZeros_0f7a4_69 : decode cJ6_numberOfLeadingZeros_0f7a4 69 = .ok (.iload_n 0, 1) := by decide +kernel
theorem dJ6_numberOfLeadingZeros_0f7a4_70 : decode cJ6_numberOfLeadingZeros_0f7a4 70 = .ok (.iconst 2, 1) := by decide +kernel
theorem dJ6_numberOfLeadingZeros_0f7a4_71 : decode cJ6_numberOfLeadingZeros_0f7a4 71 = .ok (.iushr, 1) := by decide +kernel
theorem dJ6_numberOfLeadingZeros_0f7a4_72 : decode cJ6_numberOfLeadingZeros_0f7a4 72 = .ok (.istore_n 0, 1) := by decide +kernel
theorem dJ6_numberOfLeadingZeros_0f7a4_73 : decode cJ6_numberOfLeadingZeros_0f7a4 73 = .ok (.iload_n 1, 1) := by decide +kernel
theorem dJ6_numberOfLeadingZeros_0f7a4_74 : decode cJ6_numberOfLeadingZeros_0f7a4 74 = .ok (.iload_n 0, 1) := by decide +kernel
theorem dJ6_numberOfLeadingZeros_0f7a4_75 : decode cJ6_numberOfLeadingZeros_0f7a4 75 = .ok (.iconst 1, 1) := by decide +kernel
theorem dJ6_numberOfLeadingZeros_0f7a4_76 : decode cJ6_numberOfLeadingZeros_0f7a4 76 = .ok (.iushr, 1) := by decide +kernel
theorem dJ6_numberOfLeadingZeros_0f7a4_77 : decode cJ6_numberOfLeadingZeros_0f7a4 77 = .ok (.isub, 1) := by decide +kernel
theorem dJ6_numberOfLeadingZeros_0f7a4_78 : decode cJ6_numberOfLeadingZeros_0f7a4 78 = .ok (.ireturn, 1) := by decide +kernel
theorem dJ6_numberOfTrailingZeros_0f7a4_0 : decode cJ6_numberOfTrailingZeros_0f7a4 0 = .ok (.iload_n 0, 1) := by decide +kernel
theorem dJ6_numberOfTrailingZeros_0f7a4_1 : decode cJ6_numberOfTrailingZeros_0f7a4 1 = .ok (.iconst (-1), 1) := by decide +kernel
theorem dJ6_numberOfTrailingZeros_0f7a4_2 : decode cJ6_numberOfTrailingZeros_0f7a4 2 = .ok (.ixor, 1) := by decide +kernel
theorem dJ6_numberOfTrailingZeros_0f7a4_3 : decode cJ6_numberOfTrailingZeros_0f7a4 3 = .ok (.iload_n 0, 1) := by decide +kernel
theorem dJ6_numberOfTrailingZeros_0f7a4_4 : decode cJ6_numberOfTrailingZeros_0f7a4 4 = .ok (.iconst 1, 1) := by decide +kernel
theorem dJ6_numberOfTrailingZeros_0f7a4_5 : decode cJ6_numberOfTrailingZeros_0f7a4 5 = .ok (.isub, 1) := by decide +kernel
theorem dJ6_numberOfTrailingZeros_0f7a4_6 : decode cJ6_numberOfTrailingZeros_0f7a4 6 = .ok (.iand, 1) := by decide +kernel
theorem dJ6_numberOfTrailingZeros_0f7a4_7 : decode cJ6_numberOfTrailingZeros_0f7a4 7 = .ok (.istore_n 0, 1) := by decide +kernel
theorem dJ6_numberOfTrailingZeros_0f7a4_8 : decode cJ6_numberOfTrailingZeros_0f7a4 8 = .ok (.iload_n 0, 1) := by decide +kernel
theorem dJ6_numberOfTrailingZeros_0f7a4_9 : decode cJ6_numberOfTrailingZeros_0f7a4 9 = .ok (.ifCond .gt 8, 3) := by decide +kernel
theorem dJ6_numberOfTrailingZeros_0f7a4_12 : decode cJ6_numberOfTrailingZeros_0f7a4 12 = .ok (.iload_n 0, 1) := by decide +kernel
theorem dJ6_numberOfTrailingZeros_0f7a4_13 : decode cJ6_numberOfTrailingZeros_0f7a4 13 = .ok (.bipush 32, 2) := by decide +kernel
theorem dJ6_numberOfTrailingZeros_0f7a4_15 : decode cJ6_numberOfTrailingZeros_0f7a4 15 = .ok (.iand, 1) := by decide +kernel
theorem dJ6_numberOfTrailingZeros_0f7a4_16 : decode cJ6_numberOfTrailingZeros_0f7a4 16 = .ok (.ireturn, 1) := by decide +kernel
theorem dJ6_numberOfTrailingZeros_0f7a4_17 : decode cJ6_numberOfTrailingZeros_0f7a4 17 = .ok (.iconst 1, 1) := by decide +kernel
theorem dJ6_numberOfTrailingZeros_0f7a4_18 : decode cJ6_numberOfTrailingZeros_0f7a4 18 = .ok (.istore_n 1, 1) := by decide +kernel
theorem dJ6_numberOfTrailingZeros_0f7a4_19 : decode cJ6_numberOfTrailingZeros_0f7a4 19 = .ok (.iload_n 0, 1) := by decide +kernel
theorem dJ6_numberOfTrailingZeros_0f7a4_20 : decode cJ6_numberOfTrailingZeros_0f7a4 20 = .ok (.ldc_w 264, 3) := by decide +kernel
theorem dJ6_numberOfTrailingZeros_0f7a4_23 : decode cJ6_numberOfTrailingZeros_0f7a4 23 = .ok (.if_icmp .le 11, 3) := by decide +kernel
theorem dJ6_numberOfTrailingZeros_0f7a4_26 : decode cJ6_numberOfTrailingZeros_0f7a4 26 = .ok (.iinc 1 16, 3) := by decide +kernel
theorem dJ6_numberOfTrailingZeros_0f7a4_29 : decode cJ6_numberOfTrailingZeros_0f7a4 29 = .ok (.iload_n 0, 1) := by decide +kernel
theorem dJ6_numberOfTrailingZeros_0f7a4_30 : decode cJ6_numberOfTrailingZeros_0f7a4 30 = .ok (.bipush 16, 2) := by decide +kernel
theorem dJ6_numberOfTrailingZeros_0f7a4_32 : decode cJ6_numberOfTrailingZeros_0f7a4 32 = .ok (.iushr, 1) := by decide +kernel
theorem dJ6_numberOfTrailingZeros_0f7a4_33 : decode cJ6_numberOfTrailingZeros_0f7a4 33 = .ok (.istore_n 0, 1) := by decide +kernel
theorem dJ6_numberOfTrailingZeros_0f7a4_34 : decode cJ6_numberOfTrailingZeros_0f7a4 34 = .ok (.iload_n 0, 1) := by decide +kernel
theorem dJ6_numberOfTrailingZeros_0f7a4_35 : decode cJ6_numberOfTrailingZeros_0f7a4 35 = .ok (.sipush 256, 3) := by decide +kernel
theorem dJ6_numberOfTrailingZeros_0f7a4_38 : decode cJ6_numberOfTrailingZeros_0f7a4 38 = .ok (.if_icmp .le 11, 3) := by decide +kernel
theorem dJ6_numberOfTrailingZeros_0f7a4_41 : decode cJ6_numberOfTrailingZeros_0f7a4 41 = .ok (.iinc 1 8, 3) := by decide +kernel
theorem dJ6_numberOfTrailingZeros_0f7a4_44 : decode cJ6_numberOfTrailingZeros_0f7a4 44 = .ok (.iload_n 0, 1) := by decide +kernel
theorem dJ6_numberOfTrailingZeros_0f7a4_45 : decode cJ6_numberOfTrailingZeros_0f7a4 45 = .ok (.bipush 8, 2) := by decide +kernel
theorem dJ6_numberOfTrailingZeros_0f7a4_47 : decode cJ6_numberOfTrailingZeros_0f7a4 47 = .ok (.iushr, 1) := by decide +kernel
theorem dJ6_numberOfTrailingZeros_0f7a4_48 : decode cJ6_numberOfTrailingZeros_0f7a4 48 = .ok (.istore_n 0, 1) := by decide +kernel
theorem dJ6_numberOfTrailingZeros_0f7a4_49 : decode cJ6_numberOfTrailingZeros_0f7a4 49 = .ok (.iload_n 0, 1) := by decide +kernel
theorem dJ6_numberOfTrailingZeros_0f7a4_50 : decode cJ6_numberOfTrailingZeros_0f7a4 50 = .ok (.bipush 16, 2) := by decide +kernel
theorem dJ6_numberOfTrailingZeros_0f7a4_52 : decode cJ6_numberOfTrailingZeros_0f7a4 52 = .ok (.if_icmp .le 10, 3) := by decide +kernel
theorem dJ6_numberOfTrailingZeros_0f7a4_55 : decode cJ6_numberOfTrailingZeros_0f7a4 55 = .ok (.iinc 1 4, 3) := by decide +kernel
theorem dJ6_numberOfTrailingZeros_0f7a4_58 : decode cJ6_numberOfTrailingZeros_0f7a4 58 = .ok (.iload_n 0, 1) := by decide +kernel
theorem dJ6_numberOfTrailingZeros_0f7a4_59 : decode cJ6_numberOfTrailingZeros_0f7a4 59 = .ok (.iconst 4, 1) := by decide +kernel
theorem dJ6_numberOfTrailingZeros_0f7a4_60 : decode cJ6_numberOfTrailingZeros_0f7a4 60 = .ok (.iushr, 1) := by decide +kernel
theorem dJ6_numberOfTrailingZeros_0f7a4_61 : decode cJ6_numberOfTrailingZeros_0f7a4 61 = .ok (.istore_n 0, 1) := by decide +kernel
theorem dJ6_numberOfTrailingZeros_0f7a4_62 : decode cJ6_numberOfTrailingZeros_0f7a4 62 = .ok (.iload_n 0, 1) := by decide +kernel
theorem dJ6_numberOfTrailingZeros_0f7a4_63 : decode cJ6_numberOfTrailingZeros_0f7a4 63 = .ok (.iconst 4, 1) := by decide +kernel
theorem dJ6_numberOfTrailingZeros_0f7a4_64 : decode cJ6_numberOfTrailingZeros_0f7a4 64 = .ok (.if_icmp .le 10, 3) := by decide +kernel
theorem dJ6_numberOfTrailingZeros_0f7a4_67 : decode cJ6_numberOfTrailingZeros_0f7a4 67 = .ok (.iinc 1 2, 3) := by decide +kernel
theorem dJ6_numberOfTrailingZeros_0f7a4_70 : decode cJ6_numberOfTrailingZeros_0f7a4 70 = .ok (.iload_n 0, 1) := by decide +kernel
theorem dJ6_numberOfTrailingZeros_0f7a4_71 : decode cJ6_numberOfTrailingZeros_0f7a4 71 = .ok (.iconst 2, 1) := by decide +kernel
theorem dJ6_numberOfTrailingZeros_0f7a4_72 : decode cJ6_numberOfTrailingZeros_0f7a4 72 = .ok (.iushr, 1) := by decide +kernel
theorem dJ6_numberOfTrailingZeros_0f7a4_73 : decode cJ6_numberOfTrailingZeros_0f7a4 73 = .ok (.istore_n 0, 1) := by decide +kernel
theorem dJ6_numberOfTrailingZeros_0f7a4_74 : decode cJ6_numberOfTrailingZeros_0f7a4 74 = .ok (.iload_n 1, 1) := by decide +kernel
theorem dJ6_numberOfTrailingZeros_0f7a4_75 : decode cJ6_numberOfTrailingZeros_0f7a4 75 = .ok (.iload_n 0, 1) := by decide +kernel
theorem dJ6_numberOfTrailingZeros_0f7a4_76 : decode cJ6_numberOfTrailingZeros_0f7a4 76 = .ok (.iconst 1, 1) := by decide +kernel
theorem dJ6_numberOfTrailingZeros_0f7a4_77 : decode cJ6_numberOfTrailingZeros_0f7a4 77 = .ok (.iushr, 1) := by decide +kernel
theorem dJ6_numberOfTrailingZeros_0f7a4_78 : decode cJ6_numberOfTrailingZeros_0f7a4 78 = .ok (.iadd, 1) := by decide +kernel
theorem dJ6_numberOfTrailingZeros_0f7a4_79 : decode cJ6_numberOfTrailingZeros_0f7a4 79 = .ok (.ireturn, 1) := by decide +kernel
theorem dJ9_max_7cf53_0 : decode cJ9_max_7cf53 0 = .ok (.iload_n 0, 1) := by decide +kernel
theorem dJ9_max_7cf53_1 : decode cJ9_max_7cf53 1 = .ok (.iload_n 1, 1) := by decide +kernel
theorem dJ9_max_7cf53_2 : decode cJ9_max_7cf53 2 = .ok (.if_icmp .lt 7, 3) := by decide +kernel
theorem dJ9_max_7cf53_5 : decode cJ9_max_7cf53 5 = .ok (.iload_n 0, 1) := by decide +kernel
theorem dJ9_max_7cf53_6 : decode cJ9_max_7cf53 6 = .ok (.goto 4, 3) := by decide +kernel
theorem dJ9_max_7cf53_9 : decode cJ9_max_7cf53 9 = .ok (.iload_n 1, 1) := by decide +kernel
theorem dJ9_max_7cf53_10 : decode cJ9_max_7cf53 10 = .ok (.ireturn, 1) := by decide +kernel
theorem dJ9_min_7cf53_0 : decode cJ9_min_7cf53 0 = .ok (.iload_n 0, 1) := by decide +kernel
theorem dJ9_min_7cf53_1 : decode cJ9_min_7cf53 1 = .ok (.iload_n 1, 1) := by decide +kernel
theorem dJ9_min_7cf53_2 : decode cJ9_min_7cf53 2 = .ok (.if_icmp .gt 7, 3) := by decide +kernel
theorem dJ9_min_7cf53_5 : decode cJ9_min_7cf53 5 = .ok (.iload_n 0, 1) := by decide +kernel
theorem dJ9_min_7cf53_6 : decode cJ9_min_7cf53 6 = .ok (.goto 4, 3) := by decide +kernel
theorem dJ9_min_7cf53_9 : decode cJ9_min_7cf53 9 = .ok (.iload_n 1, 1) := by decide +kernel
theorem dJ9_min_7cf53_10 : decode cJ9_min_7cf53 10 = .ok (.ireturn, 1) := by decide +kernel
theorem dJ13_compare_74951_0 : decode cJ13_compare_74951 0 = .ok (.lload_n 0, 1) := by decide +kernel
theorem dJ13_compare_74951_1 : decode cJ13_compare_74951 1 = .ok (.lload_n 2, 1) := by decide +kernel
theorem dJ13_compare_74951_2 : decode cJ13_compare_74951 2 = .ok (.lcmp, 1) := by decide +kernel
theorem dJ13_compare_74951_3 : decode cJ13_compare_74951 3 = .ok (.ifCond .ge 7, 3) := by decide +kernel
theorem dJ13_compare_74951_6 : decode cJ13_compare_74951 6 = .ok (.iconst (-1), 1) := by decide +kernel
theorem dJ13_compare_74951_7 : decode cJ13_compare_74951 7 = .ok (.goto 14, 3) := by decide +kernel
theorem dJ13_compare_74951_10 : decode cJ13_compare_74951 10 = .ok (.lload_n 0, 1) := by decide +kernel
theorem dJ13_compare_74951_11 : decode cJ13_compare_74951 11 = .ok (.lload_n 2, 1) := by decide +kernel
theorem dJ13_compare_74951_12 : decode cJ13_compare_74951 12 = .ok (.lcmp, 1) := by decide +kernel
theorem dJ13_compare_74951_13 : decode cJ13_compare_74951 13 = .ok (.ifCond .ne 7, 3) := by decide +kernel
theorem dJ13_compare_74951_16 : decode cJ13_compare_74951 16 = .ok (.iconst 0, 1) := by decide +kernel
theorem dJ13_compare_74951_17 : decode cJ13_compare_74951 17 = .ok (.goto 4, 3) := by decide +kernel
theorem dJ13_compare_74951_20 : decode cJ13_compare_74951 20 = .ok (.iconst 1, 1) := by decide +kernel
theorem dJ13_compare_74951_21 : decode cJ13_compare_74951 21 = .ok (.ireturn, 1) := by decide +kernel
theorem dJ13_compareUnsigned_74951_0 : decode cJ13_compareUnsigned_74951 0 = .ok (.lload_n 0, 1) := by decide +kernel
theorem dJ13_compareUnsigned_74951_1 : decode cJ13_compareUnsigned_74951 1 = .ok (.ldc2_w 168, 3) := by decide +kernel
theorem dJ13_compareUnsigned_74951_4 : decode cJ13_compareUnsigned_74951 4 = .ok (.ladd, 1) := by decide +kernel
theorem dJ13_compareUnsigned_74951_5 : decode cJ13_compareUnsigned_74951 5 = .ok (.lload_n 2, 1) := by decide +kernel
theorem dJ13_compareUnsigned_74951_6 : decode cJ13_compareUnsigned_74951 6 = .ok (.ldc2_w 168, 3) := by decide +kernel
theorem dJ13_compareUnsigned_74951_9 : decode cJ13_compareUnsigned_74951 9 = .ok (.ladd, 1) := by decide +kernel
theorem dJ13_compareUnsigned_74951_10 : decode cJ13_compareUnsigned_74951 10 = .ok (.invokestatic 302, 3) := by decide +kernel
theorem dJ13_compareUnsigned_74951_13 : decode cJ13_compareUnsigned_74951 13 = .ok (.ireturn, 1) := by decide +kernel
theorem dX9_init_0 : decode cX9_init 0 = .ok (.aload_n 0, 1) := by decide +kernel
theorem dX9_init_1 : decode cX9_init 1 = .ok (.invokespecial 3, 3) := by decide +kernel
theorem dX9_init_4 : decode cX9_init 4 = .ok (.aload_n 0, 1) := by decide +kernel
theorem dX9_init_5 : decode cX9_init 5 = .ok (.iconst 1, 1) := by decide +kernel
theorem dX9_init_6 : decode cX9_init 6 = .ok (.iload_n 1, 1) := by decide +kernel
theorem dX9_init_7 : decode cX9_init 7 = .ok (.invokestatic 9, 3) := by decide +kernel
theorem dX9_init_10 : decode cX9_init 10 = .ok (.newarray .int, 2) := by decide +kernel
theorem dX9_init_12 : decode cX9_init 12 = .ok (.putfield 15, 3) := by decide +kernel
theorem dX9_init_15 : decode cX9_init 15 = .ok (.return_, 1) := by decide +kernel
theorem dX9_become_0 : decode cX9_become 0 = .ok (.aload_n 0, 1) := by decide +kernel
theorem dX9_become_1 : decode cX9_become 1 = .ok (.getfield 15, 3) := by decide +kernel
theorem dX9_become_4 : decode cX9_become 4 = .ok (.iconst 0, 1) := by decide +kernel
theorem dX9_become_5 : decode cX9_become 5 = .ok (.iload_n 1, 1) := by decide +kernel
theorem dX9_become_6 : decode cX9_become 6 = .ok (.iastore, 1) := by decide +kernel
theorem dX9_become_7 : decode cX9_become 7 = .ok (.aload_n 0, 1) := by decide +kernel
theorem dX9_become_8 : decode cX9_become 8 = .ok (.iconst 1, 1) := by decide +kernel
theorem dX9_become_9 : decode cX9_become 9 = .ok (.invokevirtual 21, 3) := by decide +kernel
theorem dX9_become_12 : decode cX9_become 12 = .ok (.return_, 1) := by decide +kernel
theorem dX9_copy_0 : decode cX9_copy 0 = .ok (.aload_n 1, 1) := by decide +kernel
theorem dX9_copy_1 : decode cX9_copy 1 = .ok (.getfield 25, 3) := by decide +kernel
theorem dX9_copy_4 : decode cX9_copy 4 = .ok (.aload_n 0, 1) := by decide +kernel
theorem dX9_copy_5 : decode cX9_copy 5 = .ok (.getfield 15, 3) := by decide +kernel
theorem dX9_copy_8 : decode cX9_copy 8 = .ok (.arraylength, 1) := by decide +kernel
theorem dX9_copy_9 : decode cX9_copy 9 = .ok (.invokestatic 29, 3) := by decide +kernel
theorem dX9_copy_12 : decode cX9_copy 12 = .ok (.istore_n 2, 1) := by decide +kernel
theorem dX9_copy_13 : decode cX9_copy 13 = .ok (.aload_n 1, 1) := by decide +kernel
theorem dX9_copy_14 : decode cX9_copy 14 = .ok (.getfield 15, 3) := by decide +kernel
theorem dX9_copy_17 : decode cX9_copy 17 = .ok (.iconst 0, 1) := by decide +kernel
theorem dX9_copy_18 : decode cX9_copy 18 = .ok (.aload_n 0, 1) := by decide +kernel
theorem dX9_copy_19 : decode cX9_copy 19 = .ok (.getfield 15, 3) := by decide +kernel
theorem dX9_copy_22 : decode cX9_copy 22 = .ok (.iconst 0, 1) := by decide +kernel
theorem dX9_copy_23 : decode cX9_copy 23 = .ok (.iload_n 2, 1) := by decide +kernel
theorem dX9_copy_24 : decode cX9_copy 24 = .ok (.invokestatic 32, 3) := by decide +kernel
theorem dX9_copy_27 : decode cX9_copy 27 = .ok (.aload_n 0, 1) := by decide +kernel
theorem dX9_copy_28 : decode cX9_copy 28 = .ok (.iload_n 2, 1) := by decide +kernel
theorem dX9_copy_29 : decode cX9_copy 29 = .ok (.putfield 25, 3) := by decide +kernel
theorem dX9_copy_32 : decode cX9_copy 32 = .ok (.aload_n 0, 1) := by decide +kernel
theorem dX9_copy_33 : decode cX9_copy 33 = .ok (.aload_n 1, 1) := by decide +kernel
theorem dX9_copy_34 : decode cX9_copy 34 = .ok (.getfield 38, 3) := by decide +kernel
theorem dX9_copy_37 : decode cX9_copy 37 = .ok (.putfield 38, 3) := by decide +kernel
theorem dX9_copy_40 : decode cX9_copy 40 = .ok (.return_, 1) := by decide +kernel
theorem dX9_keep_0 : decode cX9_keep 0 = .ok (.aload_n 0, 1) := by decide +kernel
theorem dX9_keep_1 : decode cX9_keep 1 = .ok (.iconst 0, 1) := by decide +kernel
theorem dX9_keep_2 : decode cX9_keep 2 = .ok (.iload_n 1, 1) := by decide +kernel
theorem dX9_keep_3 : decode cX9_keep 3 = .ok (.aload_n 0, 1) := by decide +kernel
theorem dX9_keep_4 : decode cX9_keep 4 = .ok (.getfield 15, 3) := by decide +kernel
theorem dX9_keep_7 : decode cX9_keep 7 = .ok (.arraylength, 1) := by decide +kernel
theorem dX9_keep_8 : decode cX9_keep 8 = .ok (.invokestatic 29, 3) := by decide +kernel
theorem dX9_keep_11 : decode cX9_keep 11 = .ok (.invokestatic 9, 3) := by decide +kernel
theorem dX9_keep_14 : decode cX9_keep 14 = .ok (.putfield 25, 3) := by decide +kernel
theorem dX9_keep_17 : decode cX9_keep 17 = .ok (.aload_n 0, 1) := by decide +kernel
theorem dX9_keep_18 : decode cX9_keep 18 = .ok (.getfield 25, 3) := by decide +kernel
theorem dX9_keep_21 : decode cX9_keep 21 = .ok (.ifCond .le 30, 3) := by decide +kernel
theorem dX9_keep_24 : decode cX9_keep 24 = .ok (.aload_n 0, 1) := by decide +kernel
theorem dX9_keep_25 : decode cX9_keep 25 = .ok (.getfield 15, 3) := by decide +kernel
theorem dX9_keep_28 : decode cX9_keep 28 = .ok (.aload_n 0, 1) := by decide +kernel
theorem dX9_keep_29 : decode cX9_keep 29 = .ok (.getfield 25, 3) := by decide +kernel
theorem dX9_keep_32 : decode cX9_keep 32 = .ok (.iconst 1, 1) := by decide +kernel
theorem dX9_keep_33 : decode cX9_keep 33 = .ok (.isub, 1) := by decide +kernel
theorem dX9_keep_34 : decode cX9_keep 34 = .ok (.iaload, 1) := by decide +kernel
theorem dX9_keep_35 : decode cX9_keep 35 = .ok (.ifCond .ne 16, 3) := by decide +kernel
theorem dX9_keep_38 : decode cX9_keep 38 = .ok (.aload_n 0, 1) := by decide +kernel
theorem dX9_keep_39 : decode cX9_keep 39 = .ok (.dup, 1) := by decide +kernel
theorem dX9_keep_40 : decode cX9_keep 40 = .ok (.getfield 25, 3) := by decide +kernel
theorem dX9_keep_43 : decode cX9_keep 43 = .ok (.iconst 1, 1) := by decide +kernel
theorem dX9_keep_44 : decode cX9_keep 44 = .ok (.isub, 1) := by decide +kernel
theorem dX9_keep_45 : decode cX9_keep 45 = .ok (.putfield 25, 3) := by decide +kernel
theorem dX9_keep_48 : decode cX9_keep 48 = .ok (.goto (-31), 3) := by decide +kernel
theorem dX9_keep_51 : decode cX9_keep 51 = .ok (.aload_n 0, 1) := by decide +kernel
theorem dX9_keep_52 : decode cX9_keep 52 = .ok (.iconst 0, 1) := by decide +kernel
theorem dX9_keep_53 : decode cX9_keep 53 = .ok (.putfield 38, 3) := by decide +kernel
theorem dX9_keep_56 : decode cX9_keep 56 = .ok (.return_, 1) := by decide +kernel
theorem dX9_takeSign_0 : decode cX9_takeSign 0 = .ok (.aload_n 0, 1) := by decide +kernel
theorem dX9_takeSign_1 : decode cX9_takeSign 1 = .ok (.iload_n 1, 1) := by decide +kernel
theorem dX9_takeSign_2 : decode cX9_takeSign 2 = .ok (.ifCond .eq 14, 3) := by decide +kernel
theorem dX9_takeSign_5 : decode cX9_takeSign 5 = .ok (.aload_n 0, 1) := by decide +kernel
theorem dX9_takeSign_6 : decode cX9_takeSign 6 = .ok (.getfield 25, 3) := by decide +kernel
theorem dX9_takeSign_9 : decode cX9_takeSign 9 = .ok (.ifCond .le 7, 3) := by decide +kernel
theorem dX9_takeSign_12 : decode cX9_takeSign 12 = .ok (.iconst 1, 1) := by decide +kernel
theorem dX9_takeSign_13 : decode cX9_takeSign 13 = .ok (.goto 4, 3) := by decide +kernel
theorem dX9_takeSign_16 : decode cX9_takeSign 16 = .ok (.iconst 0, 1) := by decide +kernel
theorem dX9_takeSign_17 : decode cX9_takeSign 17 = .ok (.putfield 38, 3) := by decide +kernel
theorem dX9_takeSign_20 : decode cX9_takeSign 20 = .ok (.return_, 1) := by decide +kernel
theorem dX9_isAboveZero_0 : decode cX9_isAboveZero 0 = .ok (.aload_n 0, 1) := by decide +kernel
theorem dX9_isAboveZero_1 : decode cX9_isAboveZero 1 = .ok (.getfield 25, 3) := by decide +kernel
theorem dX9_isAboveZero_4 : decode cX9_isAboveZero 4 = .ok (.ifCond .le 14, 3) := by decide +kernel
theorem dX9_isAboveZero_7 : decode cX9_isAboveZero 7 = .ok (.aload_n 0, 1) := by decide +kernel
theorem dX9_isAboveZero_8 : decode cX9_isAboveZero 8 = .ok (.getfield 38, 3) := by decide +kernel
theorem dX9_isAboveZero_11 : decode cX9_isAboveZero 11 = .ok (.ifCond .ne 7, 3) := by decide +kernel
theorem dX9_isAboveZero_14 : decode cX9_isAboveZero 14 = .ok (.iconst 1, 1) := by decide +kernel
theorem dX9_isAboveZero_15 : decode cX9_isAboveZero 15 = .ok (.goto 4, 3) := by decide +kernel
theorem dX9_isAboveZero_18 : decode cX9_isAboveZero 18 = .ok (.iconst 0, 1) := by decide +kernel
theorem dX9_isAboveZero_19 : decode cX9_isAboveZero 19 = .ok (.ireturn, 1) := by decide +kernel
theorem dX9_isOdd_0 : decode cX9_isOdd 0 = .ok (.aload_n 0, 1) := by decide +kernel
theorem dX9_isOdd_1 : decode cX9_isOdd 1 = .ok (.iconst 0, 1) := by decide +kernel
theorem dX9_isOdd_2 : decode cX9_isOdd 2 = .ok (.invokevirtual 42, 3) := by decide +kernel
theorem dX9_isOdd_5 : decode cX9_isOdd 5 = .ok (.lconst 1, 1) := by decide +kernel
theorem dX9_isOdd_6 : decode cX9_isOdd 6 = .ok (.land, 1) := by decide +kernel
theorem dX9_isOdd_7 : decode cX9_isOdd 7 = .ok (.lconst 1, 1) := by decide +kernel
theorem dX9_isOdd_8 : decode cX9_isOdd 8 = .ok (.lcmp, 1) := by decide +kernel
theorem dX9_isOdd_9 : decode cX9_isOdd 9 = .ok (.ifCond .ne 7, 3) := by decide +kernel
theorem dX9_isOdd_12 : decode cX9_isOdd 12 = .ok (.iconst 1, 1) := by decide +kernel
theorem dX9_isOdd_13 : decode cX9_isOdd 13 = .ok (.goto 4, 3) := by decide +kernel
theorem dX9_isOdd_16 : decode cX9_isOdd 16 = .ok (.iconst 0, 1) := by decide +kernel
theorem dX9_isOdd_17 : decode cX9_isOdd 17 = .ok (.ireturn, 1) := by decide +kernel
theorem dX9_limb_0 : decode cX9_limb 0 = .ok (.iload_n 1, 1) := by decide +kernel
theorem dX9_limb_1 : decode cX9_limb 1 = .ok (.ifCond .lt 11, 3) := by decide +kernel
theorem dX9_limb_4 : decode cX9_limb 4 = .ok (.iload_n 1, 1) := by decide +kernel
theorem dX9_limb_5 : decode cX9_limb 5 = .ok (.aload_n 0, 1) := by decide +kernel
theorem dX9_limb_6 : decode cX9_limb 6 = .ok (.getfield 25, 3) := by decide +kernel
theorem dX9_limb_9 : decode cX9_limb 9 = .ok (.if_icmp .lt 7, 3) := by decide +kernel
theorem dX9_limb_12 : decode cX9_limb 12 = .ok (.lconst 0, 1) := by decide +kernel
theorem dX9_limb_13 : decode cX9_limb 13 = .ok (.goto 14, 3) := by decide +kernel
theorem dX9_limb_16 : decode cX9_limb 16 = .ok (.aload_n 0, 1) := by decide +kernel
theorem dX9_limb_17 : decode cX9_limb 17 = .ok (.getfield 15, 3) := by decide +kernel
theorem dX9_limb_20 : decode cX9_limb 20 = .ok (.iload_n 1, 1) := by decide +kernel
theorem dX9_limb_21 : decode cX9_limb 21 = .ok (.iaload, 1) := by decide +kernel
theorem dX9_limb_22 : decode cX9_limb 22 = .ok (.i2l, 1) := by decide +kernel
theorem dX9_limb_23 : decode cX9_limb 23 = .ok (.ldc2_w 46, 3) := by decide +kernel
theorem dX9_limb_26 : decode cX9_limb 26 = .ok (.land, 1) := by decide +kernel
theorem dX9_limb_27 : decode cX9_limb 27 = .ok (.lreturn, 1) := by decide +kernel
theorem dX9_bits_0 : decode cX9_bits 0 = .ok (.aload_n 0, 1) := by decide +kernel
theorem dX9_bits_1 : decode cX9_bits 1 = .ok (.getfield 25, 3) := by decide +kernel
theorem dX9_bits_4 : decode cX9_bits 4 = .ok (.ifCond .ne 5, 3) := by decide +kernel
theorem dX9_bits_7 : decode cX9_bits 7 = .ok (.iconst 0, 1) := by decide +kernel
theorem dX9_bits_8 : decode cX9_bits 8 = .ok (.ireturn, 1) := by decide +kernel
theorem dX9_bits_9 : decode cX9_bits 9 = .ok (.bipush 32, 2) := by decide +kernel
theorem dX9_bits_11 : decode cX9_bits 11 = .ok (.aload_n 0, 1) := by decide +kernel
theorem dX9_bits_12 : decode cX9_bits 12 = .ok (.getfield 25, 3) := by decide +kernel
theorem dX9_bits_15 : decode cX9_bits 15 = .ok (.imul, 1) := by decide +kernel
theorem dX9_bits_16 : decode cX9_bits 16 = .ok (.aload_n 0, 1) := by decide +kernel
theorem dX9_bits_17 : decode cX9_bits 17 = .ok (.getfield 15, 3) := by decide +kernel
theorem dX9_bits_20 : decode cX9_bits 20 = .ok (.aload_n 0, 1) := by decide +kernel
theorem dX9_bits_21 : decode cX9_bits 21 = .ok (.getfield 25, 3) := by decide +kernel
theorem dX9_bits_24 : decode cX9_bits 24 = .ok (.iconst 1, 1) := by decide +kernel
theorem dX9_bits_25 : decode cX9_bits 25 = .ok (.isub, 1) := by decide +kernel
theorem dX9_bits_26 : decode cX9_bits 26 = .ok (.iaload, 1) := by decide +kernel
theorem dX9_bits_27 : decode cX9_bits 27 = .ok (.invokestatic 48, 3) := by decide +kernel
theorem dX9_bits_30 : decode cX9_bits 30 = .ok (.isub, 1) := by decide +kernel
theorem dX9_bits_31 : decode cX9_bits 31 = .ok (.ireturn, 1) := by decide +kernel
theorem dX9_hasBit_0 : decode cX9_hasBit 0 = .ok (.aload_n 0, 1) := by decide +kernel
theorem dX9_hasBit_1 : decode cX9_hasBit 1 = .ok (.iload_n 1, 1) := by decide +kernel
theorem dX9_hasBit_2 : decode cX9_hasBit 2 = .ok (.iconst 5, 1) := by decide +kernel
theorem dX9_hasBit_3 : decode cX9_hasBit 3 = .ok (.ishr, 1) := by decide +kernel
theorem dX9_hasBit_4 : decode cX9_hasBit 4 = .ok (.invokevirtual 42, 3) := by decide +kernel
theorem dX9_hasBit_7 : decode cX9_hasBit 7 = .ok (.iload_n 1, 1) := by decide +kernel
theorem dX9_hasBit_8 : decode cX9_hasBit 8 = .ok (.bipush 31, 2) := by decide +kernel
theorem dX9_hasBit_10 : decode cX9_hasBit 10 = .ok (.iand, 1) := by decide +kernel
theorem dX9_hasBit_11 : decode cX9_hasBit 11 = .ok (.lushr, 1) := by decide +kernel
theorem dX9_hasBit_12 : decode cX9_hasBit 12 = .ok (.lconst 1, 1) := by decide +kernel
theorem dX9_hasBit_13 : decode cX9_hasBit 13 = .ok (.land, 1) := by decide +kernel
theorem dX9_hasBit_14 : decode cX9_hasBit 14 = .ok (.lconst 1, 1) := by decide +kernel
theorem dX9_hasBit_15 : decode cX9_hasBit 15 = .ok (.lcmp, 1) := by decide +kernel
theorem dX9_hasBit_16 : decode cX9_hasBit 16 = .ok (.ifCond .ne 7, 3) := by decide +kernel
theorem dX9_hasBit_19 : decode cX9_hasBit 19 = .ok (.iconst 1, 1) := by decide +kernel
theorem dX9_hasBit_20 : decode cX9_hasBit 20 = .ok (.goto 4, 3) := by decide +kernel
theorem dX9_hasBit_23 : decode cX9_hasBit 23 = .ok (.iconst 0, 1) := by decide +kernel
theorem dX9_hasBit_24 : decode cX9_hasBit 24 = .ok (.ireturn, 1) := by decide +kernel
theorem dX9_window_0 : decode cX9_window 0 = .ok (.aload_n 0, 1) := by decide +kernel
theorem dX9_window_1 : decode cX9_window 1 = .ok (.iload_n 1, 1) := by decide +kernel
theorem dX9_window_2 : decode cX9_window 2 = .ok (.iconst 5, 1) := by decide +kernel
theorem dX9_window_3 : decode cX9_window 3 = .ok (.ishr, 1) := by decide +kernel
theorem dX9_window_4 : decode cX9_window 4 = .ok (.iconst 1, 1) := by decide +kernel
theorem dX9_window_5 : decode cX9_window 5 = .ok (.iadd, 1) := by decide +kernel
theorem dX9_window_6 : decode cX9_window 6 = .ok (.invokevirtual 42, 3) := by decide +kernel
theorem dX9_window_9 : decode cX9_window 9 = .ok (.bipush 32, 2) := by decide +kernel
theorem dX9_window_11 : decode cX9_window 11 = .ok (.lshl, 1) := by decide +kernel
theorem dX9_window_12 : decode cX9_window 12 = .ok (.aload_n 0, 1) := by decide +kernel
theorem dX9_window_13 : decode cX9_window 13 = .ok (.iload_n 1, 1) := by decide +kernel
theorem dX9_window_14 : decode cX9_window 14 = .ok (.iconst 5, 1) := by decide +kernel
theorem dX9_window_15 : decode cX9_window 15 = .ok (.ishr, 1) := by decide +kernel
theorem dX9_window_16 : decode cX9_window 16 = .ok (.invokevirtual 42, 3) := by decide +kernel
theorem dX9_window_19 : decode cX9_window 19 = .ok (.lor, 1) := by decide +kernel
theorem dX9_window_20 : decode cX9_window 20 = .ok (.lstore_n 2, 1) := by decide +kernel
theorem dX9_window_21 : decode cX9_window 21 = .ok (.lload_n 2, 1) := by decide +kernel
theorem dX9_window_22 : decode cX9_window 22 = .ok (.iload_n 1, 1) := by decide +kernel
theorem dX9_window_23 : decode cX9_window 23 = .ok (.bipush 31, 2) := by decide +kernel
theorem dX9_window_25 : decode cX9_window 25 = .ok (.iand, 1) := by decide +kernel
theorem dX9_window_26 : decode cX9_window 26 = .ok (.lushr, 1) := by decide +kernel
theorem dX9_window_27 : decode cX9_window 27 = .ok (.ldc2_w 46, 3) := by decide +kernel
theorem dX9_window_30 : decode cX9_window 30 = .ok (.land, 1) := by decide +kernel
theorem dX9_window_31 : decode cX9_window 31 = .ok (.lreturn, 1) := by decide +kernel
theorem dX9_lowZeros_0 : decode cX9_lowZeros 0 = .ok (.iconst 0, 1) := by decide +kernel
theorem dX9_lowZeros_1 : decode cX9_lowZeros 1 = .ok (.istore_n 1, 1) := by decide +kernel
theorem dX9_lowZeros_2 : decode cX9_lowZeros 2 = .ok (.iload_n 1, 1) := by decide +kernel
theorem dX9_lowZeros_3 : decode cX9_lowZeros 3 = .ok (.aload_n 0, 1) := by decide +kernel
theorem dX9_lowZeros_4 : decode cX9_lowZeros 4 = .ok (.getfield 25, 3) := by decide +kernel
theorem dX9_lowZeros_7 : decode cX9_lowZeros 7 = .ok (.if_icmp .ge 33, 3) := by decide +kernel
theorem dX9_lowZeros_10 : decode cX9_lowZeros 10 = .ok (.aload_n 0, 1) := by decide +kernel
theorem dX9_lowZeros_11 : decode cX9_lowZeros 11 = .ok (.getfield 15, 3) := by decide +kernel
theorem dX9_lowZeros_14 : decode cX9_lowZeros 14 = .ok (.iload_n 1, 1) := by decide +kernel
theorem dX9_lowZeros_15 : decode cX9_lowZeros 15 = .ok (.iaload, 1) := by decide +kernel
theorem dX9_lowZeros_16 : decode cX9_lowZeros 16 = .ok (.ifCond .eq 18, 3) := by decide +kernel
theorem dX9_lowZeros_19 : decode cX9_lowZeros 19 = .ok (.bipush 32, 2) := by decide +kernel
theorem dX9_lowZeros_21 : decode cX9_lowZeros 21 = .ok (.iload_n 1, 1) := by decide +kernel
theorem dX9_lowZeros_22 : decode cX9_lowZeros 22 = .ok (.imul, 1) := by decide +kernel
theorem dX9_lowZeros_23 : decode cX9_lowZeros 23 = .ok (.aload_n 0, 1) := by decide +kernel
theorem dX9_lowZeros_24 : decode cX9_lowZeros 24 = .ok (.getfield 15, 3) := by decide +kernel
theorem dX9_lowZeros_27 : decode cX9_lowZeros 27 = .ok (.iload_n 1, 1) := by decide +kernel
theorem dX9_lowZeros_28 : decode cX9_lowZeros 28 = .ok (.iaload, 1) := by decide +kernel
theorem dX9_lowZeros_29 : decode cX9_lowZeros 29 = .ok (.invokestatic 54, 3) := by decide +kernel
theorem dX9_lowZeros_32 : decode cX9_lowZeros 32 = .ok (.iadd, 1) := by decide +kernel
theorem dX9_lowZeros_33 : decode cX9_lowZeros 33 = .ok (.ireturn, 1) := by decide +kernel
theorem dX9_lowZeros_34 : decode cX9_lowZeros 34 = .ok (.iinc 1 1, 3) := by decide +kernel
theorem dX9_lowZeros_37 : decode cX9_lowZeros 37 = .ok (.goto (-35), 3) := by decide +kernel
theorem dX9_lowZeros_40 : decode cX9_lowZeros 40 = .ok (.iconst 0, 1) := by decide +kernel
theorem dX9_lowZeros_41 : decode cX9_lowZeros 41 = .ok (.ireturn, 1) := by decide +kernel
theorem dX7_order_0 : decode cX7_order 0 = .ok (.aload_n 0, 1) := by decide +kernel
theorem dX7_order_1 : decode cX7_order 1 = .ok (.getfield 9, 3) := by decide +kernel
theorem dX7_order_4 : decode cX7_order 4 = .ok (.aload_n 1, 1) := by decide +kernel
theorem dX7_order_5 : decode cX7_order 5 = .ok (.getfield 9, 3) := by decide +kernel
theorem dX7_order_8 : decode cX7_order 8 = .ok (.if_icmp .eq 20, 3) := by decide +kernel
theorem dX7_order_11 : decode cX7_order 11 = .ok (.aload_n 0, 1) := by decide +kernel
theorem dX7_order_12 : decode cX7_order 12 = .ok (.getfield 9, 3) := by decide +kernel
theorem dX7_order_15 : decode cX7_order 15 = .ok (.aload_n 1, 1) := by decide +kernel
theorem dX7_order_16 : decode cX7_order 16 = .ok (.getfield 9, 3) := by decide +kernel
theorem dX7_order_19 : decode cX7_order 19 = .ok (.if_icmp .le 7, 3) := by decide +kernel
theorem dX7_order_22 : decode cX7_order 22 = .ok (.iconst 1, 1) := by decide +kernel
theorem dX7_order_23 : decode cX7_order 23 = .ok (.goto 4, 3) := by decide +kernel
theorem dX7_order_26 : decode cX7_order 26 = .ok (.iconst (-1), 1) := by decide +kernel
theorem dX7_order_27 : decode cX7_order 27 = .ok (.ireturn, 1) := by decide +kernel
theorem dX7_order_28 : decode cX7_order 28 = .ok (.aload_n 0, 1) := by decide +kernel
theorem dX7_order_29 : decode cX7_order 29 = .ok (.getfield 9, 3) := by decide +kernel
theorem dX7_order_32 : decode cX7_order 32 = .ok (.iconst 1, 1) := by decide +kernel
theorem dX7_order_33 : decode cX7_order 33 = .ok (.isub, 1) := by decide +kernel
theorem dX7_order_34 : decode cX7_order 34 = .ok (.istore_n 2, 1) := by decide +kernel
theorem dX7_order_35 : decode cX7_order 35 = .ok (.iload_n 2, 1) := by decide +kernel
theorem dX7_order_36 : decode cX7_order 36 = .ok (.ifCond .lt 44, 3) := by decide +kernel
theorem dX7_order_39 : decode cX7_order 39 = .ok (.aload_n 0, 1) := by decide +kernel
theorem dX7_order_40 : decode cX7_order 40 = .ok (.getfield 15, 3) := by decide +kernel
theorem dX7_order_43 : decode cX7_order 43 = .ok (.iload_n 2, 1) := by decide +kernel
theorem dX7_order_44 : decode cX7_order 44 = .ok (.iaload, 1) := by decide +kernel
theorem dX7_order_45 : decode cX7_order 45 = .ok (.aload_n 1, 1) := by decide +kernel
theorem dX7_order_46 : decode cX7_order 46 = .ok (.getfield 15, 3) := by decide +kernel
theorem dX7_order_49 : decode cX7_order 49 = .ok (.iload_n 2, 1) := by decide +kernel
theorem dX7_order_50 : decode cX7_order 50 = .ok (.iaload, 1) := by decide +kernel
theorem dX7_order_51 : decode cX7_order 51 = .ok (.if_icmp .eq 23, 3) := by decide +kernel
theorem dX7_order_54 : decode cX7_order 54 = .ok (.aload_n 0, 1) := by decide +kernel
theorem dX7_order_55 : decode cX7_order 55 = .ok (.iload_n 2, 1) := by decide +kernel
theorem dX7_order_56 : decode cX7_order 56 = .ok (.invokevirtual 19, 3) := by decide +kernel
theorem dX7_order_59 : decode cX7_order 59 = .ok (.aload_n 1, 1) := by decide +kernel
theorem dX7_order_60 : decode cX7_order 60 = .ok (.iload_n 2, 1) := by decide +kernel
theorem dX7_order_61 : decode cX7_order 61 = .ok (.invokevirtual 19, 3) := by decide +kernel
theorem dX7_order_64 : decode cX7_order 64 = .ok (.lcmp, 1) := by decide +kernel
theorem dX7_order_65 : decode cX7_order 65 = .ok (.ifCond .le 7, 3) := by decide +kernel
theorem dX7_order_68 : decode cX7_order 68 = .ok (.iconst 1, 1) := by decide +kernel
theorem dX7_order_69 : decode cX7_order 69 = .ok (.goto 4, 3) := by decide +kernel
theorem dX7_order_72 : decode cX7_order 72 = .ok (.iconst (-1), 1) := by decide +kernel
theorem dX7_order_73 : decode cX7_order 73 = .ok (.ireturn, 1) := by decide +kernel
theorem dX7_order_74 : decode cX7_order 74 = .ok (.iinc 2 (-1), 3) := by decide +kernel
theorem dX7_order_77 : decode cX7_order 77 = .ok (.goto (-42), 3) := by decide +kernel
theorem dX7_order_80 : decode cX7_order 80 = .ok (.iconst 0, 1) := by decide +kernel
theorem dX7_order_81 : decode cX7_order 81 = .ok (.ireturn, 1) := by decide +kernel
theorem dX7_sum_0 : decode cX7_sum 0 = .ok (.aload_n 1, 1) := by decide +kernel
theorem dX7_sum_1 : decode cX7_sum 1 = .ok (.getfield 9, 3) := by decide +kernel
theorem dX7_sum_4 : decode cX7_sum 4 = .ok (.aload_n 2, 1) := by decide +kernel
theorem dX7_sum_5 : decode cX7_sum 5 = .ok (.getfield 9, 3) := by decide +kernel
theorem dX7_sum_8 : decode cX7_sum 8 = .ok (.invokestatic 23, 3) := by decide +kernel
theorem dX7_sum_11 : decode cX7_sum 11 = .ok (.istore_n 3, 1) := by decide +kernel
theorem dX7_sum_12 : decode cX7_sum 12 = .ok (.iload_n 3, 1) := by decide +kernel
theorem dX7_sum_13 : decode cX7_sum 13 = .ok (.aload_n 0, 1) := by decide +kernel
theorem dX7_sum_14 : decode cX7_sum 14 = .ok (.getfield 15, 3) := by decide +kernel
theorem dX7_sum_17 : decode cX7_sum 17 = .ok (.arraylength, 1) := by decide +kernel
theorem dX7_sum_18 : decode cX7_sum 18 = .ok (.if_icmp .lt 9, 3) := by decide +kernel
theorem dX7_sum_21 : decode cX7_sum 21 = .ok (.aload_n 0, 1) := by decide +kernel
theorem dX7_sum_22 : decode cX7_sum 22 = .ok (.iconst 0, 1) := by decide +kernel
theorem dX7_sum_23 : decode cX7_sum 23 = .ok (.invokevirtual 29, 3) := by decide +kernel
theorem dX7_sum_26 : decode cX7_sum 26 = .ok (.return_, 1) := by decide +kernel
theorem dX7_sum_27 : decode cX7_sum 27 = .ok (.lconst 0, 1) := by decide +kernel
theorem dX7_sum_28 : decode cX7_sum 28 = .ok (.lstore 4, 2) := by decide +kernel
theorem dX7_sum_30 : decode cX7_sum 30 = .ok (.iconst 0, 1) := by decide +kernel
theorem dX7_sum_31 : decode cX7_sum 31 = .ok (.istore 6, 2) := by decide +kernel
theorem dX7_sum_33 : decode cX7_sum 33 = .ok (.iload 6, 2) := by decide +kernel
theorem dX7_sum_35 : decode cX7_sum 35 = .ok (.iload_n 3, 1) := by decide +kernel
theorem dX7_sum_36 : decode cX7_sum 36 = .ok (.if_icmp .ge 44, 3) := by decide +kernel
theorem dX7_sum_39 : decode cX7_sum 39 = .ok (.lload 4, 2) := by decide +kernel
theorem dX7_sum_41 : decode cX7_sum 41 = .ok (.aload_n 1, 1) := by decide +kernel
theorem dX7_sum_42 : decode cX7_sum 42 = .ok (.iload 6, 2) := by decide +kernel
theorem dX7_sum_44 : decode cX7_sum 44 = .ok (.invokevirtual 19, 3) := by decide +kernel
theorem dX7_sum_47 : decode cX7_sum 47 = .ok (.aload_n 2, 1) := by decide +kernel
theorem dX7_sum_48 : decode cX7_sum 48 = .ok (.iload 6, 2) := by decide +kernel
theorem dX7_sum_50 : decode cX7_sum 50 = .ok (.invokevirtual 19, 3) := by decide +kernel
theorem dX7_sum_53 : decode cX7_sum 53 = .ok (.ladd, 1) := by decide +kernel
theorem dX7_sum_54 : decode cX7_sum 54 = .ok (.ladd, 1) := by decide +kernel
theorem dX7_sum_55 : decode cX7_sum 55 = .ok (.lstore 4, 2) := by decide +kernel
theorem dX7_sum_57 : decode cX7_sum 57 = .ok (.aload_n 0, 1) := by decide +kernel
theorem dX7_sum_58 : decode cX7_sum 58 = .ok (.getfield 15, 3) := by decide +kernel
theorem dX7_sum_61 : decode cX7_sum 61 = .ok (.iload 6, 2) := by decide +kernel
theorem dX7_sum_63 : decode cX7_sum 63 = .ok (.lload 4, 2) := by decide +kernel
theorem dX7_sum_65 : decode cX7_sum 65 = .ok (.l2i, 1) := by decide +kernel
theorem dX7_sum_66 : decode cX7_sum 66 = .ok (.iastore, 1) := by decide +kernel
theorem dX7_sum_67 : decode cX7_sum 67 = .ok (.lload 4, 2) := by decide +kernel
theorem dX7_sum_69 : decode cX7_sum 69 = .ok (.bipush 32, 2) := by decide +kernel
theorem dX7_sum_71 : decode cX7_sum 71 = .ok (.lushr, 1) := by decide +kernel
theorem dX7_sum_72 : decode cX7_sum 72 = .ok (.lstore 4, 2) := by decide +kernel
theorem dX7_sum_74 : decode cX7_sum 74 = .ok (.iinc 6 1, 3) := by decide +kernel
theorem dX7_sum_77 : decode cX7_sum 77 = .ok (.goto (-44), 3) := by decide +kernel
theorem dX7_sum_80 : decode cX7_sum 80 = .ok (.aload_n 0, 1) := by decide +kernel
theorem dX7_sum_81 : decode cX7_sum 81 = .ok (.getfield 15, 3) := by decide +kernel
theorem dX7_sum_84 : decode cX7_sum 84 = .ok (.iload_n 3, 1) := by decide +kernel
theorem dX7_sum_85 : decode cX7_sum 85 = .ok (.lload 4, 2) := by decide +kernel
theorem dX7_sum_87 : decode cX7_sum 87 = .ok (.l2i, 1) := by decide +kernel
theorem dX7_sum_88 : decode cX7_sum 88 = .ok (.iastore, 1) := by decide +kernel
theorem dX7_sum_89 : decode cX7_sum 89 = .ok (.aload_n 0, 1) := by decide +kernel
theorem dX7_sum_90 : decode cX7_sum 90 = .ok (.iload_n 3, 1) := by decide +kernel
theorem dX7_sum_91 : decode cX7_sum 91 = .ok (.iconst 1, 1) := by decide +kernel
theorem dX7_sum_92 : decode cX7_sum 92 = .ok (.iadd, 1) := by decide +kernel
theorem dX7_sum_93 : decode cX7_sum 93 = .ok (.invokevirtual 29, 3) := by decide +kernel
theorem dX7_sum_96 : decode cX7_sum 96 = .ok (.return_, 1) := by decide +kernel
theorem dX7_difference_0 : decode cX7_difference 0 = .ok (.aload_n 1, 1) := by decide +kernel
theorem dX7_difference_1 : decode cX7_difference 1 = .ok (.getfield 9, 3) := by decide +kernel
theorem dX7_difference_4 : decode cX7_difference 4 = .ok (.istore_n 3, 1) := by decide +kernel
theorem dX7_difference_5 : decode cX7_difference 5 = .ok (.iload_n 3, 1) := by decide +kernel
theorem dX7_difference_6 : decode cX7_difference 6 = .ok (.aload_n 0, 1) := by decide +kernel
theorem dX7_difference_7 : decode cX7_difference 7 = .ok (.getfield 15, 3) := by decide +kernel
theorem dX7_difference_10 : decode cX7_difference 10 = .ok (.arraylength, 1) := by decide +kernel
theorem dX7_difference_11 : decode cX7_difference 11 = .ok (.if_icmp .le 9, 3) := by decide +kernel
theorem dX7_difference_14 : decode cX7_difference 14 = .ok (.aload_n 0, 1) := by decide +kernel
theorem dX7_difference_15 : decode cX7_difference 15 = .ok (.iconst 0, 1) := by decide +kernel
theorem dX7_difference_16 : decode cX7_difference 16 = .ok (.invokevirtual 29, 3) := by decide +kernel
theorem dX7_difference_19 : decode cX7_difference 19 = .ok (.return_, 1) := by decide +kernel
theorem dX7_difference_20 : decode cX7_difference 20 = .ok (.lconst 0, 1) := by decide +kernel
theorem dX7_difference_21 : decode cX7_difference 21 = .ok (.lstore 4, 2) := by decide +kernel
theorem dX7_difference_23 : decode cX7_difference 23 = .ok (.iconst 0, 1) := by decide +kernel
theorem dX7_difference_24 : decode cX7_difference 24 = .ok (.istore 6, 2) := by decide +kernel
theorem dX7_difference_26 : decode cX7_difference 26 = .ok (.iload 6, 2) := by decide +kernel
theorem dX7_difference_28 : decode cX7_difference 28 = .ok (.iload_n 3, 1) := by decide +kernel
theorem dX7_difference_29 : decode cX7_difference 29 = .ok (.if_icmp .ge 44, 3) := by decide +kernel
theorem dX7_difference_32 : decode cX7_difference 32 = .ok (.lload 4, 2) := by decide +kernel
theorem dX7_difference_34 : decode cX7_difference 34 = .ok (.aload_n 1, 1) := by decide +kernel
theorem dX7_difference_35 : decode cX7_difference 35 = .ok (.iload 6, 2) := by decide +kernel
theorem dX7_difference_37 : decode cX7_difference 37 = .ok (.invokevirtual 19, 3) := by decide +kernel
theorem dX7_difference_40 : decode cX7_difference 40 = .ok (.aload_n 2, 1) := by decide +kernel
theorem dX7_difference_41 : decode cX7_difference 41 = .ok (.iload 6, 2) := by decide +kernel
theorem dX7_difference_43 : decode cX7_difference 43 = .ok (.invokevirtual 19, 3) := by decide +kernel
theorem dX7_difference_46 : decode cX7_difference 46 = .ok (.lsub, 1) := by decide +kernel
theorem dX7_difference_47 : decode cX7_difference 47 = .ok (.ladd, 1) := by decide +kernel
theorem dX7_difference_48 : decode cX7_difference 48 = .ok (.lstore 4, 2) := by decide +kernel
theorem dX7_difference_50 : decode cX7_difference 50 = .ok (.aload_n 0, 1) := by decide +kernel
theorem dX7_difference_51 : decode cX7_difference 51 = .ok (.getfield 15, 3) := by decide +kernel
theorem dX7_difference_54 : decode cX7_difference 54 = .ok (.iload 6, 2) := by decide +kernel
theorem dX7_difference_56 : decode cX7_difference 56 = .ok (.lload 4, 2) := by decide +kernel
theorem dX7_difference_58 : decode cX7_difference 58 = .ok (.l2i, 1) := by decide +kernel
theorem dX7_difference_59 : decode cX7_difference 59 = .ok (.iastore, 1) := by decide +kernel
theorem dX7_difference_60 : decode cX7_difference 60 = .ok (.lload 4, 2) := by decide +kernel
theorem dX7_difference_62 : decode cX7_difference 62 = .ok (.bipush 32, 2) := by decide +kernel
theorem dX7_difference_64 : decode cX7_difference 64 = .ok (.lshr, 1) := by decide +kernel
theorem dX7_difference_65 : decode cX7_difference 65 = .ok (.lstore 4, 2) := by decide +kernel
theorem dX7_difference_67 : decode cX7_difference 67 = .ok (.iinc 6 1, 3) := by decide +kernel
theorem dX7_difference_70 : decode cX7_difference 70 = .ok (.goto (-44), 3) := by decide +kernel
theorem dX7_difference_73 : decode cX7_difference 73 = .ok (.aload_n 0, 1) := by decide +kernel
theorem dX7_difference_74 : decode cX7_difference 74 = .ok (.iload_n 3, 1) := by decide +kernel
theorem dX7_difference_75 : decode cX7_difference 75 = .ok (.invokevirtual 29, 3) := by decide +kernel
theorem dX7_difference_78 : decode cX7_difference 78 = .ok (.return_, 1) := by decide +kernel
theorem dX7_signedSum_0 : decode cX7_signedSum 0 = .ok (.aload_n 1, 1) := by decide +kernel
theorem dX7_signedSum_1 : decode cX7_signedSum 1 = .ok (.getfield 33, 3) := by decide +kernel
theorem dX7_signedSum_4 : decode cX7_signedSum 4 = .ok (.istore 4, 2) := by decide +kernel
theorem dX7_signedSum_6 : decode cX7_signedSum 6 = .ok (.iload 4, 2) := by decide +kernel
theorem dX7_signedSum_8 : decode cX7_signedSum 8 = .ok (.iload_n 3, 1) := by decide +kernel
theorem dX7_signedSum_9 : decode cX7_signedSum 9 = .ok (.if_icmp .ne 18, 3) := by decide +kernel
theorem dX7_signedSum_12 : decode cX7_signedSum 12 = .ok (.aload_n 0, 1) := by decide +kernel
theorem dX7_signedSum_13 : decode cX7_signedSum 13 = .ok (.aload_n 1, 1) := by decide +kernel
theorem dX7_signedSum_14 : decode cX7_signedSum 14 = .ok (.aload_n 2, 1) := by decide +kernel
theorem dX7_signedSum_15 : decode cX7_signedSum 15 = .ok (.invokestatic 37, 3) := by decide +kernel
theorem dX7_signedSum_18 : decode cX7_signedSum 18 = .ok (.aload_n 0, 1) := by decide +kernel
theorem dX7_signedSum_19 : decode cX7_signedSum 19 = .ok (.iload 4, 2) := by decide +kernel
theorem dX7_signedSum_21 : decode cX7_signedSum 21 = .ok (.invokevirtual 43, 3) := by decide +kernel
theorem dX7_signedSum_24 : decode cX7_signedSum 24 = .ok (.goto 37, 3) := by decide +kernel
theorem dX7_signedSum_27 : decode cX7_signedSum 27 = .ok (.aload_n 1, 1) := by decide +kernel
theorem dX7_signedSum_28 : decode cX7_signedSum 28 = .ok (.aload_n 2, 1) := by decide +kernel
theorem dX7_signedSum_29 : decode cX7_signedSum 29 = .ok (.invokestatic 47, 3) := by decide +kernel
theorem dX7_signedSum_32 : decode cX7_signedSum 32 = .ok (.ifCond .lt 18, 3) := by decide +kernel
theorem dX7_signedSum_35 : decode cX7_signedSum 35 = .ok (.aload_n 0, 1) := by decide +kernel
theorem dX7_signedSum_36 : decode cX7_signedSum 36 = .ok (.aload_n 1, 1) := by decide +kernel
theorem dX7_signedSum_37 : decode cX7_signedSum 37 = .ok (.aload_n 2, 1) := by decide +kernel
theorem dX7_signedSum_38 : decode cX7_signedSum 38 = .ok (.invokestatic 51, 3) := by decide +kernel
theorem dX7_signedSum_41 : decode cX7_signedSum 41 = .ok (.aload_n 0, 1) := by decide +kernel
theorem dX7_signedSum_42 : decode cX7_signedSum 42 = .ok (.iload 4, 2) := by decide +kernel
theorem dX7_signedSum_44 : decode cX7_signedSum 44 = .ok (.invokevirtual 43, 3) := by decide +kernel
theorem dX7_signedSum_47 : decode cX7_signedSum 47 = .ok (.goto 14, 3) := by decide +kernel
theorem dX7_signedSum_50 : decode cX7_signedSum 50 = .ok (.aload_n 0, 1) := by decide +kernel
theorem dX7_signedSum_51 : decode cX7_signedSum 51 = .ok (.aload_n 2, 1) := by decide +kernel
theorem dX7_signedSum_52 : decode cX7_signedSum 52 = .ok (.aload_n 1, 1) := by decide +kernel
theorem dX7_signedSum_53 : decode cX7_signedSum 53 = .ok (.invokestatic 51, 3) := by decide +kernel
theorem dX7_signedSum_56 : decode cX7_signedSum 56 = .ok (.aload_n 0, 1) := by decide +kernel
theorem dX7_signedSum_57 : decode cX7_signedSum 57 = .ok (.iload_n 3, 1) := by decide +kernel
theorem dX7_signedSum_58 : decode cX7_signedSum 58 = .ok (.invokevirtual 43, 3) := by decide +kernel
theorem dX7_signedSum_61 : decode cX7_signedSum 61 = .ok (.return_, 1) := by decide +kernel
theorem dX7_product_0 : decode cX7_product 0 = .ok (.aload_n 0, 1) := by decide +kernel
theorem dX7_product_1 : decode cX7_product 1 = .ok (.getfield 15, 3) := by decide +kernel
theorem dX7_product_4 : decode cX7_product 4 = .ok (.astore_n 3, 1) := by decide +kernel
theorem dX7_product_5 : decode cX7_product 5 = .ok (.aload_n 2, 1) := by decide +kernel
theorem dX7_product_6 : decode cX7_product 6 = .ok (.getfield 9, 3) := by decide +kernel
theorem dX7_product_9 : decode cX7_product 9 = .ok (.istore 4, 2) := by decide +kernel
theorem dX7_product_11 : decode cX7_product 11 = .ok (.aload_n 1, 1) := by decide +kernel
theorem dX7_product_12 : decode cX7_product 12 = .ok (.getfield 9, 3) := by decide +kernel
theorem dX7_product_15 : decode cX7_product 15 = .ok (.iload 4, 2) := by decide +kernel
theorem dX7_product_17 : decode cX7_product 17 = .ok (.iadd, 1) := by decide +kernel
theorem dX7_product_18 : decode cX7_product 18 = .ok (.aload_n 3, 1) := by decide +kernel
theorem dX7_product_19 : decode cX7_product 19 = .ok (.arraylength, 1) := by decide +kernel
theorem dX7_product_20 : decode cX7_product 20 = .ok (.if_icmp .le 9, 3) := by decide +kernel
theorem dX7_product_23 : decode cX7_product 23 = .ok (.aload_n 0, 1) := by decide +kernel
theorem dX7_product_24 : decode cX7_product 24 = .ok (.iconst 0, 1) := by decide +kernel
theorem dX7_product_25 : decode cX7_product 25 = .ok (.invokevirtual 29, 3) := by decide +kernel
theorem dX7_product_28 : decode cX7_product 28 = .ok (.return_, 1) := by decide +kernel
theorem dX7_product_29 : decode cX7_product 29 = .ok (.iconst 0, 1) := by decide +kernel
theorem dX7_product_30 : decode cX7_product 30 = .ok (.istore 5, 2) := by decide +kernel
theorem dX7_product_32 : decode cX7_product 32 = .ok (.iload 5, 2) := by decide +kernel
theorem dX7_product_34 : decode cX7_product 34 = .ok (.iload 4, 2) := by decide +kernel
theorem dX7_product_36 : decode cX7_product 36 = .ok (.if_icmp .ge 14, 3) := by decide +kernel
theorem dX7_product_39 : decode cX7_product 39 = .ok (.aload_n 3, 1) := by decide +kernel
theorem dX7_product_40 : decode cX7_product 40 = .ok (.iload 5, 2) := by decide +kernel
theorem dX7_product_42 : decode cX7_product 42 = .ok (.iconst 0, 1) := by decide +kernel
theorem dX7_product_43 : decode cX7_product 43 = .ok (.iastore, 1) := by decide +kernel
theorem dX7_product_44 : decode cX7_product 44 = .ok (.iinc 5 1, 3) := by decide +kernel
theorem dX7_product_47 : decode cX7_product 47 = .ok (.goto (-15), 3) := by decide +kernel
theorem dX7_product_50 : decode cX7_product 50 = .ok (.iconst 0, 1) := by decide +kernel
theorem dX7_product_51 : decode cX7_product 51 = .ok (.istore 5, 2) := by decide +kernel
theorem dX7_product_53 : decode cX7_product 53 = .ok (.iload 5, 2) := by decide +kernel
theorem dX7_product_55 : decode cX7_product 55 = .ok (.aload_n 1, 1) := by decide +kernel
theorem dX7_product_56 : decode cX7_product 56 = .ok (.getfield 9, 3) := by decide +kernel
theorem dX7_product_59 : decode cX7_product 59 = .ok (.if_icmp .ge 102, 3) := by decide +kernel
theorem dX7_product_62 : decode cX7_product 62 = .ok (.aload_n 1, 1) := by decide +kernel
theorem dX7_product_63 : decode cX7_product 63 = .ok (.getfield 15, 3) := by decide +kernel
theorem dX7_product_66 : decode cX7_product 66 = .ok (.iload 5, 2) := by decide +kernel
theorem dX7_product_68 : decode cX7_product 68 = .ok (.iaload, 1) := by decide +kernel
theorem dX7_product_69 : decode cX7_product 69 = .ok (.i2l, 1) := by decide +kernel
theorem dX7_product_70 : decode cX7_product 70 = .ok (.ldc2_w 54, 3) := by decide +kernel
theorem dX7_product_73 : decode cX7_product 73 = .ok (.land, 1) := by decide +kernel
theorem dX7_product_74 : decode cX7_product 74 = .ok (.lstore 6, 2) := by decide +kernel
theorem dX7_product_76 : decode cX7_product 76 = .ok (.lconst 0, 1) := by decide +kernel
theorem dX7_product_77 : decode cX7_product 77 = .ok (.lstore 8, 2) := by decide +kernel
theorem dX7_product_79 : decode cX7_product 79 = .ok (.iconst 0, 1) := by decide +kernel
theorem dX7_product_80 : decode cX7_product 80 = .ok (.istore 10, 2) := by decide +kernel
theorem dX7_product_82 : decode cX7_product 82 = .ok (.iload 10, 2) := by decide +kernel
theorem dX7_product_84 : decode cX7_product 84 = .ok (.iload 4, 2) := by decide +kernel
theorem dX7_product_86 : decode cX7_product 86 = .ok (.if_icmp .ge 59, 3) := by decide +kernel
theorem dX7_product_89 : decode cX7_product 89 = .ok (.lload 8, 2) := by decide +kernel
theorem dX7_product_91 : decode cX7_product 91 = .ok (.lload 6, 2) := by decide +kernel
theorem dX7_product_93 : decode cX7_product 93 = .ok (.aload_n 2, 1) := by decide +kernel
theorem dX7_product_94 : decode cX7_product 94 = .ok (.getfield 15, 3) := by decide +kernel
theorem dX7_product_97 : decode cX7_product 97 = .ok (.iload 10, 2) := by decide +kernel
theorem dX7_product_99 : decode cX7_product 99 = .ok (.iaload, 1) := by decide +kernel
theorem dX7_product_100 : decode cX7_product 100 = .ok (.i2l, 1) := by decide +kernel
theorem dX7_product_101 : decode cX7_product 101 = .ok (.ldc2_w 54, 3) := by decide +kernel
theorem dX7_product_104 : decode cX7_product 104 = .ok (.land, 1) := by decide +kernel
theorem dX7_product_105 : decode cX7_product 105 = .ok (.lmul, 1) := by decide +kernel
theorem dX7_product_106 : decode cX7_product 106 = .ok (.aload_n 3, 1) := by decide +kernel
theorem dX7_product_107 : decode cX7_product 107 = .ok (.iload 5, 2) := by decide +kernel
theorem dX7_product_109 : decode cX7_product 109 = .ok (.iload 10, 2) := by decide +kernel
theorem dX7_product_111 : decode cX7_product 111 = .ok (.iadd, 1) := by decide +kernel
theorem dX7_product_112 : decode cX7_product 112 = .ok (.iaload, 1) := by decide +kernel
theorem dX7_product_113 : decode cX7_product 113 = .ok (.i2l, 1) := by decide +kernel
theorem dX7_product_114 : decode cX7_product 114 = .ok (.ldc2_w 54, 3) := by decide +kernel
theorem dX7_product_117 : decode cX7_product 117 = .ok (.land, 1) := by decide +kernel
theorem dX7_product_118 : decode cX7_product 118 = .ok (.ladd, 1) := by decide +kernel
theorem dX7_product_119 : decode cX7_product 119 = .ok (.ladd, 1) := by decide +kernel
theorem dX7_product_120 : decode cX7_product 120 = .ok (.lstore 8, 2) := by decide +kernel
theorem dX7_product_122 : decode cX7_product 122 = .ok (.aload_n 3, 1) := by decide +kernel
theorem dX7_product_123 : decode cX7_product 123 = .ok (.iload 5, 2) := by decide +kernel
theorem dX7_product_125 : decode cX7_product 125 = .ok (.iload 10, 2) := by decide +kernel
theorem dX7_product_127 : decode cX7_product 127 = .ok (.iadd, 1) := by decide +kernel
theorem dX7_product_128 : decode cX7_product 128 = .ok (.lload 8, 2) := by decide +kernel
theorem dX7_product_130 : decode cX7_product 130 = .ok (.l2i, 1) := by decide +kernel
theorem dX7_product_131 : decode cX7_product 131 = .ok (.iastore, 1) := by decide +kernel
theorem dX7_product_132 : decode cX7_product 132 = .ok (.lload 8, 2) := by decide +kernel
theorem dX7_product_134 : decode cX7_product 134 = .ok (.bipush 32, 2) := by decide +kernel
theorem dX7_product_136 : decode cX7_product 136 = .ok (.lushr, 1) := by decide +kernel
theorem dX7_product_137 : decode cX7_product 137 = .ok (.lstore 8, 2) := by decide +kernel
theorem dX7_product_139 : decode cX7_product 139 = .ok (.iinc 10 1, 3) := by decide +kernel
theorem dX7_product_142 : decode cX7_product 142 = .ok (.goto (-60), 3) := by decide +kernel
theorem dX7_product_145 : decode cX7_product 145 = .ok (.aload_n 3, 1) := by decide +kernel
theorem dX7_product_146 : decode cX7_product 146 = .ok (.iload 5, 2) := by decide +kernel
theorem dX7_product_148 : decode cX7_product 148 = .ok (.iload 4, 2) := by decide +kernel
theorem dX7_product_150 : decode cX7_product 150 = .ok (.iadd, 1) := by decide +kernel
theorem dX7_product_151 : decode cX7_product 151 = .ok (.lload 8, 2) := by decide +kernel
theorem dX7_product_153 : decode cX7_product 153 = .ok (.l2i, 1) := by decide +kernel
theorem dX7_product_154 : decode cX7_product 154 = .ok (.iastore, 1) := by decide +kernel
theorem dX7_product_155 : decode cX7_product 155 = .ok (.iinc 5 1, 3) := by decide +kernel
theorem dX7_product_158 : decode cX7_product 158 = .ok (.goto (-105), 3) := by decide +kernel
theorem dX7_product_161 : decode cX7_product 161 = .ok (.aload_n 0, 1) := by decide +kernel
theorem dX7_product_162 : decode cX7_product 162 = .ok (.aload_n 1, 1) := by decide +kernel
theorem dX7_product_163 : decode cX7_product 163 = .ok (.getfield 9, 3) := by decide +kernel
theorem dX7_product_166 : decode cX7_product 166 = .ok (.iload 4, 2) := by decide +kernel
theorem dX7_product_168 : decode cX7_product 168 = .ok (.iadd, 1) := by decide +kernel
theorem dX7_product_169 : decode cX7_product 169 = .ok (.invokevirtual 29, 3) := by decide +kernel
theorem dX7_product_172 : decode cX7_product 172 = .ok (.return_, 1) := by decide +kernel
theorem dX7_shiftUp_0 : decode cX7_shiftUp 0 = .ok (.iload_n 2, 1) := by decide +kernel
theorem dX7_shiftUp_1 : decode cX7_shiftUp 1 = .ok (.iconst 5, 1) := by decide +kernel
theorem dX7_shiftUp_2 : decode cX7_shiftUp 2 = .ok (.ishr, 1) := by decide +kernel
theorem dX7_shiftUp_3 : decode cX7_shiftUp 3 = .ok (.istore_n 3, 1) := by decide +kernel
theorem dX7_shiftUp_4 : decode cX7_shiftUp 4 = .ok (.iload_n 2, 1) := by decide +kernel
theorem dX7_shiftUp_5 : decode cX7_shiftUp 5 = .ok (.bipush 31, 2) := by decide +kernel
theorem dX7_shiftUp_7 : decode cX7_shiftUp 7 = .ok (.iand, 1) := by decide +kernel
theorem dX7_shiftUp_8 : decode cX7_shiftUp 8 = .ok (.istore 4, 2) := by decide +kernel
theorem dX7_shiftUp_10 : decode cX7_shiftUp 10 = .ok (.aload_n 1, 1) := by decide +kernel
theorem dX7_shiftUp_11 : decode cX7_shiftUp 11 = .ok (.getfield 9, 3) := by decide +kernel
theorem dX7_shiftUp_14 : decode cX7_shiftUp 14 = .ok (.istore 5, 2) := by decide +kernel
theorem dX7_shiftUp_16 : decode cX7_shiftUp 16 = .ok (.iload_n 2, 1) := by decide +kernel
theorem dX7_shiftUp_17 : decode cX7_shiftUp 17 = .ok (.ifCond .lt 15, 3) := by decide +kernel
theorem dX7_shiftUp_20 : decode cX7_shiftUp 20 = .ok (.iload 5, 2) := by decide +kernel
theorem dX7_shiftUp_22 : decode cX7_shiftUp 22 = .ok (.iload_n 3, 1) := by decide +kernel
theorem dX7_shiftUp_23 : decode cX7_shiftUp 23 = .ok (.iadd, 1) := by decide +kernel
theorem dX7_shiftUp_24 : decode cX7_shiftUp 24 = .ok (.aload_n 0, 1) := by decide +kernel
theorem dX7_shiftUp_25 : decode cX7_shiftUp 25 = .ok (.getfield 15, 3) := by decide +kernel
theorem dX7_shiftUp_28 : decode cX7_shiftUp 28 = .ok (.arraylength, 1) := by decide +kernel
theorem dX7_shiftUp_29 : decode cX7_shiftUp 29 = .ok (.if_icmp .lt 9, 3) := by decide +kernel
theorem dX7_shiftUp_32 : decode cX7_shiftUp 32 = .ok (.aload_n 0, 1) := by decide +kernel
theorem dX7_shiftUp_33 : decode cX7_shiftUp 33 = .ok (.iconst 0, 1) := by decide +kernel
theorem dX7_shiftUp_34 : decode cX7_shiftUp 34 = .ok (.invokevirtual 29, 3) := by decide +kernel
theorem dX7_shiftUp_37 : decode cX7_shiftUp 37 = .ok (.return_, 1) := by decide +kernel
theorem dX7_shiftUp_38 : decode cX7_shiftUp 38 = .ok (.iload 5, 2) := by decide +kernel
theorem dX7_shiftUp_40 : decode cX7_shiftUp 40 = .ok (.istore 6, 2) := by decide +kernel
theorem dX7_shiftUp_42 : decode cX7_shiftUp 42 = .ok (.iload 6, 2) := by decide +kernel
theorem dX7_shiftUp_44 : decode cX7_shiftUp 44 = .ok (.ifCond .lt 47, 3) := by decide +kernel
theorem dX7_shiftUp_47 : decode cX7_shiftUp 47 = .ok (.aload_n 1, 1) := by decide +kernel
theorem dX7_shiftUp_48 : decode cX7_shiftUp 48 = .ok (.iload 6, 2) := by decide +kernel
theorem dX7_shiftUp_50 : decode cX7_shiftUp 50 = .ok (.invokevirtual 19, 3) := by decide +kernel
theorem dX7_shiftUp_53 : decode cX7_shiftUp 53 = .ok (.bipush 32, 2) := by decide +kernel
theorem dX7_shiftUp_55 : decode cX7_shiftUp 55 = .ok (.lshl, 1) := by decide +kernel
theorem dX7_shiftUp_56 : decode cX7_shiftUp 56 = .ok (.aload_n 1, 1) := by decide +kernel
theorem dX7_shiftUp_57 : decode cX7_shiftUp 57 = .ok (.iload 6, 2) := by decide +kernel
theorem dX7_shiftUp_59 : decode cX7_shiftUp 59 = .ok (.iconst 1, 1) := by decide +kernel
theorem dX7_shiftUp_60 : decode cX7_shiftUp 60 = .ok (.isub, 1) := by decide +kernel
theorem dX7_shiftUp_61 : decode cX7_shiftUp 61 = .ok (.invokevirtual 19, 3) := by decide +kernel
theorem dX7_shiftUp_64 : decode cX7_shiftUp 64 = .ok (.lor, 1) := by decide +kernel
theorem dX7_shiftUp_65 : decode cX7_shiftUp 65 = .ok (.lstore 7, 2) := by decide +kernel
theorem dX7_shiftUp_67 : decode cX7_shiftUp 67 = .ok (.aload_n 0, 1) := by decide +kernel
theorem dX7_shiftUp_68 : decode cX7_shiftUp 68 = .ok (.getfield 15, 3) := by decide +kernel
theorem dX7_shiftUp_71 : decode cX7_shiftUp 71 = .ok (.iload 6, 2) := by decide +kernel
theorem dX7_shiftUp_73 : decode cX7_shiftUp 73 = .ok (.iload_n 3, 1) := by decide +kernel
theorem dX7_shiftUp_74 : decode cX7_shiftUp 74 = .ok (.iadd, 1) := by decide +kernel
theorem dX7_shiftUp_75 : decode cX7_shiftUp 75 = .ok (.lload 7, 2) := by decide +kernel
theorem dX7_shiftUp_77 : decode cX7_shiftUp 77 = .ok (.iload 4, 2) := by decide +kernel
theorem dX7_shiftUp_79 : decode cX7_shiftUp 79 = .ok (.lshl, 1) := by decide +kernel
theorem dX7_shiftUp_80 : decode cX7_shiftUp 80 = .ok (.bipush 32, 2) := by decide +kernel
theorem dX7_shiftUp_82 : decode cX7_shiftUp 82 = .ok (.lushr, 1) := by decide +kernel
theorem dX7_shiftUp_83 : decode cX7_shiftUp 83 = .ok (.l2i, 1) := by decide +kernel
theorem dX7_shiftUp_84 : decode cX7_shiftUp 84 = .ok (.iastore, 1) := by decide +kernel
theorem dX7_shiftUp_85 : decode cX7_shiftUp 85 = .ok (.iinc 6 (-1), 3) := by decide +kernel
theorem dX7_shiftUp_88 : decode cX7_shiftUp 88 = .ok (.goto (-46), 3) := by decide +kernel
theorem dX7_shiftUp_91 : decode cX7_shiftUp 91 = .ok (.iconst 0, 1) := by decide +kernel
theorem dX7_shiftUp_92 : decode cX7_shiftUp 92 = .ok (.istore 6, 2) := by decide +kernel
theorem dX7_shiftUp_94 : decode cX7_shiftUp 94 = .ok (.iload 6, 2) := by decide +kernel
theorem dX7_shiftUp_96 : decode cX7_shiftUp 96 = .ok (.iload_n 3, 1) := by decide +kernel
theorem dX7_shiftUp_97 : decode cX7_shiftUp 97 = .ok (.if_icmp .ge 17, 3) := by decide +kernel
theorem dX7_shiftUp_100 : decode cX7_shiftUp 100 = .ok (.aload_n 0, 1) := by decide +kernel
theorem dX7_shiftUp_101 : decode cX7_shiftUp 101 = .ok (.getfield 15, 3) := by decide +kernel
theorem dX7_shiftUp_104 : decode cX7_shiftUp 104 = .ok (.iload 6, 2) := by decide +kernel
theorem dX7_shiftUp_106 : decode cX7_shiftUp 106 = .ok (.iconst 0, 1) := by decide +kernel
theorem dX7_shiftUp_107 : decode cX7_shiftUp 107 = .ok (.iastore, 1) := by decide +kernel
theorem dX7_shiftUp_108 : decode cX7_shiftUp 108 = .ok (.iinc 6 1, 3) := by decide +kernel
theorem dX7_shiftUp_111 : decode cX7_shiftUp 111 = .ok (.goto (-17), 3) := by decide +kernel
theorem dX7_shiftUp_114 : decode cX7_shiftUp 114 = .ok (.aload_n 0, 1) := by decide +kernel
theorem dX7_shiftUp_115 : decode cX7_shiftUp 115 = .ok (.iload 5, 2) := by decide +kernel
theorem dX7_shiftUp_117 : decode cX7_shiftUp 117 = .ok (.iload_n 3, 1) := by decide +kernel
theorem dX7_shiftUp_118 : decode cX7_shiftUp 118 = .ok (.iadd, 1) := by decide +kernel
theorem dX7_shiftUp_119 : decode cX7_shiftUp 119 = .ok (.iconst 1, 1) := by decide +kernel
theorem dX7_shiftUp_120 : decode cX7_shiftUp 120 = .ok (.iadd, 1) := by decide +kernel
theorem dX7_shiftUp_121 : decode cX7_shiftUp 121 = .ok (.invokevirtual 29, 3) := by decide +kernel
theorem dX7_shiftUp_124 : decode cX7_shiftUp 124 = .ok (.return_, 1) := by decide +kernel
theorem dX7_shiftDown_0 : decode cX7_shiftDown 0 = .ok (.iload_n 2, 1) := by decide +kernel
theorem dX7_shiftDown_1 : decode cX7_shiftDown 1 = .ok (.iconst 5, 1) := by decide +kernel
theorem dX7_shiftDown_2 : decode cX7_shiftDown 2 = .ok (.ishr, 1) := by decide +kernel
theorem dX7_shiftDown_3 : decode cX7_shiftDown 3 = .ok (.istore_n 3, 1) := by decide +kernel
theorem dX7_shiftDown_4 : decode cX7_shiftDown 4 = .ok (.aload_n 1, 1) := by decide +kernel
theorem dX7_shiftDown_5 : decode cX7_shiftDown 5 = .ok (.getfield 9, 3) := by decide +kernel
theorem dX7_shiftDown_8 : decode cX7_shiftDown 8 = .ok (.iload_n 3, 1) := by decide +kernel
theorem dX7_shiftDown_9 : decode cX7_shiftDown 9 = .ok (.isub, 1) := by decide +kernel
theorem dX7_shiftDown_10 : decode cX7_shiftDown 10 = .ok (.istore 4, 2) := by decide +kernel
theorem dX7_shiftDown_12 : decode cX7_shiftDown 12 = .ok (.iload_n 2, 1) := by decide +kernel
theorem dX7_shiftDown_13 : decode cX7_shiftDown 13 = .ok (.ifCond .lt 18, 3) := by decide +kernel
theorem dX7_shiftDown_16 : decode cX7_shiftDown 16 = .ok (.iload 4, 2) := by decide +kernel
theorem dX7_shiftDown_18 : decode cX7_shiftDown 18 = .ok (.ifCond .le 13, 3) := by decide +kernel
theorem dX7_shiftDown_21 : decode cX7_shiftDown 21 = .ok (.iload 4, 2) := by decide +kernel
theorem dX7_shiftDown_23 : decode cX7_shiftDown 23 = .ok (.aload_n 0, 1) := by decide +kernel
theorem dX7_shiftDown_24 : decode cX7_shiftDown 24 = .ok (.getfield 15, 3) := by decide +kernel
theorem dX7_shiftDown_27 : decode cX7_shiftDown 27 = .ok (.arraylength, 1) := by decide +kernel
theorem dX7_shiftDown_28 : decode cX7_shiftDown 28 = .ok (.if_icmp .le 9, 3) := by decide +kernel
theorem dX7_shiftDown_31 : decode cX7_shiftDown 31 = .ok (.aload_n 0, 1) := by decide +kernel
theorem dX7_shiftDown_32 : decode cX7_shiftDown 32 = .ok (.iconst 0, 1) := by decide +kernel
theorem dX7_shiftDown_33 : decode cX7_shiftDown 33 = .ok (.invokevirtual 29, 3) := by decide +kernel
theorem dX7_shiftDown_36 : decode cX7_shiftDown 36 = .ok (.return_, 1) := by decide +kernel
theorem dX7_shiftDown_37 : decode cX7_shiftDown 37 = .ok (.iconst 0, 1) := by decide +kernel
theorem dX7_shiftDown_38 : decode cX7_shiftDown 38 = .ok (.istore 5, 2) := by decide +kernel
theorem dX7_shiftDown_40 : decode cX7_shiftDown 40 = .ok (.iload 5, 2) := by decide +kernel
theorem dX7_shiftDown_42 : decode cX7_shiftDown 42 = .ok (.iload 4, 2) := by decide +kernel
theorem dX7_shiftDown_44 : decode cX7_shiftDown 44 = .ok (.if_icmp .ge 28, 3) := by decide +kernel
theorem dX7_shiftDown_47 : decode cX7_shiftDown 47 = .ok (.aload_n 0, 1) := by decide +kernel
theorem dX7_shiftDown_48 : decode cX7_shiftDown 48 = .ok (.getfield 15, 3) := by decide +kernel
theorem dX7_shiftDown_51 : decode cX7_shiftDown 51 = .ok (.iload 5, 2) := by decide +kernel
theorem dX7_shiftDown_53 : decode cX7_shiftDown 53 = .ok (.aload_n 1, 1) := by decide +kernel
theorem dX7_shiftDown_54 : decode cX7_shiftDown 54 = .ok (.bipush 32, 2) := by decide +kernel
theorem dX7_shiftDown_56 : decode cX7_shiftDown 56 = .ok (.iload 5, 2) := by decide +kernel
theorem dX7_shiftDown_58 : decode cX7_shiftDown 58 = .ok (.imul, 1) := by decide +kernel
theorem dX7_shiftDown_59 : decode cX7_shiftDown 59 = .ok (.iload_n 2, 1) := by decide +kernel
theorem dX7_shiftDown_60 : decode cX7_shiftDown 60 = .ok (.iadd, 1) := by decide +kernel
theorem dX7_shiftDown_61 : decode cX7_shiftDown 61 = .ok (.invokevirtual 56, 3) := by decide +kernel
theorem dX7_shiftDown_64 : decode cX7_shiftDown 64 = .ok (.l2i, 1) := by decide +kernel
theorem dX7_shiftDown_65 : decode cX7_shiftDown 65 = .ok (.iastore, 1) := by decide +kernel
theorem dX7_shiftDown_66 : decode cX7_shiftDown 66 = .ok (.iinc 5 1, 3) := by decide +kernel
theorem dX7_shiftDown_69 : decode cX7_shiftDown 69 = .ok (.goto (-29), 3) := by decide +kernel
theorem dX7_shiftDown_72 : decode cX7_shiftDown 72 = .ok (.aload_n 0, 1) := by decide +kernel
theorem dX7_shiftDown_73 : decode cX7_shiftDown 73 = .ok (.iload 4, 2) := by decide +kernel
theorem dX7_shiftDown_75 : decode cX7_shiftDown 75 = .ok (.invokevirtual 29, 3) := by decide +kernel
theorem dX7_shiftDown_78 : decode cX7_shiftDown 78 = .ok (.return_, 1) := by decide +kernel
theorem dX0_init_0 : decode cX0_init 0 = .ok (.aload_n 0, 1) := by decide +kernel
theorem dX0_init_1 : decode cX0_init 1 = .ok (.invokespecial 3, 3) := by decide +kernel
theorem dX0_init_4 : decode cX0_init 4 = .ok (.aload_n 0, 1) := by decide +kernel
theorem dX0_init_5 : decode cX0_init 5 = .ok (.new 9, 3) := by decide +kernel
theorem dX0_init_8 : decode cX0_init 8 = .ok (.dup, 1) := by decide +kernel
theorem dX0_init_9 : decode cX0_init 9 = .ok (.iload_n 1, 1) := by decide +kernel
theorem dX0_init_10 : decode cX0_init 10 = .ok (.invokespecial 11, 3) := by decide +kernel
theorem dX0_init_13 : decode cX0_init 13 = .ok (.putfield 14, 3) := by decide +kernel
theorem dX0_init_16 : decode cX0_init 16 = .ok (.return_, 1) := by decide +kernel
theorem dX0_split_0 : decode cX0_split 0 = .ok (.aload_n 3, 1) := by decide +kernel
theorem dX0_split_1 : decode cX0_split 1 = .ok (.getfield 20, 3) := by decide +kernel
theorem dX0_split_4 : decode cX0_split 4 = .ok (.aload 4, 2) := by decide +kernel
theorem dX0_split_6 : decode cX0_split 6 = .ok (.getfield 20, 3) := by decide +kernel
theorem dX0_split_9 : decode cX0_split 9 = .ok (.isub, 1) := by decide +kernel
theorem dX0_split_10 : decode cX0_split 10 = .ok (.istore 5, 2) := by decide +kernel
theorem dX0_split_12 : decode cX0_split 12 = .ok (.aload_n 1, 1) := by decide +kernel
theorem dX0_split_13 : decode cX0_split 13 = .ok (.iconst 0, 1) := by decide +kernel
theorem dX0_split_14 : decode cX0_split 14 = .ok (.invokevirtual 24, 3) := by decide +kernel
theorem dX0_split_17 : decode cX0_split 17 = .ok (.aload_n 2, 1) := by decide +kernel
theorem dX0_split_18 : decode cX0_split 18 = .ok (.iconst 0, 1) := by decide +kernel
theorem dX0_split_19 : decode cX0_split 19 = .ok (.invokevirtual 24, 3) := by decide +kernel
theorem dX0_split_22 : decode cX0_split 22 = .ok (.aload 4, 2) := by decide +kernel
theorem dX0_split_24 : decode cX0_split 24 = .ok (.getfield 20, 3) := by decide +kernel
theorem dX0_split_27 : decode cX0_split 27 = .ok (.ifCond .eq 41, 3) := by decide +kernel
theorem dX0_split_30 : decode cX0_split 30 = .ok (.iload 5, 2) := by decide +kernel
theorem dX0_split_32 : decode cX0_split 32 = .ok (.aload_n 1, 1) := by decide +kernel
theorem dX0_split_33 : decode cX0_split 33 = .ok (.getfield 27, 3) := by decide +kernel
theorem dX0_split_36 : decode cX0_split 36 = .ok (.arraylength, 1) := by decide +kernel
theorem dX0_split_37 : decode cX0_split 37 = .ok (.if_icmp .ge 31, 3) := by decide +kernel
theorem dX0_split_40 : decode cX0_split 40 = .ok (.aload_n 3, 1) := by decide +kernel
theorem dX0_split_41 : decode cX0_split 41 = .ok (.getfield 20, 3) := by decide +kernel
theorem dX0_split_44 : decode cX0_split 44 = .ok (.aload_n 2, 1) := by decide +kernel
theorem dX0_split_45 : decode cX0_split 45 = .ok (.getfield 27, 3) := by decide +kernel
theorem dX0_split_48 : decode cX0_split 48 = .ok (.arraylength, 1) := by decide +kernel
theorem dX0_split_49 : decode cX0_split 49 = .ok (.if_icmp .ge 19, 3) := by decide +kernel
theorem dX0_split_52 : decode cX0_split 52 = .ok (.aload 4, 2) := by decide +kernel
theorem dX0_split_54 : decode cX0_split 54 = .ok (.getfield 20, 3) := by decide +kernel
theorem dX0_split_57 : decode cX0_split 57 = .ok (.aload_n 0, 1) := by decide +kernel
theorem dX0_split_58 : decode cX0_split 58 = .ok (.getfield 14, 3) := by decide +kernel
theorem dX0_split_61 : decode cX0_split 61 = .ok (.getfield 27, 3) := by decide +kernel
theorem dX0_split_64 : decode cX0_split 64 = .ok (.arraylength, 1) := by decide +kernel
theorem dX0_split_65 : decode cX0_split 65 = .ok (.if_icmp .lt 4, 3) := by decide +kernel
theorem dX0_split_68 : decode cX0_split 68 = .ok (.return_, 1) := by decide +kernel
theorem dX0_split_69 : decode cX0_split 69 = .ok (.aload_n 3, 1) := by decide +kernel
theorem dX0_split_70 : decode cX0_split 70 = .ok (.aload 4, 2) := by decide +kernel
theorem dX0_split_72 : decode cX0_split 72 = .ok (.invokestatic 31, 3) := by decide +kernel
theorem dX0_split_75 : decode cX0_split 75 = .ok (.ifCond .ge 14, 3) := by decide +kernel
theorem dX0_split_78 : decode cX0_split 78 = .ok (.aload_n 2, 1) := by decide +kernel
theorem dX0_split_79 : decode cX0_split 79 = .ok (.aload_n 3, 1) := by decide +kernel
theorem dX0_split_80 : decode cX0_split 80 = .ok (.invokevirtual 37, 3) := by decide +kernel
theorem dX0_split_83 : decode cX0_split 83 = .ok (.aload_n 2, 1) := by decide +kernel
theorem dX0_split_84 : decode cX0_split 84 = .ok (.iconst 0, 1) := by decide +kernel
theorem dX0_split_85 : decode cX0_split 85 = .ok (.putfield 41, 3) := by decide +kernel
theorem dX0_split_88 : decode cX0_split 88 = .ok (.return_, 1) := by decide +kernel
theorem dX0_split_89 : decode cX0_split 89 = .ok (.aload 4, 2) := by decide +kernel
theorem dX0_split_91 : decode cX0_split 91 = .ok (.getfield 20, 3) := by decide +kernel
theorem dX0_split_94 : decode cX0_split 94 = .ok (.iconst 1, 1) := by decide +kernel
theorem dX0_split_95 : decode cX0_split 95 = .ok (.if_icmp .ne 21, 3) := by decide +kernel
theorem dX0_split_98 : decode cX0_split 98 = .ok (.aload_n 2, 1) := by decide +kernel
theorem dX0_split_99 : decode cX0_split 99 = .ok (.aload_n 0, 1) := by decide +kernel
theorem dX0_split_100 : decode cX0_split 100 = .ok (.aload_n 1, 1) := by decide +kernel
theorem dX0_split_101 : decode cX0_split 101 = .ok (.aload_n 3, 1) := by decide +kernel
theorem dX0_split_102 : decode cX0_split 102 = .ok (.aload 4, 2) := by decide +kernel
theorem dX0_split_104 : decode cX0_split 104 = .ok (.getfield 27, 3) := by decide +kernel
theorem dX0_split_107 : decode cX0_split 107 = .ok (.iconst 0, 1) := by decide +kernel
theorem dX0_split_108 : decode cX0_split 108 = .ok (.iaload, 1) := by decide +kernel
theorem dX0_split_109 : decode cX0_split 109 = .ok (.invokevirtual 45, 3) := by decide +kernel
theorem dX0_split_112 : decode cX0_split 112 = .ok (.invokevirtual 49, 3) := by decide +kernel
theorem dX0_split_115 : decode cX0_split 115 = .ok (.return_, 1) := by decide +kernel
theorem dX0_split_116 : decode cX0_split 116 = .ok (.aload 4, 2) := by decide +kernel
theorem dX0_split_118 : decode cX0_split 118 = .ok (.getfield 27, 3) := by decide +kernel
theorem dX0_split_121 : decode cX0_split 121 = .ok (.aload 4, 2) := by decide +kernel
theorem dX0_split_123 : decode cX0_split 123 = .ok (.getfield 20, 3) := by decide +kernel
theorem dX0_split_126 : decode cX0_split 126 = .ok (.iconst 1, 1) := by decide +kernel
theorem dX0_split_127 : decode cX0_split 127 = .ok (.isub, 1) := by decide +kernel
theorem dX0_split_128 : decode cX0_split 128 = .ok (.iaload, 1) := by decide +kernel
theorem dX0_split_129 : decode cX0_split 129 = .ok (.invokestatic 52, 3) := by decide +kernel
theorem dX0_split_132 : decode cX0_split 132 = .ok (.istore 6, 2) := by decide +kernel
theorem dX0_split_134 : decode cX0_split 134 = .ok (.aload_n 0, 1) := by decide +kernel
theorem dX0_split_135 : decode cX0_split 135 = .ok (.getfield 14, 3) := by decide +kernel
theorem dX0_split_138 : decode cX0_split 138 = .ok (.aload 4, 2) := by decide +kernel
theorem dX0_split_140 : decode cX0_split 140 = .ok (.iload 6, 2) := by decide +kernel
theorem dX0_split_142 : decode cX0_split 142 = .ok (.invokestatic 58, 3) := by decide +kernel
theorem dX0_split_145 : decode cX0_split 145 = .ok (.aload_n 2, 1) := by decide +kernel
theorem dX0_split_146 : decode cX0_split 146 = .ok (.aload_n 3, 1) := by decide +kernel
theorem dX0_split_147 : decode cX0_split 147 = .ok (.iload 6, 2) := by decide +kernel
theorem dX0_split_149 : decode cX0_split 149 = .ok (.invokestatic 58, 3) := by decide +kernel
theorem dX0_split_152 : decode cX0_split 152 = .ok (.iload 5, 2) := by decide +kernel
theorem dX0_split_154 : decode cX0_split 154 = .ok (.istore 7, 2) := by decide +kernel
theorem dX0_split_156 : decode cX0_split 156 = .ok (.iload 7, 2) := by decide +kernel
theorem dX0_split_158 : decode cX0_split 158 = .ok (.ifCond .lt 31, 3) := by decide +kernel
theorem dX0_split_161 : decode cX0_split 161 = .ok (.aload_n 1, 1) := by decide +kernel
theorem dX0_split_162 : decode cX0_split 162 = .ok (.getfield 27, 3) := by decide +kernel
theorem dX0_split_165 : decode cX0_split 165 = .ok (.iload 7, 2) := by decide +kernel
theorem dX0_split_167 : decode cX0_split 167 = .ok (.aload_n 0, 1) := by decide +kernel
theorem dX0_split_168 : decode cX0_split 168 = .ok (.aload_n 2, 1) := by decide +kernel
theorem dX0_split_169 : decode cX0_split 169 = .ok (.getfield 27, 3) := by decide +kernel
theorem dX0_split_172 : decode cX0_split 172 = .ok (.iload 7, 2) := by decide +kernel
theorem dX0_split_174 : decode cX0_split 174 = .ok (.aload 4, 2) := by decide +kernel
theorem dX0_split_176 : decode cX0_split 176 = .ok (.getfield 20, 3) := by decide +kernel
theorem dX0_split_179 : decode cX0_split 179 = .ok (.invokevirtual 62, 3) := by decide +kernel
theorem dX0_split_182 : decode cX0_split 182 = .ok (.iastore, 1) := by decide +kernel
theorem dX0_split_183 : decode cX0_split 183 = .ok (.iinc 7 (-1), 3) := by decide +kernel
theorem dX0_split_186 : decode cX0_split 186 = .ok (.goto (-30), 3) := by decide +kernel
theorem dX0_split_189 : decode cX0_split 189 = .ok (.aload_n 1, 1) := by decide +kernel
theorem dX0_split_190 : decode cX0_split 190 = .ok (.iload 5, 2) := by decide +kernel
theorem dX0_split_192 : decode cX0_split 192 = .ok (.iconst 1, 1) := by decide +kernel
theorem dX0_split_193 : decode cX0_split 193 = .ok (.iadd, 1) := by decide +kernel
theorem dX0_split_194 : decode cX0_split 194 = .ok (.invokevirtual 24, 3) := by decide +kernel
theorem dX0_split_197 : decode cX0_split 197 = .ok (.aload_n 2, 1) := by decide +kernel
theorem dX0_split_198 : decode cX0_split 198 = .ok (.aload 4, 2) := by decide +kernel
theorem dX0_split_200 : decode cX0_split 200 = .ok (.getfield 20, 3) := by decide +kernel
theorem dX0_split_203 : decode cX0_split 203 = .ok (.invokevirtual 24, 3) := by decide +kernel
theorem dX0_split_206 : decode cX0_split 206 = .ok (.aload_n 2, 1) := by decide +kernel
theorem dX0_split_207 : decode cX0_split 207 = .ok (.aload_n 2, 1) := by decide +kernel
theorem dX0_split_208 : decode cX0_split 208 = .ok (.iload 6, 2) := by decide +kernel
theorem dX0_split_210 : decode cX0_split 210 = .ok (.invokestatic 66, 3) := by decide +kernel
theorem dX0_split_213 : decode cX0_split 213 = .ok (.return_, 1) := by decide +kernel
theorem dX0_splitByLimb_0 : decode cX0_splitByLimb 0 = .ok (.iload_n 3, 1) := by decide +kernel
theorem dX0_splitByLimb_1 : decode cX0_splitByLimb 1 = .ok (.i2l, 1) := by decide +kernel
theorem dX0_splitByLimb_2 : decode cX0_splitByLimb 2 = .ok (.ldc2_w 69, 3) := by decide +kernel
theorem dX0_splitByLimb_5 : decode cX0_splitByLimb 5 = .ok (.land, 1) := by decide +kernel
theorem dX0_splitByLimb_6 : decode cX0_splitByLimb 6 = .ok (.lstore 4, 2) := by decide +kernel
theorem dX0_splitByLimb_8 : decode cX0_splitByLimb 8 = .ok (.lconst 0, 1) := by decide +kernel
theorem dX0_splitByLimb_9 : decode cX0_splitByLimb 9 = .ok (.lstore 6, 2) := by decide +kernel
theorem dX0_splitByLimb_11 : decode cX0_splitByLimb 11 = .ok (.aload_n 2, 1) := by decide +kernel
theorem dX0_splitByLimb_12 : decode cX0_splitByLimb 12 = .ok (.getfield 20, 3) := by decide +kernel
theorem dX0_splitByLimb_15 : decode cX0_splitByLimb 15 = .ok (.iconst 1, 1) := by decide +kernel
theorem dX0_splitByLimb_16 : decode cX0_splitByLimb 16 = .ok (.isub, 1) := by decide +kernel
theorem dX0_splitByLimb_17 : decode cX0_splitByLimb 17 = .ok (.istore 8, 2) := by decide +kernel
theorem dX0_splitByLimb_19 : decode cX0_splitByLimb 19 = .ok (.iload 8, 2) := by decide +kernel
theorem dX0_splitByLimb_21 : decode cX0_splitByLimb 21 = .ok (.ifCond .lt 52, 3) := by decide +kernel
theorem dX0_splitByLimb_24 : decode cX0_splitByLimb 24 = .ok (.lload 6, 2) := by decide +kernel
theorem dX0_splitByLimb_26 : decode cX0_splitByLimb 26 = .ok (.bipush 32, 2) := by decide +kernel
theorem dX0_splitByLimb_28 : decode cX0_splitByLimb 28 = .ok (.lshl, 1) := by decide +kernel
theorem dX0_splitByLimb_29 : decode cX0_splitByLimb 29 = .ok (.aload_n 2, 1) := by decide +kernel
theorem dX0_splitByLimb_30 : decode cX0_splitByLimb 30 = .ok (.iload 8, 2) := by decide +kernel
theorem dX0_splitByLimb_32 : decode cX0_splitByLimb 32 = .ok (.invokevirtual 71, 3) := by decide +kernel
theorem dX0_splitByLimb_35 : decode cX0_splitByLimb 35 = .ok (.lor, 1) := by decide +kernel
theorem dX0_splitByLimb_36 : decode cX0_splitByLimb 36 = .ok (.lstore 9, 2) := by decide +kernel
theorem dX0_splitByLimb_38 : decode cX0_splitByLimb 38 = .ok (.lload 9, 2) := by decide +kernel
theorem dX0_splitByLimb_40 : decode cX0_splitByLimb 40 = .ok (.lload 4, 2) := by decide +kernel
theorem dX0_splitByLimb_42 : decode cX0_splitByLimb 42 = .ok (.invokestatic 75, 3) := by decide +kernel
theorem dX0_splitByLimb_45 : decode cX0_splitByLimb 45 = .ok (.lstore 11, 2) := by decide +kernel
theorem dX0_splitByLimb_47 : decode cX0_splitByLimb 47 = .ok (.aload_n 1, 1) := by decide +kernel
theorem dX0_splitByLimb_48 : decode cX0_splitByLimb 48 = .ok (.getfield 27, 3) := by decide +kernel
theorem dX0_splitByLimb_51 : decode cX0_splitByLimb 51 = .ok (.iload 8, 2) := by decide +kernel
theorem dX0_splitByLimb_53 : decode cX0_splitByLimb 53 = .ok (.lload 11, 2) := by decide +kernel
theorem dX0_splitByLimb_55 : decode cX0_splitByLimb 55 = .ok (.l2i, 1) := by decide +kernel
theorem dX0_splitByLimb_56 : decode cX0_splitByLimb 56 = .ok (.iastore, 1) := by decide +kernel
theorem dX0_splitByLimb_57 : decode cX0_splitByLimb 57 = .ok (.lload 9, 2) := by decide +kernel
theorem dX0_splitByLimb_59 : decode cX0_splitByLimb 59 = .ok (.lload 11, 2) := by decide +kernel
theorem dX0_splitByLimb_61 : decode cX0_splitByLimb 61 = .ok (.lload 4, 2) := by decide +kernel
theorem dX0_splitByLimb_63 : decode cX0_splitByLimb 63 = .ok (.lmul, 1) := by decide +kernel
theorem dX0_splitByLimb_64 : decode cX0_splitByLimb 64 = .ok (.lsub, 1) := by decide +kernel
theorem dX0_splitByLimb_65 : decode cX0_splitByLimb 65 = .ok (.lstore 6, 2) := by decide +kernel
theorem dX0_splitByLimb_67 : decode cX0_splitByLimb 67 = .ok (.iinc 8 (-1), 3) := by decide +kernel
theorem dX0_splitByLimb_70 : decode cX0_splitByLimb 70 = .ok (.goto (-51), 3) := by decide +kernel
theorem dX0_splitByLimb_73 : decode cX0_splitByLimb 73 = .ok (.aload_n 1, 1) := by decide +kernel
theorem dX0_splitByLimb_74 : decode cX0_splitByLimb 74 = .ok (.aload_n 2, 1) := by decide +kernel
theorem dX0_splitByLimb_75 : decode cX0_splitByLimb 75 = .ok (.getfield 20, 3) := by decide +kernel
theorem dX0_splitByLimb_78 : decode cX0_splitByLimb 78 = .ok (.invokevirtual 24, 3) := by decide +kernel
theorem dX0_splitByLimb_81 : decode cX0_splitByLimb 81 = .ok (.lload 6, 2) := by decide +kernel
theorem dX0_splitByLimb_83 : decode cX0_splitByLimb 83 = .ok (.l2i, 1) := by decide +kernel
theorem dX0_splitByLimb_84 : decode cX0_splitByLimb 84 = .ok (.ireturn, 1) := by decide +kernel
theorem dX0_quotientOfPair_0 : decode cX0_quotientOfPair 0 = .ok (.lload_n 2, 1) := by decide +kernel
theorem dX0_quotientOfPair_1 : decode cX0_quotientOfPair 1 = .ok (.lconst 0, 1) := by decide +kernel
theorem dX0_quotientOfPair_2 : decode cX0_quotientOfPair 2 = .ok (.lcmp, 1) := by decide +kernel
theorem dX0_quotientOfPair_3 : decode cX0_quotientOfPair 3 = .ok (.ifCond .gt 5, 3) := by decide +kernel
theorem dX0_quotientOfPair_6 : decode cX0_quotientOfPair 6 = .ok (.lconst 0, 1) := by decide +kernel
theorem dX0_quotientOfPair_7 : decode cX0_quotientOfPair 7 = .ok (.lreturn, 1) := by decide +kernel
theorem dX0_quotientOfPair_8 : decode cX0_quotientOfPair 8 = .ok (.lload_n 0, 1) := by decide +kernel
theorem dX0_quotientOfPair_9 : decode cX0_quotientOfPair 9 = .ok (.lconst 0, 1) := by decide +kernel
theorem dX0_quotientOfPair_10 : decode cX0_quotientOfPair 10 = .ok (.lcmp, 1) := by decide +kernel
theorem dX0_quotientOfPair_11 : decode cX0_quotientOfPair 11 = .ok (.ifCond .lt 7, 3) := by decide +kernel
theorem dX0_quotientOfPair_14 : decode cX0_quotientOfPair 14 = .ok (.lload_n 0, 1) := by decide +kernel
theorem dX0_quotientOfPair_15 : decode cX0_quotientOfPair 15 = .ok (.lload_n 2, 1) := by decide +kernel
theorem dX0_quotientOfPair_16 : decode cX0_quotientOfPair 16 = .ok (.ldiv, 1) := by decide +kernel
theorem dX0_quotientOfPair_17 : decode cX0_quotientOfPair 17 = .ok (.lreturn, 1) := by decide +kernel
theorem dX0_quotientOfPair_18 : decode cX0_quotientOfPair 18 = .ok (.lload_n 0, 1) := by decide +kernel
theorem dX0_quotientOfPair_19 : decode cX0_quotientOfPair 19 = .ok (.iconst 1, 1) := by decide +kernel
theorem dX0_quotientOfPair_20 : decode cX0_quotientOfPair 20 = .ok (.lushr, 1) := by decide +kernel
theorem dX0_quotientOfPair_21 : decode cX0_quotientOfPair 21 = .ok (.lload_n 2, 1) := by decide +kernel
theorem dX0_quotientOfPair_22 : decode cX0_quotientOfPair 22 = .ok (.ldiv, 1) := by decide +kernel
theorem dX0_quotientOfPair_23 : decode cX0_quotientOfPair 23 = .ok (.iconst 1, 1) := by decide +kernel
theorem dX0_quotientOfPair_24 : decode cX0_quotientOfPair 24 = .ok (.lshl, 1) := by decide +kernel
theorem dX0_quotientOfPair_25 : decode cX0_quotientOfPair 25 = .ok (.lstore 4, 2) := by decide +kernel
theorem dX0_quotientOfPair_27 : decode cX0_quotientOfPair 27 = .ok (.lload_n 0, 1) := by decide +kernel
theorem dX0_quotientOfPair_28 : decode cX0_quotientOfPair 28 = .ok (.lload 4, 2) := by decide +kernel
theorem dX0_quotientOfPair_30 : decode cX0_quotientOfPair 30 = .ok (.lload_n 2, 1) := by decide +kernel
theorem dX0_quotientOfPair_31 : decode cX0_quotientOfPair 31 = .ok (.lmul, 1) := by decide +kernel
theorem dX0_quotientOfPair_32 : decode cX0_quotientOfPair 32 = .ok (.lsub, 1) := by decide +kernel
theorem dX0_quotientOfPair_33 : decode cX0_quotientOfPair 33 = .ok (.lload_n 2, 1) := by decide +kernel
theorem dX0_quotientOfPair_34 : decode cX0_quotientOfPair 34 = .ok (.lcmp, 1) := by decide +kernel
theorem dX0_quotientOfPair_35 : decode cX0_quotientOfPair 35 = .ok (.ifCond .lt 10, 3) := by decide +kernel
theorem dX0_quotientOfPair_38 : decode cX0_quotientOfPair 38 = .ok (.lload 4, 2) := by decide +kernel
theorem dX0_quotientOfPair_40 : decode cX0_quotientOfPair 40 = .ok (.lconst 1, 1) := by decide +kernel
theorem dX0_quotientOfPair_41 : decode cX0_quotientOfPair 41 = .ok (.ladd, 1) := by decide +kernel
theorem dX0_quotientOfPair_42 : decode cX0_quotientOfPair 42 = .ok (.goto 5, 3) := by decide +kernel
theorem dX0_quotientOfPair_45 : decode cX0_quotientOfPair 45 = .ok (.lload 4, 2) := by decide +kernel
theorem dX0_quotientOfPair_47 : decode cX0_quotientOfPair 47 = .ok (.lreturn, 1) := by decide +kernel
theorem dX0_quotientLimb_0 : decode cX0_quotientLimb 0 = .ok (.aload_n 1, 1) := by decide +kernel
theorem dX0_quotientLimb_1 : decode cX0_quotientLimb 1 = .ok (.iload_n 2, 1) := by decide +kernel
theorem dX0_quotientLimb_2 : decode cX0_quotientLimb 2 = .ok (.iload_n 3, 1) := by decide +kernel
theorem dX0_quotientLimb_3 : decode cX0_quotientLimb 3 = .ok (.iadd, 1) := by decide +kernel
theorem dX0_quotientLimb_4 : decode cX0_quotientLimb 4 = .ok (.iaload, 1) := by decide +kernel
theorem dX0_quotientLimb_5 : decode cX0_quotientLimb 5 = .ok (.i2l, 1) := by decide +kernel
theorem dX0_quotientLimb_6 : decode cX0_quotientLimb 6 = .ok (.ldc2_w 69, 3) := by decide +kernel
theorem dX0_quotientLimb_9 : decode cX0_quotientLimb 9 = .ok (.land, 1) := by decide +kernel
theorem dX0_quotientLimb_10 : decode cX0_quotientLimb 10 = .ok (.lstore 4, 2) := by decide +kernel
theorem dX0_quotientLimb_12 : decode cX0_quotientLimb 12 = .ok (.aload_n 1, 1) := by decide +kernel
theorem dX0_quotientLimb_13 : decode cX0_quotientLimb 13 = .ok (.iload_n 2, 1) := by decide +kernel
theorem dX0_quotientLimb_14 : decode cX0_quotientLimb 14 = .ok (.iload_n 3, 1) := by decide +kernel
theorem dX0_quotientLimb_15 : decode cX0_quotientLimb 15 = .ok (.iadd, 1) := by decide +kernel
theorem dX0_quotientLimb_16 : decode cX0_quotientLimb 16 = .ok (.iconst 1, 1) := by decide +kernel
theorem dX0_quotientLimb_17 : decode cX0_quotientLimb 17 = .ok (.isub, 1) := by decide +kernel
theorem dX0_quotientLimb_18 : decode cX0_quotientLimb 18 = .ok (.iaload, 1) := by decide +kernel
theorem dX0_quotientLimb_19 : decode cX0_quotientLimb 19 = .ok (.i2l, 1) := by decide +kernel
theorem dX0_quotientLimb_20 : decode cX0_quotientLimb 20 = .ok (.ldc2_w 69, 3) := by decide +kernel
theorem dX0_quotientLimb_23 : decode cX0_quotientLimb 23 = .ok (.land, 1) := by decide +kernel
theorem dX0_quotientLimb_24 : decode cX0_quotientLimb 24 = .ok (.lstore 6, 2) := by decide +kernel
theorem dX0_quotientLimb_26 : decode cX0_quotientLimb 26 = .ok (.aload_n 1, 1) := by decide +kernel
theorem dX0_quotientLimb_27 : decode cX0_quotientLimb 27 = .ok (.iload_n 2, 1) := by decide +kernel
theorem dX0_quotientLimb_28 : decode cX0_quotientLimb 28 = .ok (.iload_n 3, 1) := by decide +kernel
theorem dX0_quotientLimb_29 : decode cX0_quotientLimb 29 = .ok (.iadd, 1) := by decide +kernel
theorem dX0_quotientLimb_30 : decode cX0_quotientLimb 30 = .ok (.iconst 2, 1) := by decide +kernel
theorem dX0_quotientLimb_31 : decode cX0_quotientLimb 31 = .ok (.isub, 1) := by decide +kernel
theorem dX0_quotientLimb_32 : decode cX0_quotientLimb 32 = .ok (.iaload, 1) := by decide +kernel
theorem dX0_quotientLimb_33 : decode cX0_quotientLimb 33 = .ok (.i2l, 1) := by decide +kernel
theorem dX0_quotientLimb_34 : decode cX0_quotientLimb 34 = .ok (.ldc2_w 69, 3) := by decide +kernel
theorem dX0_quotientLimb_37 : decode cX0_quotientLimb 37 = .ok (.land, 1) := by decide +kernel
theorem dX0_quotientLimb_38 : decode cX0_quotientLimb 38 = .ok (.lstore 8, 2) := by decide +kernel
theorem dX0_quotientLimb_40 : decode cX0_quotientLimb 40 = .ok (.aload_n 0, 1) := by decide +kernel
theorem dX0_quotientLimb_41 : decode cX0_quotientLimb 41 = .ok (.getfield 14, 3) := by decide +kernel
theorem dX0_quotientLimb_44 : decode cX0_quotientLimb 44 = .ok (.iload_n 3, 1) := by decide +kernel
theorem dX0_quotientLimb_45 : decode cX0_quotientLimb 45 = .ok (.iconst 1, 1) := by decide +kernel
theorem dX0_quotientLimb_46 : decode cX0_quotientLimb 46 = .ok (.isub, 1) := by decide +kernel
theorem dX0_quotientLimb_47 : decode cX0_quotientLimb 47 = .ok (.invokevirtual 71, 3) := by decide +kernel
theorem dX0_quotientLimb_50 : decode cX0_quotientLimb 50 = .ok (.lstore 10, 2) := by decide +kernel
theorem dX0_quotientLimb_52 : decode cX0_quotientLimb 52 = .ok (.aload_n 0, 1) := by decide +kernel
theorem dX0_quotientLimb_53 : decode cX0_quotientLimb 53 = .ok (.getfield 14, 3) := by decide +kernel
theorem dX0_quotientLimb_56 : decode cX0_quotientLimb 56 = .ok (.iload_n 3, 1) := by decide +kernel
theorem dX0_quotientLimb_57 : decode cX0_quotientLimb 57 = .ok (.iconst 2, 1) := by decide +kernel
theorem dX0_quotientLimb_58 : decode cX0_quotientLimb 58 = .ok (.isub, 1) := by decide +kernel
theorem dX0_quotientLimb_59 : decode cX0_quotientLimb 59 = .ok (.invokevirtual 71, 3) := by decide +kernel
theorem dX0_quotientLimb_62 : decode cX0_quotientLimb 62 = .ok (.lstore 12, 2) := by decide +kernel
theorem dX0_quotientLimb_64 : decode cX0_quotientLimb 64 = .ok (.lload 4, 2) := by decide +kernel
theorem dX0_quotientLimb_66 : decode cX0_quotientLimb 66 = .ok (.bipush 32, 2) := by decide +kernel
theorem dX0_quotientLimb_68 : decode cX0_quotientLimb 68 = .ok (.lshl, 1) := by decide +kernel
theorem dX0_quotientLimb_69 : decode cX0_quotientLimb 69 = .ok (.lload 6, 2) := by decide +kernel
theorem dX0_quotientLimb_71 : decode cX0_quotientLimb 71 = .ok (.lor, 1) := by decide +kernel
theorem dX0_quotientLimb_72 : decode cX0_quotientLimb 72 = .ok (.lstore 14, 2) := by decide +kernel
theorem dX0_quotientLimb_74 : decode cX0_quotientLimb 74 = .ok (.lload 4, 2) := by decide +kernel
theorem dX0_quotientLimb_76 : decode cX0_quotientLimb 76 = .ok (.lload 10, 2) := by decide +kernel
theorem dX0_quotientLimb_78 : decode cX0_quotientLimb 78 = .ok (.lcmp, 1) := by decide +kernel
theorem dX0_quotientLimb_79 : decode cX0_quotientLimb 79 = .ok (.ifCond .lt 9, 3) := by decide +kernel
theorem dX0_quotientLimb_82 : decode cX0_quotientLimb 82 = .ok (.ldc2_w 69, 3) := by decide +kernel
theorem dX0_quotientLimb_85 : decode cX0_quotientLimb 85 = .ok (.goto 10, 3) := by decide +kernel
theorem dX0_quotientLimb_88 : decode cX0_quotientLimb 88 = .ok (.lload 14, 2) := by decide +kernel
theorem dX0_quotientLimb_90 : decode cX0_quotientLimb 90 = .ok (.lload 10, 2) := by decide +kernel
theorem dX0_quotientLimb_92 : decode cX0_quotientLimb 92 = .ok (.invokestatic 75, 3) := by decide +kernel
theorem dX0_quotientLimb_95 : decode cX0_quotientLimb 95 = .ok (.lstore 16, 2) := by decide +kernel
theorem dX0_quotientLimb_97 : decode cX0_quotientLimb 97 = .ok (.lload 14, 2) := by decide +kernel
theorem dX0_quotientLimb_99 : decode cX0_quotientLimb 99 = .ok (.lload 16, 2) := by decide +kernel
theorem dX0_quotientLimb_101 : decode cX0_quotientLimb 101 = .ok (.lload 10, 2) := by decide +kernel
theorem dX0_quotientLimb_103 : decode cX0_quotientLimb 103 = .ok (.lmul, 1) := by decide +kernel
theorem dX0_quotientLimb_104 : decode cX0_quotientLimb 104 = .ok (.lsub, 1) := by decide +kernel
theorem dX0_quotientLimb_105 : decode cX0_quotientLimb 105 = .ok (.lstore 18, 2) := by decide +kernel
theorem dX0_quotientLimb_107 : decode cX0_quotientLimb 107 = .ok (.iconst 0, 1) := by decide +kernel
theorem dX0_quotientLimb_108 : decode cX0_quotientLimb 108 = .ok (.istore 20, 2) := by decide +kernel
theorem dX0_quotientLimb_110 : decode cX0_quotientLimb 110 = .ok (.iload 20, 2) := by decide +kernel
theorem dX0_quotientLimb_112 : decode cX0_quotientLimb 112 = .ok (.iconst 2, 1) := by decide +kernel
theorem dX0_quotientLimb_113 : decode cX0_quotientLimb 113 = .ok (.if_icmp .ge 53, 3) := by decide +kernel
theorem dX0_quotientLimb_116 : decode cX0_quotientLimb 116 = .ok (.lload 18, 2) := by decide +kernel
theorem dX0_quotientLimb_118 : decode cX0_quotientLimb 118 = .ok (.ldc2_w 69, 3) := by decide +kernel
theorem dX0_quotientLimb_121 : decode cX0_quotientLimb 121 = .ok (.lcmp, 1) := by decide +kernel
theorem dX0_quotientLimb_122 : decode cX0_quotientLimb 122 = .ok (.ifCond .gt 44, 3) := by decide +kernel
theorem dX0_quotientLimb_125 : decode cX0_quotientLimb 125 = .ok (.lload 16, 2) := by decide +kernel
theorem dX0_quotientLimb_127 : decode cX0_quotientLimb 127 = .ok (.lload 12, 2) := by decide +kernel
theorem dX0_quotientLimb_129 : decode cX0_quotientLimb 129 = .ok (.lmul, 1) := by decide +kernel
theorem dX0_quotientLimb_130 : decode cX0_quotientLimb 130 = .ok (.lload 18, 2) := by decide +kernel
theorem dX0_quotientLimb_132 : decode cX0_quotientLimb 132 = .ok (.bipush 32, 2) := by decide +kernel
theorem dX0_quotientLimb_134 : decode cX0_quotientLimb 134 = .ok (.lshl, 1) := by decide +kernel
theorem dX0_quotientLimb_135 : decode cX0_quotientLimb 135 = .ok (.lload 8, 2) := by decide +kernel
theorem dX0_quotientLimb_137 : decode cX0_quotientLimb 137 = .ok (.lor, 1) := by decide +kernel
theorem dX0_quotientLimb_138 : decode cX0_quotientLimb 138 = .ok (.invokestatic 79, 3) := by decide +kernel
theorem dX0_quotientLimb_141 : decode cX0_quotientLimb 141 = .ok (.ifCond .gt 6, 3) := by decide +kernel
theorem dX0_quotientLimb_144 : decode cX0_quotientLimb 144 = .ok (.goto 22, 3) := by decide +kernel
theorem dX0_quotientLimb_147 : decode cX0_quotientLimb 147 = .ok (.lload 16, 2) := by decide +kernel
theorem dX0_quotientLimb_149 : decode cX0_quotientLimb 149 = .ok (.lconst 1, 1) := by decide +kernel
theorem dX0_quotientLimb_150 : decode cX0_quotientLimb 150 = .ok (.lsub, 1) := by decide +kernel
theorem dX0_quotientLimb_151 : decode cX0_quotientLimb 151 = .ok (.lstore 16, 2) := by decide +kernel
theorem dX0_quotientLimb_153 : decode cX0_quotientLimb 153 = .ok (.lload 18, 2) := by decide +kernel
theorem dX0_quotientLimb_155 : decode cX0_quotientLimb 155 = .ok (.lload 10, 2) := by decide +kernel
theorem dX0_quotientLimb_157 : decode cX0_quotientLimb 157 = .ok (.ladd, 1) := by decide +kernel
theorem dX0_quotientLimb_158 : decode cX0_quotientLimb 158 = .ok (.lstore 18, 2) := by decide +kernel
theorem dX0_quotientLimb_160 : decode cX0_quotientLimb 160 = .ok (.iinc 20 1, 3) := by decide +kernel
theorem dX0_quotientLimb_163 : decode cX0_quotientLimb 163 = .ok (.goto (-53), 3) := by decide +kernel
theorem dX0_quotientLimb_166 : decode cX0_quotientLimb 166 = .ok (.aload_n 0, 1) := by decide +kernel
theorem dX0_quotientLimb_167 : decode cX0_quotientLimb 167 = .ok (.aload_n 1, 1) := by decide +kernel
theorem dX0_quotientLimb_168 : decode cX0_quotientLimb 168 = .ok (.iload_n 2, 1) := by decide +kernel
theorem dX0_quotientLimb_169 : decode cX0_quotientLimb 169 = .ok (.iload_n 3, 1) := by decide +kernel
theorem dX0_quotientLimb_170 : decode cX0_quotientLimb 170 = .ok (.lload 16, 2) := by decide +kernel
theorem dX0_quotientLimb_172 : decode cX0_quotientLimb 172 = .ok (.invokevirtual 85, 3) := by decide +kernel
theorem dX0_quotientLimb_175 : decode cX0_quotientLimb 175 = .ok (.ifCond .eq 16, 3) := by decide +kernel
theorem dX0_quotientLimb_178 : decode cX0_quotientLimb 178 = .ok (.aload_n 0, 1) := by decide +kernel
theorem dX0_quotientLimb_179 : decode cX0_quotientLimb 179 = .ok (.aload_n 1, 1) := by decide +kernel
theorem dX0_quotientLimb_180 : decode cX0_quotientLimb 180 = .ok (.iload_n 2, 1) := by decide +kernel
theorem dX0_quotientLimb_181 : decode cX0_quotientLimb 181 = .ok (.iload_n 3, 1) := by decide +kernel
theorem dX0_quotientLimb_182 : decode cX0_quotientLimb 182 = .ok (.invokevirtual 89, 3) := by decide +kernel
theorem dX0_quotientLimb_185 : decode cX0_quotientLimb 185 = .ok (.lload 16, 2) := by decide +kernel
theorem dX0_quotientLimb_187 : decode cX0_quotientLimb 187 = .ok (.lconst 1, 1) := by decide +kernel
theorem dX0_quotientLimb_188 : decode cX0_quotientLimb 188 = .ok (.lsub, 1) := by decide +kernel
theorem dX0_quotientLimb_189 : decode cX0_quotientLimb 189 = .ok (.lstore 16, 2) := by decide +kernel
theorem dX0_quotientLimb_191 : decode cX0_quotientLimb 191 = .ok (.lload 16, 2) := by decide +kernel
theorem dX0_quotientLimb_193 : decode cX0_quotientLimb 193 = .ok (.l2i, 1) := by decide +kernel
theorem dX0_quotientLimb_194 : decode cX0_quotientLimb 194 = .ok (.ireturn, 1) := by decide +kernel
theorem dX0_takeAway_0 : decode cX0_takeAway 0 = .ok (.aload_n 0, 1) := by decide +kernel
theorem dX0_takeAway_1 : decode cX0_takeAway 1 = .ok (.getfield 14, 3) := by decide +kernel
theorem dX0_takeAway_4 : decode cX0_takeAway 4 = .ok (.getfield 27, 3) := by decide +kernel
theorem dX0_takeAway_7 : decode cX0_takeAway 7 = .ok (.astore 6, 2) := by decide +kernel
theorem dX0_takeAway_9 : decode cX0_takeAway 9 = .ok (.lconst 0, 1) := by decide +kernel
theorem dX0_takeAway_10 : decode cX0_takeAway 10 = .ok (.lstore 7, 2) := by decide +kernel
theorem dX0_takeAway_12 : decode cX0_takeAway 12 = .ok (.lconst 0, 1) := by decide +kernel
theorem dX0_takeAway_13 : decode cX0_takeAway 13 = .ok (.lstore 9, 2) := by decide +kernel
theorem dX0_takeAway_15 : decode cX0_takeAway 15 = .ok (.iconst 0, 1) := by decide +kernel
theorem dX0_takeAway_16 : decode cX0_takeAway 16 = .ok (.istore 11, 2) := by decide +kernel
theorem dX0_takeAway_18 : decode cX0_takeAway 18 = .ok (.iload 11, 2) := by decide +kernel
theorem dX0_takeAway_20 : decode cX0_takeAway 20 = .ok (.iload_n 3, 1) := by decide +kernel
theorem dX0_takeAway_21 : decode cX0_takeAway 21 = .ok (.if_icmp .ge 73, 3) := by decide +kernel
theorem dX0_takeAway_24 : decode cX0_takeAway 24 = .ok (.lload 7, 2) := by decide +kernel
theorem dX0_takeAway_26 : decode cX0_takeAway 26 = .ok (.lload 4, 2) := by decide +kernel
theorem dX0_takeAway_28 : decode cX0_takeAway 28 = .ok (.aload 6, 2) := by decide +kernel
theorem dX0_takeAway_30 : decode cX0_takeAway 30 = .ok (.iload 11, 2) := by decide +kernel
theorem dX0_takeAway_32 : decode cX0_takeAway 32 = .ok (.iaload, 1) := by decide +kernel
theorem dX0_takeAway_33 : decode cX0_takeAway 33 = .ok (.i2l, 1) := by decide +kernel
theorem dX0_takeAway_34 : decode cX0_takeAway 34 = .ok (.ldc2_w 69, 3) := by decide +kernel
theorem dX0_takeAway_37 : decode cX0_takeAway 37 = .ok (.land, 1) := by decide +kernel
theorem dX0_takeAway_38 : decode cX0_takeAway 38 = .ok (.lmul, 1) := by decide +kernel
theorem dX0_takeAway_39 : decode cX0_takeAway 39 = .ok (.ladd, 1) := by decide +kernel
theorem dX0_takeAway_40 : decode cX0_takeAway 40 = .ok (.lstore 7, 2) := by decide +kernel
theorem dX0_takeAway_42 : decode cX0_takeAway 42 = .ok (.lload 9, 2) := by decide +kernel
theorem dX0_takeAway_44 : decode cX0_takeAway 44 = .ok (.aload_n 1, 1) := by decide +kernel
theorem dX0_takeAway_45 : decode cX0_takeAway 45 = .ok (.iload 11, 2) := by decide +kernel
theorem dX0_takeAway_47 : decode cX0_takeAway 47 = .ok (.iload_n 2, 1) := by decide +kernel
theorem dX0_takeAway_48 : decode cX0_takeAway 48 = .ok (.iadd, 1) := by decide +kernel
theorem dX0_takeAway_49 : decode cX0_takeAway 49 = .ok (.iaload, 1) := by decide +kernel
theorem dX0_takeAway_50 : decode cX0_takeAway 50 = .ok (.i2l, 1) := by decide +kernel
theorem dX0_takeAway_51 : decode cX0_takeAway 51 = .ok (.ldc2_w 69, 3) := by decide +kernel
theorem dX0_takeAway_54 : decode cX0_takeAway 54 = .ok (.land, 1) := by decide +kernel
theorem dX0_takeAway_55 : decode cX0_takeAway 55 = .ok (.lload 7, 2) := by decide +kernel
theorem dX0_takeAway_57 : decode cX0_takeAway 57 = .ok (.ldc2_w 69, 3) := by decide +kernel
theorem dX0_takeAway_60 : decode cX0_takeAway 60 = .ok (.land, 1) := by decide +kernel
theorem dX0_takeAway_61 : decode cX0_takeAway 61 = .ok (.lsub, 1) := by decide +kernel
theorem dX0_takeAway_62 : decode cX0_takeAway 62 = .ok (.ladd, 1) := by decide +kernel
theorem dX0_takeAway_63 : decode cX0_takeAway 63 = .ok (.lstore 9, 2) := by decide +kernel
theorem dX0_takeAway_65 : decode cX0_takeAway 65 = .ok (.aload_n 1, 1) := by decide +kernel
theorem dX0_takeAway_66 : decode cX0_takeAway 66 = .ok (.iload 11, 2) := by decide +kernel
theorem dX0_takeAway_68 : decode cX0_takeAway 68 = .ok (.iload_n 2, 1) := by decide +kernel
theorem dX0_takeAway_69 : decode cX0_takeAway 69 = .ok (.iadd, 1) := by decide +kernel
theorem dX0_takeAway_70 : decode cX0_takeAway 70 = .ok (.lload 9, 2) := by decide +kernel
theorem dX0_takeAway_72 : decode cX0_takeAway 72 = .ok (.l2i, 1) := by decide +kernel
theorem dX0_takeAway_73 : decode cX0_takeAway 73 = .ok (.iastore, 1) := by decide +kernel
theorem dX0_takeAway_74 : decode cX0_takeAway 74 = .ok (.lload 7, 2) := by decide +kernel
theorem dX0_takeAway_76 : decode cX0_takeAway 76 = .ok (.bipush 32, 2) := by decide +kernel
theorem dX0_takeAway_78 : decode cX0_takeAway 78 = .ok (.lushr, 1) := by decide +kernel
theorem dX0_takeAway_79 : decode cX0_takeAway 79 = .ok (.lstore 7, 2) := by decide +kernel
theorem dX0_takeAway_81 : decode cX0_takeAway 81 = .ok (.lload 9, 2) := by decide +kernel
theorem dX0_takeAway_83 : decode cX0_takeAway 83 = .ok (.bipush 32, 2) := by decide +kernel
theorem dX0_takeAway_85 : decode cX0_takeAway 85 = .ok (.lshr, 1) := by decide +kernel
theorem dX0_takeAway_86 : decode cX0_takeAway 86 = .ok (.lstore 9, 2) := by decide +kernel
theorem dX0_takeAway_88 : decode cX0_takeAway 88 = .ok (.iinc 11 1, 3) := by decide +kernel
theorem dX0_takeAway_91 : decode cX0_takeAway 91 = .ok (.goto (-73), 3) := by decide +kernel
theorem dX0_takeAway_94 : decode cX0_takeAway 94 = .ok (.lload 9, 2) := by decide +kernel
theorem dX0_takeAway_96 : decode cX0_takeAway 96 = .ok (.aload_n 1, 1) := by decide +kernel
theorem dX0_takeAway_97 : decode cX0_takeAway 97 = .ok (.iload_n 2, 1) := by decide +kernel
theorem dX0_takeAway_98 : decode cX0_takeAway 98 = .ok (.iload_n 3, 1) := by decide +kernel
theorem dX0_takeAway_99 : decode cX0_takeAway 99 = .ok (.iadd, 1) := by decide +kernel
theorem dX0_takeAway_100 : decode cX0_takeAway 100 = .ok (.iaload, 1) := by decide +kernel
theorem dX0_takeAway_101 : decode cX0_takeAway 101 = .ok (.i2l, 1) := by decide +kernel
theorem dX0_takeAway_102 : decode cX0_takeAway 102 = .ok (.ldc2_w 69, 3) := by decide +kernel
theorem dX0_takeAway_105 : decode cX0_takeAway 105 = .ok (.land, 1) := by decide +kernel
theorem dX0_takeAway_106 : decode cX0_takeAway 106 = .ok (.lload 7, 2) := by decide +kernel
theorem dX0_takeAway_108 : decode cX0_takeAway 108 = .ok (.lsub, 1) := by decide +kernel
theorem dX0_takeAway_109 : decode cX0_takeAway 109 = .ok (.ladd, 1) := by decide +kernel
theorem dX0_takeAway_110 : decode cX0_takeAway 110 = .ok (.lstore 9, 2) := by decide +kernel
theorem dX0_takeAway_112 : decode cX0_takeAway 112 = .ok (.aload_n 1, 1) := by decide +kernel
theorem dX0_takeAway_113 : decode cX0_takeAway 113 = .ok (.iload_n 2, 1) := by decide +kernel
theorem dX0_takeAway_114 : decode cX0_takeAway 114 = .ok (.iload_n 3, 1) := by decide +kernel
theorem dX0_takeAway_115 : decode cX0_takeAway 115 = .ok (.iadd, 1) := by decide +kernel
theorem dX0_takeAway_116 : decode cX0_takeAway 116 = .ok (.lload 9, 2) := by decide +kernel
theorem dX0_takeAway_118 : decode cX0_takeAway 118 = .ok (.l2i, 1) := by decide +kernel
theorem dX0_takeAway_119 : decode cX0_takeAway 119 = .ok (.iastore, 1) := by decide +kernel
theorem dX0_takeAway_120 : decode cX0_takeAway 120 = .ok (.lload 9, 2) := by decide +kernel
theorem dX0_takeAway_122 : decode cX0_takeAway 122 = .ok (.lconst 0, 1) := by decide +kernel
theorem dX0_takeAway_123 : decode cX0_takeAway 123 = .ok (.lcmp, 1) := by decide +kernel
theorem dX0_takeAway_124 : decode cX0_takeAway 124 = .ok (.ifCond .ge 7, 3) := by decide +kernel
theorem dX0_takeAway_127 : decode cX0_takeAway 127 = .ok (.iconst 1, 1) := by decide +kernel
theorem dX0_takeAway_128 : decode cX0_takeAway 128 = .ok (.goto 4, 3) := by decide +kernel
theorem dX0_takeAway_131 : decode cX0_takeAway 131 = .ok (.iconst 0, 1) := by decide +kernel
theorem dX0_takeAway_132 : decode cX0_takeAway 132 = .ok (.ireturn, 1) := by decide +kernel
theorem dX0_giveBack_0 : decode cX0_giveBack 0 = .ok (.lconst 0, 1) := by decide +kernel
theorem dX0_giveBack_1 : decode cX0_giveBack 1 = .ok (.lstore 4, 2) := by decide +kernel
theorem dX0_giveBack_3 : decode cX0_giveBack 3 = .ok (.iconst 0, 1) := by decide +kernel
theorem dX0_giveBack_4 : decode cX0_giveBack 4 = .ok (.istore 6, 2) := by decide +kernel
theorem dX0_giveBack_6 : decode cX0_giveBack 6 = .ok (.iload 6, 2) := by decide +kernel
theorem dX0_giveBack_8 : decode cX0_giveBack 8 = .ok (.iload_n 3, 1) := by decide +kernel
theorem dX0_giveBack_9 : decode cX0_giveBack 9 = .ok (.if_icmp .ge 51, 3) := by decide +kernel
theorem dX0_giveBack_12 : decode cX0_giveBack 12 = .ok (.lload 4, 2) := by decide +kernel
theorem dX0_giveBack_14 : decode cX0_giveBack 14 = .ok (.aload_n 1, 1) := by decide +kernel
theorem dX0_giveBack_15 : decode cX0_giveBack 15 = .ok (.iload 6, 2) := by decide +kernel
theorem dX0_giveBack_17 : decode cX0_giveBack 17 = .ok (.iload_n 2, 1) := by decide +kernel
theorem dX0_giveBack_18 : decode cX0_giveBack 18 = .ok (.iadd, 1) := by decide +kernel
theorem dX0_giveBack_19 : decode cX0_giveBack 19 = .ok (.iaload, 1) := by decide +kernel
theorem dX0_giveBack_20 : decode cX0_giveBack 20 = .ok (.i2l, 1) := by decide +kernel
theorem dX0_giveBack_21 : decode cX0_giveBack 21 = .ok (.ldc2_w 69, 3) := by decide +kernel
theorem dX0_giveBack_24 : decode cX0_giveBack 24 = .ok (.land, 1) := by decide +kernel
theorem dX0_giveBack_25 : decode cX0_giveBack 25 = .ok (.aload_n 0, 1) := by decide +kernel
theorem dX0_giveBack_26 : decode cX0_giveBack 26 = .ok (.getfield 14, 3) := by decide +kernel
theorem dX0_giveBack_29 : decode cX0_giveBack 29 = .ok (.iload 6, 2) := by decide +kernel
theorem dX0_giveBack_31 : decode cX0_giveBack 31 = .ok (.invokevirtual 71, 3) := by decide +kernel
theorem dX0_giveBack_34 : decode cX0_giveBack 34 = .ok (.ladd, 1) := by decide +kernel
theorem dX0_giveBack_35 : decode cX0_giveBack 35 = .ok (.ladd, 1) := by decide +kernel
theorem dX0_giveBack_36 : decode cX0_giveBack 36 = .ok (.lstore 4, 2) := by decide +kernel
theorem dX0_giveBack_38 : decode cX0_giveBack 38 = .ok (.aload_n 1, 1) := by decide +kernel
theorem dX0_giveBack_39 : decode cX0_giveBack 39 = .ok (.iload 6, 2) := by decide +kernel
theorem dX0_giveBack_41 : decode cX0_giveBack 41 = .ok (.iload_n 2, 1) := by decide +kernel
theorem dX0_giveBack_42 : decode cX0_giveBack 42 = .ok (.iadd, 1) := by decide +kernel
theorem dX0_giveBack_43 : decode cX0_giveBack 43 = .ok (.lload 4, 2) := by decide +kernel
theorem dX0_giveBack_45 : decode cX0_giveBack 45 = .ok (.l2i, 1) := by decide +kernel
theorem dX0_giveBack_46 : decode cX0_giveBack 46 = .ok (.iastore, 1) := by decide +kernel
theorem dX0_giveBack_47 : decode cX0_giveBack 47 = .ok (.lload 4, 2) := by decide +kernel
theorem dX0_giveBack_49 : decode cX0_giveBack 49 = .ok (.bipush 32, 2) := by decide +kernel
theorem dX0_giveBack_51 : decode cX0_giveBack 51 = .ok (.lushr, 1) := by decide +kernel
theorem dX0_giveBack_52 : decode cX0_giveBack 52 = .ok (.lstore 4, 2) := by decide +kernel
theorem dX0_giveBack_54 : decode cX0_giveBack 54 = .ok (.iinc 6 1, 3) := by decide +kernel
theorem dX0_giveBack_57 : decode cX0_giveBack 57 = .ok (.goto (-51), 3) := by decide +kernel
theorem dX0_giveBack_60 : decode cX0_giveBack 60 = .ok (.aload_n 1, 1) := by decide +kernel
theorem dX0_giveBack_61 : decode cX0_giveBack 61 = .ok (.iload_n 2, 1) := by decide +kernel
theorem dX0_giveBack_62 : decode cX0_giveBack 62 = .ok (.iload_n 3, 1) := by decide +kernel
theorem dX0_giveBack_63 : decode cX0_giveBack 63 = .ok (.iadd, 1) := by decide +kernel
theorem dX0_giveBack_64 : decode cX0_giveBack 64 = .ok (.dup2, 1) := by decide +kernel
theorem dX0_giveBack_65 : decode cX0_giveBack 65 = .ok (.iaload, 1) := by decide +kernel
theorem dX0_giveBack_66 : decode cX0_giveBack 66 = .ok (.lload 4, 2) := by decide +kernel
theorem dX0_giveBack_68 : decode cX0_giveBack 68 = .ok (.l2i, 1) := by decide +kernel
theorem dX0_giveBack_69 : decode cX0_giveBack 69 = .ok (.iadd, 1) := by decide +kernel
theorem dX0_giveBack_70 : decode cX0_giveBack 70 = .ok (.iastore, 1) := by decide +kernel
theorem dX0_giveBack_71 : decode cX0_giveBack 71 = .ok (.return_, 1) := by decide +kernel
theorem dX1_init_0 : decode cX1_init 0 = .ok (.aload_n 0, 1) := by decide +kernel
theorem dX1_init_1 : decode cX1_init 1 = .ok (.invokespecial 3, 3) := by decide +kernel
theorem dX1_init_4 : decode cX1_init 4 = .ok (.aload_n 0, 1) := by decide +kernel
theorem dX1_init_5 : decode cX1_init 5 = .ok (.aload_n 2, 1) := by decide +kernel
theorem dX1_init_6 : decode cX1_init 6 = .ok (.putfield 9, 3) := by decide +kernel
theorem dX1_init_9 : decode cX1_init 9 = .ok (.aload_n 0, 1) := by decide +kernel
theorem dX1_init_10 : decode cX1_init 10 = .ok (.new 15, 3) := by decide +kernel
theorem dX1_init_13 : decode cX1_init 13 = .ok (.dup, 1) := by decide +kernel
