theorem dX10_inverse_76 : decode cX10_inverse 76 = .ok (.ifCond .eq 5, 3) := by decide +kernel
theorem dX10_inverse_79 : decode cX10_inverse 79 = .ok (.iconst 2, 1) := by decide +kernel
theorem dX10_inverse_80 : decode cX10_inverse 80 = .ok (.ireturn, 1) := by decide +kernel
theorem dX10_inverse_81 : decode cX10_inverse 81 = .ok (.aload_n 0, 1) := by decide +kernel
theorem dX10_inverse_82 : decode cX10_inverse 82 = .ok (.getfield 64, 3) := by decide +kernel
theorem dX10_inverse_85 : decode cX10_inverse 85 = .ok (.aload_n 0, 1) := by decide +kernel
theorem dX10_inverse_86 : decode cX10_inverse 86 = .ok (.getfield 91, 3) := by decide +kernel
theorem dX10_inverse_89 : decode cX10_inverse 89 = .ok (.aload_n 0, 1) := by decide +kernel
theorem dX10_inverse_90 : decode cX10_inverse 90 = .ok (.getfield 57, 3) := by decide +kernel
theorem dX10_inverse_93 : decode cX10_inverse 93 = .ok (.getfield 193, 3) := by decide +kernel
theorem dX10_inverse_96 : decode cX10_inverse 96 = .ok (.aload 4, 2) := by decide +kernel
theorem dX10_inverse_98 : decode cX10_inverse 98 = .ok (.invokevirtual 203, 3) := by decide +kernel
theorem dX10_inverse_101 : decode cX10_inverse 101 = .ok (.aload_n 0, 1) := by decide +kernel
theorem dX10_inverse_102 : decode cX10_inverse 102 = .ok (.iload_n 1, 1) := by decide +kernel
theorem dX10_inverse_103 : decode cX10_inverse 103 = .ok (.aload_n 0, 1) := by decide +kernel
theorem dX10_inverse_104 : decode cX10_inverse 104 = .ok (.getfield 91, 3) := by decide +kernel
theorem dX10_inverse_107 : decode cX10_inverse 107 = .ok (.invokevirtual 126, 3) := by decide +kernel
theorem dX10_inverse_110 : decode cX10_inverse 110 = .ok (.ireturn, 1) := by decide +kernel
theorem dX10_power_0 : decode cX10_power 0 = .ok (.aload_n 0, 1) := by decide +kernel
theorem dX10_power_1 : decode cX10_power 1 = .ok (.iload_n 1, 1) := by decide +kernel
theorem dX10_power_2 : decode cX10_power 2 = .ok (.iload_n 2, 1) := by decide +kernel
theorem dX10_power_3 : decode cX10_power 3 = .ok (.invokevirtual 130, 3) := by decide +kernel
theorem dX10_power_6 : decode cX10_power 6 = .ok (.ifCond .eq 13, 3) := by decide +kernel
theorem dX10_power_9 : decode cX10_power 9 = .ok (.aload_n 0, 1) := by decide +kernel
theorem dX10_power_10 : decode cX10_power 10 = .ok (.iload_n 3, 1) := by decide +kernel
theorem dX10_power_11 : decode cX10_power 11 = .ok (.iload 4, 2) := by decide +kernel
theorem dX10_power_13 : decode cX10_power 13 = .ok (.invokevirtual 130, 3) := by decide +kernel
theorem dX10_power_16 : decode cX10_power 16 = .ok (.ifCond .ne 5, 3) := by decide +kernel
theorem dX10_power_19 : decode cX10_power 19 = .ok (.iconst 3, 1) := by decide +kernel
theorem dX10_power_20 : decode cX10_power 20 = .ok (.ireturn, 1) := by decide +kernel
theorem dX10_power_21 : decode cX10_power 21 = .ok (.aload_n 0, 1) := by decide +kernel
theorem dX10_power_22 : decode cX10_power 22 = .ok (.getfield 24, 3) := by decide +kernel
theorem dX10_power_25 : decode cX10_power 25 = .ok (.iload_n 3, 1) := by decide +kernel
theorem dX10_power_26 : decode cX10_power 26 = .ok (.aaload, 1) := by decide +kernel
theorem dX10_power_27 : decode cX10_power 27 = .ok (.getfield 118, 3) := by decide +kernel
theorem dX10_power_30 : decode cX10_power 30 = .ok (.ifCond .ne 16, 3) := by decide +kernel
theorem dX10_power_33 : decode cX10_power 33 = .ok (.aload_n 0, 1) := by decide +kernel
theorem dX10_power_34 : decode cX10_power 34 = .ok (.getfield 24, 3) := by decide +kernel
theorem dX10_power_37 : decode cX10_power 37 = .ok (.iload 4, 2) := by decide +kernel
theorem dX10_power_39 : decode cX10_power 39 = .ok (.aaload, 1) := by decide +kernel
theorem dX10_power_40 : decode cX10_power 40 = .ok (.invokevirtual 199, 3) := by decide +kernel
theorem dX10_power_43 : decode cX10_power 43 = .ok (.ifCond .ne 5, 3) := by decide +kernel
theorem dX10_power_46 : decode cX10_power 46 = .ok (.iconst 2, 1) := by decide +kernel
theorem dX10_power_47 : decode cX10_power 47 = .ok (.ireturn, 1) := by decide +kernel
theorem dX10_power_48 : decode cX10_power 48 = .ok (.aload_n 0, 1) := by decide +kernel
theorem dX10_power_49 : decode cX10_power 49 = .ok (.iload_n 1, 1) := by decide +kernel
theorem dX10_power_50 : decode cX10_power 50 = .ok (.aload_n 0, 1) := by decide +kernel
theorem dX10_power_51 : decode cX10_power 51 = .ok (.getfield 64, 3) := by decide +kernel
theorem dX10_power_54 : decode cX10_power 54 = .ok (.aload_n 0, 1) := by decide +kernel
theorem dX10_power_55 : decode cX10_power 55 = .ok (.getfield 24, 3) := by decide +kernel
theorem dX10_power_58 : decode cX10_power 58 = .ok (.iload_n 2, 1) := by decide +kernel
theorem dX10_power_59 : decode cX10_power 59 = .ok (.aaload, 1) := by decide +kernel
theorem dX10_power_60 : decode cX10_power 60 = .ok (.aload_n 0, 1) := by decide +kernel
theorem dX10_power_61 : decode cX10_power 61 = .ok (.getfield 24, 3) := by decide +kernel
theorem dX10_power_64 : decode cX10_power 64 = .ok (.iload_n 3, 1) := by decide +kernel
theorem dX10_power_65 : decode cX10_power 65 = .ok (.aaload, 1) := by decide +kernel
theorem dX10_power_66 : decode cX10_power 66 = .ok (.aload_n 0, 1) := by decide +kernel
theorem dX10_power_67 : decode cX10_power 67 = .ok (.getfield 24, 3) := by decide +kernel
theorem dX10_power_70 : decode cX10_power 70 = .ok (.iload 4, 2) := by decide +kernel
theorem dX10_power_72 : decode cX10_power 72 = .ok (.aaload, 1) := by decide +kernel
theorem dX10_power_73 : decode cX10_power 73 = .ok (.invokevirtual 206, 3) := by decide +kernel
theorem dX10_power_76 : decode cX10_power 76 = .ok (.invokevirtual 126, 3) := by decide +kernel
theorem dX10_power_79 : decode cX10_power 79 = .ok (.ireturn, 1) := by decide +kernel
theorem dX10_isqrt_0 : decode cX10_isqrt 0 = .ok (.aload_n 0, 1) := by decide +kernel
theorem dX10_isqrt_1 : decode cX10_isqrt 1 = .ok (.iload_n 1, 1) := by decide +kernel
theorem dX10_isqrt_2 : decode cX10_isqrt 2 = .ok (.iload_n 2, 1) := by decide +kernel
theorem dX10_isqrt_3 : decode cX10_isqrt 3 = .ok (.invokevirtual 130, 3) := by decide +kernel
theorem dX10_isqrt_6 : decode cX10_isqrt 6 = .ok (.ifCond .ne 5, 3) := by decide +kernel
theorem dX10_isqrt_9 : decode cX10_isqrt 9 = .ok (.iconst 3, 1) := by decide +kernel
theorem dX10_isqrt_10 : decode cX10_isqrt 10 = .ok (.ireturn, 1) := by decide +kernel
theorem dX10_isqrt_11 : decode cX10_isqrt 11 = .ok (.aload_n 0, 1) := by decide +kernel
theorem dX10_isqrt_12 : decode cX10_isqrt 12 = .ok (.getfield 24, 3) := by decide +kernel
theorem dX10_isqrt_15 : decode cX10_isqrt 15 = .ok (.iload_n 2, 1) := by decide +kernel
theorem dX10_isqrt_16 : decode cX10_isqrt 16 = .ok (.aaload, 1) := by decide +kernel
theorem dX10_isqrt_17 : decode cX10_isqrt 17 = .ok (.getfield 118, 3) := by decide +kernel
theorem dX10_isqrt_20 : decode cX10_isqrt 20 = .ok (.ifCond .eq 5, 3) := by decide +kernel
theorem dX10_isqrt_23 : decode cX10_isqrt 23 = .ok (.iconst 2, 1) := by decide +kernel
theorem dX10_isqrt_24 : decode cX10_isqrt 24 = .ok (.ireturn, 1) := by decide +kernel
theorem dX10_isqrt_25 : decode cX10_isqrt 25 = .ok (.aload_n 0, 1) := by decide +kernel
theorem dX10_isqrt_26 : decode cX10_isqrt 26 = .ok (.iload_n 1, 1) := by decide +kernel
theorem dX10_isqrt_27 : decode cX10_isqrt 27 = .ok (.aload_n 0, 1) := by decide +kernel
theorem dX10_isqrt_28 : decode cX10_isqrt 28 = .ok (.getfield 71, 3) := by decide +kernel
theorem dX10_isqrt_31 : decode cX10_isqrt 31 = .ok (.aload_n 0, 1) := by decide +kernel
theorem dX10_isqrt_32 : decode cX10_isqrt 32 = .ok (.getfield 24, 3) := by decide +kernel
theorem dX10_isqrt_35 : decode cX10_isqrt 35 = .ok (.iload_n 2, 1) := by decide +kernel
theorem dX10_isqrt_36 : decode cX10_isqrt 36 = .ok (.aaload, 1) := by decide +kernel
theorem dX10_isqrt_37 : decode cX10_isqrt 37 = .ok (.iconst 2, 1) := by decide +kernel
theorem dX10_isqrt_38 : decode cX10_isqrt 38 = .ok (.invokevirtual 210, 3) := by decide +kernel
theorem dX10_isqrt_41 : decode cX10_isqrt 41 = .ok (.invokevirtual 126, 3) := by decide +kernel
theorem dX10_isqrt_44 : decode cX10_isqrt 44 = .ok (.ireturn, 1) := by decide +kernel
theorem dX10_root_0 : decode cX10_root 0 = .ok (.aload_n 0, 1) := by decide +kernel
theorem dX10_root_1 : decode cX10_root 1 = .ok (.iload_n 1, 1) := by decide +kernel
theorem dX10_root_2 : decode cX10_root 2 = .ok (.iload_n 2, 1) := by decide +kernel
theorem dX10_root_3 : decode cX10_root 3 = .ok (.invokevirtual 130, 3) := by decide +kernel
theorem dX10_root_6 : decode cX10_root 6 = .ok (.ifCond .ne 5, 3) := by decide +kernel
theorem dX10_root_9 : decode cX10_root 9 = .ok (.iconst 3, 1) := by decide +kernel
theorem dX10_root_10 : decode cX10_root 10 = .ok (.ireturn, 1) := by decide +kernel
theorem dX10_root_11 : decode cX10_root 11 = .ok (.aload_n 0, 1) := by decide +kernel
theorem dX10_root_12 : decode cX10_root 12 = .ok (.getfield 24, 3) := by decide +kernel
theorem dX10_root_15 : decode cX10_root 15 = .ok (.iload_n 2, 1) := by decide +kernel
theorem dX10_root_16 : decode cX10_root 16 = .ok (.aaload, 1) := by decide +kernel
theorem dX10_root_17 : decode cX10_root 17 = .ok (.getfield 118, 3) := by decide +kernel
theorem dX10_root_20 : decode cX10_root 20 = .ok (.ifCond .ne 8, 3) := by decide +kernel
theorem dX10_root_23 : decode cX10_root 23 = .ok (.iload_n 3, 1) := by decide +kernel
theorem dX10_root_24 : decode cX10_root 24 = .ok (.iconst 1, 1) := by decide +kernel
theorem dX10_root_25 : decode cX10_root 25 = .ok (.if_icmp .ge 5, 3) := by decide +kernel
theorem dX10_root_28 : decode cX10_root 28 = .ok (.iconst 2, 1) := by decide +kernel
theorem dX10_root_29 : decode cX10_root 29 = .ok (.ireturn, 1) := by decide +kernel
theorem dX10_root_30 : decode cX10_root 30 = .ok (.aload_n 0, 1) := by decide +kernel
theorem dX10_root_31 : decode cX10_root 31 = .ok (.iload_n 1, 1) := by decide +kernel
theorem dX10_root_32 : decode cX10_root 32 = .ok (.aload_n 0, 1) := by decide +kernel
theorem dX10_root_33 : decode cX10_root 33 = .ok (.getfield 71, 3) := by decide +kernel
theorem dX10_root_36 : decode cX10_root 36 = .ok (.aload_n 0, 1) := by decide +kernel
theorem dX10_root_37 : decode cX10_root 37 = .ok (.getfield 24, 3) := by decide +kernel
theorem dX10_root_40 : decode cX10_root 40 = .ok (.iload_n 2, 1) := by decide +kernel
theorem dX10_root_41 : decode cX10_root 41 = .ok (.aaload, 1) := by decide +kernel
theorem dX10_root_42 : decode cX10_root 42 = .ok (.iload_n 3, 1) := by decide +kernel
theorem dX10_root_43 : decode cX10_root 43 = .ok (.invokevirtual 210, 3) := by decide +kernel
theorem dX10_root_46 : decode cX10_root 46 = .ok (.invokevirtual 126, 3) := by decide +kernel
theorem dX10_root_49 : decode cX10_root 49 = .ok (.ireturn, 1) := by decide +kernel
theorem dX10_isSquare_0 : decode cX10_isSquare 0 = .ok (.aload_n 0, 1) := by decide +kernel
theorem dX10_isSquare_1 : decode cX10_isSquare 1 = .ok (.iload_n 1, 1) := by decide +kernel
theorem dX10_isSquare_2 : decode cX10_isSquare 2 = .ok (.invokevirtual 104, 3) := by decide +kernel
theorem dX10_isSquare_5 : decode cX10_isSquare 5 = .ok (.ifCond .ne 5, 3) := by decide +kernel
theorem dX10_isSquare_8 : decode cX10_isSquare 8 = .ok (.iconst 3, 1) := by decide +kernel
theorem dX10_isSquare_9 : decode cX10_isSquare 9 = .ok (.ireturn, 1) := by decide +kernel
theorem dX10_isSquare_10 : decode cX10_isSquare 10 = .ok (.aload_n 0, 1) := by decide +kernel
theorem dX10_isSquare_11 : decode cX10_isSquare 11 = .ok (.getfield 24, 3) := by decide +kernel
theorem dX10_isSquare_14 : decode cX10_isSquare 14 = .ok (.iload_n 1, 1) := by decide +kernel
theorem dX10_isSquare_15 : decode cX10_isSquare 15 = .ok (.aaload, 1) := by decide +kernel
theorem dX10_isSquare_16 : decode cX10_isSquare 16 = .ok (.astore_n 2, 1) := by decide +kernel
theorem dX10_isSquare_17 : decode cX10_isSquare 17 = .ok (.aload_n 2, 1) := by decide +kernel
theorem dX10_isSquare_18 : decode cX10_isSquare 18 = .ok (.getfield 118, 3) := by decide +kernel
theorem dX10_isSquare_21 : decode cX10_isSquare 21 = .ok (.ifCond .eq 5, 3) := by decide +kernel
theorem dX10_isSquare_24 : decode cX10_isSquare 24 = .ok (.iconst 0, 1) := by decide +kernel
theorem dX10_isSquare_25 : decode cX10_isSquare 25 = .ok (.ireturn, 1) := by decide +kernel
theorem dX10_isSquare_26 : decode cX10_isSquare 26 = .ok (.aload_n 0, 1) := by decide +kernel
theorem dX10_isSquare_27 : decode cX10_isSquare 27 = .ok (.getfield 71, 3) := by decide +kernel
theorem dX10_isSquare_30 : decode cX10_isSquare 30 = .ok (.aload_n 2, 1) := by decide +kernel
theorem dX10_isSquare_31 : decode cX10_isSquare 31 = .ok (.iconst 2, 1) := by decide +kernel
theorem dX10_isSquare_32 : decode cX10_isSquare 32 = .ok (.invokevirtual 210, 3) := by decide +kernel
theorem dX10_isSquare_35 : decode cX10_isSquare 35 = .ok (.astore_n 3, 1) := by decide +kernel
theorem dX10_isSquare_36 : decode cX10_isSquare 36 = .ok (.aload_n 0, 1) := by decide +kernel
theorem dX10_isSquare_37 : decode cX10_isSquare 37 = .ok (.getfield 91, 3) := by decide +kernel
theorem dX10_isSquare_40 : decode cX10_isSquare 40 = .ok (.aload_n 3, 1) := by decide +kernel
theorem dX10_isSquare_41 : decode cX10_isSquare 41 = .ok (.aload_n 3, 1) := by decide +kernel
theorem dX10_isSquare_42 : decode cX10_isSquare 42 = .ok (.invokestatic 145, 3) := by decide +kernel
theorem dX10_isSquare_45 : decode cX10_isSquare 45 = .ok (.aload_n 0, 1) := by decide +kernel
theorem dX10_isSquare_46 : decode cX10_isSquare 46 = .ok (.getfield 91, 3) := by decide +kernel
theorem dX10_isSquare_49 : decode cX10_isSquare 49 = .ok (.aload_n 2, 1) := by decide +kernel
theorem dX10_isSquare_50 : decode cX10_isSquare 50 = .ok (.invokestatic 168, 3) := by decide +kernel
theorem dX10_isSquare_53 : decode cX10_isSquare 53 = .ok (.ifCond .ne 7, 3) := by decide +kernel
theorem dX10_isSquare_56 : decode cX10_isSquare 56 = .ok (.iconst 1, 1) := by decide +kernel
theorem dX10_isSquare_57 : decode cX10_isSquare 57 = .ok (.goto 4, 3) := by decide +kernel
theorem dX10_isSquare_60 : decode cX10_isSquare 60 = .ok (.iconst 0, 1) := by decide +kernel
theorem dX10_isSquare_61 : decode cX10_isSquare 61 = .ok (.ireturn, 1) := by decide +kernel
theorem dX10_jacobi_0 : decode cX10_jacobi 0 = .ok (.aload_n 0, 1) := by decide +kernel
theorem dX10_jacobi_1 : decode cX10_jacobi 1 = .ok (.iload_n 1, 1) := by decide +kernel
theorem dX10_jacobi_2 : decode cX10_jacobi 2 = .ok (.iload_n 2, 1) := by decide +kernel
theorem dX10_jacobi_3 : decode cX10_jacobi 3 = .ok (.invokevirtual 130, 3) := by decide +kernel
theorem dX10_jacobi_6 : decode cX10_jacobi 6 = .ok (.ifCond .ne 5, 3) := by decide +kernel
theorem dX10_jacobi_9 : decode cX10_jacobi 9 = .ok (.iconst 3, 1) := by decide +kernel
theorem dX10_jacobi_10 : decode cX10_jacobi 10 = .ok (.ireturn, 1) := by decide +kernel
theorem dX10_jacobi_11 : decode cX10_jacobi 11 = .ok (.aload_n 0, 1) := by decide +kernel
theorem dX10_jacobi_12 : decode cX10_jacobi 12 = .ok (.getfield 24, 3) := by decide +kernel
theorem dX10_jacobi_15 : decode cX10_jacobi 15 = .ok (.iload_n 2, 1) := by decide +kernel
theorem dX10_jacobi_16 : decode cX10_jacobi 16 = .ok (.aaload, 1) := by decide +kernel
theorem dX10_jacobi_17 : decode cX10_jacobi 17 = .ok (.astore_n 3, 1) := by decide +kernel
theorem dX10_jacobi_18 : decode cX10_jacobi 18 = .ok (.aload_n 3, 1) := by decide +kernel
theorem dX10_jacobi_19 : decode cX10_jacobi 19 = .ok (.invokevirtual 199, 3) := by decide +kernel
theorem dX10_jacobi_22 : decode cX10_jacobi 22 = .ok (.ifCond .eq 10, 3) := by decide +kernel
theorem dX10_jacobi_25 : decode cX10_jacobi 25 = .ok (.aload_n 3, 1) := by decide +kernel
theorem dX10_jacobi_26 : decode cX10_jacobi 26 = .ok (.invokevirtual 213, 3) := by decide +kernel
theorem dX10_jacobi_29 : decode cX10_jacobi 29 = .ok (.ifCond .ne 5, 3) := by decide +kernel
theorem dX10_jacobi_32 : decode cX10_jacobi 32 = .ok (.iconst 2, 1) := by decide +kernel
theorem dX10_jacobi_33 : decode cX10_jacobi 33 = .ok (.ireturn, 1) := by decide +kernel
theorem dX10_jacobi_34 : decode cX10_jacobi 34 = .ok (.aload_n 0, 1) := by decide +kernel
theorem dX10_jacobi_35 : decode cX10_jacobi 35 = .ok (.getfield 64, 3) := by decide +kernel
theorem dX10_jacobi_38 : decode cX10_jacobi 38 = .ok (.aload_n 0, 1) := by decide +kernel
theorem dX10_jacobi_39 : decode cX10_jacobi 39 = .ok (.getfield 24, 3) := by decide +kernel
theorem dX10_jacobi_42 : decode cX10_jacobi 42 = .ok (.iload_n 1, 1) := by decide +kernel
theorem dX10_jacobi_43 : decode cX10_jacobi 43 = .ok (.aaload, 1) := by decide +kernel
theorem dX10_jacobi_44 : decode cX10_jacobi 44 = .ok (.aload_n 3, 1) := by decide +kernel
theorem dX10_jacobi_45 : decode cX10_jacobi 45 = .ok (.invokevirtual 216, 3) := by decide +kernel
theorem dX10_jacobi_48 : decode cX10_jacobi 48 = .ok (.ireturn, 1) := by decide +kernel
theorem dX10_sign_0 : decode cX10_sign 0 = .ok (.aload_n 0, 1) := by decide +kernel
theorem dX10_sign_1 : decode cX10_sign 1 = .ok (.iload_n 1, 1) := by decide +kernel
theorem dX10_sign_2 : decode cX10_sign 2 = .ok (.invokevirtual 219, 3) := by decide +kernel
theorem dX10_sign_5 : decode cX10_sign 5 = .ok (.astore_n 2, 1) := by decide +kernel
theorem dX10_sign_6 : decode cX10_sign 6 = .ok (.aload_n 2, 1) := by decide +kernel
theorem dX10_sign_7 : decode cX10_sign 7 = .ok (.getfield 148, 3) := by decide +kernel
theorem dX10_sign_10 : decode cX10_sign 10 = .ok (.ifCond .ne 5, 3) := by decide +kernel
theorem dX10_sign_13 : decode cX10_sign 13 = .ok (.iconst 0, 1) := by decide +kernel
theorem dX10_sign_14 : decode cX10_sign 14 = .ok (.ireturn, 1) := by decide +kernel
theorem dX10_sign_15 : decode cX10_sign 15 = .ok (.aload_n 2, 1) := by decide +kernel
theorem dX10_sign_16 : decode cX10_sign 16 = .ok (.getfield 118, 3) := by decide +kernel
theorem dX10_sign_19 : decode cX10_sign 19 = .ok (.ifCond .eq 7, 3) := by decide +kernel
theorem dX10_sign_22 : decode cX10_sign 22 = .ok (.iconst (-1), 1) := by decide +kernel
theorem dX10_sign_23 : decode cX10_sign 23 = .ok (.goto 4, 3) := by decide +kernel
theorem dX10_sign_26 : decode cX10_sign 26 = .ok (.iconst 1, 1) := by decide +kernel
theorem dX10_sign_27 : decode cX10_sign 27 = .ok (.ireturn, 1) := by decide +kernel
theorem dX10_length_0 : decode cX10_length 0 = .ok (.aload_n 0, 1) := by decide +kernel
theorem dX10_length_1 : decode cX10_length 1 = .ok (.iload_n 1, 1) := by decide +kernel
theorem dX10_length_2 : decode cX10_length 2 = .ok (.invokevirtual 219, 3) := by decide +kernel
theorem dX10_length_5 : decode cX10_length 5 = .ok (.getfield 148, 3) := by decide +kernel
theorem dX10_length_8 : decode cX10_length 8 = .ok (.ireturn, 1) := by decide +kernel
theorem dX10_limbAt_0 : decode cX10_limbAt 0 = .ok (.aload_n 0, 1) := by decide +kernel
theorem dX10_limbAt_1 : decode cX10_limbAt 1 = .ok (.iload_n 1, 1) := by decide +kernel
theorem dX10_limbAt_2 : decode cX10_limbAt 2 = .ok (.invokevirtual 219, 3) := by decide +kernel
theorem dX10_limbAt_5 : decode cX10_limbAt 5 = .ok (.iload_n 2, 1) := by decide +kernel
theorem dX10_limbAt_6 : decode cX10_limbAt 6 = .ok (.invokevirtual 223, 3) := by decide +kernel
theorem dX10_limbAt_9 : decode cX10_limbAt 9 = .ok (.l2i, 1) := by decide +kernel
theorem dX10_limbAt_10 : decode cX10_limbAt 10 = .ok (.ireturn, 1) := by decide +kernel
theorem dX10_feed_0 : decode cX10_feed 0 = .ok (.aload_n 0, 1) := by decide +kernel
theorem dX10_feed_1 : decode cX10_feed 1 = .ok (.getfield 78, 3) := by decide +kernel
theorem dX10_feed_4 : decode cX10_feed 4 = .ok (.getfield 227, 3) := by decide +kernel
theorem dX10_feed_7 : decode cX10_feed 7 = .ok (.sipush 980, 3) := by decide +kernel
theorem dX10_feed_10 : decode cX10_feed 10 = .ok (.if_icmp .le 5, 3) := by decide +kernel
theorem dX10_feed_13 : decode cX10_feed 13 = .ok (.iconst (-1), 1) := by decide +kernel
theorem dX10_feed_14 : decode cX10_feed 14 = .ok (.ireturn, 1) := by decide +kernel
theorem dX10_feed_15 : decode cX10_feed 15 = .ok (.aload_n 0, 1) := by decide +kernel
theorem dX10_feed_16 : decode cX10_feed 16 = .ok (.getfield 78, 3) := by decide +kernel
theorem dX10_feed_19 : decode cX10_feed 19 = .ok (.iload_n 1, 1) := by decide +kernel
theorem dX10_feed_20 : decode cX10_feed 20 = .ok (.invokevirtual 230, 3) := by decide +kernel
theorem dX10_feed_23 : decode cX10_feed 23 = .ok (.aload_n 0, 1) := by decide +kernel
theorem dX10_feed_24 : decode cX10_feed 24 = .ok (.getfield 78, 3) := by decide +kernel
theorem dX10_feed_27 : decode cX10_feed 27 = .ok (.iload_n 2, 1) := by decide +kernel
theorem dX10_feed_28 : decode cX10_feed 28 = .ok (.invokevirtual 230, 3) := by decide +kernel
theorem dX10_feed_31 : decode cX10_feed 31 = .ok (.aload_n 0, 1) := by decide +kernel
theorem dX10_feed_32 : decode cX10_feed 32 = .ok (.getfield 78, 3) := by decide +kernel
theorem dX10_feed_35 : decode cX10_feed 35 = .ok (.iload_n 3, 1) := by decide +kernel
theorem dX10_feed_36 : decode cX10_feed 36 = .ok (.invokevirtual 230, 3) := by decide +kernel
theorem dX10_feed_39 : decode cX10_feed 39 = .ok (.aload_n 0, 1) := by decide +kernel
theorem dX10_feed_40 : decode cX10_feed 40 = .ok (.getfield 78, 3) := by decide +kernel
theorem dX10_feed_43 : decode cX10_feed 43 = .ok (.iload 4, 2) := by decide +kernel
theorem dX10_feed_45 : decode cX10_feed 45 = .ok (.invokevirtual 230, 3) := by decide +kernel
theorem dX10_feed_48 : decode cX10_feed 48 = .ok (.aload_n 0, 1) := by decide +kernel
theorem dX10_feed_49 : decode cX10_feed 49 = .ok (.getfield 78, 3) := by decide +kernel
theorem dX10_feed_52 : decode cX10_feed 52 = .ok (.iload 5, 2) := by decide +kernel
theorem dX10_feed_54 : decode cX10_feed 54 = .ok (.invokevirtual 230, 3) := by decide +kernel
theorem dX10_feed_57 : decode cX10_feed 57 = .ok (.aload_n 0, 1) := by decide +kernel
theorem dX10_feed_58 : decode cX10_feed 58 = .ok (.getfield 78, 3) := by decide +kernel
theorem dX10_feed_61 : decode cX10_feed 61 = .ok (.getfield 227, 3) := by decide +kernel
theorem dX10_feed_64 : decode cX10_feed 64 = .ok (.ireturn, 1) := by decide +kernel
theorem dX10_end_0 : decode cX10_end 0 = .ok (.iload_n 1, 1) := by decide +kernel
theorem dX10_end_1 : decode cX10_end 1 = .ok (.ifCond .lt 14, 3) := by decide +kernel
theorem dX10_end_4 : decode cX10_end 4 = .ok (.iload_n 1, 1) := by decide +kernel
theorem dX10_end_5 : decode cX10_end 5 = .ok (.aload_n 0, 1) := by decide +kernel
theorem dX10_end_6 : decode cX10_end 6 = .ok (.getfield 78, 3) := by decide +kernel
theorem dX10_end_9 : decode cX10_end 9 = .ok (.getfield 227, 3) := by decide +kernel
theorem dX10_end_12 : decode cX10_end 12 = .ok (.if_icmp .le 5, 3) := by decide +kernel
theorem dX10_end_15 : decode cX10_end 15 = .ok (.iconst 0, 1) := by decide +kernel
theorem dX10_end_16 : decode cX10_end 16 = .ok (.ireturn, 1) := by decide +kernel
theorem dX10_end_17 : decode cX10_end 17 = .ok (.aload_n 0, 1) := by decide +kernel
theorem dX10_end_18 : decode cX10_end 18 = .ok (.getfield 78, 3) := by decide +kernel
theorem dX10_end_21 : decode cX10_end 21 = .ok (.iload_n 1, 1) := by decide +kernel
theorem dX10_end_22 : decode cX10_end 22 = .ok (.putfield 227, 3) := by decide +kernel
theorem dX10_end_25 : decode cX10_end 25 = .ok (.iconst 1, 1) := by decide +kernel
theorem dX10_end_26 : decode cX10_end 26 = .ok (.ireturn, 1) := by decide +kernel
theorem dX10_read_0 : decode cX10_read 0 = .ok (.aload_n 0, 1) := by decide +kernel
theorem dX10_read_1 : decode cX10_read 1 = .ok (.iload_n 1, 1) := by decide +kernel
theorem dX10_read_2 : decode cX10_read 2 = .ok (.invokevirtual 104, 3) := by decide +kernel
theorem dX10_read_5 : decode cX10_read 5 = .ok (.ifCond .ne 5, 3) := by decide +kernel
theorem dX10_read_8 : decode cX10_read 8 = .ok (.iconst 3, 1) := by decide +kernel
theorem dX10_read_9 : decode cX10_read 9 = .ok (.ireturn, 1) := by decide +kernel
theorem dX10_read_10 : decode cX10_read 10 = .ok (.aload_n 0, 1) := by decide +kernel
theorem dX10_read_11 : decode cX10_read 11 = .ok (.getfield 78, 3) := by decide +kernel
theorem dX10_read_14 : decode cX10_read 14 = .ok (.invokevirtual 233, 3) := by decide +kernel
theorem dX10_read_17 : decode cX10_read 17 = .ok (.istore_n 2, 1) := by decide +kernel
theorem dX10_read_18 : decode cX10_read 18 = .ok (.iload_n 2, 1) := by decide +kernel
theorem dX10_read_19 : decode cX10_read 19 = .ok (.ifCond .eq 25, 3) := by decide +kernel
theorem dX10_read_22 : decode cX10_read 22 = .ok (.aload_n 0, 1) := by decide +kernel
theorem dX10_read_23 : decode cX10_read 23 = .ok (.getfield 78, 3) := by decide +kernel
theorem dX10_read_26 : decode cX10_read 26 = .ok (.aload_n 0, 1) := by decide +kernel
theorem dX10_read_27 : decode cX10_read 27 = .ok (.getfield 91, 3) := by decide +kernel
theorem dX10_read_30 : decode cX10_read 30 = .ok (.aload_n 0, 1) := by decide +kernel
theorem dX10_read_31 : decode cX10_read 31 = .ok (.getfield 18, 3) := by decide +kernel
theorem dX10_read_34 : decode cX10_read 34 = .ok (.invokevirtual 236, 3) := by decide +kernel
theorem dX10_read_37 : decode cX10_read 37 = .ok (.ifCond .eq 7, 3) := by decide +kernel
theorem dX10_read_40 : decode cX10_read 40 = .ok (.iconst 1, 1) := by decide +kernel
theorem dX10_read_41 : decode cX10_read 41 = .ok (.goto 4, 3) := by decide +kernel
theorem dX10_read_44 : decode cX10_read 44 = .ok (.iconst 0, 1) := by decide +kernel
theorem dX10_read_45 : decode cX10_read 45 = .ok (.istore_n 3, 1) := by decide +kernel
theorem dX10_read_46 : decode cX10_read 46 = .ok (.aload_n 0, 1) := by decide +kernel
theorem dX10_read_47 : decode cX10_read 47 = .ok (.getfield 78, 3) := by decide +kernel
theorem dX10_read_50 : decode cX10_read 50 = .ok (.iconst 0, 1) := by decide +kernel
theorem dX10_read_51 : decode cX10_read 51 = .ok (.putfield 227, 3) := by decide +kernel
theorem dX10_read_54 : decode cX10_read 54 = .ok (.iload_n 2, 1) := by decide +kernel
theorem dX10_read_55 : decode cX10_read 55 = .ok (.ifCond .ne 5, 3) := by decide +kernel
theorem dX10_read_58 : decode cX10_read 58 = .ok (.iconst 2, 1) := by decide +kernel
theorem dX10_read_59 : decode cX10_read 59 = .ok (.ireturn, 1) := by decide +kernel
theorem dX10_read_60 : decode cX10_read 60 = .ok (.iload_n 3, 1) := by decide +kernel
theorem dX10_read_61 : decode cX10_read 61 = .ok (.ifCond .eq 15, 3) := by decide +kernel
theorem dX10_read_64 : decode cX10_read 64 = .ok (.aload_n 0, 1) := by decide +kernel
theorem dX10_read_65 : decode cX10_read 65 = .ok (.iload_n 1, 1) := by decide +kernel
theorem dX10_read_66 : decode cX10_read 66 = .ok (.aload_n 0, 1) := by decide +kernel
theorem dX10_read_67 : decode cX10_read 67 = .ok (.getfield 91, 3) := by decide +kernel
theorem dX10_read_70 : decode cX10_read 70 = .ok (.invokevirtual 126, 3) := by decide +kernel
theorem dX10_read_73 : decode cX10_read 73 = .ok (.goto 4, 3) := by decide +kernel
theorem dX10_read_76 : decode cX10_read 76 = .ok (.iconst 1, 1) := by decide +kernel
theorem dX10_read_77 : decode cX10_read 77 = .ok (.ireturn, 1) := by decide +kernel
theorem dX10_write_0 : decode cX10_write 0 = .ok (.aload_n 0, 1) := by decide +kernel
theorem dX10_write_1 : decode cX10_write 1 = .ok (.getfield 87, 3) := by decide +kernel
theorem dX10_write_4 : decode cX10_write 4 = .ok (.aload_n 0, 1) := by decide +kernel
theorem dX10_write_5 : decode cX10_write 5 = .ok (.iload_n 1, 1) := by decide +kernel
theorem dX10_write_6 : decode cX10_write 6 = .ok (.invokevirtual 219, 3) := by decide +kernel
theorem dX10_write_9 : decode cX10_write 9 = .ok (.invokevirtual 240, 3) := by decide +kernel
theorem dX10_write_12 : decode cX10_write 12 = .ok (.aload_n 0, 1) := by decide +kernel
theorem dX10_write_13 : decode cX10_write 13 = .ok (.getfield 87, 3) := by decide +kernel
theorem dX10_write_16 : decode cX10_write 16 = .ok (.getfield 243, 3) := by decide +kernel
theorem dX10_write_19 : decode cX10_write 19 = .ok (.ireturn, 1) := by decide +kernel
theorem dX10_octet_0 : decode cX10_octet 0 = .ok (.iload_n 1, 1) := by decide +kernel
theorem dX10_octet_1 : decode cX10_octet 1 = .ok (.ifCond .lt 14, 3) := by decide +kernel
theorem dX10_octet_4 : decode cX10_octet 4 = .ok (.iload_n 1, 1) := by decide +kernel
theorem dX10_octet_5 : decode cX10_octet 5 = .ok (.aload_n 0, 1) := by decide +kernel
theorem dX10_octet_6 : decode cX10_octet 6 = .ok (.getfield 87, 3) := by decide +kernel
theorem dX10_octet_9 : decode cX10_octet 9 = .ok (.getfield 243, 3) := by decide +kernel
theorem dX10_octet_12 : decode cX10_octet 12 = .ok (.if_icmp .lt 7, 3) := by decide +kernel
theorem dX10_octet_15 : decode cX10_octet 15 = .ok (.iconst (-1), 1) := by decide +kernel
theorem dX10_octet_16 : decode cX10_octet 16 = .ok (.goto 12, 3) := by decide +kernel
theorem dX10_octet_19 : decode cX10_octet 19 = .ok (.aload_n 0, 1) := by decide +kernel
theorem dX10_octet_20 : decode cX10_octet 20 = .ok (.getfield 87, 3) := by decide +kernel
theorem dX10_octet_23 : decode cX10_octet 23 = .ok (.getfield 244, 3) := by decide +kernel
theorem dX10_octet_26 : decode cX10_octet 26 = .ok (.iload_n 1, 1) := by decide +kernel
theorem dX10_octet_27 : decode cX10_octet 27 = .ok (.baload, 1) := by decide +kernel
theorem dX10_octet_28 : decode cX10_octet 28 = .ok (.ireturn, 1) := by decide +kernel
theorem dX10_count_0 : decode cX10_count 0 = .ok (.iload_n 1, 1) := by decide +kernel
theorem dX10_count_1 : decode cX10_count 1 = .ok (.tableswitch 58 0 3 #[31, 37, 42, 50], 31) := by decide +kernel
theorem dX10_count_32 : decode cX10_count 32 = .ok (.aload_n 0, 1) := by decide +kernel
theorem dX10_count_33 : decode cX10_count 33 = .ok (.getfield 24, 3) := by decide +kernel
theorem dX10_count_36 : decode cX10_count 36 = .ok (.arraylength, 1) := by decide +kernel
theorem dX10_count_37 : decode cX10_count 37 = .ok (.ireturn, 1) := by decide +kernel
theorem dX10_count_38 : decode cX10_count 38 = .ok (.aload_n 0, 1) := by decide +kernel
theorem dX10_count_39 : decode cX10_count 39 = .ok (.getfield 18, 3) := by decide +kernel
theorem dX10_count_42 : decode cX10_count 42 = .ok (.ireturn, 1) := by decide +kernel
theorem dX10_count_43 : decode cX10_count 43 = .ok (.aload_n 0, 1) := by decide +kernel
theorem dX10_count_44 : decode cX10_count 44 = .ok (.getfield 78, 3) := by decide +kernel
theorem dX10_count_47 : decode cX10_count 47 = .ok (.getfield 227, 3) := by decide +kernel
theorem dX10_count_50 : decode cX10_count 50 = .ok (.ireturn, 1) := by decide +kernel
theorem dX10_count_51 : decode cX10_count 51 = .ok (.aload_n 0, 1) := by decide +kernel
theorem dX10_count_52 : decode cX10_count 52 = .ok (.getfield 87, 3) := by decide +kernel
theorem dX10_count_55 : decode cX10_count 55 = .ok (.getfield 243, 3) := by decide +kernel
theorem dX10_count_58 : decode cX10_count 58 = .ok (.ireturn, 1) := by decide +kernel
theorem dX10_count_59 : decode cX10_count 59 = .ok (.iconst (-1), 1) := by decide +kernel
theorem dX10_count_60 : decode cX10_count 60 = .ok (.ireturn, 1) := by decide +kernel
theorem dX10_isRegister_0 : decode cX10_isRegister 0 = .ok (.iload_n 1, 1) := by decide +kernel
theorem dX10_isRegister_1 : decode cX10_isRegister 1 = .ok (.ifCond .lt 16, 3) := by decide +kernel
theorem dX10_isRegister_4 : decode cX10_isRegister 4 = .ok (.iload_n 1, 1) := by decide +kernel
theorem dX10_isRegister_5 : decode cX10_isRegister 5 = .ok (.aload_n 0, 1) := by decide +kernel
theorem dX10_isRegister_6 : decode cX10_isRegister 6 = .ok (.getfield 24, 3) := by decide +kernel
theorem dX10_isRegister_9 : decode cX10_isRegister 9 = .ok (.arraylength, 1) := by decide +kernel
theorem dX10_isRegister_10 : decode cX10_isRegister 10 = .ok (.if_icmp .ge 7, 3) := by decide +kernel
theorem dX10_isRegister_13 : decode cX10_isRegister 13 = .ok (.iconst 1, 1) := by decide +kernel
theorem dX10_isRegister_14 : decode cX10_isRegister 14 = .ok (.goto 4, 3) := by decide +kernel
theorem dX10_isRegister_17 : decode cX10_isRegister 17 = .ok (.iconst 0, 1) := by decide +kernel
theorem dX10_isRegister_18 : decode cX10_isRegister 18 = .ok (.ireturn, 1) := by decide +kernel
theorem dX10_areRegisters_0 : decode cX10_areRegisters 0 = .ok (.aload_n 0, 1) := by decide +kernel
theorem dX10_areRegisters_1 : decode cX10_areRegisters 1 = .ok (.iload_n 1, 1) := by decide +kernel
theorem dX10_areRegisters_2 : decode cX10_areRegisters 2 = .ok (.invokevirtual 104, 3) := by decide +kernel
theorem dX10_areRegisters_5 : decode cX10_areRegisters 5 = .ok (.ifCond .eq 15, 3) := by decide +kernel
theorem dX10_areRegisters_8 : decode cX10_areRegisters 8 = .ok (.aload_n 0, 1) := by decide +kernel
theorem dX10_areRegisters_9 : decode cX10_areRegisters 9 = .ok (.iload_n 2, 1) := by decide +kernel
theorem dX10_areRegisters_10 : decode cX10_areRegisters 10 = .ok (.invokevirtual 104, 3) := by decide +kernel
theorem dX10_areRegisters_13 : decode cX10_areRegisters 13 = .ok (.ifCond .eq 7, 3) := by decide +kernel
theorem dX10_areRegisters_16 : decode cX10_areRegisters 16 = .ok (.iconst 1, 1) := by decide +kernel
theorem dX10_areRegisters_17 : decode cX10_areRegisters 17 = .ok (.goto 4, 3) := by decide +kernel
theorem dX10_areRegisters_20 : decode cX10_areRegisters 20 = .ok (.iconst 0, 1) := by decide +kernel
theorem dX10_areRegisters_21 : decode cX10_areRegisters 21 = .ok (.ireturn, 1) := by decide +kernel
theorem dX10_areRegisters__0 : decode cX10_areRegisters_ 0 = .ok (.aload_n 0, 1) := by decide +kernel
theorem dX10_areRegisters__1 : decode cX10_areRegisters_ 1 = .ok (.iload_n 1, 1) := by decide +kernel
theorem dX10_areRegisters__2 : decode cX10_areRegisters_ 2 = .ok (.invokevirtual 104, 3) := by decide +kernel
theorem dX10_areRegisters__5 : decode cX10_areRegisters_ 5 = .ok (.ifCond .eq 23, 3) := by decide +kernel
theorem dX10_areRegisters__8 : decode cX10_areRegisters_ 8 = .ok (.aload_n 0, 1) := by decide +kernel
theorem dX10_areRegisters__9 : decode cX10_areRegisters_ 9 = .ok (.iload_n 2, 1) := by decide +kernel
theorem dX10_areRegisters__10 : decode cX10_areRegisters_ 10 = .ok (.invokevirtual 104, 3) := by decide +kernel
theorem dX10_areRegisters__13 : decode cX10_areRegisters_ 13 = .ok (.ifCond .eq 15, 3) := by decide +kernel
theorem dX10_areRegisters__16 : decode cX10_areRegisters_ 16 = .ok (.aload_n 0, 1) := by decide +kernel
theorem dX10_areRegisters__17 : decode cX10_areRegisters_ 17 = .ok (.iload_n 3, 1) := by decide +kernel
theorem dX10_areRegisters__18 : decode cX10_areRegisters_ 18 = .ok (.invokevirtual 104, 3) := by decide +kernel
theorem dX10_areRegisters__21 : decode cX10_areRegisters_ 21 = .ok (.ifCond .eq 7, 3) := by decide +kernel
theorem dX10_areRegisters__24 : decode cX10_areRegisters_ 24 = .ok (.iconst 1, 1) := by decide +kernel
theorem dX10_areRegisters__25 : decode cX10_areRegisters_ 25 = .ok (.goto 4, 3) := by decide +kernel
theorem dX10_areRegisters__28 : decode cX10_areRegisters_ 28 = .ok (.iconst 0, 1) := by decide +kernel
theorem dX10_areRegisters__29 : decode cX10_areRegisters_ 29 = .ok (.ireturn, 1) := by decide +kernel
theorem dX10_registerOrThrow_0 : decode cX10_registerOrThrow 0 = .ok (.aload_n 0, 1) := by decide +kernel
theorem dX10_registerOrThrow_1 : decode cX10_registerOrThrow 1 = .ok (.iload_n 1, 1) := by decide +kernel
theorem dX10_registerOrThrow_2 : decode cX10_registerOrThrow 2 = .ok (.invokevirtual 104, 3) := by decide +kernel
theorem dX10_registerOrThrow_5 : decode cX10_registerOrThrow 5 = .ok (.ifCond .ne 13, 3) := by decide +kernel
theorem dX10_registerOrThrow_8 : decode cX10_registerOrThrow 8 = .ok (.new 248, 3) := by decide +kernel
theorem dX10_registerOrThrow_11 : decode cX10_registerOrThrow 11 = .ok (.dup, 1) := by decide +kernel
theorem dX10_registerOrThrow_12 : decode cX10_registerOrThrow 12 = .ok (.ldc 250, 2) := by decide +kernel
theorem dX10_registerOrThrow_14 : decode cX10_registerOrThrow 14 = .ok (.invokespecial 252, 3) := by decide +kernel
theorem dX10_registerOrThrow_17 : decode cX10_registerOrThrow 17 = .ok (.athrow, 1) := by decide +kernel
theorem dX10_registerOrThrow_18 : decode cX10_registerOrThrow 18 = .ok (.aload_n 0, 1) := by decide +kernel
theorem dX10_registerOrThrow_19 : decode cX10_registerOrThrow 19 = .ok (.getfield 24, 3) := by decide +kernel
theorem dX10_registerOrThrow_22 : decode cX10_registerOrThrow 22 = .ok (.iload_n 1, 1) := by decide +kernel
theorem dX10_registerOrThrow_23 : decode cX10_registerOrThrow 23 = .ok (.aaload, 1) := by decide +kernel
theorem dX10_registerOrThrow_24 : decode cX10_registerOrThrow 24 = .ok (.areturn, 1) := by decide +kernel
theorem dX10_put_0 : decode cX10_put 0 = .ok (.aload_n 2, 1) := by decide +kernel
theorem dX10_put_1 : decode cX10_put 1 = .ok (.getfield 148, 3) := by decide +kernel
theorem dX10_put_4 : decode cX10_put 4 = .ok (.aload_n 0, 1) := by decide +kernel
theorem dX10_put_5 : decode cX10_put 5 = .ok (.getfield 18, 3) := by decide +kernel
theorem dX10_put_8 : decode cX10_put 8 = .ok (.if_icmp .le 5, 3) := by decide +kernel
theorem dX10_put_11 : decode cX10_put 11 = .ok (.iconst 1, 1) := by decide +kernel
theorem dX10_put_12 : decode cX10_put 12 = .ok (.ireturn, 1) := by decide +kernel
theorem dX10_put_13 : decode cX10_put 13 = .ok (.aload_n 0, 1) := by decide +kernel
theorem dX10_put_14 : decode cX10_put 14 = .ok (.getfield 24, 3) := by decide +kernel
theorem dX10_put_17 : decode cX10_put 17 = .ok (.iload_n 1, 1) := by decide +kernel
theorem dX10_put_18 : decode cX10_put 18 = .ok (.aaload, 1) := by decide +kernel
theorem dX10_put_19 : decode cX10_put 19 = .ok (.aload_n 2, 1) := by decide +kernel
theorem dX10_put_20 : decode cX10_put 20 = .ok (.invokevirtual 134, 3) := by decide +kernel
theorem dX10_put_23 : decode cX10_put 23 = .ok (.iconst 0, 1) := by decide +kernel
theorem dX10_put_24 : decode cX10_put 24 = .ok (.ireturn, 1) := by decide +kernel
theorem dX10_halve_0 : decode cX10_halve 0 = .ok (.aload_n 1, 1) := by decide +kernel
theorem dX10_halve_1 : decode cX10_halve 1 = .ok (.invokevirtual 162, 3) := by decide +kernel
theorem dX10_halve_4 : decode cX10_halve 4 = .ok (.istore 4, 2) := by decide +kernel
theorem dX10_halve_6 : decode cX10_halve 6 = .ok (.lload_n 2, 1) := by decide +kernel
theorem dX10_halve_7 : decode cX10_halve 7 = .ok (.iload 4, 2) := by decide +kernel
theorem dX10_halve_9 : decode cX10_halve 9 = .ok (.i2l, 1) := by decide +kernel
theorem dX10_halve_10 : decode cX10_halve 10 = .ok (.lcmp, 1) := by decide +kernel
theorem dX10_halve_11 : decode cX10_halve 11 = .ok (.ifCond .le 8, 3) := by decide +kernel
theorem dX10_halve_14 : decode cX10_halve 14 = .ok (.iload 4, 2) := by decide +kernel
theorem dX10_halve_16 : decode cX10_halve 16 = .ok (.goto 5, 3) := by decide +kernel
theorem dX10_halve_19 : decode cX10_halve 19 = .ok (.lload_n 2, 1) := by decide +kernel
theorem dX10_halve_20 : decode cX10_halve 20 = .ok (.l2i, 1) := by decide +kernel
theorem dX10_halve_21 : decode cX10_halve 21 = .ok (.istore 5, 2) := by decide +kernel
theorem dX10_halve_23 : decode cX10_halve 23 = .ok (.aload_n 1, 1) := by decide +kernel
theorem dX10_halve_24 : decode cX10_halve 24 = .ok (.getfield 148, 3) := by decide +kernel
theorem dX10_halve_27 : decode cX10_halve 27 = .ok (.ifCond .le 17, 3) := by decide +kernel
theorem dX10_halve_30 : decode cX10_halve 30 = .ok (.aload_n 1, 1) := by decide +kernel
theorem dX10_halve_31 : decode cX10_halve 31 = .ok (.invokevirtual 255, 3) := by decide +kernel
theorem dX10_halve_34 : decode cX10_halve 34 = .ok (.i2l, 1) := by decide +kernel
theorem dX10_halve_35 : decode cX10_halve 35 = .ok (.lload_n 2, 1) := by decide +kernel
theorem dX10_halve_36 : decode cX10_halve 36 = .ok (.lcmp, 1) := by decide +kernel
theorem dX10_halve_37 : decode cX10_halve 37 = .ok (.ifCond .ge 7, 3) := by decide +kernel
theorem dX10_halve_40 : decode cX10_halve 40 = .ok (.iconst 1, 1) := by decide +kernel
theorem dX10_halve_41 : decode cX10_halve 41 = .ok (.goto 4, 3) := by decide +kernel
theorem dX10_halve_44 : decode cX10_halve 44 = .ok (.iconst 0, 1) := by decide +kernel
theorem dX10_halve_45 : decode cX10_halve 45 = .ok (.istore 6, 2) := by decide +kernel
theorem dX10_halve_47 : decode cX10_halve 47 = .ok (.aload_n 0, 1) := by decide +kernel
theorem dX10_halve_48 : decode cX10_halve 48 = .ok (.getfield 91, 3) := by decide +kernel
theorem dX10_halve_51 : decode cX10_halve 51 = .ok (.aload_n 1, 1) := by decide +kernel
theorem dX10_halve_52 : decode cX10_halve 52 = .ok (.iload 5, 2) := by decide +kernel
theorem dX10_halve_54 : decode cX10_halve 54 = .ok (.invokestatic 258, 3) := by decide +kernel
theorem dX10_halve_57 : decode cX10_halve 57 = .ok (.aload_n 1, 1) := by decide +kernel
theorem dX10_halve_58 : decode cX10_halve 58 = .ok (.getfield 118, 3) := by decide +kernel
theorem dX10_halve_61 : decode cX10_halve 61 = .ok (.ifCond .eq 23, 3) := by decide +kernel
theorem dX10_halve_64 : decode cX10_halve 64 = .ok (.iload 6, 2) := by decide +kernel
theorem dX10_halve_66 : decode cX10_halve 66 = .ok (.ifCond .eq 18, 3) := by decide +kernel
theorem dX10_halve_69 : decode cX10_halve 69 = .ok (.aload_n 0, 1) := by decide +kernel
theorem dX10_halve_70 : decode cX10_halve 70 = .ok (.getfield 91, 3) := by decide +kernel
theorem dX10_halve_73 : decode cX10_halve 73 = .ok (.aload_n 0, 1) := by decide +kernel
theorem dX10_halve_74 : decode cX10_halve 74 = .ok (.getfield 91, 3) := by decide +kernel
theorem dX10_halve_77 : decode cX10_halve 77 = .ok (.aload_n 0, 1) := by decide +kernel
theorem dX10_halve_78 : decode cX10_halve 78 = .ok (.getfield 98, 3) := by decide +kernel
theorem dX10_halve_81 : decode cX10_halve 81 = .ok (.invokestatic 114, 3) := by decide +kernel
theorem dX10_halve_84 : decode cX10_halve 84 = .ok (.aload_n 0, 1) := by decide +kernel
theorem dX10_halve_85 : decode cX10_halve 85 = .ok (.getfield 91, 3) := by decide +kernel
theorem dX10_halve_88 : decode cX10_halve 88 = .ok (.aload_n 1, 1) := by decide +kernel
theorem dX10_halve_89 : decode cX10_halve 89 = .ok (.getfield 118, 3) := by decide +kernel
theorem dX10_halve_92 : decode cX10_halve 92 = .ok (.invokevirtual 122, 3) := by decide +kernel
theorem dX10_halve_95 : decode cX10_halve 95 = .ok (.return_, 1) := by decide +kernel
theorem dX11_init_0 : decode cX11_init 0 = .ok (.aload_n 0, 1) := by decide +kernel
theorem dX11_init_1 : decode cX11_init 1 = .ok (.invokespecial 1, 3) := by decide +kernel
theorem dX11_init_4 : decode cX11_init 4 = .ok (.aload_n 0, 1) := by decide +kernel
theorem dX11_init_5 : decode cX11_init 5 = .ok (.sipush 10400, 3) := by decide +kernel
theorem dX11_init_8 : decode cX11_init 8 = .ok (.newarray .int, 2) := by decide +kernel
theorem dX11_init_10 : decode cX11_init 10 = .ok (.putfield 7, 3) := by decide +kernel
theorem dX11_init_13 : decode cX11_init 13 = .ok (.aload_n 0, 1) := by decide +kernel
theorem dX11_init_14 : decode cX11_init 14 = .ok (.bipush 40, 2) := by decide +kernel
theorem dX11_init_16 : decode cX11_init 16 = .ok (.newarray .int, 2) := by decide +kernel
theorem dX11_init_18 : decode cX11_init 18 = .ok (.putfield 13, 3) := by decide +kernel
theorem dX11_init_21 : decode cX11_init 21 = .ok (.aload_n 0, 1) := by decide +kernel
theorem dX11_init_22 : decode cX11_init 22 = .ok (.bipush 40, 2) := by decide +kernel
theorem dX11_init_24 : decode cX11_init 24 = .ok (.newarray .int, 2) := by decide +kernel
theorem dX11_init_26 : decode cX11_init 26 = .ok (.putfield 16, 3) := by decide +kernel
theorem dX11_init_29 : decode cX11_init 29 = .ok (.aload_n 0, 1) := by decide +kernel
theorem dX11_init_30 : decode cX11_init 30 = .ok (.sipush 1000, 3) := by decide +kernel
theorem dX11_init_33 : decode cX11_init 33 = .ok (.newarray .byte, 2) := by decide +kernel
theorem dX11_init_35 : decode cX11_init 35 = .ok (.putfield 19, 3) := by decide +kernel
theorem dX11_init_38 : decode cX11_init 38 = .ok (.aload_n 0, 1) := by decide +kernel
theorem dX11_init_39 : decode cX11_init 39 = .ok (.sipush 500, 3) := by decide +kernel
theorem dX11_init_42 : decode cX11_init 42 = .ok (.newarray .byte, 2) := by decide +kernel
theorem dX11_init_44 : decode cX11_init 44 = .ok (.putfield 23, 3) := by decide +kernel
theorem dX11_init_47 : decode cX11_init 47 = .ok (.aload_n 0, 1) := by decide +kernel
theorem dX11_init_48 : decode cX11_init 48 = .ok (.iload_n 1, 1) := by decide +kernel
theorem dX11_init_49 : decode cX11_init 49 = .ok (.iconst 1, 1) := by decide +kernel
theorem dX11_init_50 : decode cX11_init 50 = .ok (.if_icmp .ge 7, 3) := by decide +kernel
theorem dX11_init_53 : decode cX11_init 53 = .ok (.iconst 1, 1) := by decide +kernel
theorem dX11_init_54 : decode cX11_init 54 = .ok (.goto 15, 3) := by decide +kernel
theorem dX11_init_57 : decode cX11_init 57 = .ok (.iload_n 1, 1) := by decide +kernel
theorem dX11_init_58 : decode cX11_init 58 = .ok (.bipush 16, 2) := by decide +kernel
theorem dX11_init_60 : decode cX11_init 60 = .ok (.if_icmp .le 8, 3) := by decide +kernel
theorem dX11_init_63 : decode cX11_init 63 = .ok (.bipush 16, 2) := by decide +kernel
theorem dX11_init_65 : decode cX11_init 65 = .ok (.goto 4, 3) := by decide +kernel
theorem dX11_init_68 : decode cX11_init 68 = .ok (.iload_n 1, 1) := by decide +kernel
theorem dX11_init_69 : decode cX11_init 69 = .ok (.putfield 26, 3) := by decide +kernel
theorem dX11_init_72 : decode cX11_init 72 = .ok (.aload_n 0, 1) := by decide +kernel
theorem dX11_init_73 : decode cX11_init 73 = .ok (.iload_n 2, 1) := by decide +kernel
theorem dX11_init_74 : decode cX11_init 74 = .ok (.iconst 1, 1) := by decide +kernel
theorem dX11_init_75 : decode cX11_init 75 = .ok (.if_icmp .ge 7, 3) := by decide +kernel
theorem dX11_init_78 : decode cX11_init 78 = .ok (.iconst 1, 1) := by decide +kernel
theorem dX11_init_79 : decode cX11_init 79 = .ok (.goto 15, 3) := by decide +kernel
theorem dX11_init_82 : decode cX11_init 82 = .ok (.iload_n 2, 1) := by decide +kernel
theorem dX11_init_83 : decode cX11_init 83 = .ok (.bipush 40, 2) := by decide +kernel
theorem dX11_init_85 : decode cX11_init 85 = .ok (.if_icmp .le 8, 3) := by decide +kernel
theorem dX11_init_88 : decode cX11_init 88 = .ok (.bipush 40, 2) := by decide +kernel
theorem dX11_init_90 : decode cX11_init 90 = .ok (.goto 4, 3) := by decide +kernel
theorem dX11_init_93 : decode cX11_init 93 = .ok (.iload_n 2, 1) := by decide +kernel
theorem dX11_init_94 : decode cX11_init 94 = .ok (.putfield 30, 3) := by decide +kernel
theorem dX11_init_97 : decode cX11_init 97 = .ok (.return_, 1) := by decide +kernel
theorem dX11_thrown_0 : decode cX11_thrown 0 = .ok (.aload_n 0, 1) := by decide +kernel
theorem dX11_thrown_1 : decode cX11_thrown 1 = .ok (.getfield 33, 3) := by decide +kernel
theorem dX11_thrown_4 : decode cX11_thrown 4 = .ok (.ireturn, 1) := by decide +kernel
theorem dX11_copy_0 : decode cX11_copy 0 = .ok (.iconst 0, 1) := by decide +kernel
theorem dX11_copy_1 : decode cX11_copy 1 = .ok (.istore_n 3, 1) := by decide +kernel
theorem dX11_copy_2 : decode cX11_copy 2 = .ok (.iload_n 3, 1) := by decide +kernel
theorem dX11_copy_3 : decode cX11_copy 3 = .ok (.aload_n 0, 1) := by decide +kernel
theorem dX11_copy_4 : decode cX11_copy 4 = .ok (.getfield 13, 3) := by decide +kernel
theorem dX11_copy_7 : decode cX11_copy 7 = .ok (.iload_n 2, 1) := by decide +kernel
theorem dX11_copy_8 : decode cX11_copy 8 = .ok (.iaload, 1) := by decide +kernel
theorem dX11_copy_9 : decode cX11_copy 9 = .ok (.if_icmp .ge 33, 3) := by decide +kernel
theorem dX11_copy_12 : decode cX11_copy 12 = .ok (.aload_n 0, 1) := by decide +kernel
theorem dX11_copy_13 : decode cX11_copy 13 = .ok (.getfield 7, 3) := by decide +kernel
theorem dX11_copy_16 : decode cX11_copy 16 = .ok (.sipush 260, 3) := by decide +kernel
theorem dX11_copy_19 : decode cX11_copy 19 = .ok (.iload_n 1, 1) := by decide +kernel
theorem dX11_copy_20 : decode cX11_copy 20 = .ok (.imul, 1) := by decide +kernel
theorem dX11_copy_21 : decode cX11_copy 21 = .ok (.iload_n 3, 1) := by decide +kernel
theorem dX11_copy_22 : decode cX11_copy 22 = .ok (.iadd, 1) := by decide +kernel
theorem dX11_copy_23 : decode cX11_copy 23 = .ok (.aload_n 0, 1) := by decide +kernel
theorem dX11_copy_24 : decode cX11_copy 24 = .ok (.getfield 7, 3) := by decide +kernel
theorem dX11_copy_27 : decode cX11_copy 27 = .ok (.sipush 260, 3) := by decide +kernel
theorem dX11_copy_30 : decode cX11_copy 30 = .ok (.iload_n 2, 1) := by decide +kernel
theorem dX11_copy_31 : decode cX11_copy 31 = .ok (.imul, 1) := by decide +kernel
theorem dX11_copy_32 : decode cX11_copy 32 = .ok (.iload_n 3, 1) := by decide +kernel
theorem dX11_copy_33 : decode cX11_copy 33 = .ok (.iadd, 1) := by decide +kernel
theorem dX11_copy_34 : decode cX11_copy 34 = .ok (.iaload, 1) := by decide +kernel
theorem dX11_copy_35 : decode cX11_copy 35 = .ok (.iastore, 1) := by decide +kernel
theorem dX11_copy_36 : decode cX11_copy 36 = .ok (.iinc 3 1, 3) := by decide +kernel
theorem dX11_copy_39 : decode cX11_copy 39 = .ok (.goto (-37), 3) := by decide +kernel
theorem dX11_copy_42 : decode cX11_copy 42 = .ok (.aload_n 0, 1) := by decide +kernel
theorem dX11_copy_43 : decode cX11_copy 43 = .ok (.getfield 13, 3) := by decide +kernel
theorem dX11_copy_46 : decode cX11_copy 46 = .ok (.iload_n 1, 1) := by decide +kernel
theorem dX11_copy_47 : decode cX11_copy 47 = .ok (.aload_n 0, 1) := by decide +kernel
theorem dX11_copy_48 : decode cX11_copy 48 = .ok (.getfield 13, 3) := by decide +kernel
theorem dX11_copy_51 : decode cX11_copy 51 = .ok (.iload_n 2, 1) := by decide +kernel
theorem dX11_copy_52 : decode cX11_copy 52 = .ok (.iaload, 1) := by decide +kernel
theorem dX11_copy_53 : decode cX11_copy 53 = .ok (.iastore, 1) := by decide +kernel
theorem dX11_copy_54 : decode cX11_copy 54 = .ok (.aload_n 0, 1) := by decide +kernel
theorem dX11_copy_55 : decode cX11_copy 55 = .ok (.getfield 16, 3) := by decide +kernel
theorem dX11_copy_58 : decode cX11_copy 58 = .ok (.iload_n 1, 1) := by decide +kernel
theorem dX11_copy_59 : decode cX11_copy 59 = .ok (.aload_n 0, 1) := by decide +kernel
theorem dX11_copy_60 : decode cX11_copy 60 = .ok (.getfield 16, 3) := by decide +kernel
theorem dX11_copy_63 : decode cX11_copy 63 = .ok (.iload_n 2, 1) := by decide +kernel
theorem dX11_copy_64 : decode cX11_copy 64 = .ok (.iaload, 1) := by decide +kernel
theorem dX11_copy_65 : decode cX11_copy 65 = .ok (.iastore, 1) := by decide +kernel
theorem dX11_copy_66 : decode cX11_copy 66 = .ok (.return_, 1) := by decide +kernel
theorem dX11_small_0 : decode cX11_small 0 = .ok (.aload_n 0, 1) := by decide +kernel
theorem dX11_small_1 : decode cX11_small 1 = .ok (.getfield 13, 3) := by decide +kernel
theorem dX11_small_4 : decode cX11_small 4 = .ok (.iload_n 1, 1) := by decide +kernel
theorem dX11_small_5 : decode cX11_small 5 = .ok (.iload_n 2, 1) := by decide +kernel
theorem dX11_small_6 : decode cX11_small 6 = .ok (.ifCond .ne 7, 3) := by decide +kernel
theorem dX11_small_9 : decode cX11_small 9 = .ok (.iconst 0, 1) := by decide +kernel
theorem dX11_small_10 : decode cX11_small 10 = .ok (.goto 4, 3) := by decide +kernel
theorem dX11_small_13 : decode cX11_small 13 = .ok (.iconst 1, 1) := by decide +kernel
theorem dX11_small_14 : decode cX11_small 14 = .ok (.iastore, 1) := by decide +kernel
theorem dX11_small_15 : decode cX11_small 15 = .ok (.aload_n 0, 1) := by decide +kernel
theorem dX11_small_16 : decode cX11_small 16 = .ok (.getfield 7, 3) := by decide +kernel
theorem dX11_small_19 : decode cX11_small 19 = .ok (.sipush 260, 3) := by decide +kernel
theorem dX11_small_22 : decode cX11_small 22 = .ok (.iload_n 1, 1) := by decide +kernel
theorem dX11_small_23 : decode cX11_small 23 = .ok (.imul, 1) := by decide +kernel
theorem dX11_small_24 : decode cX11_small 24 = .ok (.iload_n 2, 1) := by decide +kernel
theorem dX11_small_25 : decode cX11_small 25 = .ok (.iastore, 1) := by decide +kernel
theorem dX11_small_26 : decode cX11_small 26 = .ok (.aload_n 0, 1) := by decide +kernel
theorem dX11_small_27 : decode cX11_small 27 = .ok (.getfield 16, 3) := by decide +kernel
theorem dX11_small_30 : decode cX11_small 30 = .ok (.iload_n 1, 1) := by decide +kernel
theorem dX11_small_31 : decode cX11_small 31 = .ok (.iload_n 2, 1) := by decide +kernel
theorem dX11_small_32 : decode cX11_small 32 = .ok (.ifCond .ne 7, 3) := by decide +kernel
theorem dX11_small_35 : decode cX11_small 35 = .ok (.iconst 0, 1) := by decide +kernel
theorem dX11_small_36 : decode cX11_small 36 = .ok (.goto 4, 3) := by decide +kernel
theorem dX11_small_39 : decode cX11_small 39 = .ok (.iconst 1, 1) := by decide +kernel
theorem dX11_small_40 : decode cX11_small 40 = .ok (.iastore, 1) := by decide +kernel
theorem dX11_small_41 : decode cX11_small 41 = .ok (.return_, 1) := by decide +kernel
theorem dX11_trim_0 : decode cX11_trim 0 = .ok (.iload_n 2, 1) := by decide +kernel
theorem dX11_trim_1 : decode cX11_trim 1 = .ok (.istore 4, 2) := by decide +kernel
theorem dX11_trim_3 : decode cX11_trim 3 = .ok (.iload 4, 2) := by decide +kernel
theorem dX11_trim_5 : decode cX11_trim 5 = .ok (.ifCond .le 27, 3) := by decide +kernel
theorem dX11_trim_8 : decode cX11_trim 8 = .ok (.aload_n 0, 1) := by decide +kernel
theorem dX11_trim_9 : decode cX11_trim 9 = .ok (.getfield 7, 3) := by decide +kernel
theorem dX11_trim_12 : decode cX11_trim 12 = .ok (.sipush 260, 3) := by decide +kernel
theorem dX11_trim_15 : decode cX11_trim 15 = .ok (.iload_n 1, 1) := by decide +kernel
theorem dX11_trim_16 : decode cX11_trim 16 = .ok (.imul, 1) := by decide +kernel
theorem dX11_trim_17 : decode cX11_trim 17 = .ok (.iload 4, 2) := by decide +kernel
theorem dX11_trim_19 : decode cX11_trim 19 = .ok (.iadd, 1) := by decide +kernel
theorem dX11_trim_20 : decode cX11_trim 20 = .ok (.iconst 1, 1) := by decide +kernel
theorem dX11_trim_21 : decode cX11_trim 21 = .ok (.isub, 1) := by decide +kernel
theorem dX11_trim_22 : decode cX11_trim 22 = .ok (.iaload, 1) := by decide +kernel
theorem dX11_trim_23 : decode cX11_trim 23 = .ok (.ifCond .ne 9, 3) := by decide +kernel
theorem dX11_trim_26 : decode cX11_trim 26 = .ok (.iinc 4 (-1), 3) := by decide +kernel
theorem dX11_trim_29 : decode cX11_trim 29 = .ok (.goto (-26), 3) := by decide +kernel
theorem dX11_trim_32 : decode cX11_trim 32 = .ok (.aload_n 0, 1) := by decide +kernel
theorem dX11_trim_33 : decode cX11_trim 33 = .ok (.getfield 13, 3) := by decide +kernel
theorem dX11_trim_36 : decode cX11_trim 36 = .ok (.iload_n 1, 1) := by decide +kernel
theorem dX11_trim_37 : decode cX11_trim 37 = .ok (.iload 4, 2) := by decide +kernel
theorem dX11_trim_39 : decode cX11_trim 39 = .ok (.iastore, 1) := by decide +kernel
theorem dX11_trim_40 : decode cX11_trim 40 = .ok (.aload_n 0, 1) := by decide +kernel
theorem dX11_trim_41 : decode cX11_trim 41 = .ok (.getfield 16, 3) := by decide +kernel
theorem dX11_trim_44 : decode cX11_trim 44 = .ok (.iload_n 1, 1) := by decide +kernel
theorem dX11_trim_45 : decode cX11_trim 45 = .ok (.iload 4, 2) := by decide +kernel
theorem dX11_trim_47 : decode cX11_trim 47 = .ok (.ifCond .ne 7, 3) := by decide +kernel
theorem dX11_trim_50 : decode cX11_trim 50 = .ok (.iconst 0, 1) := by decide +kernel
theorem dX11_trim_51 : decode cX11_trim 51 = .ok (.goto 4, 3) := by decide +kernel
theorem dX11_trim_54 : decode cX11_trim 54 = .ok (.iload_n 3, 1) := by decide +kernel
theorem dX11_trim_55 : decode cX11_trim 55 = .ok (.iastore, 1) := by decide +kernel
theorem dX11_trim_56 : decode cX11_trim 56 = .ok (.return_, 1) := by decide +kernel
theorem dX11_get_0 : decode cX11_get 0 = .ok (.iload_n 2, 1) := by decide +kernel
theorem dX11_get_1 : decode cX11_get 1 = .ok (.aload_n 0, 1) := by decide +kernel
theorem dX11_get_2 : decode cX11_get 2 = .ok (.getfield 13, 3) := by decide +kernel
theorem dX11_get_5 : decode cX11_get 5 = .ok (.iload_n 1, 1) := by decide +kernel
theorem dX11_get_6 : decode cX11_get 6 = .ok (.iaload, 1) := by decide +kernel
theorem dX11_get_7 : decode cX11_get 7 = .ok (.if_icmp .ge 18, 3) := by decide +kernel
theorem dX11_get_10 : decode cX11_get 10 = .ok (.aload_n 0, 1) := by decide +kernel
theorem dX11_get_11 : decode cX11_get 11 = .ok (.getfield 7, 3) := by decide +kernel
theorem dX11_get_14 : decode cX11_get 14 = .ok (.sipush 260, 3) := by decide +kernel
theorem dX11_get_17 : decode cX11_get 17 = .ok (.iload_n 1, 1) := by decide +kernel
theorem dX11_get_18 : decode cX11_get 18 = .ok (.imul, 1) := by decide +kernel
theorem dX11_get_19 : decode cX11_get 19 = .ok (.iload_n 2, 1) := by decide +kernel
theorem dX11_get_20 : decode cX11_get 20 = .ok (.iadd, 1) := by decide +kernel
theorem dX11_get_21 : decode cX11_get 21 = .ok (.iaload, 1) := by decide +kernel
theorem dX11_get_22 : decode cX11_get 22 = .ok (.goto 4, 3) := by decide +kernel
theorem dX11_get_25 : decode cX11_get 25 = .ok (.iconst 0, 1) := by decide +kernel
theorem dX11_get_26 : decode cX11_get 26 = .ok (.ireturn, 1) := by decide +kernel
theorem dX11_sizes_0 : decode cX11_sizes 0 = .ok (.aload_n 0, 1) := by decide +kernel
theorem dX11_sizes_1 : decode cX11_sizes 1 = .ok (.getfield 13, 3) := by decide +kernel
theorem dX11_sizes_4 : decode cX11_sizes 4 = .ok (.iload_n 1, 1) := by decide +kernel
theorem dX11_sizes_5 : decode cX11_sizes 5 = .ok (.iaload, 1) := by decide +kernel
theorem dX11_sizes_6 : decode cX11_sizes 6 = .ok (.aload_n 0, 1) := by decide +kernel
theorem dX11_sizes_7 : decode cX11_sizes 7 = .ok (.getfield 13, 3) := by decide +kernel
theorem dX11_sizes_10 : decode cX11_sizes 10 = .ok (.iload_n 2, 1) := by decide +kernel
theorem dX11_sizes_11 : decode cX11_sizes 11 = .ok (.iaload, 1) := by decide +kernel
theorem dX11_sizes_12 : decode cX11_sizes 12 = .ok (.if_icmp .eq 24, 3) := by decide +kernel
theorem dX11_sizes_15 : decode cX11_sizes 15 = .ok (.aload_n 0, 1) := by decide +kernel
theorem dX11_sizes_16 : decode cX11_sizes 16 = .ok (.getfield 13, 3) := by decide +kernel
theorem dX11_sizes_19 : decode cX11_sizes 19 = .ok (.iload_n 1, 1) := by decide +kernel
theorem dX11_sizes_20 : decode cX11_sizes 20 = .ok (.iaload, 1) := by decide +kernel
theorem dX11_sizes_21 : decode cX11_sizes 21 = .ok (.aload_n 0, 1) := by decide +kernel
theorem dX11_sizes_22 : decode cX11_sizes 22 = .ok (.getfield 13, 3) := by decide +kernel
theorem dX11_sizes_25 : decode cX11_sizes 25 = .ok (.iload_n 2, 1) := by decide +kernel
theorem dX11_sizes_26 : decode cX11_sizes 26 = .ok (.iaload, 1) := by decide +kernel
theorem dX11_sizes_27 : decode cX11_sizes 27 = .ok (.if_icmp .le 7, 3) := by decide +kernel
theorem dX11_sizes_30 : decode cX11_sizes 30 = .ok (.iconst 1, 1) := by decide +kernel
theorem dX11_sizes_31 : decode cX11_sizes 31 = .ok (.goto 4, 3) := by decide +kernel
theorem dX11_sizes_34 : decode cX11_sizes 34 = .ok (.iconst (-1), 1) := by decide +kernel
theorem dX11_sizes_35 : decode cX11_sizes 35 = .ok (.ireturn, 1) := by decide +kernel
theorem dX11_sizes_36 : decode cX11_sizes 36 = .ok (.aload_n 0, 1) := by decide +kernel
theorem dX11_sizes_37 : decode cX11_sizes 37 = .ok (.getfield 13, 3) := by decide +kernel
theorem dX11_sizes_40 : decode cX11_sizes 40 = .ok (.iload_n 1, 1) := by decide +kernel
theorem dX11_sizes_41 : decode cX11_sizes 41 = .ok (.iaload, 1) := by decide +kernel
theorem dX11_sizes_42 : decode cX11_sizes 42 = .ok (.iconst 1, 1) := by decide +kernel
theorem dX11_sizes_43 : decode cX11_sizes 43 = .ok (.isub, 1) := by decide +kernel
theorem dX11_sizes_44 : decode cX11_sizes 44 = .ok (.istore_n 3, 1) := by decide +kernel
theorem dX11_sizes_45 : decode cX11_sizes 45 = .ok (.iload_n 3, 1) := by decide +kernel
theorem dX11_sizes_46 : decode cX11_sizes 46 = .ok (.ifCond .lt 69, 3) := by decide +kernel
theorem dX11_sizes_49 : decode cX11_sizes 49 = .ok (.aload_n 0, 1) := by decide +kernel
theorem dX11_sizes_50 : decode cX11_sizes 50 = .ok (.getfield 7, 3) := by decide +kernel
theorem dX11_sizes_53 : decode cX11_sizes 53 = .ok (.sipush 260, 3) := by decide +kernel
theorem dX11_sizes_56 : decode cX11_sizes 56 = .ok (.iload_n 1, 1) := by decide +kernel
theorem dX11_sizes_57 : decode cX11_sizes 57 = .ok (.imul, 1) := by decide +kernel
theorem dX11_sizes_58 : decode cX11_sizes 58 = .ok (.iload_n 3, 1) := by decide +kernel
theorem dX11_sizes_59 : decode cX11_sizes 59 = .ok (.iadd, 1) := by decide +kernel
theorem dX11_sizes_60 : decode cX11_sizes 60 = .ok (.iaload, 1) := by decide +kernel
theorem dX11_sizes_61 : decode cX11_sizes 61 = .ok (.aload_n 0, 1) := by decide +kernel
theorem dX11_sizes_62 : decode cX11_sizes 62 = .ok (.getfield 7, 3) := by decide +kernel
theorem dX11_sizes_65 : decode cX11_sizes 65 = .ok (.sipush 260, 3) := by decide +kernel
theorem dX11_sizes_68 : decode cX11_sizes 68 = .ok (.iload_n 2, 1) := by decide +kernel
theorem dX11_sizes_69 : decode cX11_sizes 69 = .ok (.imul, 1) := by decide +kernel
theorem dX11_sizes_70 : decode cX11_sizes 70 = .ok (.iload_n 3, 1) := by decide +kernel
theorem dX11_sizes_71 : decode cX11_sizes 71 = .ok (.iadd, 1) := by decide +kernel
theorem dX11_sizes_72 : decode cX11_sizes 72 = .ok (.iaload, 1) := by decide +kernel
theorem dX11_sizes_73 : decode cX11_sizes 73 = .ok (.if_icmp .eq 36, 3) := by decide +kernel
theorem dX11_sizes_76 : decode cX11_sizes 76 = .ok (.aload_n 0, 1) := by decide +kernel
theorem dX11_sizes_77 : decode cX11_sizes 77 = .ok (.getfield 7, 3) := by decide +kernel
theorem dX11_sizes_80 : decode cX11_sizes 80 = .ok (.sipush 260, 3) := by decide +kernel
theorem dX11_sizes_83 : decode cX11_sizes 83 = .ok (.iload_n 1, 1) := by decide +kernel
theorem dX11_sizes_84 : decode cX11_sizes 84 = .ok (.imul, 1) := by decide +kernel
theorem dX11_sizes_85 : decode cX11_sizes 85 = .ok (.iload_n 3, 1) := by decide +kernel
theorem dX11_sizes_86 : decode cX11_sizes 86 = .ok (.iadd, 1) := by decide +kernel
theorem dX11_sizes_87 : decode cX11_sizes 87 = .ok (.iaload, 1) := by decide +kernel
theorem dX11_sizes_88 : decode cX11_sizes 88 = .ok (.aload_n 0, 1) := by decide +kernel
theorem dX11_sizes_89 : decode cX11_sizes 89 = .ok (.getfield 7, 3) := by decide +kernel
theorem dX11_sizes_92 : decode cX11_sizes 92 = .ok (.sipush 260, 3) := by decide +kernel
theorem dX11_sizes_95 : decode cX11_sizes 95 = .ok (.iload_n 2, 1) := by decide +kernel
theorem dX11_sizes_96 : decode cX11_sizes 96 = .ok (.imul, 1) := by decide +kernel
theorem dX11_sizes_97 : decode cX11_sizes 97 = .ok (.iload_n 3, 1) := by decide +kernel
theorem dX11_sizes_98 : decode cX11_sizes 98 = .ok (.iadd, 1) := by decide +kernel
theorem dX11_sizes_99 : decode cX11_sizes 99 = .ok (.iaload, 1) := by decide +kernel
theorem dX11_sizes_100 : decode cX11_sizes 100 = .ok (.if_icmp .le 7, 3) := by decide +kernel
theorem dX11_sizes_103 : decode cX11_sizes 103 = .ok (.iconst 1, 1) := by decide +kernel
theorem dX11_sizes_104 : decode cX11_sizes 104 = .ok (.goto 4, 3) := by decide +kernel
theorem dX11_sizes_107 : decode cX11_sizes 107 = .ok (.iconst (-1), 1) := by decide +kernel
theorem dX11_sizes_108 : decode cX11_sizes 108 = .ok (.ireturn, 1) := by decide +kernel
theorem dX11_sizes_109 : decode cX11_sizes 109 = .ok (.iinc 3 (-1), 3) := by decide +kernel
theorem dX11_sizes_112 : decode cX11_sizes 112 = .ok (.goto (-67), 3) := by decide +kernel
theorem dX11_sizes_115 : decode cX11_sizes 115 = .ok (.iconst 0, 1) := by decide +kernel
theorem dX11_sizes_116 : decode cX11_sizes 116 = .ok (.ireturn, 1) := by decide +kernel
theorem dX11_sizeSum_0 : decode cX11_sizeSum 0 = .ok (.aload_n 0, 1) := by decide +kernel
theorem dX11_sizeSum_1 : decode cX11_sizeSum 1 = .ok (.getfield 13, 3) := by decide +kernel
theorem dX11_sizeSum_4 : decode cX11_sizeSum 4 = .ok (.iload_n 2, 1) := by decide +kernel
theorem dX11_sizeSum_5 : decode cX11_sizeSum 5 = .ok (.iaload, 1) := by decide +kernel
theorem dX11_sizeSum_6 : decode cX11_sizeSum 6 = .ok (.aload_n 0, 1) := by decide +kernel
theorem dX11_sizeSum_7 : decode cX11_sizeSum 7 = .ok (.getfield 13, 3) := by decide +kernel
theorem dX11_sizeSum_10 : decode cX11_sizeSum 10 = .ok (.iload_n 3, 1) := by decide +kernel
theorem dX11_sizeSum_11 : decode cX11_sizeSum 11 = .ok (.iaload, 1) := by decide +kernel
theorem dX11_sizeSum_12 : decode cX11_sizeSum 12 = .ok (.if_icmp .le 12, 3) := by decide +kernel
theorem dX11_sizeSum_15 : decode cX11_sizeSum 15 = .ok (.aload_n 0, 1) := by decide +kernel
theorem dX11_sizeSum_16 : decode cX11_sizeSum 16 = .ok (.getfield 13, 3) := by decide +kernel
theorem dX11_sizeSum_19 : decode cX11_sizeSum 19 = .ok (.iload_n 2, 1) := by decide +kernel
theorem dX11_sizeSum_20 : decode cX11_sizeSum 20 = .ok (.iaload, 1) := by decide +kernel
theorem dX11_sizeSum_21 : decode cX11_sizeSum 21 = .ok (.goto 9, 3) := by decide +kernel
theorem dX11_sizeSum_24 : decode cX11_sizeSum 24 = .ok (.aload_n 0, 1) := by decide +kernel
theorem dX11_sizeSum_25 : decode cX11_sizeSum 25 = .ok (.getfield 13, 3) := by decide +kernel
theorem dX11_sizeSum_28 : decode cX11_sizeSum 28 = .ok (.iload_n 3, 1) := by decide +kernel
theorem dX11_sizeSum_29 : decode cX11_sizeSum 29 = .ok (.iaload, 1) := by decide +kernel
theorem dX11_sizeSum_30 : decode cX11_sizeSum 30 = .ok (.istore 5, 2) := by decide +kernel
theorem dX11_sizeSum_32 : decode cX11_sizeSum 32 = .ok (.iconst 0, 1) := by decide +kernel
theorem dX11_sizeSum_33 : decode cX11_sizeSum 33 = .ok (.istore 6, 2) := by decide +kernel
theorem dX11_sizeSum_35 : decode cX11_sizeSum 35 = .ok (.iconst 0, 1) := by decide +kernel
theorem dX11_sizeSum_36 : decode cX11_sizeSum 36 = .ok (.istore 7, 2) := by decide +kernel
theorem dX11_sizeSum_38 : decode cX11_sizeSum 38 = .ok (.iload 7, 2) := by decide +kernel
theorem dX11_sizeSum_40 : decode cX11_sizeSum 40 = .ok (.iload 5, 2) := by decide +kernel
theorem dX11_sizeSum_42 : decode cX11_sizeSum 42 = .ok (.if_icmp .ge 54, 3) := by decide +kernel
theorem dX11_sizeSum_45 : decode cX11_sizeSum 45 = .ok (.iload 6, 2) := by decide +kernel
theorem dX11_sizeSum_47 : decode cX11_sizeSum 47 = .ok (.aload_n 0, 1) := by decide +kernel
theorem dX11_sizeSum_48 : decode cX11_sizeSum 48 = .ok (.iload_n 2, 1) := by decide +kernel
theorem dX11_sizeSum_49 : decode cX11_sizeSum 49 = .ok (.iload 7, 2) := by decide +kernel
theorem dX11_sizeSum_51 : decode cX11_sizeSum 51 = .ok (.invokevirtual 36, 3) := by decide +kernel
theorem dX11_sizeSum_54 : decode cX11_sizeSum 54 = .ok (.aload_n 0, 1) := by decide +kernel
theorem dX11_sizeSum_55 : decode cX11_sizeSum 55 = .ok (.iload_n 3, 1) := by decide +kernel
theorem dX11_sizeSum_56 : decode cX11_sizeSum 56 = .ok (.iload 7, 2) := by decide +kernel
theorem dX11_sizeSum_58 : decode cX11_sizeSum 58 = .ok (.invokevirtual 36, 3) := by decide +kernel
theorem dX11_sizeSum_61 : decode cX11_sizeSum 61 = .ok (.iadd, 1) := by decide +kernel
theorem dX11_sizeSum_62 : decode cX11_sizeSum 62 = .ok (.iadd, 1) := by decide +kernel
theorem dX11_sizeSum_63 : decode cX11_sizeSum 63 = .ok (.istore 6, 2) := by decide +kernel
theorem dX11_sizeSum_65 : decode cX11_sizeSum 65 = .ok (.aload_n 0, 1) := by decide +kernel
theorem dX11_sizeSum_66 : decode cX11_sizeSum 66 = .ok (.getfield 7, 3) := by decide +kernel
theorem dX11_sizeSum_69 : decode cX11_sizeSum 69 = .ok (.sipush 260, 3) := by decide +kernel
theorem dX11_sizeSum_72 : decode cX11_sizeSum 72 = .ok (.iload_n 1, 1) := by decide +kernel
theorem dX11_sizeSum_73 : decode cX11_sizeSum 73 = .ok (.imul, 1) := by decide +kernel
theorem dX11_sizeSum_74 : decode cX11_sizeSum 74 = .ok (.iload 7, 2) := by decide +kernel
theorem dX11_sizeSum_76 : decode cX11_sizeSum 76 = .ok (.iadd, 1) := by decide +kernel
theorem dX11_sizeSum_77 : decode cX11_sizeSum 77 = .ok (.iload 6, 2) := by decide +kernel
theorem dX11_sizeSum_79 : decode cX11_sizeSum 79 = .ok (.ldc 40, 2) := by decide +kernel
theorem dX11_sizeSum_81 : decode cX11_sizeSum 81 = .ok (.iand, 1) := by decide +kernel
theorem dX11_sizeSum_82 : decode cX11_sizeSum 82 = .ok (.iastore, 1) := by decide +kernel
theorem dX11_sizeSum_83 : decode cX11_sizeSum 83 = .ok (.iload 6, 2) := by decide +kernel
theorem dX11_sizeSum_85 : decode cX11_sizeSum 85 = .ok (.bipush 16, 2) := by decide +kernel
theorem dX11_sizeSum_87 : decode cX11_sizeSum 87 = .ok (.ishr, 1) := by decide +kernel
theorem dX11_sizeSum_88 : decode cX11_sizeSum 88 = .ok (.istore 6, 2) := by decide +kernel
theorem dX11_sizeSum_90 : decode cX11_sizeSum 90 = .ok (.iinc 7 1, 3) := by decide +kernel
theorem dX11_sizeSum_93 : decode cX11_sizeSum 93 = .ok (.goto (-55), 3) := by decide +kernel
theorem dX11_sizeSum_96 : decode cX11_sizeSum 96 = .ok (.aload_n 0, 1) := by decide +kernel
theorem dX11_sizeSum_97 : decode cX11_sizeSum 97 = .ok (.getfield 7, 3) := by decide +kernel
theorem dX11_sizeSum_100 : decode cX11_sizeSum 100 = .ok (.sipush 260, 3) := by decide +kernel
theorem dX11_sizeSum_103 : decode cX11_sizeSum 103 = .ok (.iload_n 1, 1) := by decide +kernel
theorem dX11_sizeSum_104 : decode cX11_sizeSum 104 = .ok (.imul, 1) := by decide +kernel
theorem dX11_sizeSum_105 : decode cX11_sizeSum 105 = .ok (.iload 5, 2) := by decide +kernel
theorem dX11_sizeSum_107 : decode cX11_sizeSum 107 = .ok (.iadd, 1) := by decide +kernel
theorem dX11_sizeSum_108 : decode cX11_sizeSum 108 = .ok (.iload 6, 2) := by decide +kernel
theorem dX11_sizeSum_110 : decode cX11_sizeSum 110 = .ok (.iastore, 1) := by decide +kernel
theorem dX11_sizeSum_111 : decode cX11_sizeSum 111 = .ok (.aload_n 0, 1) := by decide +kernel
theorem dX11_sizeSum_112 : decode cX11_sizeSum 112 = .ok (.iload_n 1, 1) := by decide +kernel
theorem dX11_sizeSum_113 : decode cX11_sizeSum 113 = .ok (.iload 5, 2) := by decide +kernel
theorem dX11_sizeSum_115 : decode cX11_sizeSum 115 = .ok (.iconst 1, 1) := by decide +kernel
theorem dX11_sizeSum_116 : decode cX11_sizeSum 116 = .ok (.iadd, 1) := by decide +kernel
theorem dX11_sizeSum_117 : decode cX11_sizeSum 117 = .ok (.iload 4, 2) := by decide +kernel
theorem dX11_sizeSum_119 : decode cX11_sizeSum 119 = .ok (.invokevirtual 41, 3) := by decide +kernel
theorem dX11_sizeSum_122 : decode cX11_sizeSum 122 = .ok (.return_, 1) := by decide +kernel
theorem dX11_sizeLess_0 : decode cX11_sizeLess 0 = .ok (.aload_n 0, 1) := by decide +kernel
theorem dX11_sizeLess_1 : decode cX11_sizeLess 1 = .ok (.getfield 13, 3) := by decide +kernel
theorem dX11_sizeLess_4 : decode cX11_sizeLess 4 = .ok (.iload_n 2, 1) := by decide +kernel
theorem dX11_sizeLess_5 : decode cX11_sizeLess 5 = .ok (.iaload, 1) := by decide +kernel
theorem dX11_sizeLess_6 : decode cX11_sizeLess 6 = .ok (.istore 5, 2) := by decide +kernel
theorem dX11_sizeLess_8 : decode cX11_sizeLess 8 = .ok (.iconst 0, 1) := by decide +kernel
theorem dX11_sizeLess_9 : decode cX11_sizeLess 9 = .ok (.istore 6, 2) := by decide +kernel
theorem dX11_sizeLess_11 : decode cX11_sizeLess 11 = .ok (.iconst 0, 1) := by decide +kernel
theorem dX11_sizeLess_12 : decode cX11_sizeLess 12 = .ok (.istore 7, 2) := by decide +kernel
theorem dX11_sizeLess_14 : decode cX11_sizeLess 14 = .ok (.iload 7, 2) := by decide +kernel
theorem dX11_sizeLess_16 : decode cX11_sizeLess 16 = .ok (.iload 5, 2) := by decide +kernel
theorem dX11_sizeLess_18 : decode cX11_sizeLess 18 = .ok (.if_icmp .ge 59, 3) := by decide +kernel
theorem dX11_sizeLess_21 : decode cX11_sizeLess 21 = .ok (.aload_n 0, 1) := by decide +kernel
theorem dX11_sizeLess_22 : decode cX11_sizeLess 22 = .ok (.iload_n 2, 1) := by decide +kernel
theorem dX11_sizeLess_23 : decode cX11_sizeLess 23 = .ok (.iload 7, 2) := by decide +kernel
theorem dX11_sizeLess_25 : decode cX11_sizeLess 25 = .ok (.invokevirtual 36, 3) := by decide +kernel
theorem dX11_sizeLess_28 : decode cX11_sizeLess 28 = .ok (.aload_n 0, 1) := by decide +kernel
theorem dX11_sizeLess_29 : decode cX11_sizeLess 29 = .ok (.iload_n 3, 1) := by decide +kernel
theorem dX11_sizeLess_30 : decode cX11_sizeLess 30 = .ok (.iload 7, 2) := by decide +kernel
theorem dX11_sizeLess_32 : decode cX11_sizeLess 32 = .ok (.invokevirtual 36, 3) := by decide +kernel
theorem dX11_sizeLess_35 : decode cX11_sizeLess 35 = .ok (.isub, 1) := by decide +kernel
theorem dX11_sizeLess_36 : decode cX11_sizeLess 36 = .ok (.iload 6, 2) := by decide +kernel
theorem dX11_sizeLess_38 : decode cX11_sizeLess 38 = .ok (.isub, 1) := by decide +kernel
theorem dX11_sizeLess_39 : decode cX11_sizeLess 39 = .ok (.istore 8, 2) := by decide +kernel
theorem dX11_sizeLess_41 : decode cX11_sizeLess 41 = .ok (.iload 8, 2) := by decide +kernel
theorem dX11_sizeLess_43 : decode cX11_sizeLess 43 = .ok (.ifCond .ge 7, 3) := by decide +kernel
theorem dX11_sizeLess_46 : decode cX11_sizeLess 46 = .ok (.iconst 1, 1) := by decide +kernel
theorem dX11_sizeLess_47 : decode cX11_sizeLess 47 = .ok (.goto 4, 3) := by decide +kernel
theorem dX11_sizeLess_50 : decode cX11_sizeLess 50 = .ok (.iconst 0, 1) := by decide +kernel
theorem dX11_sizeLess_51 : decode cX11_sizeLess 51 = .ok (.istore 6, 2) := by decide +kernel
theorem dX11_sizeLess_53 : decode cX11_sizeLess 53 = .ok (.aload_n 0, 1) := by decide +kernel
theorem dX11_sizeLess_54 : decode cX11_sizeLess 54 = .ok (.getfield 7, 3) := by decide +kernel
theorem dX11_sizeLess_57 : decode cX11_sizeLess 57 = .ok (.sipush 260, 3) := by decide +kernel
theorem dX11_sizeLess_60 : decode cX11_sizeLess 60 = .ok (.iload_n 1, 1) := by decide +kernel
theorem dX11_sizeLess_61 : decode cX11_sizeLess 61 = .ok (.imul, 1) := by decide +kernel
theorem dX11_sizeLess_62 : decode cX11_sizeLess 62 = .ok (.iload 7, 2) := by decide +kernel
theorem dX11_sizeLess_64 : decode cX11_sizeLess 64 = .ok (.iadd, 1) := by decide +kernel
theorem dX11_sizeLess_65 : decode cX11_sizeLess 65 = .ok (.iload 8, 2) := by decide +kernel
theorem dX11_sizeLess_67 : decode cX11_sizeLess 67 = .ok (.ldc 40, 2) := by decide +kernel
theorem dX11_sizeLess_69 : decode cX11_sizeLess 69 = .ok (.iand, 1) := by decide +kernel
theorem dX11_sizeLess_70 : decode cX11_sizeLess 70 = .ok (.iastore, 1) := by decide +kernel
theorem dX11_sizeLess_71 : decode cX11_sizeLess 71 = .ok (.iinc 7 1, 3) := by decide +kernel
theorem dX11_sizeLess_74 : decode cX11_sizeLess 74 = .ok (.goto (-60), 3) := by decide +kernel
theorem dX11_sizeLess_77 : decode cX11_sizeLess 77 = .ok (.aload_n 0, 1) := by decide +kernel
theorem dX11_sizeLess_78 : decode cX11_sizeLess 78 = .ok (.iload_n 1, 1) := by decide +kernel
theorem dX11_sizeLess_79 : decode cX11_sizeLess 79 = .ok (.iload 5, 2) := by decide +kernel
theorem dX11_sizeLess_81 : decode cX11_sizeLess 81 = .ok (.iload 4, 2) := by decide +kernel
theorem dX11_sizeLess_83 : decode cX11_sizeLess 83 = .ok (.invokevirtual 41, 3) := by decide +kernel
theorem dX11_sizeLess_86 : decode cX11_sizeLess 86 = .ok (.return_, 1) := by decide +kernel
theorem dX11_sum_0 : decode cX11_sum 0 = .ok (.aload_n 0, 1) := by decide +kernel
theorem dX11_sum_1 : decode cX11_sum 1 = .ok (.getfield 16, 3) := by decide +kernel
theorem dX11_sum_4 : decode cX11_sum 4 = .ok (.iload_n 3, 1) := by decide +kernel
theorem dX11_sum_5 : decode cX11_sum 5 = .ok (.iaload, 1) := by decide +kernel
theorem dX11_sum_6 : decode cX11_sum 6 = .ok (.iload 4, 2) := by decide +kernel
theorem dX11_sum_8 : decode cX11_sum 8 = .ok (.imul, 1) := by decide +kernel
theorem dX11_sum_9 : decode cX11_sum 9 = .ok (.istore 5, 2) := by decide +kernel
theorem dX11_sum_11 : decode cX11_sum 11 = .ok (.iload 5, 2) := by decide +kernel
theorem dX11_sum_13 : decode cX11_sum 13 = .ok (.ifCond .ne 12, 3) := by decide +kernel
theorem dX11_sum_16 : decode cX11_sum 16 = .ok (.aload_n 0, 1) := by decide +kernel
theorem dX11_sum_17 : decode cX11_sum 17 = .ok (.iload_n 1, 1) := by decide +kernel
theorem dX11_sum_18 : decode cX11_sum 18 = .ok (.iload_n 2, 1) := by decide +kernel
theorem dX11_sum_19 : decode cX11_sum 19 = .ok (.invokevirtual 45, 3) := by decide +kernel
theorem dX11_sum_22 : decode cX11_sum 22 = .ok (.goto 104, 3) := by decide +kernel
theorem dX11_sum_25 : decode cX11_sum 25 = .ok (.aload_n 0, 1) := by decide +kernel
theorem dX11_sum_26 : decode cX11_sum 26 = .ok (.getfield 16, 3) := by decide +kernel
theorem dX11_sum_29 : decode cX11_sum 29 = .ok (.iload_n 2, 1) := by decide +kernel
theorem dX11_sum_30 : decode cX11_sum 30 = .ok (.iaload, 1) := by decide +kernel
theorem dX11_sum_31 : decode cX11_sum 31 = .ok (.ifCond .ne 20, 3) := by decide +kernel
theorem dX11_sum_34 : decode cX11_sum 34 = .ok (.aload_n 0, 1) := by decide +kernel
theorem dX11_sum_35 : decode cX11_sum 35 = .ok (.iload_n 1, 1) := by decide +kernel
theorem dX11_sum_36 : decode cX11_sum 36 = .ok (.iload_n 3, 1) := by decide +kernel
theorem dX11_sum_37 : decode cX11_sum 37 = .ok (.invokevirtual 45, 3) := by decide +kernel
theorem dX11_sum_40 : decode cX11_sum 40 = .ok (.aload_n 0, 1) := by decide +kernel
theorem dX11_sum_41 : decode cX11_sum 41 = .ok (.getfield 16, 3) := by decide +kernel
theorem dX11_sum_44 : decode cX11_sum 44 = .ok (.iload_n 1, 1) := by decide +kernel
theorem dX11_sum_45 : decode cX11_sum 45 = .ok (.iload 5, 2) := by decide +kernel
theorem dX11_sum_47 : decode cX11_sum 47 = .ok (.iastore, 1) := by decide +kernel
theorem dX11_sum_48 : decode cX11_sum 48 = .ok (.goto 78, 3) := by decide +kernel
theorem dX11_sum_51 : decode cX11_sum 51 = .ok (.aload_n 0, 1) := by decide +kernel
theorem dX11_sum_52 : decode cX11_sum 52 = .ok (.getfield 16, 3) := by decide +kernel
theorem dX11_sum_55 : decode cX11_sum 55 = .ok (.iload_n 2, 1) := by decide +kernel
theorem dX11_sum_56 : decode cX11_sum 56 = .ok (.iaload, 1) := by decide +kernel
theorem dX11_sum_57 : decode cX11_sum 57 = .ok (.iload 5, 2) := by decide +kernel
theorem dX11_sum_59 : decode cX11_sum 59 = .ok (.if_icmp .ne 15, 3) := by decide +kernel
theorem dX11_sum_62 : decode cX11_sum 62 = .ok (.aload_n 0, 1) := by decide +kernel
theorem dX11_sum_63 : decode cX11_sum 63 = .ok (.iload_n 1, 1) := by decide +kernel
theorem dX11_sum_64 : decode cX11_sum 64 = .ok (.iload_n 2, 1) := by decide +kernel
theorem dX11_sum_65 : decode cX11_sum 65 = .ok (.iload_n 3, 1) := by decide +kernel
theorem dX11_sum_66 : decode cX11_sum 66 = .ok (.iload 5, 2) := by decide +kernel
theorem dX11_sum_68 : decode cX11_sum 68 = .ok (.invokevirtual 49, 3) := by decide +kernel
theorem dX11_sum_71 : decode cX11_sum 71 = .ok (.goto 55, 3) := by decide +kernel
theorem dX11_sum_74 : decode cX11_sum 74 = .ok (.aload_n 0, 1) := by decide +kernel
theorem dX11_sum_75 : decode cX11_sum 75 = .ok (.iload_n 2, 1) := by decide +kernel
theorem dX11_sum_76 : decode cX11_sum 76 = .ok (.iload_n 3, 1) := by decide +kernel
theorem dX11_sum_77 : decode cX11_sum 77 = .ok (.invokevirtual 53, 3) := by decide +kernel
theorem dX11_sum_80 : decode cX11_sum 80 = .ok (.istore 6, 2) := by decide +kernel
theorem dX11_sum_82 : decode cX11_sum 82 = .ok (.iload 6, 2) := by decide +kernel
theorem dX11_sum_84 : decode cX11_sum 84 = .ok (.ifCond .ne 12, 3) := by decide +kernel
theorem dX11_sum_87 : decode cX11_sum 87 = .ok (.aload_n 0, 1) := by decide +kernel
theorem dX11_sum_88 : decode cX11_sum 88 = .ok (.iload_n 1, 1) := by decide +kernel
theorem dX11_sum_89 : decode cX11_sum 89 = .ok (.iconst 0, 1) := by decide +kernel
theorem dX11_sum_90 : decode cX11_sum 90 = .ok (.invokevirtual 56, 3) := by decide +kernel
theorem dX11_sum_93 : decode cX11_sum 93 = .ok (.goto 33, 3) := by decide +kernel
theorem dX11_sum_96 : decode cX11_sum 96 = .ok (.iload 6, 2) := by decide +kernel
theorem dX11_sum_98 : decode cX11_sum 98 = .ok (.ifCond .le 19, 3) := by decide +kernel
theorem dX11_sum_101 : decode cX11_sum 101 = .ok (.aload_n 0, 1) := by decide +kernel
theorem dX11_sum_102 : decode cX11_sum 102 = .ok (.iload_n 1, 1) := by decide +kernel
theorem dX11_sum_103 : decode cX11_sum 103 = .ok (.iload_n 2, 1) := by decide +kernel
theorem dX11_sum_104 : decode cX11_sum 104 = .ok (.iload_n 3, 1) := by decide +kernel
theorem dX11_sum_105 : decode cX11_sum 105 = .ok (.aload_n 0, 1) := by decide +kernel
theorem dX11_sum_106 : decode cX11_sum 106 = .ok (.getfield 16, 3) := by decide +kernel
theorem dX11_sum_109 : decode cX11_sum 109 = .ok (.iload_n 2, 1) := by decide +kernel
theorem dX11_sum_110 : decode cX11_sum 110 = .ok (.iaload, 1) := by decide +kernel
theorem dX11_sum_111 : decode cX11_sum 111 = .ok (.invokevirtual 59, 3) := by decide +kernel
theorem dX11_sum_114 : decode cX11_sum 114 = .ok (.goto 12, 3) := by decide +kernel
theorem dX11_sum_117 : decode cX11_sum 117 = .ok (.aload_n 0, 1) := by decide +kernel
theorem dX11_sum_118 : decode cX11_sum 118 = .ok (.iload_n 1, 1) := by decide +kernel
theorem dX11_sum_119 : decode cX11_sum 119 = .ok (.iload_n 3, 1) := by decide +kernel
theorem dX11_sum_120 : decode cX11_sum 120 = .ok (.iload_n 2, 1) := by decide +kernel
theorem dX11_sum_121 : decode cX11_sum 121 = .ok (.iload 5, 2) := by decide +kernel
theorem dX11_sum_123 : decode cX11_sum 123 = .ok (.invokevirtual 59, 3) := by decide +kernel
theorem dX11_sum_126 : decode cX11_sum 126 = .ok (.return_, 1) := by decide +kernel
theorem dX11_product_0 : decode cX11_product 0 = .ok (.aload_n 0, 1) := by decide +kernel
theorem dX11_product_1 : decode cX11_product 1 = .ok (.getfield 13, 3) := by decide +kernel
theorem dX11_product_4 : decode cX11_product 4 = .ok (.iload_n 2, 1) := by decide +kernel
theorem dX11_product_5 : decode cX11_product 5 = .ok (.iaload, 1) := by decide +kernel
theorem dX11_product_6 : decode cX11_product 6 = .ok (.aload_n 0, 1) := by decide +kernel
theorem dX11_product_7 : decode cX11_product 7 = .ok (.getfield 13, 3) := by decide +kernel
theorem dX11_product_10 : decode cX11_product 10 = .ok (.iload_n 3, 1) := by decide +kernel
theorem dX11_product_11 : decode cX11_product 11 = .ok (.iaload, 1) := by decide +kernel
theorem dX11_product_12 : decode cX11_product 12 = .ok (.iadd, 1) := by decide +kernel
theorem dX11_product_13 : decode cX11_product 13 = .ok (.istore 4, 2) := by decide +kernel
theorem dX11_product_15 : decode cX11_product 15 = .ok (.iconst 0, 1) := by decide +kernel
theorem dX11_product_16 : decode cX11_product 16 = .ok (.istore 5, 2) := by decide +kernel
theorem dX11_product_18 : decode cX11_product 18 = .ok (.iload 5, 2) := by decide +kernel
theorem dX11_product_20 : decode cX11_product 20 = .ok (.iload 4, 2) := by decide +kernel
theorem dX11_product_22 : decode cX11_product 22 = .ok (.if_icmp .ge 23, 3) := by decide +kernel
theorem dX11_product_25 : decode cX11_product 25 = .ok (.aload_n 0, 1) := by decide +kernel
theorem dX11_product_26 : decode cX11_product 26 = .ok (.getfield 7, 3) := by decide +kernel
theorem dX11_product_29 : decode cX11_product 29 = .ok (.sipush 260, 3) := by decide +kernel
theorem dX11_product_32 : decode cX11_product 32 = .ok (.iload_n 1, 1) := by decide +kernel
theorem dX11_product_33 : decode cX11_product 33 = .ok (.imul, 1) := by decide +kernel
theorem dX11_product_34 : decode cX11_product 34 = .ok (.iload 5, 2) := by decide +kernel
theorem dX11_product_36 : decode cX11_product 36 = .ok (.iadd, 1) := by decide +kernel
theorem dX11_product_37 : decode cX11_product 37 = .ok (.iconst 0, 1) := by decide +kernel
theorem dX11_product_38 : decode cX11_product 38 = .ok (.iastore, 1) := by decide +kernel
theorem dX11_product_39 : decode cX11_product 39 = .ok (.iinc 5 1, 3) := by decide +kernel
theorem dX11_product_42 : decode cX11_product 42 = .ok (.goto (-24), 3) := by decide +kernel
theorem dX11_product_45 : decode cX11_product 45 = .ok (.iconst 0, 1) := by decide +kernel
theorem dX11_product_46 : decode cX11_product 46 = .ok (.istore 5, 2) := by decide +kernel
theorem dX11_product_48 : decode cX11_product 48 = .ok (.iload 5, 2) := by decide +kernel
theorem dX11_product_50 : decode cX11_product 50 = .ok (.aload_n 0, 1) := by decide +kernel
theorem dX11_product_51 : decode cX11_product 51 = .ok (.getfield 13, 3) := by decide +kernel
theorem dX11_product_54 : decode cX11_product 54 = .ok (.iload_n 2, 1) := by decide +kernel
theorem dX11_product_55 : decode cX11_product 55 = .ok (.iaload, 1) := by decide +kernel
theorem dX11_product_56 : decode cX11_product 56 = .ok (.if_icmp .ge 137, 3) := by decide +kernel
theorem dX11_product_59 : decode cX11_product 59 = .ok (.lconst 0, 1) := by decide +kernel
theorem dX11_product_60 : decode cX11_product 60 = .ok (.lstore 6, 2) := by decide +kernel
theorem dX11_product_62 : decode cX11_product 62 = .ok (.iconst 0, 1) := by decide +kernel
theorem dX11_product_63 : decode cX11_product 63 = .ok (.istore 8, 2) := by decide +kernel
theorem dX11_product_65 : decode cX11_product 65 = .ok (.iload 8, 2) := by decide +kernel
theorem dX11_product_67 : decode cX11_product 67 = .ok (.aload_n 0, 1) := by decide +kernel
theorem dX11_product_68 : decode cX11_product 68 = .ok (.getfield 13, 3) := by decide +kernel
theorem dX11_product_71 : decode cX11_product 71 = .ok (.iload_n 3, 1) := by decide +kernel
theorem dX11_product_72 : decode cX11_product 72 = .ok (.iaload, 1) := by decide +kernel
theorem dX11_product_73 : decode cX11_product 73 = .ok (.if_icmp .ge 91, 3) := by decide +kernel
theorem dX11_product_76 : decode cX11_product 76 = .ok (.lload 6, 2) := by decide +kernel
theorem dX11_product_78 : decode cX11_product 78 = .ok (.aload_n 0, 1) := by decide +kernel
theorem dX11_product_79 : decode cX11_product 79 = .ok (.getfield 7, 3) := by decide +kernel
theorem dX11_product_82 : decode cX11_product 82 = .ok (.sipush 260, 3) := by decide +kernel
theorem dX11_product_85 : decode cX11_product 85 = .ok (.iload_n 2, 1) := by decide +kernel
theorem dX11_product_86 : decode cX11_product 86 = .ok (.imul, 1) := by decide +kernel
theorem dX11_product_87 : decode cX11_product 87 = .ok (.iload 5, 2) := by decide +kernel
theorem dX11_product_89 : decode cX11_product 89 = .ok (.iadd, 1) := by decide +kernel
theorem dX11_product_90 : decode cX11_product 90 = .ok (.iaload, 1) := by decide +kernel
theorem dX11_product_91 : decode cX11_product 91 = .ok (.i2l, 1) := by decide +kernel
theorem dX11_product_92 : decode cX11_product 92 = .ok (.aload_n 0, 1) := by decide +kernel
theorem dX11_product_93 : decode cX11_product 93 = .ok (.getfield 7, 3) := by decide +kernel
theorem dX11_product_96 : decode cX11_product 96 = .ok (.sipush 260, 3) := by decide +kernel
theorem dX11_product_99 : decode cX11_product 99 = .ok (.iload_n 3, 1) := by decide +kernel
theorem dX11_product_100 : decode cX11_product 100 = .ok (.imul, 1) := by decide +kernel
theorem dX11_product_101 : decode cX11_product 101 = .ok (.iload 8, 2) := by decide +kernel
theorem dX11_product_103 : decode cX11_product 103 = .ok (.iadd, 1) := by decide +kernel
theorem dX11_product_104 : decode cX11_product 104 = .ok (.iaload, 1) := by decide +kernel
theorem dX11_product_105 : decode cX11_product 105 = .ok (.i2l, 1) := by decide +kernel
theorem dX11_product_106 : decode cX11_product 106 = .ok (.lmul, 1) := by decide +kernel
theorem dX11_product_107 : decode cX11_product 107 = .ok (.aload_n 0, 1) := by decide +kernel
theorem dX11_product_108 : decode cX11_product 108 = .ok (.getfield 7, 3) := by decide +kernel
theorem dX11_product_111 : decode cX11_product 111 = .ok (.sipush 260, 3) := by decide +kernel
theorem dX11_product_114 : decode cX11_product 114 = .ok (.iload_n 1, 1) := by decide +kernel
theorem dX11_product_115 : decode cX11_product 115 = .ok (.imul, 1) := by decide +kernel
theorem dX11_product_116 : decode cX11_product 116 = .ok (.iload 5, 2) := by decide +kernel
theorem dX11_product_118 : decode cX11_product 118 = .ok (.iadd, 1) := by decide +kernel
theorem dX11_product_119 : decode cX11_product 119 = .ok (.iload 8, 2) := by decide +kernel
theorem dX11_product_121 : decode cX11_product 121 = .ok (.iadd, 1) := by decide +kernel
theorem dX11_product_122 : decode cX11_product 122 = .ok (.iaload, 1) := by decide +kernel
theorem dX11_product_123 : decode cX11_product 123 = .ok (.i2l, 1) := by decide +kernel
theorem dX11_product_124 : decode cX11_product 124 = .ok (.ladd, 1) := by decide +kernel
theorem dX11_product_125 : decode cX11_product 125 = .ok (.ladd, 1) := by decide +kernel
theorem dX11_product_126 : decode cX11_product 126 = .ok (.lstore 6, 2) := by decide +kernel
theorem dX11_product_128 : decode cX11_product 128 = .ok (.aload_n 0, 1) := by decide +kernel
theorem dX11_product_129 : decode cX11_product 129 = .ok (.getfield 7, 3) := by decide +kernel
theorem dX11_product_132 : decode cX11_product 132 = .ok (.sipush 260, 3) := by decide +kernel
theorem dX11_product_135 : decode cX11_product 135 = .ok (.iload_n 1, 1) := by decide +kernel
theorem dX11_product_136 : decode cX11_product 136 = .ok (.imul, 1) := by decide +kernel
theorem dX11_product_137 : decode cX11_product 137 = .ok (.iload 5, 2) := by decide +kernel
theorem dX11_product_139 : decode cX11_product 139 = .ok (.iadd, 1) := by decide +kernel
theorem dX11_product_140 : decode cX11_product 140 = .ok (.iload 8, 2) := by decide +kernel
theorem dX11_product_142 : decode cX11_product 142 = .ok (.iadd, 1) := by decide +kernel
theorem dX11_product_143 : decode cX11_product 143 = .ok (.lload 6, 2) := by decide +kernel
theorem dX11_product_145 : decode cX11_product 145 = .ok (.ldc2_w 62, 3) := by decide +kernel
theorem dX11_product_148 : decode cX11_product 148 = .ok (.land, 1) := by decide +kernel
theorem dX11_product_149 : decode cX11_product 149 = .ok (.l2i, 1) := by decide +kernel
theorem dX11_product_150 : decode cX11_product 150 = .ok (.iastore, 1) := by decide +kernel
theorem dX11_product_151 : decode cX11_product 151 = .ok (.lload 6, 2) := by decide +kernel
theorem dX11_product_153 : decode cX11_product 153 = .ok (.bipush 16, 2) := by decide +kernel
theorem dX11_product_155 : decode cX11_product 155 = .ok (.lshr, 1) := by decide +kernel
theorem dX11_product_156 : decode cX11_product 156 = .ok (.lstore 6, 2) := by decide +kernel
theorem dX11_product_158 : decode cX11_product 158 = .ok (.iinc 8 1, 3) := by decide +kernel
theorem dX11_product_161 : decode cX11_product 161 = .ok (.goto (-96), 3) := by decide +kernel
theorem dX11_product_164 : decode cX11_product 164 = .ok (.aload_n 0, 1) := by decide +kernel
theorem dX11_product_165 : decode cX11_product 165 = .ok (.getfield 7, 3) := by decide +kernel
theorem dX11_product_168 : decode cX11_product 168 = .ok (.sipush 260, 3) := by decide +kernel
theorem dX11_product_171 : decode cX11_product 171 = .ok (.iload_n 1, 1) := by decide +kernel
theorem dX11_product_172 : decode cX11_product 172 = .ok (.imul, 1) := by decide +kernel
theorem dX11_product_173 : decode cX11_product 173 = .ok (.iload 5, 2) := by decide +kernel
theorem dX11_product_175 : decode cX11_product 175 = .ok (.iadd, 1) := by decide +kernel
theorem dX11_product_176 : decode cX11_product 176 = .ok (.aload_n 0, 1) := by decide +kernel
theorem dX11_product_177 : decode cX11_product 177 = .ok (.getfield 13, 3) := by decide +kernel
theorem dX11_product_180 : decode cX11_product 180 = .ok (.iload_n 3, 1) := by decide +kernel
theorem dX11_product_181 : decode cX11_product 181 = .ok (.iaload, 1) := by decide +kernel
theorem dX11_product_182 : decode cX11_product 182 = .ok (.iadd, 1) := by decide +kernel
theorem dX11_product_183 : decode cX11_product 183 = .ok (.lload 6, 2) := by decide +kernel
theorem dX11_product_185 : decode cX11_product 185 = .ok (.l2i, 1) := by decide +kernel
theorem dX11_product_186 : decode cX11_product 186 = .ok (.iastore, 1) := by decide +kernel
theorem dX11_product_187 : decode cX11_product 187 = .ok (.iinc 5 1, 3) := by decide +kernel
theorem dX11_product_190 : decode cX11_product 190 = .ok (.goto (-142), 3) := by decide +kernel
theorem dX11_product_193 : decode cX11_product 193 = .ok (.aload_n 0, 1) := by decide +kernel
theorem dX11_product_194 : decode cX11_product 194 = .ok (.iload_n 1, 1) := by decide +kernel
theorem dX11_product_195 : decode cX11_product 195 = .ok (.iload 4, 2) := by decide +kernel
theorem dX11_product_197 : decode cX11_product 197 = .ok (.aload_n 0, 1) := by decide +kernel
theorem dX11_product_198 : decode cX11_product 198 = .ok (.getfield 16, 3) := by decide +kernel
theorem dX11_product_201 : decode cX11_product 201 = .ok (.iload_n 2, 1) := by decide +kernel
theorem dX11_product_202 : decode cX11_product 202 = .ok (.iaload, 1) := by decide +kernel
theorem dX11_product_203 : decode cX11_product 203 = .ok (.aload_n 0, 1) := by decide +kernel
theorem dX11_product_204 : decode cX11_product 204 = .ok (.getfield 16, 3) := by decide +kernel
theorem dX11_product_207 : decode cX11_product 207 = .ok (.iload_n 3, 1) := by decide +kernel
theorem dX11_product_208 : decode cX11_product 208 = .ok (.iaload, 1) := by decide +kernel
theorem dX11_product_209 : decode cX11_product 209 = .ok (.imul, 1) := by decide +kernel
theorem dX11_product_210 : decode cX11_product 210 = .ok (.invokevirtual 41, 3) := by decide +kernel
theorem dX11_product_213 : decode cX11_product 213 = .ok (.return_, 1) := by decide +kernel
theorem dX11_top_0 : decode cX11_top 0 = .ok (.lconst 0, 1) := by decide +kernel
theorem dX11_top_1 : decode cX11_top 1 = .ok (.lstore 4, 2) := by decide +kernel
theorem dX11_top_3 : decode cX11_top 3 = .ok (.iconst 0, 1) := by decide +kernel
theorem dX11_top_4 : decode cX11_top 4 = .ok (.istore 6, 2) := by decide +kernel
theorem dX11_top_6 : decode cX11_top 6 = .ok (.iload 6, 2) := by decide +kernel
theorem dX11_top_8 : decode cX11_top 8 = .ok (.iload_n 3, 1) := by decide +kernel
theorem dX11_top_9 : decode cX11_top 9 = .ok (.if_icmp .ge 44, 3) := by decide +kernel
theorem dX11_top_12 : decode cX11_top 12 = .ok (.lload 4, 2) := by decide +kernel
theorem dX11_top_14 : decode cX11_top 14 = .ok (.bipush 16, 2) := by decide +kernel
theorem dX11_top_16 : decode cX11_top 16 = .ok (.lshl, 1) := by decide +kernel
theorem dX11_top_17 : decode cX11_top 17 = .ok (.iload_n 2, 1) := by decide +kernel
theorem dX11_top_18 : decode cX11_top 18 = .ok (.iload 6, 2) := by decide +kernel
theorem dX11_top_20 : decode cX11_top 20 = .ok (.isub, 1) := by decide +kernel
theorem dX11_top_21 : decode cX11_top 21 = .ok (.ifCond .lt 21, 3) := by decide +kernel
theorem dX11_top_24 : decode cX11_top 24 = .ok (.aload_n 0, 1) := by decide +kernel
theorem dX11_top_25 : decode cX11_top 25 = .ok (.getfield 7, 3) := by decide +kernel
theorem dX11_top_28 : decode cX11_top 28 = .ok (.sipush 260, 3) := by decide +kernel
theorem dX11_top_31 : decode cX11_top 31 = .ok (.iload_n 1, 1) := by decide +kernel
theorem dX11_top_32 : decode cX11_top 32 = .ok (.imul, 1) := by decide +kernel
theorem dX11_top_33 : decode cX11_top 33 = .ok (.iload_n 2, 1) := by decide +kernel
theorem dX11_top_34 : decode cX11_top 34 = .ok (.iadd, 1) := by decide +kernel
theorem dX11_top_35 : decode cX11_top 35 = .ok (.iload 6, 2) := by decide +kernel
theorem dX11_top_37 : decode cX11_top 37 = .ok (.isub, 1) := by decide +kernel
theorem dX11_top_38 : decode cX11_top 38 = .ok (.iaload, 1) := by decide +kernel
theorem dX11_top_39 : decode cX11_top 39 = .ok (.goto 4, 3) := by decide +kernel
theorem dX11_top_42 : decode cX11_top 42 = .ok (.iconst 0, 1) := by decide +kernel
theorem dX11_top_43 : decode cX11_top 43 = .ok (.i2l, 1) := by decide +kernel
theorem dX11_top_44 : decode cX11_top 44 = .ok (.lor, 1) := by decide +kernel
theorem dX11_top_45 : decode cX11_top 45 = .ok (.lstore 4, 2) := by decide +kernel
theorem dX11_top_47 : decode cX11_top 47 = .ok (.iinc 6 1, 3) := by decide +kernel
theorem dX11_top_50 : decode cX11_top 50 = .ok (.goto (-44), 3) := by decide +kernel
theorem dX11_top_53 : decode cX11_top 53 = .ok (.lload 4, 2) := by decide +kernel
theorem dX11_top_55 : decode cX11_top 55 = .ok (.lreturn, 1) := by decide +kernel
theorem dX11_quotient_0 : decode cX11_quotient 0 = .ok (.aload_n 0, 1) := by decide +kernel
theorem dX11_quotient_1 : decode cX11_quotient 1 = .ok (.getfield 13, 3) := by decide +kernel
theorem dX11_quotient_4 : decode cX11_quotient 4 = .ok (.iload_n 3, 1) := by decide +kernel
theorem dX11_quotient_5 : decode cX11_quotient 5 = .ok (.iaload, 1) := by decide +kernel
theorem dX11_quotient_6 : decode cX11_quotient 6 = .ok (.istore 5, 2) := by decide +kernel
theorem dX11_quotient_8 : decode cX11_quotient 8 = .ok (.aload_n 0, 1) := by decide +kernel
theorem dX11_quotient_9 : decode cX11_quotient 9 = .ok (.getfield 13, 3) := by decide +kernel
theorem dX11_quotient_12 : decode cX11_quotient 12 = .ok (.iload 4, 2) := by decide +kernel
theorem dX11_quotient_14 : decode cX11_quotient 14 = .ok (.iaload, 1) := by decide +kernel
theorem dX11_quotient_15 : decode cX11_quotient 15 = .ok (.istore 6, 2) := by decide +kernel
theorem dX11_quotient_17 : decode cX11_quotient 17 = .ok (.aload_n 0, 1) := by decide +kernel
theorem dX11_quotient_18 : decode cX11_quotient 18 = .ok (.iload_n 2, 1) := by decide +kernel
theorem dX11_quotient_19 : decode cX11_quotient 19 = .ok (.iload_n 3, 1) := by decide +kernel
theorem dX11_quotient_20 : decode cX11_quotient 20 = .ok (.invokevirtual 45, 3) := by decide +kernel
theorem dX11_quotient_23 : decode cX11_quotient 23 = .ok (.aload_n 0, 1) := by decide +kernel
theorem dX11_quotient_24 : decode cX11_quotient 24 = .ok (.getfield 7, 3) := by decide +kernel
theorem dX11_quotient_27 : decode cX11_quotient 27 = .ok (.sipush 260, 3) := by decide +kernel
theorem dX11_quotient_30 : decode cX11_quotient 30 = .ok (.iload_n 2, 1) := by decide +kernel
theorem dX11_quotient_31 : decode cX11_quotient 31 = .ok (.imul, 1) := by decide +kernel
theorem dX11_quotient_32 : decode cX11_quotient 32 = .ok (.iload 5, 2) := by decide +kernel
theorem dX11_quotient_34 : decode cX11_quotient 34 = .ok (.iadd, 1) := by decide +kernel
theorem dX11_quotient_35 : decode cX11_quotient 35 = .ok (.iconst 0, 1) := by decide +kernel
theorem dX11_quotient_36 : decode cX11_quotient 36 = .ok (.iastore, 1) := by decide +kernel
theorem dX11_quotient_37 : decode cX11_quotient 37 = .ok (.iload 5, 2) := by decide +kernel
theorem dX11_quotient_39 : decode cX11_quotient 39 = .ok (.iload 6, 2) := by decide +kernel
theorem dX11_quotient_41 : decode cX11_quotient 41 = .ok (.if_icmp .ge 26, 3) := by decide +kernel
theorem dX11_quotient_44 : decode cX11_quotient 44 = .ok (.aload_n 0, 1) := by decide +kernel
theorem dX11_quotient_45 : decode cX11_quotient 45 = .ok (.iload_n 1, 1) := by decide +kernel
theorem dX11_quotient_46 : decode cX11_quotient 46 = .ok (.iconst 0, 1) := by decide +kernel
theorem dX11_quotient_47 : decode cX11_quotient 47 = .ok (.invokevirtual 56, 3) := by decide +kernel
theorem dX11_quotient_50 : decode cX11_quotient 50 = .ok (.aload_n 0, 1) := by decide +kernel
theorem dX11_quotient_51 : decode cX11_quotient 51 = .ok (.getfield 16, 3) := by decide +kernel
theorem dX11_quotient_54 : decode cX11_quotient 54 = .ok (.iload_n 2, 1) := by decide +kernel
theorem dX11_quotient_55 : decode cX11_quotient 55 = .ok (.iload 5, 2) := by decide +kernel
theorem dX11_quotient_57 : decode cX11_quotient 57 = .ok (.ifCond .ne 7, 3) := by decide +kernel
theorem dX11_quotient_60 : decode cX11_quotient 60 = .ok (.iconst 0, 1) := by decide +kernel
theorem dX11_quotient_61 : decode cX11_quotient 61 = .ok (.goto 4, 3) := by decide +kernel
theorem dX11_quotient_64 : decode cX11_quotient 64 = .ok (.iconst 1, 1) := by decide +kernel
theorem dX11_quotient_65 : decode cX11_quotient 65 = .ok (.iastore, 1) := by decide +kernel
theorem dX11_quotient_66 : decode cX11_quotient 66 = .ok (.return_, 1) := by decide +kernel
theorem dX11_quotient_67 : decode cX11_quotient 67 = .ok (.iload 6, 2) := by decide +kernel
theorem dX11_quotient_69 : decode cX11_quotient 69 = .ok (.iconst 1, 1) := by decide +kernel
theorem dX11_quotient_70 : decode cX11_quotient 70 = .ok (.if_icmp .le 17, 3) := by decide +kernel
theorem dX11_quotient_73 : decode cX11_quotient 73 = .ok (.aload_n 0, 1) := by decide +kernel
theorem dX11_quotient_74 : decode cX11_quotient 74 = .ok (.iload 4, 2) := by decide +kernel
theorem dX11_quotient_76 : decode cX11_quotient 76 = .ok (.iload 6, 2) := by decide +kernel
theorem dX11_quotient_78 : decode cX11_quotient 78 = .ok (.iconst 1, 1) := by decide +kernel
theorem dX11_quotient_79 : decode cX11_quotient 79 = .ok (.isub, 1) := by decide +kernel
theorem dX11_quotient_80 : decode cX11_quotient 80 = .ok (.iconst 2, 1) := by decide +kernel
theorem dX11_quotient_81 : decode cX11_quotient 81 = .ok (.invokevirtual 64, 3) := by decide +kernel
theorem dX11_quotient_84 : decode cX11_quotient 84 = .ok (.goto 15, 3) := by decide +kernel
theorem dX11_quotient_87 : decode cX11_quotient 87 = .ok (.aload_n 0, 1) := by decide +kernel
theorem dX11_quotient_88 : decode cX11_quotient 88 = .ok (.getfield 7, 3) := by decide +kernel
theorem dX11_quotient_91 : decode cX11_quotient 91 = .ok (.sipush 260, 3) := by decide +kernel
theorem dX11_quotient_94 : decode cX11_quotient 94 = .ok (.iload 4, 2) := by decide +kernel
theorem dX11_quotient_96 : decode cX11_quotient 96 = .ok (.imul, 1) := by decide +kernel
theorem dX11_quotient_97 : decode cX11_quotient 97 = .ok (.iaload, 1) := by decide +kernel
theorem dX11_quotient_98 : decode cX11_quotient 98 = .ok (.i2l, 1) := by decide +kernel
theorem dX11_quotient_99 : decode cX11_quotient 99 = .ok (.lstore 7, 2) := by decide +kernel
theorem dX11_quotient_101 : decode cX11_quotient 101 = .ok (.iload 5, 2) := by decide +kernel
theorem dX11_quotient_103 : decode cX11_quotient 103 = .ok (.iload 6, 2) := by decide +kernel
theorem dX11_quotient_105 : decode cX11_quotient 105 = .ok (.isub, 1) := by decide +kernel
theorem dX11_quotient_106 : decode cX11_quotient 106 = .ok (.istore 9, 2) := by decide +kernel
theorem dX11_quotient_108 : decode cX11_quotient 108 = .ok (.iload 9, 2) := by decide +kernel
theorem dX11_quotient_110 : decode cX11_quotient 110 = .ok (.ifCond .lt 303, 3) := by decide +kernel
theorem dX11_quotient_113 : decode cX11_quotient 113 = .ok (.iload 6, 2) := by decide +kernel
theorem dX11_quotient_115 : decode cX11_quotient 115 = .ok (.iconst 1, 1) := by decide +kernel
theorem dX11_quotient_116 : decode cX11_quotient 116 = .ok (.if_icmp .le 17, 3) := by decide +kernel
theorem dX11_quotient_119 : decode cX11_quotient 119 = .ok (.aload_n 0, 1) := by decide +kernel
theorem dX11_quotient_120 : decode cX11_quotient 120 = .ok (.iload_n 2, 1) := by decide +kernel
theorem dX11_quotient_121 : decode cX11_quotient 121 = .ok (.iload 9, 2) := by decide +kernel
theorem dX11_quotient_123 : decode cX11_quotient 123 = .ok (.iload 6, 2) := by decide +kernel
theorem dX11_quotient_125 : decode cX11_quotient 125 = .ok (.iadd, 1) := by decide +kernel
theorem dX11_quotient_126 : decode cX11_quotient 126 = .ok (.iconst 3, 1) := by decide +kernel
theorem dX11_quotient_127 : decode cX11_quotient 127 = .ok (.invokevirtual 64, 3) := by decide +kernel
theorem dX11_quotient_130 : decode cX11_quotient 130 = .ok (.goto 14, 3) := by decide +kernel
theorem dX11_quotient_133 : decode cX11_quotient 133 = .ok (.aload_n 0, 1) := by decide +kernel
theorem dX11_quotient_134 : decode cX11_quotient 134 = .ok (.iload_n 2, 1) := by decide +kernel
theorem dX11_quotient_135 : decode cX11_quotient 135 = .ok (.iload 9, 2) := by decide +kernel
theorem dX11_quotient_137 : decode cX11_quotient 137 = .ok (.iload 6, 2) := by decide +kernel
theorem dX11_quotient_139 : decode cX11_quotient 139 = .ok (.iadd, 1) := by decide +kernel
theorem dX11_quotient_140 : decode cX11_quotient 140 = .ok (.iconst 2, 1) := by decide +kernel
theorem dX11_quotient_141 : decode cX11_quotient 141 = .ok (.invokevirtual 64, 3) := by decide +kernel
theorem dX11_quotient_144 : decode cX11_quotient 144 = .ok (.lstore 10, 2) := by decide +kernel
theorem dX11_quotient_146 : decode cX11_quotient 146 = .ok (.lload 10, 2) := by decide +kernel
theorem dX11_quotient_148 : decode cX11_quotient 148 = .ok (.lload 7, 2) := by decide +kernel
theorem dX11_quotient_150 : decode cX11_quotient 150 = .ok (.ldiv, 1) := by decide +kernel
theorem dX11_quotient_151 : decode cX11_quotient 151 = .ok (.lstore 12, 2) := by decide +kernel
theorem dX11_quotient_153 : decode cX11_quotient 153 = .ok (.lload 12, 2) := by decide +kernel
theorem dX11_quotient_155 : decode cX11_quotient 155 = .ok (.ldc2_w 62, 3) := by decide +kernel
theorem dX11_quotient_158 : decode cX11_quotient 158 = .ok (.lcmp, 1) := by decide +kernel
theorem dX11_quotient_159 : decode cX11_quotient 159 = .ok (.ifCond .le 9, 3) := by decide +kernel
theorem dX11_quotient_162 : decode cX11_quotient 162 = .ok (.ldc2_w 62, 3) := by decide +kernel
theorem dX11_quotient_165 : decode cX11_quotient 165 = .ok (.goto 5, 3) := by decide +kernel
theorem dX11_quotient_168 : decode cX11_quotient 168 = .ok (.lload 12, 2) := by decide +kernel
theorem dX11_quotient_170 : decode cX11_quotient 170 = .ok (.lstore 12, 2) := by decide +kernel
theorem dX11_quotient_172 : decode cX11_quotient 172 = .ok (.lconst 0, 1) := by decide +kernel
theorem dX11_quotient_173 : decode cX11_quotient 173 = .ok (.lstore 14, 2) := by decide +kernel
theorem dX11_quotient_175 : decode cX11_quotient 175 = .ok (.iconst 0, 1) := by decide +kernel
theorem dX11_quotient_176 : decode cX11_quotient 176 = .ok (.istore 16, 2) := by decide +kernel
theorem dX11_quotient_178 : decode cX11_quotient 178 = .ok (.iload 16, 2) := by decide +kernel
theorem dX11_quotient_180 : decode cX11_quotient 180 = .ok (.iload 6, 2) := by decide +kernel
theorem dX11_quotient_182 : decode cX11_quotient 182 = .ok (.if_icmp .gt 91, 3) := by decide +kernel
theorem dX11_quotient_185 : decode cX11_quotient 185 = .ok (.aload_n 0, 1) := by decide +kernel
theorem dX11_quotient_186 : decode cX11_quotient 186 = .ok (.getfield 7, 3) := by decide +kernel
theorem dX11_quotient_189 : decode cX11_quotient 189 = .ok (.sipush 260, 3) := by decide +kernel
theorem dX11_quotient_192 : decode cX11_quotient 192 = .ok (.iload_n 2, 1) := by decide +kernel
theorem dX11_quotient_193 : decode cX11_quotient 193 = .ok (.imul, 1) := by decide +kernel
theorem dX11_quotient_194 : decode cX11_quotient 194 = .ok (.iload 9, 2) := by decide +kernel
theorem dX11_quotient_196 : decode cX11_quotient 196 = .ok (.iadd, 1) := by decide +kernel
theorem dX11_quotient_197 : decode cX11_quotient 197 = .ok (.iload 16, 2) := by decide +kernel
theorem dX11_quotient_199 : decode cX11_quotient 199 = .ok (.iadd, 1) := by decide +kernel
theorem dX11_quotient_200 : decode cX11_quotient 200 = .ok (.iaload, 1) := by decide +kernel
theorem dX11_quotient_201 : decode cX11_quotient 201 = .ok (.i2l, 1) := by decide +kernel
theorem dX11_quotient_202 : decode cX11_quotient 202 = .ok (.lload 12, 2) := by decide +kernel
theorem dX11_quotient_204 : decode cX11_quotient 204 = .ok (.iload 16, 2) := by decide +kernel
theorem dX11_quotient_206 : decode cX11_quotient 206 = .ok (.iload 6, 2) := by decide +kernel
theorem dX11_quotient_208 : decode cX11_quotient 208 = .ok (.if_icmp .ge 20, 3) := by decide +kernel
theorem dX11_quotient_211 : decode cX11_quotient 211 = .ok (.aload_n 0, 1) := by decide +kernel
theorem dX11_quotient_212 : decode cX11_quotient 212 = .ok (.getfield 7, 3) := by decide +kernel
theorem dX11_quotient_215 : decode cX11_quotient 215 = .ok (.sipush 260, 3) := by decide +kernel
theorem dX11_quotient_218 : decode cX11_quotient 218 = .ok (.iload 4, 2) := by decide +kernel
theorem dX11_quotient_220 : decode cX11_quotient 220 = .ok (.imul, 1) := by decide +kernel
theorem dX11_quotient_221 : decode cX11_quotient 221 = .ok (.iload 16, 2) := by decide +kernel
theorem dX11_quotient_223 : decode cX11_quotient 223 = .ok (.iadd, 1) := by decide +kernel
theorem dX11_quotient_224 : decode cX11_quotient 224 = .ok (.iaload, 1) := by decide +kernel
theorem dX11_quotient_225 : decode cX11_quotient 225 = .ok (.goto 4, 3) := by decide +kernel
theorem dX11_quotient_228 : decode cX11_quotient 228 = .ok (.iconst 0, 1) := by decide +kernel
theorem dX11_quotient_229 : decode cX11_quotient 229 = .ok (.i2l, 1) := by decide +kernel
theorem dX11_quotient_230 : decode cX11_quotient 230 = .ok (.lmul, 1) := by decide +kernel
theorem dX11_quotient_231 : decode cX11_quotient 231 = .ok (.lsub, 1) := by decide +kernel
theorem dX11_quotient_232 : decode cX11_quotient 232 = .ok (.lload 14, 2) := by decide +kernel
theorem dX11_quotient_234 : decode cX11_quotient 234 = .ok (.ladd, 1) := by decide +kernel
theorem dX11_quotient_235 : decode cX11_quotient 235 = .ok (.lstore 17, 2) := by decide +kernel
theorem dX11_quotient_237 : decode cX11_quotient 237 = .ok (.aload_n 0, 1) := by decide +kernel
theorem dX11_quotient_238 : decode cX11_quotient 238 = .ok (.getfield 7, 3) := by decide +kernel
theorem dX11_quotient_241 : decode cX11_quotient 241 = .ok (.sipush 260, 3) := by decide +kernel
theorem dX11_quotient_244 : decode cX11_quotient 244 = .ok (.iload_n 2, 1) := by decide +kernel
theorem dX11_quotient_245 : decode cX11_quotient 245 = .ok (.imul, 1) := by decide +kernel
