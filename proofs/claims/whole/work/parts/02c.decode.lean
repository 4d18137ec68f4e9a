theorem dX3_difference_48 : decode cX3_difference 48 = .ok (.getfield 9, 3) := by decide +kernel
theorem dX3_difference_51 : decode cX3_difference 51 = .ok (.irem, 1) := by decide +kernel
theorem dX3_difference_52 : decode cX3_difference 52 = .ok (.iload 5, 2) := by decide +kernel
theorem dX3_difference_54 : decode cX3_difference 54 = .ok (.imul, 1) := by decide +kernel
theorem dX3_difference_55 : decode cX3_difference 55 = .ok (.iadd, 1) := by decide +kernel
theorem dX3_difference_56 : decode cX3_difference 56 = .ok (.istore 6, 2) := by decide +kernel
theorem dX3_difference_58 : decode cX3_difference 58 = .ok (.iload_n 3, 1) := by decide +kernel
theorem dX3_difference_59 : decode cX3_difference 59 = .ok (.aload_n 0, 1) := by decide +kernel
theorem dX3_difference_60 : decode cX3_difference 60 = .ok (.getfield 9, 3) := by decide +kernel
theorem dX3_difference_63 : decode cX3_difference 63 = .ok (.idiv, 1) := by decide +kernel
theorem dX3_difference_64 : decode cX3_difference 64 = .ok (.istore_n 3, 1) := by decide +kernel
theorem dX3_difference_65 : decode cX3_difference 65 = .ok (.iload 4, 2) := by decide +kernel
theorem dX3_difference_67 : decode cX3_difference 67 = .ok (.aload_n 0, 1) := by decide +kernel
theorem dX3_difference_68 : decode cX3_difference 68 = .ok (.getfield 9, 3) := by decide +kernel
theorem dX3_difference_71 : decode cX3_difference 71 = .ok (.idiv, 1) := by decide +kernel
theorem dX3_difference_72 : decode cX3_difference 72 = .ok (.istore 4, 2) := by decide +kernel
theorem dX3_difference_74 : decode cX3_difference 74 = .ok (.iload 5, 2) := by decide +kernel
theorem dX3_difference_76 : decode cX3_difference 76 = .ok (.aload_n 0, 1) := by decide +kernel
theorem dX3_difference_77 : decode cX3_difference 77 = .ok (.getfield 9, 3) := by decide +kernel
theorem dX3_difference_80 : decode cX3_difference 80 = .ok (.imul, 1) := by decide +kernel
theorem dX3_difference_81 : decode cX3_difference 81 = .ok (.istore 5, 2) := by decide +kernel
theorem dX3_difference_83 : decode cX3_difference 83 = .ok (.iinc 7 1, 3) := by decide +kernel
theorem dX3_difference_86 : decode cX3_difference 86 = .ok (.goto (-72), 3) := by decide +kernel
theorem dX3_difference_89 : decode cX3_difference 89 = .ok (.iload 6, 2) := by decide +kernel
theorem dX3_difference_91 : decode cX3_difference 91 = .ok (.iload_n 3, 1) := by decide +kernel
theorem dX3_difference_92 : decode cX3_difference 92 = .ok (.iload 5, 2) := by decide +kernel
theorem dX3_difference_94 : decode cX3_difference 94 = .ok (.imul, 1) := by decide +kernel
theorem dX3_difference_95 : decode cX3_difference 95 = .ok (.iadd, 1) := by decide +kernel
theorem dX3_difference_96 : decode cX3_difference 96 = .ok (.ireturn, 1) := by decide +kernel
theorem dX3_scaled_0 : decode cX3_scaled 0 = .ok (.iload_n 2, 1) := by decide +kernel
theorem dX3_scaled_1 : decode cX3_scaled 1 = .ok (.ifCond .ne 7, 3) := by decide +kernel
theorem dX3_scaled_4 : decode cX3_scaled 4 = .ok (.iconst 0, 1) := by decide +kernel
theorem dX3_scaled_5 : decode cX3_scaled 5 = .ok (.goto 4, 3) := by decide +kernel
theorem dX3_scaled_8 : decode cX3_scaled 8 = .ok (.iload_n 1, 1) := by decide +kernel
theorem dX3_scaled_9 : decode cX3_scaled 9 = .ok (.istore_n 3, 1) := by decide +kernel
theorem dX3_scaled_10 : decode cX3_scaled 10 = .ok (.iconst 1, 1) := by decide +kernel
theorem dX3_scaled_11 : decode cX3_scaled 11 = .ok (.istore 4, 2) := by decide +kernel
theorem dX3_scaled_13 : decode cX3_scaled 13 = .ok (.iconst 0, 1) := by decide +kernel
theorem dX3_scaled_14 : decode cX3_scaled 14 = .ok (.istore 5, 2) := by decide +kernel
theorem dX3_scaled_16 : decode cX3_scaled 16 = .ok (.iconst 0, 1) := by decide +kernel
theorem dX3_scaled_17 : decode cX3_scaled 17 = .ok (.istore 6, 2) := by decide +kernel
theorem dX3_scaled_19 : decode cX3_scaled 19 = .ok (.iload 6, 2) := by decide +kernel
theorem dX3_scaled_21 : decode cX3_scaled 21 = .ok (.bipush 20, 2) := by decide +kernel
theorem dX3_scaled_23 : decode cX3_scaled 23 = .ok (.if_icmp .ge 50, 3) := by decide +kernel
theorem dX3_scaled_26 : decode cX3_scaled 26 = .ok (.iload_n 3, 1) := by decide +kernel
theorem dX3_scaled_27 : decode cX3_scaled 27 = .ok (.ifCond .le 46, 3) := by decide +kernel
theorem dX3_scaled_30 : decode cX3_scaled 30 = .ok (.iload 5, 2) := by decide +kernel
theorem dX3_scaled_32 : decode cX3_scaled 32 = .ok (.iload_n 3, 1) := by decide +kernel
theorem dX3_scaled_33 : decode cX3_scaled 33 = .ok (.aload_n 0, 1) := by decide +kernel
theorem dX3_scaled_34 : decode cX3_scaled 34 = .ok (.getfield 9, 3) := by decide +kernel
theorem dX3_scaled_37 : decode cX3_scaled 37 = .ok (.irem, 1) := by decide +kernel
theorem dX3_scaled_38 : decode cX3_scaled 38 = .ok (.iload_n 2, 1) := by decide +kernel
theorem dX3_scaled_39 : decode cX3_scaled 39 = .ok (.imul, 1) := by decide +kernel
theorem dX3_scaled_40 : decode cX3_scaled 40 = .ok (.aload_n 0, 1) := by decide +kernel
theorem dX3_scaled_41 : decode cX3_scaled 41 = .ok (.getfield 9, 3) := by decide +kernel
theorem dX3_scaled_44 : decode cX3_scaled 44 = .ok (.irem, 1) := by decide +kernel
theorem dX3_scaled_45 : decode cX3_scaled 45 = .ok (.iload 4, 2) := by decide +kernel
theorem dX3_scaled_47 : decode cX3_scaled 47 = .ok (.imul, 1) := by decide +kernel
theorem dX3_scaled_48 : decode cX3_scaled 48 = .ok (.iadd, 1) := by decide +kernel
theorem dX3_scaled_49 : decode cX3_scaled 49 = .ok (.istore 5, 2) := by decide +kernel
theorem dX3_scaled_51 : decode cX3_scaled 51 = .ok (.iload_n 3, 1) := by decide +kernel
theorem dX3_scaled_52 : decode cX3_scaled 52 = .ok (.aload_n 0, 1) := by decide +kernel
theorem dX3_scaled_53 : decode cX3_scaled 53 = .ok (.getfield 9, 3) := by decide +kernel
theorem dX3_scaled_56 : decode cX3_scaled 56 = .ok (.idiv, 1) := by decide +kernel
theorem dX3_scaled_57 : decode cX3_scaled 57 = .ok (.istore_n 3, 1) := by decide +kernel
theorem dX3_scaled_58 : decode cX3_scaled 58 = .ok (.iload 4, 2) := by decide +kernel
theorem dX3_scaled_60 : decode cX3_scaled 60 = .ok (.aload_n 0, 1) := by decide +kernel
theorem dX3_scaled_61 : decode cX3_scaled 61 = .ok (.getfield 9, 3) := by decide +kernel
theorem dX3_scaled_64 : decode cX3_scaled 64 = .ok (.imul, 1) := by decide +kernel
theorem dX3_scaled_65 : decode cX3_scaled 65 = .ok (.istore 4, 2) := by decide +kernel
theorem dX3_scaled_67 : decode cX3_scaled 67 = .ok (.iinc 6 1, 3) := by decide +kernel
theorem dX3_scaled_70 : decode cX3_scaled 70 = .ok (.goto (-51), 3) := by decide +kernel
theorem dX3_scaled_73 : decode cX3_scaled 73 = .ok (.iload 5, 2) := by decide +kernel
theorem dX3_scaled_75 : decode cX3_scaled 75 = .ok (.ireturn, 1) := by decide +kernel
theorem dX3_product_0 : decode cX3_product 0 = .ok (.iload_n 2, 1) := by decide +kernel
theorem dX3_product_1 : decode cX3_product 1 = .ok (.istore_n 3, 1) := by decide +kernel
theorem dX3_product_2 : decode cX3_product 2 = .ok (.iconst 1, 1) := by decide +kernel
theorem dX3_product_3 : decode cX3_product 3 = .ok (.istore 4, 2) := by decide +kernel
theorem dX3_product_5 : decode cX3_product 5 = .ok (.iconst 0, 1) := by decide +kernel
theorem dX3_product_6 : decode cX3_product 6 = .ok (.istore 5, 2) := by decide +kernel
theorem dX3_product_8 : decode cX3_product 8 = .ok (.iconst 0, 1) := by decide +kernel
theorem dX3_product_9 : decode cX3_product 9 = .ok (.istore 6, 2) := by decide +kernel
theorem dX3_product_11 : decode cX3_product 11 = .ok (.iload 6, 2) := by decide +kernel
theorem dX3_product_13 : decode cX3_product 13 = .ok (.bipush 20, 2) := by decide +kernel
theorem dX3_product_15 : decode cX3_product 15 = .ok (.if_icmp .ge 51, 3) := by decide +kernel
theorem dX3_product_18 : decode cX3_product 18 = .ok (.iload_n 3, 1) := by decide +kernel
theorem dX3_product_19 : decode cX3_product 19 = .ok (.ifCond .le 47, 3) := by decide +kernel
theorem dX3_product_22 : decode cX3_product 22 = .ok (.aload_n 0, 1) := by decide +kernel
theorem dX3_product_23 : decode cX3_product 23 = .ok (.iload 5, 2) := by decide +kernel
theorem dX3_product_25 : decode cX3_product 25 = .ok (.aload_n 0, 1) := by decide +kernel
theorem dX3_product_26 : decode cX3_product 26 = .ok (.iload_n 1, 1) := by decide +kernel
theorem dX3_product_27 : decode cX3_product 27 = .ok (.iload_n 3, 1) := by decide +kernel
theorem dX3_product_28 : decode cX3_product 28 = .ok (.aload_n 0, 1) := by decide +kernel
theorem dX3_product_29 : decode cX3_product 29 = .ok (.getfield 9, 3) := by decide +kernel
theorem dX3_product_32 : decode cX3_product 32 = .ok (.irem, 1) := by decide +kernel
theorem dX3_product_33 : decode cX3_product 33 = .ok (.invokevirtual 21, 3) := by decide +kernel
theorem dX3_product_36 : decode cX3_product 36 = .ok (.iload 4, 2) := by decide +kernel
theorem dX3_product_38 : decode cX3_product 38 = .ok (.imul, 1) := by decide +kernel
theorem dX3_product_39 : decode cX3_product 39 = .ok (.invokevirtual 24, 3) := by decide +kernel
theorem dX3_product_42 : decode cX3_product 42 = .ok (.istore 5, 2) := by decide +kernel
theorem dX3_product_44 : decode cX3_product 44 = .ok (.iload_n 3, 1) := by decide +kernel
theorem dX3_product_45 : decode cX3_product 45 = .ok (.aload_n 0, 1) := by decide +kernel
theorem dX3_product_46 : decode cX3_product 46 = .ok (.getfield 9, 3) := by decide +kernel
theorem dX3_product_49 : decode cX3_product 49 = .ok (.idiv, 1) := by decide +kernel
theorem dX3_product_50 : decode cX3_product 50 = .ok (.istore_n 3, 1) := by decide +kernel
theorem dX3_product_51 : decode cX3_product 51 = .ok (.iload 4, 2) := by decide +kernel
theorem dX3_product_53 : decode cX3_product 53 = .ok (.aload_n 0, 1) := by decide +kernel
theorem dX3_product_54 : decode cX3_product 54 = .ok (.getfield 9, 3) := by decide +kernel
theorem dX3_product_57 : decode cX3_product 57 = .ok (.imul, 1) := by decide +kernel
theorem dX3_product_58 : decode cX3_product 58 = .ok (.istore 4, 2) := by decide +kernel
theorem dX3_product_60 : decode cX3_product 60 = .ok (.iinc 6 1, 3) := by decide +kernel
theorem dX3_product_63 : decode cX3_product 63 = .ok (.goto (-52), 3) := by decide +kernel
theorem dX3_product_66 : decode cX3_product 66 = .ok (.iload 5, 2) := by decide +kernel
theorem dX3_product_68 : decode cX3_product 68 = .ok (.ireturn, 1) := by decide +kernel
theorem dX3_inverse_0 : decode cX3_inverse 0 = .ok (.iconst 1, 1) := by decide +kernel
theorem dX3_inverse_1 : decode cX3_inverse 1 = .ok (.istore_n 2, 1) := by decide +kernel
theorem dX3_inverse_2 : decode cX3_inverse 2 = .ok (.iload_n 2, 1) := by decide +kernel
theorem dX3_inverse_3 : decode cX3_inverse 3 = .ok (.aload_n 0, 1) := by decide +kernel
theorem dX3_inverse_4 : decode cX3_inverse 4 = .ok (.getfield 9, 3) := by decide +kernel
theorem dX3_inverse_7 : decode cX3_inverse 7 = .ok (.if_icmp .ge 23, 3) := by decide +kernel
theorem dX3_inverse_10 : decode cX3_inverse 10 = .ok (.iload_n 1, 1) := by decide +kernel
theorem dX3_inverse_11 : decode cX3_inverse 11 = .ok (.iload_n 2, 1) := by decide +kernel
theorem dX3_inverse_12 : decode cX3_inverse 12 = .ok (.imul, 1) := by decide +kernel
theorem dX3_inverse_13 : decode cX3_inverse 13 = .ok (.aload_n 0, 1) := by decide +kernel
theorem dX3_inverse_14 : decode cX3_inverse 14 = .ok (.getfield 9, 3) := by decide +kernel
theorem dX3_inverse_17 : decode cX3_inverse 17 = .ok (.irem, 1) := by decide +kernel
theorem dX3_inverse_18 : decode cX3_inverse 18 = .ok (.iconst 1, 1) := by decide +kernel
theorem dX3_inverse_19 : decode cX3_inverse 19 = .ok (.if_icmp .ne 5, 3) := by decide +kernel
theorem dX3_inverse_22 : decode cX3_inverse 22 = .ok (.iload_n 2, 1) := by decide +kernel
theorem dX3_inverse_23 : decode cX3_inverse 23 = .ok (.ireturn, 1) := by decide +kernel
theorem dX3_inverse_24 : decode cX3_inverse 24 = .ok (.iinc 2 1, 3) := by decide +kernel
theorem dX3_inverse_27 : decode cX3_inverse 27 = .ok (.goto (-25), 3) := by decide +kernel
theorem dX3_inverse_30 : decode cX3_inverse 30 = .ok (.iconst 0, 1) := by decide +kernel
theorem dX3_inverse_31 : decode cX3_inverse 31 = .ok (.ireturn, 1) := by decide +kernel
theorem dX3_quotient_0 : decode cX3_quotient 0 = .ok (.aload_n 0, 1) := by decide +kernel
theorem dX3_quotient_1 : decode cX3_quotient 1 = .ok (.iload_n 2, 1) := by decide +kernel
theorem dX3_quotient_2 : decode cX3_quotient 2 = .ok (.invokevirtual 27, 3) := by decide +kernel
theorem dX3_quotient_5 : decode cX3_quotient 5 = .ok (.istore_n 3, 1) := by decide +kernel
theorem dX3_quotient_6 : decode cX3_quotient 6 = .ok (.aload_n 0, 1) := by decide +kernel
theorem dX3_quotient_7 : decode cX3_quotient 7 = .ok (.aload_n 0, 1) := by decide +kernel
theorem dX3_quotient_8 : decode cX3_quotient 8 = .ok (.iload_n 2, 1) := by decide +kernel
theorem dX3_quotient_9 : decode cX3_quotient 9 = .ok (.invokevirtual 31, 3) := by decide +kernel
theorem dX3_quotient_12 : decode cX3_quotient 12 = .ok (.invokevirtual 34, 3) := by decide +kernel
theorem dX3_quotient_15 : decode cX3_quotient 15 = .ok (.istore 4, 2) := by decide +kernel
theorem dX3_quotient_17 : decode cX3_quotient 17 = .ok (.iload_n 1, 1) := by decide +kernel
theorem dX3_quotient_18 : decode cX3_quotient 18 = .ok (.istore 5, 2) := by decide +kernel
theorem dX3_quotient_20 : decode cX3_quotient 20 = .ok (.iconst 0, 1) := by decide +kernel
theorem dX3_quotient_21 : decode cX3_quotient 21 = .ok (.istore 6, 2) := by decide +kernel
theorem dX3_quotient_23 : decode cX3_quotient 23 = .ok (.aload_n 0, 1) := by decide +kernel
theorem dX3_quotient_24 : decode cX3_quotient 24 = .ok (.iload_n 1, 1) := by decide +kernel
theorem dX3_quotient_25 : decode cX3_quotient 25 = .ok (.invokevirtual 27, 3) := by decide +kernel
theorem dX3_quotient_28 : decode cX3_quotient 28 = .ok (.iload_n 3, 1) := by decide +kernel
theorem dX3_quotient_29 : decode cX3_quotient 29 = .ok (.isub, 1) := by decide +kernel
theorem dX3_quotient_30 : decode cX3_quotient 30 = .ok (.istore 7, 2) := by decide +kernel
theorem dX3_quotient_32 : decode cX3_quotient 32 = .ok (.iload 7, 2) := by decide +kernel
theorem dX3_quotient_34 : decode cX3_quotient 34 = .ok (.ifCond .lt 70, 3) := by decide +kernel
theorem dX3_quotient_37 : decode cX3_quotient 37 = .ok (.iload 4, 2) := by decide +kernel
theorem dX3_quotient_39 : decode cX3_quotient 39 = .ok (.ifCond .eq 65, 3) := by decide +kernel
theorem dX3_quotient_42 : decode cX3_quotient 42 = .ok (.aload_n 0, 1) := by decide +kernel
theorem dX3_quotient_43 : decode cX3_quotient 43 = .ok (.iload 5, 2) := by decide +kernel
theorem dX3_quotient_45 : decode cX3_quotient 45 = .ok (.iload_n 3, 1) := by decide +kernel
theorem dX3_quotient_46 : decode cX3_quotient 46 = .ok (.iload 7, 2) := by decide +kernel
theorem dX3_quotient_48 : decode cX3_quotient 48 = .ok (.iadd, 1) := by decide +kernel
theorem dX3_quotient_49 : decode cX3_quotient 49 = .ok (.invokevirtual 37, 3) := by decide +kernel
theorem dX3_quotient_52 : decode cX3_quotient 52 = .ok (.iload 4, 2) := by decide +kernel
theorem dX3_quotient_54 : decode cX3_quotient 54 = .ok (.imul, 1) := by decide +kernel
theorem dX3_quotient_55 : decode cX3_quotient 55 = .ok (.aload_n 0, 1) := by decide +kernel
theorem dX3_quotient_56 : decode cX3_quotient 56 = .ok (.getfield 9, 3) := by decide +kernel
theorem dX3_quotient_59 : decode cX3_quotient 59 = .ok (.irem, 1) := by decide +kernel
theorem dX3_quotient_60 : decode cX3_quotient 60 = .ok (.istore 8, 2) := by decide +kernel
theorem dX3_quotient_62 : decode cX3_quotient 62 = .ok (.iload 6, 2) := by decide +kernel
theorem dX3_quotient_64 : decode cX3_quotient 64 = .ok (.iload 8, 2) := by decide +kernel
theorem dX3_quotient_66 : decode cX3_quotient 66 = .ok (.aload_n 0, 1) := by decide +kernel
theorem dX3_quotient_67 : decode cX3_quotient 67 = .ok (.iload 7, 2) := by decide +kernel
theorem dX3_quotient_69 : decode cX3_quotient 69 = .ok (.invokevirtual 40, 3) := by decide +kernel
theorem dX3_quotient_72 : decode cX3_quotient 72 = .ok (.imul, 1) := by decide +kernel
theorem dX3_quotient_73 : decode cX3_quotient 73 = .ok (.iadd, 1) := by decide +kernel
theorem dX3_quotient_74 : decode cX3_quotient 74 = .ok (.istore 6, 2) := by decide +kernel
theorem dX3_quotient_76 : decode cX3_quotient 76 = .ok (.aload_n 0, 1) := by decide +kernel
theorem dX3_quotient_77 : decode cX3_quotient 77 = .ok (.iload 5, 2) := by decide +kernel
theorem dX3_quotient_79 : decode cX3_quotient 79 = .ok (.aload_n 0, 1) := by decide +kernel
theorem dX3_quotient_80 : decode cX3_quotient 80 = .ok (.iload_n 2, 1) := by decide +kernel
theorem dX3_quotient_81 : decode cX3_quotient 81 = .ok (.iload 8, 2) := by decide +kernel
theorem dX3_quotient_83 : decode cX3_quotient 83 = .ok (.invokevirtual 21, 3) := by decide +kernel
theorem dX3_quotient_86 : decode cX3_quotient 86 = .ok (.aload_n 0, 1) := by decide +kernel
theorem dX3_quotient_87 : decode cX3_quotient 87 = .ok (.iload 7, 2) := by decide +kernel
theorem dX3_quotient_89 : decode cX3_quotient 89 = .ok (.invokevirtual 40, 3) := by decide +kernel
theorem dX3_quotient_92 : decode cX3_quotient 92 = .ok (.imul, 1) := by decide +kernel
theorem dX3_quotient_93 : decode cX3_quotient 93 = .ok (.invokevirtual 43, 3) := by decide +kernel
theorem dX3_quotient_96 : decode cX3_quotient 96 = .ok (.istore 5, 2) := by decide +kernel
theorem dX3_quotient_98 : decode cX3_quotient 98 = .ok (.iinc 7 (-1), 3) := by decide +kernel
theorem dX3_quotient_101 : decode cX3_quotient 101 = .ok (.goto (-69), 3) := by decide +kernel
theorem dX3_quotient_104 : decode cX3_quotient 104 = .ok (.iload 6, 2) := by decide +kernel
theorem dX3_quotient_106 : decode cX3_quotient 106 = .ok (.ireturn, 1) := by decide +kernel
theorem dX3_rest_0 : decode cX3_rest 0 = .ok (.aload_n 0, 1) := by decide +kernel
theorem dX3_rest_1 : decode cX3_rest 1 = .ok (.iload_n 2, 1) := by decide +kernel
theorem dX3_rest_2 : decode cX3_rest 2 = .ok (.invokevirtual 27, 3) := by decide +kernel
theorem dX3_rest_5 : decode cX3_rest 5 = .ok (.istore_n 3, 1) := by decide +kernel
theorem dX3_rest_6 : decode cX3_rest 6 = .ok (.aload_n 0, 1) := by decide +kernel
theorem dX3_rest_7 : decode cX3_rest 7 = .ok (.aload_n 0, 1) := by decide +kernel
theorem dX3_rest_8 : decode cX3_rest 8 = .ok (.iload_n 2, 1) := by decide +kernel
theorem dX3_rest_9 : decode cX3_rest 9 = .ok (.invokevirtual 31, 3) := by decide +kernel
theorem dX3_rest_12 : decode cX3_rest 12 = .ok (.invokevirtual 34, 3) := by decide +kernel
theorem dX3_rest_15 : decode cX3_rest 15 = .ok (.istore 4, 2) := by decide +kernel
theorem dX3_rest_17 : decode cX3_rest 17 = .ok (.iload_n 1, 1) := by decide +kernel
theorem dX3_rest_18 : decode cX3_rest 18 = .ok (.istore 5, 2) := by decide +kernel
theorem dX3_rest_20 : decode cX3_rest 20 = .ok (.aload_n 0, 1) := by decide +kernel
theorem dX3_rest_21 : decode cX3_rest 21 = .ok (.iload_n 1, 1) := by decide +kernel
theorem dX3_rest_22 : decode cX3_rest 22 = .ok (.invokevirtual 27, 3) := by decide +kernel
theorem dX3_rest_25 : decode cX3_rest 25 = .ok (.iload_n 3, 1) := by decide +kernel
theorem dX3_rest_26 : decode cX3_rest 26 = .ok (.isub, 1) := by decide +kernel
theorem dX3_rest_27 : decode cX3_rest 27 = .ok (.istore 6, 2) := by decide +kernel
theorem dX3_rest_29 : decode cX3_rest 29 = .ok (.iload 6, 2) := by decide +kernel
theorem dX3_rest_31 : decode cX3_rest 31 = .ok (.ifCond .lt 56, 3) := by decide +kernel
theorem dX3_rest_34 : decode cX3_rest 34 = .ok (.iload 4, 2) := by decide +kernel
theorem dX3_rest_36 : decode cX3_rest 36 = .ok (.ifCond .eq 51, 3) := by decide +kernel
theorem dX3_rest_39 : decode cX3_rest 39 = .ok (.aload_n 0, 1) := by decide +kernel
theorem dX3_rest_40 : decode cX3_rest 40 = .ok (.iload 5, 2) := by decide +kernel
theorem dX3_rest_42 : decode cX3_rest 42 = .ok (.iload_n 3, 1) := by decide +kernel
theorem dX3_rest_43 : decode cX3_rest 43 = .ok (.iload 6, 2) := by decide +kernel
theorem dX3_rest_45 : decode cX3_rest 45 = .ok (.iadd, 1) := by decide +kernel
theorem dX3_rest_46 : decode cX3_rest 46 = .ok (.invokevirtual 37, 3) := by decide +kernel
theorem dX3_rest_49 : decode cX3_rest 49 = .ok (.iload 4, 2) := by decide +kernel
theorem dX3_rest_51 : decode cX3_rest 51 = .ok (.imul, 1) := by decide +kernel
theorem dX3_rest_52 : decode cX3_rest 52 = .ok (.aload_n 0, 1) := by decide +kernel
theorem dX3_rest_53 : decode cX3_rest 53 = .ok (.getfield 9, 3) := by decide +kernel
theorem dX3_rest_56 : decode cX3_rest 56 = .ok (.irem, 1) := by decide +kernel
theorem dX3_rest_57 : decode cX3_rest 57 = .ok (.istore 7, 2) := by decide +kernel
theorem dX3_rest_59 : decode cX3_rest 59 = .ok (.aload_n 0, 1) := by decide +kernel
theorem dX3_rest_60 : decode cX3_rest 60 = .ok (.iload 5, 2) := by decide +kernel
theorem dX3_rest_62 : decode cX3_rest 62 = .ok (.aload_n 0, 1) := by decide +kernel
theorem dX3_rest_63 : decode cX3_rest 63 = .ok (.iload_n 2, 1) := by decide +kernel
theorem dX3_rest_64 : decode cX3_rest 64 = .ok (.iload 7, 2) := by decide +kernel
theorem dX3_rest_66 : decode cX3_rest 66 = .ok (.invokevirtual 21, 3) := by decide +kernel
theorem dX3_rest_69 : decode cX3_rest 69 = .ok (.aload_n 0, 1) := by decide +kernel
theorem dX3_rest_70 : decode cX3_rest 70 = .ok (.iload 6, 2) := by decide +kernel
theorem dX3_rest_72 : decode cX3_rest 72 = .ok (.invokevirtual 40, 3) := by decide +kernel
theorem dX3_rest_75 : decode cX3_rest 75 = .ok (.imul, 1) := by decide +kernel
theorem dX3_rest_76 : decode cX3_rest 76 = .ok (.invokevirtual 43, 3) := by decide +kernel
theorem dX3_rest_79 : decode cX3_rest 79 = .ok (.istore 5, 2) := by decide +kernel
theorem dX3_rest_81 : decode cX3_rest 81 = .ok (.iinc 6 (-1), 3) := by decide +kernel
theorem dX3_rest_84 : decode cX3_rest 84 = .ok (.goto (-55), 3) := by decide +kernel
theorem dX3_rest_87 : decode cX3_rest 87 = .ok (.iload 5, 2) := by decide +kernel
theorem dX3_rest_89 : decode cX3_rest 89 = .ok (.ireturn, 1) := by decide +kernel
theorem dX3_monic_0 : decode cX3_monic 0 = .ok (.aload_n 0, 1) := by decide +kernel
theorem dX3_monic_1 : decode cX3_monic 1 = .ok (.iload_n 1, 1) := by decide +kernel
theorem dX3_monic_2 : decode cX3_monic 2 = .ok (.aload_n 0, 1) := by decide +kernel
theorem dX3_monic_3 : decode cX3_monic 3 = .ok (.aload_n 0, 1) := by decide +kernel
theorem dX3_monic_4 : decode cX3_monic 4 = .ok (.iload_n 1, 1) := by decide +kernel
theorem dX3_monic_5 : decode cX3_monic 5 = .ok (.invokevirtual 31, 3) := by decide +kernel
theorem dX3_monic_8 : decode cX3_monic 8 = .ok (.invokevirtual 34, 3) := by decide +kernel
theorem dX3_monic_11 : decode cX3_monic 11 = .ok (.invokevirtual 21, 3) := by decide +kernel
theorem dX3_monic_14 : decode cX3_monic 14 = .ok (.ireturn, 1) := by decide +kernel
theorem dX3_commonDivisor_0 : decode cX3_commonDivisor 0 = .ok (.iload_n 1, 1) := by decide +kernel
theorem dX3_commonDivisor_1 : decode cX3_commonDivisor 1 = .ok (.istore_n 3, 1) := by decide +kernel
theorem dX3_commonDivisor_2 : decode cX3_commonDivisor 2 = .ok (.iload_n 2, 1) := by decide +kernel
theorem dX3_commonDivisor_3 : decode cX3_commonDivisor 3 = .ok (.istore 4, 2) := by decide +kernel
theorem dX3_commonDivisor_5 : decode cX3_commonDivisor 5 = .ok (.iconst 0, 1) := by decide +kernel
theorem dX3_commonDivisor_6 : decode cX3_commonDivisor 6 = .ok (.istore 5, 2) := by decide +kernel
theorem dX3_commonDivisor_8 : decode cX3_commonDivisor 8 = .ok (.iload 5, 2) := by decide +kernel
theorem dX3_commonDivisor_10 : decode cX3_commonDivisor 10 = .ok (.bipush 20, 2) := by decide +kernel
theorem dX3_commonDivisor_12 : decode cX3_commonDivisor 12 = .ok (.if_icmp .ge 30, 3) := by decide +kernel
theorem dX3_commonDivisor_15 : decode cX3_commonDivisor 15 = .ok (.iload 4, 2) := by decide +kernel
theorem dX3_commonDivisor_17 : decode cX3_commonDivisor 17 = .ok (.ifCond .eq 25, 3) := by decide +kernel
theorem dX3_commonDivisor_20 : decode cX3_commonDivisor 20 = .ok (.aload_n 0, 1) := by decide +kernel
theorem dX3_commonDivisor_21 : decode cX3_commonDivisor 21 = .ok (.iload_n 3, 1) := by decide +kernel
theorem dX3_commonDivisor_22 : decode cX3_commonDivisor 22 = .ok (.iload 4, 2) := by decide +kernel
theorem dX3_commonDivisor_24 : decode cX3_commonDivisor 24 = .ok (.invokevirtual 46, 3) := by decide +kernel
theorem dX3_commonDivisor_27 : decode cX3_commonDivisor 27 = .ok (.istore 6, 2) := by decide +kernel
theorem dX3_commonDivisor_29 : decode cX3_commonDivisor 29 = .ok (.iload 4, 2) := by decide +kernel
theorem dX3_commonDivisor_31 : decode cX3_commonDivisor 31 = .ok (.istore_n 3, 1) := by decide +kernel
theorem dX3_commonDivisor_32 : decode cX3_commonDivisor 32 = .ok (.iload 6, 2) := by decide +kernel
theorem dX3_commonDivisor_34 : decode cX3_commonDivisor 34 = .ok (.istore 4, 2) := by decide +kernel
theorem dX3_commonDivisor_36 : decode cX3_commonDivisor 36 = .ok (.iinc 5 1, 3) := by decide +kernel
theorem dX3_commonDivisor_39 : decode cX3_commonDivisor 39 = .ok (.goto (-31), 3) := by decide +kernel
theorem dX3_commonDivisor_42 : decode cX3_commonDivisor 42 = .ok (.aload_n 0, 1) := by decide +kernel
theorem dX3_commonDivisor_43 : decode cX3_commonDivisor 43 = .ok (.iload_n 3, 1) := by decide +kernel
theorem dX3_commonDivisor_44 : decode cX3_commonDivisor 44 = .ok (.invokevirtual 49, 3) := by decide +kernel
theorem dX3_commonDivisor_47 : decode cX3_commonDivisor 47 = .ok (.ireturn, 1) := by decide +kernel
theorem dX3_cofactor_0 : decode cX3_cofactor 0 = .ok (.iload_n 1, 1) := by decide +kernel
theorem dX3_cofactor_1 : decode cX3_cofactor 1 = .ok (.istore_n 3, 1) := by decide +kernel
theorem dX3_cofactor_2 : decode cX3_cofactor 2 = .ok (.iload_n 2, 1) := by decide +kernel
theorem dX3_cofactor_3 : decode cX3_cofactor 3 = .ok (.istore 4, 2) := by decide +kernel
theorem dX3_cofactor_5 : decode cX3_cofactor 5 = .ok (.iconst 1, 1) := by decide +kernel
theorem dX3_cofactor_6 : decode cX3_cofactor 6 = .ok (.istore 5, 2) := by decide +kernel
theorem dX3_cofactor_8 : decode cX3_cofactor 8 = .ok (.iconst 0, 1) := by decide +kernel
theorem dX3_cofactor_9 : decode cX3_cofactor 9 = .ok (.istore 6, 2) := by decide +kernel
theorem dX3_cofactor_11 : decode cX3_cofactor 11 = .ok (.iconst 0, 1) := by decide +kernel
theorem dX3_cofactor_12 : decode cX3_cofactor 12 = .ok (.istore 7, 2) := by decide +kernel
theorem dX3_cofactor_14 : decode cX3_cofactor 14 = .ok (.iload 7, 2) := by decide +kernel
theorem dX3_cofactor_16 : decode cX3_cofactor 16 = .ok (.bipush 20, 2) := by decide +kernel
theorem dX3_cofactor_18 : decode cX3_cofactor 18 = .ok (.if_icmp .ge 69, 3) := by decide +kernel
theorem dX3_cofactor_21 : decode cX3_cofactor 21 = .ok (.iload 4, 2) := by decide +kernel
theorem dX3_cofactor_23 : decode cX3_cofactor 23 = .ok (.ifCond .eq 64, 3) := by decide +kernel
theorem dX3_cofactor_26 : decode cX3_cofactor 26 = .ok (.aload_n 0, 1) := by decide +kernel
theorem dX3_cofactor_27 : decode cX3_cofactor 27 = .ok (.iload_n 3, 1) := by decide +kernel
theorem dX3_cofactor_28 : decode cX3_cofactor 28 = .ok (.iload 4, 2) := by decide +kernel
theorem dX3_cofactor_30 : decode cX3_cofactor 30 = .ok (.invokevirtual 52, 3) := by decide +kernel
theorem dX3_cofactor_33 : decode cX3_cofactor 33 = .ok (.istore 8, 2) := by decide +kernel
theorem dX3_cofactor_35 : decode cX3_cofactor 35 = .ok (.aload_n 0, 1) := by decide +kernel
theorem dX3_cofactor_36 : decode cX3_cofactor 36 = .ok (.iload_n 3, 1) := by decide +kernel
theorem dX3_cofactor_37 : decode cX3_cofactor 37 = .ok (.aload_n 0, 1) := by decide +kernel
theorem dX3_cofactor_38 : decode cX3_cofactor 38 = .ok (.iload 8, 2) := by decide +kernel
theorem dX3_cofactor_40 : decode cX3_cofactor 40 = .ok (.iload 4, 2) := by decide +kernel
theorem dX3_cofactor_42 : decode cX3_cofactor 42 = .ok (.invokevirtual 55, 3) := by decide +kernel
theorem dX3_cofactor_45 : decode cX3_cofactor 45 = .ok (.invokevirtual 43, 3) := by decide +kernel
theorem dX3_cofactor_48 : decode cX3_cofactor 48 = .ok (.istore 9, 2) := by decide +kernel
theorem dX3_cofactor_50 : decode cX3_cofactor 50 = .ok (.aload_n 0, 1) := by decide +kernel
theorem dX3_cofactor_51 : decode cX3_cofactor 51 = .ok (.iload 5, 2) := by decide +kernel
theorem dX3_cofactor_53 : decode cX3_cofactor 53 = .ok (.aload_n 0, 1) := by decide +kernel
theorem dX3_cofactor_54 : decode cX3_cofactor 54 = .ok (.iload 8, 2) := by decide +kernel
theorem dX3_cofactor_56 : decode cX3_cofactor 56 = .ok (.iload 6, 2) := by decide +kernel
theorem dX3_cofactor_58 : decode cX3_cofactor 58 = .ok (.invokevirtual 55, 3) := by decide +kernel
theorem dX3_cofactor_61 : decode cX3_cofactor 61 = .ok (.invokevirtual 43, 3) := by decide +kernel
theorem dX3_cofactor_64 : decode cX3_cofactor 64 = .ok (.istore 10, 2) := by decide +kernel
theorem dX3_cofactor_66 : decode cX3_cofactor 66 = .ok (.iload 4, 2) := by decide +kernel
theorem dX3_cofactor_68 : decode cX3_cofactor 68 = .ok (.istore_n 3, 1) := by decide +kernel
theorem dX3_cofactor_69 : decode cX3_cofactor 69 = .ok (.iload 9, 2) := by decide +kernel
theorem dX3_cofactor_71 : decode cX3_cofactor 71 = .ok (.istore 4, 2) := by decide +kernel
theorem dX3_cofactor_73 : decode cX3_cofactor 73 = .ok (.iload 6, 2) := by decide +kernel
theorem dX3_cofactor_75 : decode cX3_cofactor 75 = .ok (.istore 5, 2) := by decide +kernel
theorem dX3_cofactor_77 : decode cX3_cofactor 77 = .ok (.iload 10, 2) := by decide +kernel
theorem dX3_cofactor_79 : decode cX3_cofactor 79 = .ok (.istore 6, 2) := by decide +kernel
theorem dX3_cofactor_81 : decode cX3_cofactor 81 = .ok (.iinc 7 1, 3) := by decide +kernel
theorem dX3_cofactor_84 : decode cX3_cofactor 84 = .ok (.goto (-70), 3) := by decide +kernel
theorem dX3_cofactor_87 : decode cX3_cofactor 87 = .ok (.aload_n 0, 1) := by decide +kernel
theorem dX3_cofactor_88 : decode cX3_cofactor 88 = .ok (.iload 5, 2) := by decide +kernel
theorem dX3_cofactor_90 : decode cX3_cofactor 90 = .ok (.aload_n 0, 1) := by decide +kernel
theorem dX3_cofactor_91 : decode cX3_cofactor 91 = .ok (.aload_n 0, 1) := by decide +kernel
theorem dX3_cofactor_92 : decode cX3_cofactor 92 = .ok (.iload_n 3, 1) := by decide +kernel
theorem dX3_cofactor_93 : decode cX3_cofactor 93 = .ok (.invokevirtual 31, 3) := by decide +kernel
theorem dX3_cofactor_96 : decode cX3_cofactor 96 = .ok (.invokevirtual 34, 3) := by decide +kernel
theorem dX3_cofactor_99 : decode cX3_cofactor 99 = .ok (.invokevirtual 21, 3) := by decide +kernel
theorem dX3_cofactor_102 : decode cX3_cofactor 102 = .ok (.ireturn, 1) := by decide +kernel
theorem dX3_derivative_0 : decode cX3_derivative 0 = .ok (.iconst 0, 1) := by decide +kernel
theorem dX3_derivative_1 : decode cX3_derivative 1 = .ok (.istore_n 2, 1) := by decide +kernel
theorem dX3_derivative_2 : decode cX3_derivative 2 = .ok (.aload_n 0, 1) := by decide +kernel
theorem dX3_derivative_3 : decode cX3_derivative 3 = .ok (.iload_n 1, 1) := by decide +kernel
theorem dX3_derivative_4 : decode cX3_derivative 4 = .ok (.invokevirtual 27, 3) := by decide +kernel
theorem dX3_derivative_7 : decode cX3_derivative 7 = .ok (.istore_n 3, 1) := by decide +kernel
theorem dX3_derivative_8 : decode cX3_derivative 8 = .ok (.iload_n 3, 1) := by decide +kernel
theorem dX3_derivative_9 : decode cX3_derivative 9 = .ok (.ifCond .le 33, 3) := by decide +kernel
theorem dX3_derivative_12 : decode cX3_derivative 12 = .ok (.iload_n 2, 1) := by decide +kernel
theorem dX3_derivative_13 : decode cX3_derivative 13 = .ok (.aload_n 0, 1) := by decide +kernel
theorem dX3_derivative_14 : decode cX3_derivative 14 = .ok (.iload_n 1, 1) := by decide +kernel
theorem dX3_derivative_15 : decode cX3_derivative 15 = .ok (.iload_n 3, 1) := by decide +kernel
theorem dX3_derivative_16 : decode cX3_derivative 16 = .ok (.invokevirtual 37, 3) := by decide +kernel
theorem dX3_derivative_19 : decode cX3_derivative 19 = .ok (.iload_n 3, 1) := by decide +kernel
theorem dX3_derivative_20 : decode cX3_derivative 20 = .ok (.imul, 1) := by decide +kernel
theorem dX3_derivative_21 : decode cX3_derivative 21 = .ok (.aload_n 0, 1) := by decide +kernel
theorem dX3_derivative_22 : decode cX3_derivative 22 = .ok (.getfield 9, 3) := by decide +kernel
theorem dX3_derivative_25 : decode cX3_derivative 25 = .ok (.irem, 1) := by decide +kernel
theorem dX3_derivative_26 : decode cX3_derivative 26 = .ok (.aload_n 0, 1) := by decide +kernel
theorem dX3_derivative_27 : decode cX3_derivative 27 = .ok (.iload_n 3, 1) := by decide +kernel
theorem dX3_derivative_28 : decode cX3_derivative 28 = .ok (.iconst 1, 1) := by decide +kernel
theorem dX3_derivative_29 : decode cX3_derivative 29 = .ok (.isub, 1) := by decide +kernel
theorem dX3_derivative_30 : decode cX3_derivative 30 = .ok (.invokevirtual 40, 3) := by decide +kernel
theorem dX3_derivative_33 : decode cX3_derivative 33 = .ok (.imul, 1) := by decide +kernel
theorem dX3_derivative_34 : decode cX3_derivative 34 = .ok (.iadd, 1) := by decide +kernel
theorem dX3_derivative_35 : decode cX3_derivative 35 = .ok (.istore_n 2, 1) := by decide +kernel
theorem dX3_derivative_36 : decode cX3_derivative 36 = .ok (.iinc 3 (-1), 3) := by decide +kernel
theorem dX3_derivative_39 : decode cX3_derivative 39 = .ok (.goto (-31), 3) := by decide +kernel
theorem dX3_derivative_42 : decode cX3_derivative 42 = .ok (.iload_n 2, 1) := by decide +kernel
theorem dX3_derivative_43 : decode cX3_derivative 43 = .ok (.ireturn, 1) := by decide +kernel
theorem dX3_knotOf_0 : decode cX3_knotOf 0 = .ok (.aload_n 0, 1) := by decide +kernel
theorem dX3_knotOf_1 : decode cX3_knotOf 1 = .ok (.iload_n 1, 1) := by decide +kernel
theorem dX3_knotOf_2 : decode cX3_knotOf 2 = .ok (.aload_n 0, 1) := by decide +kernel
theorem dX3_knotOf_3 : decode cX3_knotOf 3 = .ok (.iload_n 1, 1) := by decide +kernel
theorem dX3_knotOf_4 : decode cX3_knotOf 4 = .ok (.invokevirtual 58, 3) := by decide +kernel
theorem dX3_knotOf_7 : decode cX3_knotOf 7 = .ok (.invokevirtual 61, 3) := by decide +kernel
theorem dX3_knotOf_10 : decode cX3_knotOf 10 = .ok (.ireturn, 1) := by decide +kernel
theorem dX3_movedBy_0 : decode cX3_movedBy 0 = .ok (.iconst 0, 1) := by decide +kernel
theorem dX3_movedBy_1 : decode cX3_movedBy 1 = .ok (.istore_n 3, 1) := by decide +kernel
theorem dX3_movedBy_2 : decode cX3_movedBy 2 = .ok (.aload_n 0, 1) := by decide +kernel
theorem dX3_movedBy_3 : decode cX3_movedBy 3 = .ok (.iload_n 1, 1) := by decide +kernel
theorem dX3_movedBy_4 : decode cX3_movedBy 4 = .ok (.invokevirtual 27, 3) := by decide +kernel
theorem dX3_movedBy_7 : decode cX3_movedBy 7 = .ok (.istore 4, 2) := by decide +kernel
theorem dX3_movedBy_9 : decode cX3_movedBy 9 = .ok (.iload 4, 2) := by decide +kernel
theorem dX3_movedBy_11 : decode cX3_movedBy 11 = .ok (.ifCond .lt 32, 3) := by decide +kernel
theorem dX3_movedBy_14 : decode cX3_movedBy 14 = .ok (.aload_n 0, 1) := by decide +kernel
theorem dX3_movedBy_15 : decode cX3_movedBy 15 = .ok (.aload_n 0, 1) := by decide +kernel
theorem dX3_movedBy_16 : decode cX3_movedBy 16 = .ok (.iload_n 3, 1) := by decide +kernel
theorem dX3_movedBy_17 : decode cX3_movedBy 17 = .ok (.aload_n 0, 1) := by decide +kernel
theorem dX3_movedBy_18 : decode cX3_movedBy 18 = .ok (.getfield 9, 3) := by decide +kernel
theorem dX3_movedBy_21 : decode cX3_movedBy 21 = .ok (.iload_n 2, 1) := by decide +kernel
theorem dX3_movedBy_22 : decode cX3_movedBy 22 = .ok (.iadd, 1) := by decide +kernel
theorem dX3_movedBy_23 : decode cX3_movedBy 23 = .ok (.invokevirtual 55, 3) := by decide +kernel
theorem dX3_movedBy_26 : decode cX3_movedBy 26 = .ok (.aload_n 0, 1) := by decide +kernel
theorem dX3_movedBy_27 : decode cX3_movedBy 27 = .ok (.iload_n 1, 1) := by decide +kernel
theorem dX3_movedBy_28 : decode cX3_movedBy 28 = .ok (.iload 4, 2) := by decide +kernel
theorem dX3_movedBy_30 : decode cX3_movedBy 30 = .ok (.invokevirtual 37, 3) := by decide +kernel
theorem dX3_movedBy_33 : decode cX3_movedBy 33 = .ok (.invokevirtual 24, 3) := by decide +kernel
theorem dX3_movedBy_36 : decode cX3_movedBy 36 = .ok (.istore_n 3, 1) := by decide +kernel
theorem dX3_movedBy_37 : decode cX3_movedBy 37 = .ok (.iinc 4 (-1), 3) := by decide +kernel
theorem dX3_movedBy_40 : decode cX3_movedBy 40 = .ok (.goto (-31), 3) := by decide +kernel
theorem dX3_movedBy_43 : decode cX3_movedBy 43 = .ok (.iload_n 3, 1) := by decide +kernel
theorem dX3_movedBy_44 : decode cX3_movedBy 44 = .ok (.ireturn, 1) := by decide +kernel
theorem dX3_squareRest_0 : decode cX3_squareRest 0 = .ok (.iload_n 1, 1) := by decide +kernel
theorem dX3_squareRest_1 : decode cX3_squareRest 1 = .ok (.aload_n 0, 1) := by decide +kernel
theorem dX3_squareRest_2 : decode cX3_squareRest 2 = .ok (.getfield 9, 3) := by decide +kernel
theorem dX3_squareRest_5 : decode cX3_squareRest 5 = .ok (.idiv, 1) := by decide +kernel
theorem dX3_squareRest_6 : decode cX3_squareRest 6 = .ok (.istore_n 3, 1) := by decide +kernel
theorem dX3_squareRest_7 : decode cX3_squareRest 7 = .ok (.iload_n 1, 1) := by decide +kernel
theorem dX3_squareRest_8 : decode cX3_squareRest 8 = .ok (.aload_n 0, 1) := by decide +kernel
theorem dX3_squareRest_9 : decode cX3_squareRest 9 = .ok (.getfield 9, 3) := by decide +kernel
theorem dX3_squareRest_12 : decode cX3_squareRest 12 = .ok (.irem, 1) := by decide +kernel
theorem dX3_squareRest_13 : decode cX3_squareRest 13 = .ok (.istore 4, 2) := by decide +kernel
theorem dX3_squareRest_15 : decode cX3_squareRest 15 = .ok (.aload_n 0, 1) := by decide +kernel
theorem dX3_squareRest_16 : decode cX3_squareRest 16 = .ok (.getfield 9, 3) := by decide +kernel
theorem dX3_squareRest_19 : decode cX3_squareRest 19 = .ok (.iload_n 2, 1) := by decide +kernel
theorem dX3_squareRest_20 : decode cX3_squareRest 20 = .ok (.aload_n 0, 1) := by decide +kernel
theorem dX3_squareRest_21 : decode cX3_squareRest 21 = .ok (.getfield 9, 3) := by decide +kernel
theorem dX3_squareRest_24 : decode cX3_squareRest 24 = .ok (.idiv, 1) := by decide +kernel
theorem dX3_squareRest_25 : decode cX3_squareRest 25 = .ok (.aload_n 0, 1) := by decide +kernel
theorem dX3_squareRest_26 : decode cX3_squareRest 26 = .ok (.getfield 9, 3) := by decide +kernel
theorem dX3_squareRest_29 : decode cX3_squareRest 29 = .ok (.irem, 1) := by decide +kernel
theorem dX3_squareRest_30 : decode cX3_squareRest 30 = .ok (.isub, 1) := by decide +kernel
theorem dX3_squareRest_31 : decode cX3_squareRest 31 = .ok (.istore 5, 2) := by decide +kernel
theorem dX3_squareRest_33 : decode cX3_squareRest 33 = .ok (.aload_n 0, 1) := by decide +kernel
theorem dX3_squareRest_34 : decode cX3_squareRest 34 = .ok (.getfield 9, 3) := by decide +kernel
theorem dX3_squareRest_37 : decode cX3_squareRest 37 = .ok (.iload_n 2, 1) := by decide +kernel
theorem dX3_squareRest_38 : decode cX3_squareRest 38 = .ok (.aload_n 0, 1) := by decide +kernel
theorem dX3_squareRest_39 : decode cX3_squareRest 39 = .ok (.getfield 9, 3) := by decide +kernel
theorem dX3_squareRest_42 : decode cX3_squareRest 42 = .ok (.irem, 1) := by decide +kernel
theorem dX3_squareRest_43 : decode cX3_squareRest 43 = .ok (.isub, 1) := by decide +kernel
theorem dX3_squareRest_44 : decode cX3_squareRest 44 = .ok (.istore 6, 2) := by decide +kernel
theorem dX3_squareRest_46 : decode cX3_squareRest 46 = .ok (.iload_n 3, 1) := by decide +kernel
theorem dX3_squareRest_47 : decode cX3_squareRest 47 = .ok (.iconst 2, 1) := by decide +kernel
theorem dX3_squareRest_48 : decode cX3_squareRest 48 = .ok (.iload 4, 2) := by decide +kernel
theorem dX3_squareRest_50 : decode cX3_squareRest 50 = .ok (.imul, 1) := by decide +kernel
theorem dX3_squareRest_51 : decode cX3_squareRest 51 = .ok (.iload 5, 2) := by decide +kernel
theorem dX3_squareRest_53 : decode cX3_squareRest 53 = .ok (.iload_n 3, 1) := by decide +kernel
theorem dX3_squareRest_54 : decode cX3_squareRest 54 = .ok (.imul, 1) := by decide +kernel
theorem dX3_squareRest_55 : decode cX3_squareRest 55 = .ok (.iadd, 1) := by decide +kernel
theorem dX3_squareRest_56 : decode cX3_squareRest 56 = .ok (.imul, 1) := by decide +kernel
theorem dX3_squareRest_57 : decode cX3_squareRest 57 = .ok (.aload_n 0, 1) := by decide +kernel
theorem dX3_squareRest_58 : decode cX3_squareRest 58 = .ok (.getfield 9, 3) := by decide +kernel
theorem dX3_squareRest_61 : decode cX3_squareRest 61 = .ok (.irem, 1) := by decide +kernel
theorem dX3_squareRest_62 : decode cX3_squareRest 62 = .ok (.istore 7, 2) := by decide +kernel
theorem dX3_squareRest_64 : decode cX3_squareRest 64 = .ok (.iload 4, 2) := by decide +kernel
theorem dX3_squareRest_66 : decode cX3_squareRest 66 = .ok (.iload 4, 2) := by decide +kernel
theorem dX3_squareRest_68 : decode cX3_squareRest 68 = .ok (.imul, 1) := by decide +kernel
theorem dX3_squareRest_69 : decode cX3_squareRest 69 = .ok (.iload 6, 2) := by decide +kernel
theorem dX3_squareRest_71 : decode cX3_squareRest 71 = .ok (.iload_n 3, 1) := by decide +kernel
theorem dX3_squareRest_72 : decode cX3_squareRest 72 = .ok (.imul, 1) := by decide +kernel
theorem dX3_squareRest_73 : decode cX3_squareRest 73 = .ok (.iload_n 3, 1) := by decide +kernel
theorem dX3_squareRest_74 : decode cX3_squareRest 74 = .ok (.imul, 1) := by decide +kernel
theorem dX3_squareRest_75 : decode cX3_squareRest 75 = .ok (.iadd, 1) := by decide +kernel
theorem dX3_squareRest_76 : decode cX3_squareRest 76 = .ok (.aload_n 0, 1) := by decide +kernel
theorem dX3_squareRest_77 : decode cX3_squareRest 77 = .ok (.getfield 9, 3) := by decide +kernel
theorem dX3_squareRest_80 : decode cX3_squareRest 80 = .ok (.irem, 1) := by decide +kernel
theorem dX3_squareRest_81 : decode cX3_squareRest 81 = .ok (.istore 8, 2) := by decide +kernel
theorem dX3_squareRest_83 : decode cX3_squareRest 83 = .ok (.iload 7, 2) := by decide +kernel
theorem dX3_squareRest_85 : decode cX3_squareRest 85 = .ok (.aload_n 0, 1) := by decide +kernel
theorem dX3_squareRest_86 : decode cX3_squareRest 86 = .ok (.getfield 9, 3) := by decide +kernel
theorem dX3_squareRest_89 : decode cX3_squareRest 89 = .ok (.imul, 1) := by decide +kernel
theorem dX3_squareRest_90 : decode cX3_squareRest 90 = .ok (.iload 8, 2) := by decide +kernel
theorem dX3_squareRest_92 : decode cX3_squareRest 92 = .ok (.iadd, 1) := by decide +kernel
theorem dX3_squareRest_93 : decode cX3_squareRest 93 = .ok (.ireturn, 1) := by decide +kernel
theorem dX3_isProduct_0 : decode cX3_isProduct 0 = .ok (.iconst 1, 1) := by decide +kernel
theorem dX3_isProduct_1 : decode cX3_isProduct 1 = .ok (.istore_n 3, 1) := by decide +kernel
theorem dX3_isProduct_2 : decode cX3_isProduct 2 = .ok (.iload_n 3, 1) := by decide +kernel
theorem dX3_isProduct_3 : decode cX3_isProduct 3 = .ok (.iload_n 2, 1) := by decide +kernel
theorem dX3_isProduct_4 : decode cX3_isProduct 4 = .ok (.iconst 2, 1) := by decide +kernel
theorem dX3_isProduct_5 : decode cX3_isProduct 5 = .ok (.idiv, 1) := by decide +kernel
theorem dX3_isProduct_6 : decode cX3_isProduct 6 = .ok (.if_icmp .gt 47, 3) := by decide +kernel
theorem dX3_isProduct_9 : decode cX3_isProduct 9 = .ok (.aload_n 0, 1) := by decide +kernel
theorem dX3_isProduct_10 : decode cX3_isProduct 10 = .ok (.iload_n 3, 1) := by decide +kernel
theorem dX3_isProduct_11 : decode cX3_isProduct 11 = .ok (.invokevirtual 40, 3) := by decide +kernel
theorem dX3_isProduct_14 : decode cX3_isProduct 14 = .ok (.istore 4, 2) := by decide +kernel
theorem dX3_isProduct_16 : decode cX3_isProduct 16 = .ok (.iload 4, 2) := by decide +kernel
theorem dX3_isProduct_18 : decode cX3_isProduct 18 = .ok (.istore 5, 2) := by decide +kernel
theorem dX3_isProduct_20 : decode cX3_isProduct 20 = .ok (.iload 5, 2) := by decide +kernel
theorem dX3_isProduct_22 : decode cX3_isProduct 22 = .ok (.iconst 2, 1) := by decide +kernel
theorem dX3_isProduct_23 : decode cX3_isProduct 23 = .ok (.iload 4, 2) := by decide +kernel
theorem dX3_isProduct_25 : decode cX3_isProduct 25 = .ok (.imul, 1) := by decide +kernel
theorem dX3_isProduct_26 : decode cX3_isProduct 26 = .ok (.if_icmp .ge 21, 3) := by decide +kernel
theorem dX3_isProduct_29 : decode cX3_isProduct 29 = .ok (.aload_n 0, 1) := by decide +kernel
theorem dX3_isProduct_30 : decode cX3_isProduct 30 = .ok (.iload_n 1, 1) := by decide +kernel
theorem dX3_isProduct_31 : decode cX3_isProduct 31 = .ok (.iload 5, 2) := by decide +kernel
theorem dX3_isProduct_33 : decode cX3_isProduct 33 = .ok (.invokevirtual 46, 3) := by decide +kernel
theorem dX3_isProduct_36 : decode cX3_isProduct 36 = .ok (.ifCond .ne 5, 3) := by decide +kernel
theorem dX3_isProduct_39 : decode cX3_isProduct 39 = .ok (.iconst 1, 1) := by decide +kernel
theorem dX3_isProduct_40 : decode cX3_isProduct 40 = .ok (.ireturn, 1) := by decide +kernel
theorem dX3_isProduct_41 : decode cX3_isProduct 41 = .ok (.iinc 5 1, 3) := by decide +kernel
theorem dX3_isProduct_44 : decode cX3_isProduct 44 = .ok (.goto (-24), 3) := by decide +kernel
theorem dX3_isProduct_47 : decode cX3_isProduct 47 = .ok (.iinc 3 1, 3) := by decide +kernel
theorem dX3_isProduct_50 : decode cX3_isProduct 50 = .ok (.goto (-48), 3) := by decide +kernel
theorem dX3_isProduct_53 : decode cX3_isProduct 53 = .ok (.iconst 0, 1) := by decide +kernel
theorem dX3_isProduct_54 : decode cX3_isProduct 54 = .ok (.ireturn, 1) := by decide +kernel
theorem dX4_init_0 : decode cX4_init 0 = .ok (.aload_n 0, 1) := by decide +kernel
theorem dX4_init_1 : decode cX4_init 1 = .ok (.invokespecial 1, 3) := by decide +kernel
theorem dX4_init_4 : decode cX4_init 4 = .ok (.aload_n 0, 1) := by decide +kernel
theorem dX4_init_5 : decode cX4_init 5 = .ok (.new 7, 3) := by decide +kernel
theorem dX4_init_8 : decode cX4_init 8 = .ok (.dup, 1) := by decide +kernel
theorem dX4_init_9 : decode cX4_init 9 = .ok (.invokespecial 9, 3) := by decide +kernel
theorem dX4_init_12 : decode cX4_init 12 = .ok (.putfield 10, 3) := by decide +kernel
theorem dX4_init_15 : decode cX4_init 15 = .ok (.aload_n 0, 1) := by decide +kernel
theorem dX4_init_16 : decode cX4_init 16 = .ok (.iconst 5, 1) := by decide +kernel
theorem dX4_init_17 : decode cX4_init 17 = .ok (.anewarray 16, 3) := by decide +kernel
theorem dX4_init_20 : decode cX4_init 20 = .ok (.putfield 18, 3) := by decide +kernel
theorem dX4_init_23 : decode cX4_init 23 = .ok (.aload_n 0, 1) := by decide +kernel
theorem dX4_init_24 : decode cX4_init 24 = .ok (.bipush 8, 2) := by decide +kernel
theorem dX4_init_26 : decode cX4_init 26 = .ok (.anewarray 22, 3) := by decide +kernel
theorem dX4_init_29 : decode cX4_init 29 = .ok (.putfield 24, 3) := by decide +kernel
theorem dX4_init_32 : decode cX4_init 32 = .ok (.aload_n 0, 1) := by decide +kernel
theorem dX4_init_33 : decode cX4_init 33 = .ok (.sipush 343, 3) := by decide +kernel
theorem dX4_init_36 : decode cX4_init 36 = .ok (.newarray .int, 2) := by decide +kernel
theorem dX4_init_38 : decode cX4_init 38 = .ok (.putfield 28, 3) := by decide +kernel
theorem dX4_init_41 : decode cX4_init 41 = .ok (.aload_n 0, 1) := by decide +kernel
theorem dX4_init_42 : decode cX4_init 42 = .ok (.bipush 13, 2) := by decide +kernel
theorem dX4_init_44 : decode cX4_init 44 = .ok (.newarray .long, 2) := by decide +kernel
theorem dX4_init_46 : decode cX4_init 46 = .ok (.putfield 32, 3) := by decide +kernel
theorem dX4_init_49 : decode cX4_init 49 = .ok (.aload_n 0, 1) := by decide +kernel
theorem dX4_init_50 : decode cX4_init 50 = .ok (.bipush (-9), 2) := by decide +kernel
theorem dX4_init_52 : decode cX4_init 52 = .ok (.putfield 36, 3) := by decide +kernel
theorem dX4_init_55 : decode cX4_init 55 = .ok (.iconst 0, 1) := by decide +kernel
theorem dX4_init_56 : decode cX4_init 56 = .ok (.istore_n 1, 1) := by decide +kernel
theorem dX4_init_57 : decode cX4_init 57 = .ok (.iload_n 1, 1) := by decide +kernel
theorem dX4_init_58 : decode cX4_init 58 = .ok (.aload_n 0, 1) := by decide +kernel
theorem dX4_init_59 : decode cX4_init 59 = .ok (.getfield 18, 3) := by decide +kernel
theorem dX4_init_62 : decode cX4_init 62 = .ok (.arraylength, 1) := by decide +kernel
theorem dX4_init_63 : decode cX4_init 63 = .ok (.if_icmp .ge 29, 3) := by decide +kernel
theorem dX4_init_66 : decode cX4_init 66 = .ok (.aload_n 0, 1) := by decide +kernel
theorem dX4_init_67 : decode cX4_init 67 = .ok (.getfield 18, 3) := by decide +kernel
theorem dX4_init_70 : decode cX4_init 70 = .ok (.iload_n 1, 1) := by decide +kernel
theorem dX4_init_71 : decode cX4_init 71 = .ok (.new 16, 3) := by decide +kernel
theorem dX4_init_74 : decode cX4_init 74 = .ok (.dup, 1) := by decide +kernel
theorem dX4_init_75 : decode cX4_init 75 = .ok (.aload_n 0, 1) := by decide +kernel
theorem dX4_init_76 : decode cX4_init 76 = .ok (.getfield 10, 3) := by decide +kernel
theorem dX4_init_79 : decode cX4_init 79 = .ok (.iload_n 1, 1) := by decide +kernel
theorem dX4_init_80 : decode cX4_init 80 = .ok (.iconst 1, 1) := by decide +kernel
theorem dX4_init_81 : decode cX4_init 81 = .ok (.iadd, 1) := by decide +kernel
theorem dX4_init_82 : decode cX4_init 82 = .ok (.invokespecial 40, 3) := by decide +kernel
theorem dX4_init_85 : decode cX4_init 85 = .ok (.aastore, 1) := by decide +kernel
theorem dX4_init_86 : decode cX4_init 86 = .ok (.iinc 1 1, 3) := by decide +kernel
theorem dX4_init_89 : decode cX4_init 89 = .ok (.goto (-32), 3) := by decide +kernel
theorem dX4_init_92 : decode cX4_init 92 = .ok (.iconst 0, 1) := by decide +kernel
theorem dX4_init_93 : decode cX4_init 93 = .ok (.istore_n 1, 1) := by decide +kernel
theorem dX4_init_94 : decode cX4_init 94 = .ok (.iload_n 1, 1) := by decide +kernel
theorem dX4_init_95 : decode cX4_init 95 = .ok (.aload_n 0, 1) := by decide +kernel
theorem dX4_init_96 : decode cX4_init 96 = .ok (.getfield 24, 3) := by decide +kernel
theorem dX4_init_99 : decode cX4_init 99 = .ok (.arraylength, 1) := by decide +kernel
theorem dX4_init_100 : decode cX4_init 100 = .ok (.if_icmp .ge 26, 3) := by decide +kernel
theorem dX4_init_103 : decode cX4_init 103 = .ok (.aload_n 0, 1) := by decide +kernel
theorem dX4_init_104 : decode cX4_init 104 = .ok (.getfield 24, 3) := by decide +kernel
theorem dX4_init_107 : decode cX4_init 107 = .ok (.iload_n 1, 1) := by decide +kernel
theorem dX4_init_108 : decode cX4_init 108 = .ok (.new 22, 3) := by decide +kernel
theorem dX4_init_111 : decode cX4_init 111 = .ok (.dup, 1) := by decide +kernel
theorem dX4_init_112 : decode cX4_init 112 = .ok (.aload_n 0, 1) := by decide +kernel
theorem dX4_init_113 : decode cX4_init 113 = .ok (.getfield 10, 3) := by decide +kernel
theorem dX4_init_116 : decode cX4_init 116 = .ok (.invokespecial 43, 3) := by decide +kernel
theorem dX4_init_119 : decode cX4_init 119 = .ok (.aastore, 1) := by decide +kernel
theorem dX4_init_120 : decode cX4_init 120 = .ok (.iinc 1 1, 3) := by decide +kernel
theorem dX4_init_123 : decode cX4_init 123 = .ok (.goto (-29), 3) := by decide +kernel
theorem dX4_init_126 : decode cX4_init 126 = .ok (.aload_n 0, 1) := by decide +kernel
theorem dX4_init_127 : decode cX4_init 127 = .ok (.iconst 3, 1) := by decide +kernel
theorem dX4_init_128 : decode cX4_init 128 = .ok (.invokevirtual 46, 3) := by decide +kernel
theorem dX4_init_131 : decode cX4_init 131 = .ok (.return_, 1) := by decide +kernel
theorem dX4_prime_0 : decode cX4_prime 0 = .ok (.getstatic 50, 3) := by decide +kernel
theorem dX4_prime_3 : decode cX4_prime 3 = .ok (.astore_n 2, 1) := by decide +kernel
theorem dX4_prime_4 : decode cX4_prime 4 = .ok (.aload_n 2, 1) := by decide +kernel
theorem dX4_prime_5 : decode cX4_prime 5 = .ok (.arraylength, 1) := by decide +kernel
theorem dX4_prime_6 : decode cX4_prime 6 = .ok (.istore_n 3, 1) := by decide +kernel
theorem dX4_prime_7 : decode cX4_prime 7 = .ok (.iconst 0, 1) := by decide +kernel
theorem dX4_prime_8 : decode cX4_prime 8 = .ok (.istore 4, 2) := by decide +kernel
theorem dX4_prime_10 : decode cX4_prime 10 = .ok (.iload 4, 2) := by decide +kernel
theorem dX4_prime_12 : decode cX4_prime 12 = .ok (.iload_n 3, 1) := by decide +kernel
theorem dX4_prime_13 : decode cX4_prime 13 = .ok (.if_icmp .ge 31, 3) := by decide +kernel
theorem dX4_prime_16 : decode cX4_prime 16 = .ok (.aload_n 2, 1) := by decide +kernel
theorem dX4_prime_17 : decode cX4_prime 17 = .ok (.iload 4, 2) := by decide +kernel
theorem dX4_prime_19 : decode cX4_prime 19 = .ok (.iaload, 1) := by decide +kernel
theorem dX4_prime_20 : decode cX4_prime 20 = .ok (.istore 5, 2) := by decide +kernel
theorem dX4_prime_22 : decode cX4_prime 22 = .ok (.iload 5, 2) := by decide +kernel
theorem dX4_prime_24 : decode cX4_prime 24 = .ok (.iload_n 1, 1) := by decide +kernel
theorem dX4_prime_25 : decode cX4_prime 25 = .ok (.if_icmp .ne 13, 3) := by decide +kernel
theorem dX4_prime_28 : decode cX4_prime 28 = .ok (.aload_n 0, 1) := by decide +kernel
theorem dX4_prime_29 : decode cX4_prime 29 = .ok (.iload_n 1, 1) := by decide +kernel
theorem dX4_prime_30 : decode cX4_prime 30 = .ok (.invokevirtual 46, 3) := by decide +kernel
theorem dX4_prime_33 : decode cX4_prime 33 = .ok (.aload_n 0, 1) := by decide +kernel
theorem dX4_prime_34 : decode cX4_prime 34 = .ok (.getfield 53, 3) := by decide +kernel
theorem dX4_prime_37 : decode cX4_prime 37 = .ok (.ireturn, 1) := by decide +kernel
theorem dX4_prime_38 : decode cX4_prime 38 = .ok (.iinc 4 1, 3) := by decide +kernel
theorem dX4_prime_41 : decode cX4_prime 41 = .ok (.goto (-31), 3) := by decide +kernel
theorem dX4_prime_44 : decode cX4_prime 44 = .ok (.iconst (-1), 1) := by decide +kernel
theorem dX4_prime_45 : decode cX4_prime 45 = .ok (.ireturn, 1) := by decide +kernel
theorem dX4_size_0 : decode cX4_size 0 = .ok (.aload_n 0, 1) := by decide +kernel
theorem dX4_size_1 : decode cX4_size 1 = .ok (.iload_n 1, 1) := by decide +kernel
theorem dX4_size_2 : decode cX4_size 2 = .ok (.invokevirtual 56, 3) := by decide +kernel
theorem dX4_size_5 : decode cX4_size 5 = .ok (.astore_n 2, 1) := by decide +kernel
theorem dX4_size_6 : decode cX4_size 6 = .ok (.aload_n 2, 1) := by decide +kernel
theorem dX4_size_7 : decode cX4_size 7 = .ok (.ifnonnull 7, 3) := by decide +kernel
theorem dX4_size_10 : decode cX4_size 10 = .ok (.iconst (-1), 1) := by decide +kernel
theorem dX4_size_11 : decode cX4_size 11 = .ok (.goto 7, 3) := by decide +kernel
theorem dX4_size_14 : decode cX4_size 14 = .ok (.aload_n 2, 1) := by decide +kernel
theorem dX4_size_15 : decode cX4_size 15 = .ok (.getfield 60, 3) := by decide +kernel
theorem dX4_size_18 : decode cX4_size 18 = .ok (.ireturn, 1) := by decide +kernel
theorem dX4_modulus_0 : decode cX4_modulus 0 = .ok (.aload_n 0, 1) := by decide +kernel
theorem dX4_modulus_1 : decode cX4_modulus 1 = .ok (.iload_n 1, 1) := by decide +kernel
theorem dX4_modulus_2 : decode cX4_modulus 2 = .ok (.invokevirtual 56, 3) := by decide +kernel
theorem dX4_modulus_5 : decode cX4_modulus 5 = .ok (.astore_n 2, 1) := by decide +kernel
theorem dX4_modulus_6 : decode cX4_modulus 6 = .ok (.aload_n 2, 1) := by decide +kernel
theorem dX4_modulus_7 : decode cX4_modulus 7 = .ok (.ifnonnull 7, 3) := by decide +kernel
theorem dX4_modulus_10 : decode cX4_modulus 10 = .ok (.iconst (-1), 1) := by decide +kernel
theorem dX4_modulus_11 : decode cX4_modulus 11 = .ok (.goto 7, 3) := by decide +kernel
theorem dX4_modulus_14 : decode cX4_modulus 14 = .ok (.aload_n 2, 1) := by decide +kernel
theorem dX4_modulus_15 : decode cX4_modulus 15 = .ok (.getfield 63, 3) := by decide +kernel
theorem dX4_modulus_18 : decode cX4_modulus 18 = .ok (.ireturn, 1) := by decide +kernel
theorem dX4_plus_0 : decode cX4_plus 0 = .ok (.aload_n 0, 1) := by decide +kernel
theorem dX4_plus_1 : decode cX4_plus 1 = .ok (.iload_n 1, 1) := by decide +kernel
theorem dX4_plus_2 : decode cX4_plus 2 = .ok (.invokevirtual 56, 3) := by decide +kernel
theorem dX4_plus_5 : decode cX4_plus 5 = .ok (.astore 4, 2) := by decide +kernel
theorem dX4_plus_7 : decode cX4_plus 7 = .ok (.aload 4, 2) := by decide +kernel
theorem dX4_plus_9 : decode cX4_plus 9 = .ok (.ifnull 21, 3) := by decide +kernel
theorem dX4_plus_12 : decode cX4_plus 12 = .ok (.aload 4, 2) := by decide +kernel
theorem dX4_plus_14 : decode cX4_plus 14 = .ok (.iload_n 2, 1) := by decide +kernel
theorem dX4_plus_15 : decode cX4_plus 15 = .ok (.invokevirtual 66, 3) := by decide +kernel
theorem dX4_plus_18 : decode cX4_plus 18 = .ok (.ifCond .eq 12, 3) := by decide +kernel
theorem dX4_plus_21 : decode cX4_plus 21 = .ok (.aload 4, 2) := by decide +kernel
theorem dX4_plus_23 : decode cX4_plus 23 = .ok (.iload_n 3, 1) := by decide +kernel
theorem dX4_plus_24 : decode cX4_plus 24 = .ok (.invokevirtual 66, 3) := by decide +kernel
theorem dX4_plus_27 : decode cX4_plus 27 = .ok (.ifCond .ne 5, 3) := by decide +kernel
theorem dX4_plus_30 : decode cX4_plus 30 = .ok (.iconst (-1), 1) := by decide +kernel
theorem dX4_plus_31 : decode cX4_plus 31 = .ok (.ireturn, 1) := by decide +kernel
theorem dX4_plus_32 : decode cX4_plus 32 = .ok (.aload_n 0, 1) := by decide +kernel
theorem dX4_plus_33 : decode cX4_plus 33 = .ok (.getfield 10, 3) := by decide +kernel
theorem dX4_plus_36 : decode cX4_plus 36 = .ok (.iload_n 2, 1) := by decide +kernel
theorem dX4_plus_37 : decode cX4_plus 37 = .ok (.iload_n 3, 1) := by decide +kernel
theorem dX4_plus_38 : decode cX4_plus 38 = .ok (.invokevirtual 70, 3) := by decide +kernel
theorem dX4_plus_41 : decode cX4_plus 41 = .ok (.ireturn, 1) := by decide +kernel
theorem dX4_times_0 : decode cX4_times 0 = .ok (.aload_n 0, 1) := by decide +kernel
theorem dX4_times_1 : decode cX4_times 1 = .ok (.iload_n 1, 1) := by decide +kernel
theorem dX4_times_2 : decode cX4_times 2 = .ok (.invokevirtual 56, 3) := by decide +kernel
theorem dX4_times_5 : decode cX4_times 5 = .ok (.astore 4, 2) := by decide +kernel
theorem dX4_times_7 : decode cX4_times 7 = .ok (.aload 4, 2) := by decide +kernel
theorem dX4_times_9 : decode cX4_times 9 = .ok (.ifnull 21, 3) := by decide +kernel
theorem dX4_times_12 : decode cX4_times 12 = .ok (.aload 4, 2) := by decide +kernel
theorem dX4_times_14 : decode cX4_times 14 = .ok (.iload_n 2, 1) := by decide +kernel
theorem dX4_times_15 : decode cX4_times 15 = .ok (.invokevirtual 66, 3) := by decide +kernel
theorem dX4_times_18 : decode cX4_times 18 = .ok (.ifCond .eq 12, 3) := by decide +kernel
theorem dX4_times_21 : decode cX4_times 21 = .ok (.aload 4, 2) := by decide +kernel
theorem dX4_times_23 : decode cX4_times 23 = .ok (.iload_n 3, 1) := by decide +kernel
theorem dX4_times_24 : decode cX4_times 24 = .ok (.invokevirtual 66, 3) := by decide +kernel
theorem dX4_times_27 : decode cX4_times 27 = .ok (.ifCond .ne 5, 3) := by decide +kernel
theorem dX4_times_30 : decode cX4_times 30 = .ok (.iconst (-1), 1) := by decide +kernel
theorem dX4_times_31 : decode cX4_times 31 = .ok (.ireturn, 1) := by decide +kernel
theorem dX4_times_32 : decode cX4_times 32 = .ok (.aload 4, 2) := by decide +kernel
theorem dX4_times_34 : decode cX4_times 34 = .ok (.iload_n 2, 1) := by decide +kernel
theorem dX4_times_35 : decode cX4_times 35 = .ok (.iload_n 3, 1) := by decide +kernel
theorem dX4_times_36 : decode cX4_times 36 = .ok (.invokevirtual 74, 3) := by decide +kernel
theorem dX4_times_39 : decode cX4_times 39 = .ok (.ireturn, 1) := by decide +kernel
theorem dX4_over_0 : decode cX4_over 0 = .ok (.aload_n 0, 1) := by decide +kernel
theorem dX4_over_1 : decode cX4_over 1 = .ok (.iload_n 1, 1) := by decide +kernel
theorem dX4_over_2 : decode cX4_over 2 = .ok (.invokevirtual 56, 3) := by decide +kernel
theorem dX4_over_5 : decode cX4_over 5 = .ok (.astore_n 3, 1) := by decide +kernel
theorem dX4_over_6 : decode cX4_over 6 = .ok (.aload_n 3, 1) := by decide +kernel
theorem dX4_over_7 : decode cX4_over 7 = .ok (.ifnull 11, 3) := by decide +kernel
theorem dX4_over_10 : decode cX4_over 10 = .ok (.aload_n 3, 1) := by decide +kernel
theorem dX4_over_11 : decode cX4_over 11 = .ok (.iload_n 2, 1) := by decide +kernel
theorem dX4_over_12 : decode cX4_over 12 = .ok (.invokevirtual 66, 3) := by decide +kernel
theorem dX4_over_15 : decode cX4_over 15 = .ok (.ifCond .ne 5, 3) := by decide +kernel
theorem dX4_over_18 : decode cX4_over 18 = .ok (.iconst (-1), 1) := by decide +kernel
theorem dX4_over_19 : decode cX4_over 19 = .ok (.ireturn, 1) := by decide +kernel
theorem dX4_over_20 : decode cX4_over 20 = .ok (.iload_n 2, 1) := by decide +kernel
theorem dX4_over_21 : decode cX4_over 21 = .ok (.ifCond .ne 8, 3) := by decide +kernel
theorem dX4_over_24 : decode cX4_over 24 = .ok (.bipush (-2), 2) := by decide +kernel
theorem dX4_over_26 : decode cX4_over 26 = .ok (.goto 14, 3) := by decide +kernel
theorem dX4_over_29 : decode cX4_over 29 = .ok (.aload_n 3, 1) := by decide +kernel
theorem dX4_over_30 : decode cX4_over 30 = .ok (.iload_n 2, 1) := by decide +kernel
theorem dX4_over_31 : decode cX4_over 31 = .ok (.aload_n 3, 1) := by decide +kernel
theorem dX4_over_32 : decode cX4_over 32 = .ok (.getfield 77, 3) := by decide +kernel
theorem dX4_over_35 : decode cX4_over 35 = .ok (.iconst 1, 1) := by decide +kernel
theorem dX4_over_36 : decode cX4_over 36 = .ok (.isub, 1) := by decide +kernel
theorem dX4_over_37 : decode cX4_over 37 = .ok (.invokevirtual 80, 3) := by decide +kernel
theorem dX4_over_40 : decode cX4_over 40 = .ok (.ireturn, 1) := by decide +kernel
theorem dX4_raise_0 : decode cX4_raise 0 = .ok (.aload_n 0, 1) := by decide +kernel
theorem dX4_raise_1 : decode cX4_raise 1 = .ok (.iload_n 1, 1) := by decide +kernel
theorem dX4_raise_2 : decode cX4_raise 2 = .ok (.invokevirtual 56, 3) := by decide +kernel
theorem dX4_raise_5 : decode cX4_raise 5 = .ok (.astore 4, 2) := by decide +kernel
theorem dX4_raise_7 : decode cX4_raise 7 = .ok (.aload 4, 2) := by decide +kernel
theorem dX4_raise_9 : decode cX4_raise 9 = .ok (.ifnull 16, 3) := by decide +kernel
theorem dX4_raise_12 : decode cX4_raise 12 = .ok (.aload 4, 2) := by decide +kernel
theorem dX4_raise_14 : decode cX4_raise 14 = .ok (.iload_n 2, 1) := by decide +kernel
theorem dX4_raise_15 : decode cX4_raise 15 = .ok (.invokevirtual 66, 3) := by decide +kernel
theorem dX4_raise_18 : decode cX4_raise 18 = .ok (.ifCond .eq 7, 3) := by decide +kernel
theorem dX4_raise_21 : decode cX4_raise 21 = .ok (.iload_n 3, 1) := by decide +kernel
theorem dX4_raise_22 : decode cX4_raise 22 = .ok (.ifCond .ge 5, 3) := by decide +kernel
theorem dX4_raise_25 : decode cX4_raise 25 = .ok (.iconst (-1), 1) := by decide +kernel
theorem dX4_raise_26 : decode cX4_raise 26 = .ok (.ireturn, 1) := by decide +kernel
theorem dX4_raise_27 : decode cX4_raise 27 = .ok (.aload 4, 2) := by decide +kernel
theorem dX4_raise_29 : decode cX4_raise 29 = .ok (.iload_n 2, 1) := by decide +kernel
theorem dX4_raise_30 : decode cX4_raise 30 = .ok (.iload_n 3, 1) := by decide +kernel
theorem dX4_raise_31 : decode cX4_raise 31 = .ok (.invokevirtual 80, 3) := by decide +kernel
theorem dX4_raise_34 : decode cX4_raise 34 = .ok (.ireturn, 1) := by decide +kernel
theorem dX4_sign_0 : decode cX4_sign 0 = .ok (.aload_n 0, 1) := by decide +kernel
theorem dX4_sign_1 : decode cX4_sign 1 = .ok (.iload_n 1, 1) := by decide +kernel
theorem dX4_sign_2 : decode cX4_sign 2 = .ok (.invokevirtual 56, 3) := by decide +kernel
theorem dX4_sign_5 : decode cX4_sign 5 = .ok (.astore_n 3, 1) := by decide +kernel
theorem dX4_sign_6 : decode cX4_sign 6 = .ok (.aload_n 3, 1) := by decide +kernel
theorem dX4_sign_7 : decode cX4_sign 7 = .ok (.ifnull 11, 3) := by decide +kernel
theorem dX4_sign_10 : decode cX4_sign 10 = .ok (.aload_n 3, 1) := by decide +kernel
theorem dX4_sign_11 : decode cX4_sign 11 = .ok (.iload_n 2, 1) := by decide +kernel
theorem dX4_sign_12 : decode cX4_sign 12 = .ok (.invokevirtual 66, 3) := by decide +kernel
theorem dX4_sign_15 : decode cX4_sign 15 = .ok (.ifCond .ne 6, 3) := by decide +kernel
theorem dX4_sign_18 : decode cX4_sign 18 = .ok (.ldc 83, 2) := by decide +kernel
theorem dX4_sign_20 : decode cX4_sign 20 = .ok (.ireturn, 1) := by decide +kernel
theorem dX4_sign_21 : decode cX4_sign 21 = .ok (.aload_n 3, 1) := by decide +kernel
theorem dX4_sign_22 : decode cX4_sign 22 = .ok (.iload_n 2, 1) := by decide +kernel
theorem dX4_sign_23 : decode cX4_sign 23 = .ok (.invokevirtual 84, 3) := by decide +kernel
theorem dX4_sign_26 : decode cX4_sign 26 = .ok (.ireturn, 1) := by decide +kernel
theorem dX4_turns_0 : decode cX4_turns 0 = .ok (.aload_n 0, 1) := by decide +kernel
theorem dX4_turns_1 : decode cX4_turns 1 = .ok (.iload_n 1, 1) := by decide +kernel
theorem dX4_turns_2 : decode cX4_turns 2 = .ok (.invokevirtual 56, 3) := by decide +kernel
theorem dX4_turns_5 : decode cX4_turns 5 = .ok (.astore_n 3, 1) := by decide +kernel
theorem dX4_turns_6 : decode cX4_turns 6 = .ok (.aload_n 3, 1) := by decide +kernel
theorem dX4_turns_7 : decode cX4_turns 7 = .ok (.ifnull 11, 3) := by decide +kernel
theorem dX4_turns_10 : decode cX4_turns 10 = .ok (.aload_n 3, 1) := by decide +kernel
theorem dX4_turns_11 : decode cX4_turns 11 = .ok (.iload_n 2, 1) := by decide +kernel
theorem dX4_turns_12 : decode cX4_turns 12 = .ok (.invokevirtual 66, 3) := by decide +kernel
theorem dX4_turns_15 : decode cX4_turns 15 = .ok (.ifCond .ne 5, 3) := by decide +kernel
theorem dX4_turns_18 : decode cX4_turns 18 = .ok (.iconst (-1), 1) := by decide +kernel
theorem dX4_turns_19 : decode cX4_turns 19 = .ok (.ireturn, 1) := by decide +kernel
theorem dX4_turns_20 : decode cX4_turns 20 = .ok (.iload_n 2, 1) := by decide +kernel
theorem dX4_turns_21 : decode cX4_turns 21 = .ok (.ifCond .ne 8, 3) := by decide +kernel
theorem dX4_turns_24 : decode cX4_turns 24 = .ok (.bipush (-2), 2) := by decide +kernel
theorem dX4_turns_26 : decode cX4_turns 26 = .ok (.goto 8, 3) := by decide +kernel
theorem dX4_turns_29 : decode cX4_turns 29 = .ok (.aload_n 3, 1) := by decide +kernel
theorem dX4_turns_30 : decode cX4_turns 30 = .ok (.iload_n 2, 1) := by decide +kernel
theorem dX4_turns_31 : decode cX4_turns 31 = .ok (.invokevirtual 88, 3) := by decide +kernel
theorem dX4_turns_34 : decode cX4_turns 34 = .ok (.ireturn, 1) := by decide +kernel
theorem dX4_trace_0 : decode cX4_trace 0 = .ok (.aload_n 0, 1) := by decide +kernel
theorem dX4_trace_1 : decode cX4_trace 1 = .ok (.iload_n 1, 1) := by decide +kernel
theorem dX4_trace_2 : decode cX4_trace 2 = .ok (.invokevirtual 56, 3) := by decide +kernel
theorem dX4_trace_5 : decode cX4_trace 5 = .ok (.astore_n 3, 1) := by decide +kernel
theorem dX4_trace_6 : decode cX4_trace 6 = .ok (.aload_n 3, 1) := by decide +kernel
theorem dX4_trace_7 : decode cX4_trace 7 = .ok (.ifnull 11, 3) := by decide +kernel
theorem dX4_trace_10 : decode cX4_trace 10 = .ok (.aload_n 3, 1) := by decide +kernel
theorem dX4_trace_11 : decode cX4_trace 11 = .ok (.iload_n 2, 1) := by decide +kernel
theorem dX4_trace_12 : decode cX4_trace 12 = .ok (.invokevirtual 66, 3) := by decide +kernel
theorem dX4_trace_15 : decode cX4_trace 15 = .ok (.ifCond .ne 5, 3) := by decide +kernel
theorem dX4_trace_18 : decode cX4_trace 18 = .ok (.iconst (-1), 1) := by decide +kernel
theorem dX4_trace_19 : decode cX4_trace 19 = .ok (.ireturn, 1) := by decide +kernel
theorem dX4_trace_20 : decode cX4_trace 20 = .ok (.iconst 0, 1) := by decide +kernel
theorem dX4_trace_21 : decode cX4_trace 21 = .ok (.istore 4, 2) := by decide +kernel
theorem dX4_trace_23 : decode cX4_trace 23 = .ok (.iload_n 2, 1) := by decide +kernel
theorem dX4_trace_24 : decode cX4_trace 24 = .ok (.istore 5, 2) := by decide +kernel
theorem dX4_trace_26 : decode cX4_trace 26 = .ok (.iconst 0, 1) := by decide +kernel
theorem dX4_trace_27 : decode cX4_trace 27 = .ok (.istore 6, 2) := by decide +kernel
theorem dX4_trace_29 : decode cX4_trace 29 = .ok (.iload 6, 2) := by decide +kernel
theorem dX4_trace_31 : decode cX4_trace 31 = .ok (.iload_n 1, 1) := by decide +kernel
theorem dX4_trace_32 : decode cX4_trace 32 = .ok (.if_icmp .ge 37, 3) := by decide +kernel
theorem dX4_trace_35 : decode cX4_trace 35 = .ok (.aload_n 0, 1) := by decide +kernel
theorem dX4_trace_36 : decode cX4_trace 36 = .ok (.getfield 10, 3) := by decide +kernel
theorem dX4_trace_39 : decode cX4_trace 39 = .ok (.iload 4, 2) := by decide +kernel
theorem dX4_trace_41 : decode cX4_trace 41 = .ok (.iload 5, 2) := by decide +kernel
theorem dX4_trace_43 : decode cX4_trace 43 = .ok (.invokevirtual 70, 3) := by decide +kernel
theorem dX4_trace_46 : decode cX4_trace 46 = .ok (.istore 4, 2) := by decide +kernel
theorem dX4_trace_48 : decode cX4_trace 48 = .ok (.aload_n 3, 1) := by decide +kernel
theorem dX4_trace_49 : decode cX4_trace 49 = .ok (.iload 5, 2) := by decide +kernel
theorem dX4_trace_51 : decode cX4_trace 51 = .ok (.aload_n 0, 1) := by decide +kernel
theorem dX4_trace_52 : decode cX4_trace 52 = .ok (.getfield 10, 3) := by decide +kernel
theorem dX4_trace_55 : decode cX4_trace 55 = .ok (.getfield 91, 3) := by decide +kernel
theorem dX4_trace_58 : decode cX4_trace 58 = .ok (.invokevirtual 80, 3) := by decide +kernel
theorem dX4_trace_61 : decode cX4_trace 61 = .ok (.istore 5, 2) := by decide +kernel
theorem dX4_trace_63 : decode cX4_trace 63 = .ok (.iinc 6 1, 3) := by decide +kernel
theorem dX4_trace_66 : decode cX4_trace 66 = .ok (.goto (-37), 3) := by decide +kernel
theorem dX4_trace_69 : decode cX4_trace 69 = .ok (.iload 4, 2) := by decide +kernel
theorem dX4_trace_71 : decode cX4_trace 71 = .ok (.ireturn, 1) := by decide +kernel
theorem dX4_forms_0 : decode cX4_forms 0 = .ok (.aload_n 0, 1) := by decide +kernel
theorem dX4_forms_1 : decode cX4_forms 1 = .ok (.iload_n 1, 1) := by decide +kernel
theorem dX4_forms_2 : decode cX4_forms 2 = .ok (.invokevirtual 56, 3) := by decide +kernel
theorem dX4_forms_5 : decode cX4_forms 5 = .ok (.astore 5, 2) := by decide +kernel
theorem dX4_forms_7 : decode cX4_forms 7 = .ok (.aload 5, 2) := by decide +kernel
theorem dX4_forms_9 : decode cX4_forms 9 = .ok (.ifnull 31, 3) := by decide +kernel
theorem dX4_forms_12 : decode cX4_forms 12 = .ok (.aload 5, 2) := by decide +kernel
theorem dX4_forms_14 : decode cX4_forms 14 = .ok (.iload_n 2, 1) := by decide +kernel
theorem dX4_forms_15 : decode cX4_forms 15 = .ok (.invokevirtual 66, 3) := by decide +kernel
theorem dX4_forms_18 : decode cX4_forms 18 = .ok (.ifCond .eq 22, 3) := by decide +kernel
theorem dX4_forms_21 : decode cX4_forms 21 = .ok (.aload 5, 2) := by decide +kernel
theorem dX4_forms_23 : decode cX4_forms 23 = .ok (.iload_n 3, 1) := by decide +kernel
theorem dX4_forms_24 : decode cX4_forms 24 = .ok (.invokevirtual 66, 3) := by decide +kernel
theorem dX4_forms_27 : decode cX4_forms 27 = .ok (.ifCond .eq 13, 3) := by decide +kernel
theorem dX4_forms_30 : decode cX4_forms 30 = .ok (.aload 5, 2) := by decide +kernel
theorem dX4_forms_32 : decode cX4_forms 32 = .ok (.iload 4, 2) := by decide +kernel
theorem dX4_forms_34 : decode cX4_forms 34 = .ok (.invokevirtual 66, 3) := by decide +kernel
theorem dX4_forms_37 : decode cX4_forms 37 = .ok (.ifCond .ne 5, 3) := by decide +kernel
theorem dX4_forms_40 : decode cX4_forms 40 = .ok (.iconst (-1), 1) := by decide +kernel
theorem dX4_forms_41 : decode cX4_forms 41 = .ok (.ireturn, 1) := by decide +kernel
theorem dX4_forms_42 : decode cX4_forms 42 = .ok (.aload_n 0, 1) := by decide +kernel
theorem dX4_forms_43 : decode cX4_forms 43 = .ok (.getfield 28, 3) := by decide +kernel
theorem dX4_forms_46 : decode cX4_forms 46 = .ok (.iconst 0, 1) := by decide +kernel
theorem dX4_forms_47 : decode cX4_forms 47 = .ok (.invokestatic 94, 3) := by decide +kernel
theorem dX4_forms_50 : decode cX4_forms 50 = .ok (.iconst 0, 1) := by decide +kernel
theorem dX4_forms_51 : decode cX4_forms 51 = .ok (.istore 6, 2) := by decide +kernel
theorem dX4_forms_53 : decode cX4_forms 53 = .ok (.iload 6, 2) := by decide +kernel
theorem dX4_forms_55 : decode cX4_forms 55 = .ok (.aload 5, 2) := by decide +kernel
theorem dX4_forms_57 : decode cX4_forms 57 = .ok (.getfield 60, 3) := by decide +kernel
theorem dX4_forms_60 : decode cX4_forms 60 = .ok (.if_icmp .ge 46, 3) := by decide +kernel
theorem dX4_forms_63 : decode cX4_forms 63 = .ok (.aload 5, 2) := by decide +kernel
theorem dX4_forms_65 : decode cX4_forms 65 = .ok (.iload_n 2, 1) := by decide +kernel
theorem dX4_forms_66 : decode cX4_forms 66 = .ok (.aload 5, 2) := by decide +kernel
theorem dX4_forms_68 : decode cX4_forms 68 = .ok (.iload 6, 2) := by decide +kernel
theorem dX4_forms_70 : decode cX4_forms 70 = .ok (.iload 6, 2) := by decide +kernel
theorem dX4_forms_72 : decode cX4_forms 72 = .ok (.invokevirtual 74, 3) := by decide +kernel
theorem dX4_forms_75 : decode cX4_forms 75 = .ok (.invokevirtual 74, 3) := by decide +kernel
theorem dX4_forms_78 : decode cX4_forms 78 = .ok (.istore 7, 2) := by decide +kernel
theorem dX4_forms_80 : decode cX4_forms 80 = .ok (.aload_n 0, 1) := by decide +kernel
theorem dX4_forms_81 : decode cX4_forms 81 = .ok (.getfield 28, 3) := by decide +kernel
theorem dX4_forms_84 : decode cX4_forms 84 = .ok (.iload 7, 2) := by decide +kernel
theorem dX4_forms_86 : decode cX4_forms 86 = .ok (.aload_n 0, 1) := by decide +kernel
theorem dX4_forms_87 : decode cX4_forms 87 = .ok (.getfield 28, 3) := by decide +kernel
theorem dX4_forms_90 : decode cX4_forms 90 = .ok (.iload 7, 2) := by decide +kernel
theorem dX4_forms_92 : decode cX4_forms 92 = .ok (.invokestatic 100, 3) := by decide +kernel
theorem dX4_forms_95 : decode cX4_forms 95 = .ok (.iconst 1, 1) := by decide +kernel
theorem dX4_forms_96 : decode cX4_forms 96 = .ok (.iadd, 1) := by decide +kernel
theorem dX4_forms_97 : decode cX4_forms 97 = .ok (.invokestatic 104, 3) := by decide +kernel
theorem dX4_forms_100 : decode cX4_forms 100 = .ok (.iinc 6 1, 3) := by decide +kernel
theorem dX4_forms_103 : decode cX4_forms 103 = .ok (.goto (-50), 3) := by decide +kernel
theorem dX4_forms_106 : decode cX4_forms 106 = .ok (.iconst 0, 1) := by decide +kernel
theorem dX4_forms_107 : decode cX4_forms 107 = .ok (.istore 6, 2) := by decide +kernel
theorem dX4_forms_109 : decode cX4_forms 109 = .ok (.iconst 0, 1) := by decide +kernel
theorem dX4_forms_110 : decode cX4_forms 110 = .ok (.istore 7, 2) := by decide +kernel
theorem dX4_forms_112 : decode cX4_forms 112 = .ok (.iload 7, 2) := by decide +kernel
theorem dX4_forms_114 : decode cX4_forms 114 = .ok (.aload 5, 2) := by decide +kernel
theorem dX4_forms_116 : decode cX4_forms 116 = .ok (.getfield 60, 3) := by decide +kernel
theorem dX4_forms_119 : decode cX4_forms 119 = .ok (.if_icmp .ge 45, 3) := by decide +kernel
theorem dX4_forms_122 : decode cX4_forms 122 = .ok (.iload 6, 2) := by decide +kernel
theorem dX4_forms_124 : decode cX4_forms 124 = .ok (.aload_n 0, 1) := by decide +kernel
theorem dX4_forms_125 : decode cX4_forms 125 = .ok (.getfield 28, 3) := by decide +kernel
theorem dX4_forms_128 : decode cX4_forms 128 = .ok (.aload_n 0, 1) := by decide +kernel
theorem dX4_forms_129 : decode cX4_forms 129 = .ok (.getfield 10, 3) := by decide +kernel
theorem dX4_forms_132 : decode cX4_forms 132 = .ok (.iload 4, 2) := by decide +kernel
theorem dX4_forms_134 : decode cX4_forms 134 = .ok (.aload 5, 2) := by decide +kernel
theorem dX4_forms_136 : decode cX4_forms 136 = .ok (.iload_n 3, 1) := by decide +kernel
theorem dX4_forms_137 : decode cX4_forms 137 = .ok (.aload 5, 2) := by decide +kernel
theorem dX4_forms_139 : decode cX4_forms 139 = .ok (.iload 7, 2) := by decide +kernel
theorem dX4_forms_141 : decode cX4_forms 141 = .ok (.iload 7, 2) := by decide +kernel
theorem dX4_forms_143 : decode cX4_forms 143 = .ok (.invokevirtual 74, 3) := by decide +kernel
theorem dX4_forms_146 : decode cX4_forms 146 = .ok (.invokevirtual 74, 3) := by decide +kernel
theorem dX4_forms_149 : decode cX4_forms 149 = .ok (.invokevirtual 108, 3) := by decide +kernel
theorem dX4_forms_152 : decode cX4_forms 152 = .ok (.invokestatic 100, 3) := by decide +kernel
theorem dX4_forms_155 : decode cX4_forms 155 = .ok (.iadd, 1) := by decide +kernel
theorem dX4_forms_156 : decode cX4_forms 156 = .ok (.istore 6, 2) := by decide +kernel
theorem dX4_forms_158 : decode cX4_forms 158 = .ok (.iinc 7 1, 3) := by decide +kernel
theorem dX4_forms_161 : decode cX4_forms 161 = .ok (.goto (-49), 3) := by decide +kernel
theorem dX4_forms_164 : decode cX4_forms 164 = .ok (.iload 6, 2) := by decide +kernel
theorem dX4_forms_166 : decode cX4_forms 166 = .ok (.ireturn, 1) := by decide +kernel
theorem dX4_curve_0 : decode cX4_curve 0 = .ok (.iload_n 1, 1) := by decide +kernel
theorem dX4_curve_1 : decode cX4_curve 1 = .ok (.ifCond .lt 16, 3) := by decide +kernel
theorem dX4_curve_4 : decode cX4_curve 4 = .ok (.iload_n 1, 1) := by decide +kernel
theorem dX4_curve_5 : decode cX4_curve 5 = .ok (.iconst 2, 1) := by decide +kernel
theorem dX4_curve_6 : decode cX4_curve 6 = .ok (.if_icmp .gt 11, 3) := by decide +kernel
theorem dX4_curve_9 : decode cX4_curve 9 = .ok (.aload_n 0, 1) := by decide +kernel
theorem dX4_curve_10 : decode cX4_curve 10 = .ok (.iload_n 2, 1) := by decide +kernel
theorem dX4_curve_11 : decode cX4_curve 11 = .ok (.invokevirtual 111, 3) := by decide +kernel
theorem dX4_curve_14 : decode cX4_curve 14 = .ok (.ifCond .ne 5, 3) := by decide +kernel
theorem dX4_curve_17 : decode cX4_curve 17 = .ok (.iconst (-1), 1) := by decide +kernel
theorem dX4_curve_18 : decode cX4_curve 18 = .ok (.ireturn, 1) := by decide +kernel
theorem dX4_curve_19 : decode cX4_curve 19 = .ok (.iload_n 1, 1) := by decide +kernel
theorem dX4_curve_20 : decode cX4_curve 20 = .ok (.iconst 2, 1) := by decide +kernel
theorem dX4_curve_21 : decode cX4_curve 21 = .ok (.if_icmp .ne 20, 3) := by decide +kernel
theorem dX4_curve_24 : decode cX4_curve 24 = .ok (.iload_n 3, 1) := by decide +kernel
theorem dX4_curve_25 : decode cX4_curve 25 = .ok (.ifCond .lt 14, 3) := by decide +kernel
theorem dX4_curve_28 : decode cX4_curve 28 = .ok (.iload_n 3, 1) := by decide +kernel
theorem dX4_curve_29 : decode cX4_curve 29 = .ok (.aload_n 0, 1) := by decide +kernel
theorem dX4_curve_30 : decode cX4_curve 30 = .ok (.getfield 10, 3) := by decide +kernel
theorem dX4_curve_33 : decode cX4_curve 33 = .ok (.getfield 91, 3) := by decide +kernel
theorem dX4_curve_36 : decode cX4_curve 36 = .ok (.if_icmp .lt 5, 3) := by decide +kernel
theorem dX4_curve_39 : decode cX4_curve 39 = .ok (.iconst (-1), 1) := by decide +kernel
theorem dX4_curve_40 : decode cX4_curve 40 = .ok (.ireturn, 1) := by decide +kernel
theorem dX4_curve_41 : decode cX4_curve 41 = .ok (.aload_n 0, 1) := by decide +kernel
theorem dX4_curve_42 : decode cX4_curve 42 = .ok (.getfield 10, 3) := by decide +kernel
theorem dX4_curve_45 : decode cX4_curve 45 = .ok (.iload_n 2, 1) := by decide +kernel
theorem dX4_curve_46 : decode cX4_curve 46 = .ok (.invokevirtual 114, 3) := by decide +kernel
theorem dX4_curve_49 : decode cX4_curve 49 = .ok (.istore 4, 2) := by decide +kernel
theorem dX4_curve_51 : decode cX4_curve 51 = .ok (.aload_n 0, 1) := by decide +kernel
theorem dX4_curve_52 : decode cX4_curve 52 = .ok (.getfield 10, 3) := by decide +kernel
theorem dX4_curve_55 : decode cX4_curve 55 = .ok (.iload 4, 2) := by decide +kernel
theorem dX4_curve_57 : decode cX4_curve 57 = .ok (.invokevirtual 117, 3) := by decide +kernel
theorem dX4_curve_60 : decode cX4_curve 60 = .ok (.ifCond .le 12, 3) := by decide +kernel
theorem dX4_curve_63 : decode cX4_curve 63 = .ok (.aload_n 0, 1) := by decide +kernel
theorem dX4_curve_64 : decode cX4_curve 64 = .ok (.iload 4, 2) := by decide +kernel
theorem dX4_curve_66 : decode cX4_curve 66 = .ok (.putfield 36, 3) := by decide +kernel
theorem dX4_curve_69 : decode cX4_curve 69 = .ok (.bipush (-2), 2) := by decide +kernel
theorem dX4_curve_71 : decode cX4_curve 71 = .ok (.ireturn, 1) := by decide +kernel
theorem dX4_curve_72 : decode cX4_curve 72 = .ok (.aload_n 0, 1) := by decide +kernel
theorem dX4_curve_73 : decode cX4_curve 73 = .ok (.bipush (-9), 2) := by decide +kernel
theorem dX4_curve_75 : decode cX4_curve 75 = .ok (.putfield 36, 3) := by decide +kernel
theorem dX4_curve_78 : decode cX4_curve 78 = .ok (.aload_n 0, 1) := by decide +kernel
theorem dX4_curve_79 : decode cX4_curve 79 = .ok (.getfield 120, 3) := by decide +kernel
theorem dX4_curve_82 : decode cX4_curve 82 = .ok (.aload_n 0, 1) := by decide +kernel
theorem dX4_curve_83 : decode cX4_curve 83 = .ok (.getfield 24, 3) := by decide +kernel
theorem dX4_curve_86 : decode cX4_curve 86 = .ok (.arraylength, 1) := by decide +kernel
theorem dX4_curve_87 : decode cX4_curve 87 = .ok (.if_icmp .lt 6, 3) := by decide +kernel
theorem dX4_curve_90 : decode cX4_curve 90 = .ok (.bipush (-3), 2) := by decide +kernel
theorem dX4_curve_92 : decode cX4_curve 92 = .ok (.ireturn, 1) := by decide +kernel
theorem dX4_curve_93 : decode cX4_curve 93 = .ok (.aload_n 0, 1) := by decide +kernel
theorem dX4_curve_94 : decode cX4_curve 94 = .ok (.getfield 24, 3) := by decide +kernel
theorem dX4_curve_97 : decode cX4_curve 97 = .ok (.aload_n 0, 1) := by decide +kernel
theorem dX4_curve_98 : decode cX4_curve 98 = .ok (.getfield 120, 3) := by decide +kernel
theorem dX4_curve_101 : decode cX4_curve 101 = .ok (.aaload, 1) := by decide +kernel
theorem dX4_curve_102 : decode cX4_curve 102 = .ok (.iload_n 1, 1) := by decide +kernel
theorem dX4_curve_103 : decode cX4_curve 103 = .ok (.iload_n 2, 1) := by decide +kernel
theorem dX4_curve_104 : decode cX4_curve 104 = .ok (.iload_n 3, 1) := by decide +kernel
theorem dX4_curve_105 : decode cX4_curve 105 = .ok (.aload_n 0, 1) := by decide +kernel
theorem dX4_curve_106 : decode cX4_curve 106 = .ok (.getfield 123, 3) := by decide +kernel
theorem dX4_curve_109 : decode cX4_curve 109 = .ok (.invokevirtual 126, 3) := by decide +kernel
theorem dX4_curve_112 : decode cX4_curve 112 = .ok (.aload_n 0, 1) := by decide +kernel
theorem dX4_curve_113 : decode cX4_curve 113 = .ok (.dup, 1) := by decide +kernel
theorem dX4_curve_114 : decode cX4_curve 114 = .ok (.getfield 120, 3) := by decide +kernel
theorem dX4_curve_117 : decode cX4_curve 117 = .ok (.iconst 1, 1) := by decide +kernel
theorem dX4_curve_118 : decode cX4_curve 118 = .ok (.iadd, 1) := by decide +kernel
theorem dX4_curve_119 : decode cX4_curve 119 = .ok (.putfield 120, 3) := by decide +kernel
theorem dX4_curve_122 : decode cX4_curve 122 = .ok (.aload_n 0, 1) := by decide +kernel
theorem dX4_curve_123 : decode cX4_curve 123 = .ok (.getfield 120, 3) := by decide +kernel
theorem dX4_curve_126 : decode cX4_curve 126 = .ok (.iconst 1, 1) := by decide +kernel
theorem dX4_curve_127 : decode cX4_curve 127 = .ok (.isub, 1) := by decide +kernel
theorem dX4_curve_128 : decode cX4_curve 128 = .ok (.ireturn, 1) := by decide +kernel
theorem dX4_knot_0 : decode cX4_knot 0 = .ok (.aload_n 0, 1) := by decide +kernel
theorem dX4_knot_1 : decode cX4_knot 1 = .ok (.getfield 36, 3) := by decide +kernel
theorem dX4_knot_4 : decode cX4_knot 4 = .ok (.ireturn, 1) := by decide +kernel
theorem dX4_about_0 : decode cX4_about 0 = .ok (.aload_n 0, 1) := by decide +kernel
theorem dX4_about_1 : decode cX4_about 1 = .ok (.iload_n 1, 1) := by decide +kernel
theorem dX4_about_2 : decode cX4_about 2 = .ok (.invokevirtual 130, 3) := by decide +kernel
theorem dX4_about_5 : decode cX4_about 5 = .ok (.astore_n 3, 1) := by decide +kernel
theorem dX4_about_6 : decode cX4_about 6 = .ok (.aload_n 3, 1) := by decide +kernel
theorem dX4_about_7 : decode cX4_about 7 = .ok (.ifnonnull 5, 3) := by decide +kernel
theorem dX4_about_10 : decode cX4_about 10 = .ok (.iconst (-1), 1) := by decide +kernel
theorem dX4_about_11 : decode cX4_about 11 = .ok (.ireturn, 1) := by decide +kernel
theorem dX4_about_12 : decode cX4_about 12 = .ok (.iload_n 2, 1) := by decide +kernel
theorem dX4_about_13 : decode cX4_about 13 = .ok (.tableswitch 69 0 5 #[39, 44, 49, 54, 59, 64], 39) := by decide +kernel
theorem dX4_about_52 : decode cX4_about 52 = .ok (.aload_n 3, 1) := by decide +kernel
theorem dX4_about_53 : decode cX4_about 53 = .ok (.getfield 134, 3) := by decide +kernel
theorem dX4_about_56 : decode cX4_about 56 = .ok (.ireturn, 1) := by decide +kernel
theorem dX4_about_57 : decode cX4_about 57 = .ok (.aload_n 3, 1) := by decide +kernel
theorem dX4_about_58 : decode cX4_about 58 = .ok (.getfield 137, 3) := by decide +kernel
theorem dX4_about_61 : decode cX4_about 61 = .ok (.ireturn, 1) := by decide +kernel
theorem dX4_about_62 : decode cX4_about 62 = .ok (.aload_n 3, 1) := by decide +kernel
theorem dX4_about_63 : decode cX4_about 63 = .ok (.getfield 140, 3) := by decide +kernel
theorem dX4_about_66 : decode cX4_about 66 = .ok (.ireturn, 1) := by decide +kernel
theorem dX4_about_67 : decode cX4_about 67 = .ok (.aload_n 3, 1) := by decide +kernel
theorem dX4_about_68 : decode cX4_about 68 = .ok (.getfield 143, 3) := by decide +kernel
theorem dX4_about_71 : decode cX4_about 71 = .ok (.ireturn, 1) := by decide +kernel
theorem dX4_about_72 : decode cX4_about 72 = .ok (.aload_n 3, 1) := by decide +kernel
theorem dX4_about_73 : decode cX4_about 73 = .ok (.getfield 145, 3) := by decide +kernel
theorem dX4_about_76 : decode cX4_about 76 = .ok (.ireturn, 1) := by decide +kernel
theorem dX4_about_77 : decode cX4_about 77 = .ok (.aload_n 3, 1) := by decide +kernel
theorem dX4_about_78 : decode cX4_about 78 = .ok (.getfield 148, 3) := by decide +kernel
theorem dX4_about_81 : decode cX4_about 81 = .ok (.ireturn, 1) := by decide +kernel
theorem dX4_about_82 : decode cX4_about 82 = .ok (.iconst (-1), 1) := by decide +kernel
theorem dX4_about_83 : decode cX4_about 83 = .ok (.ireturn, 1) := by decide +kernel
theorem dX4_value_0 : decode cX4_value 0 = .ok (.aload_n 0, 1) := by decide +kernel
theorem dX4_value_1 : decode cX4_value 1 = .ok (.iload_n 1, 1) := by decide +kernel
theorem dX4_value_2 : decode cX4_value 2 = .ok (.invokevirtual 130, 3) := by decide +kernel
theorem dX4_value_5 : decode cX4_value 5 = .ok (.astore 4, 2) := by decide +kernel
theorem dX4_value_7 : decode cX4_value 7 = .ok (.aload_n 0, 1) := by decide +kernel
theorem dX4_value_8 : decode cX4_value 8 = .ok (.iload_n 2, 1) := by decide +kernel
theorem dX4_value_9 : decode cX4_value 9 = .ok (.invokevirtual 56, 3) := by decide +kernel
theorem dX4_value_12 : decode cX4_value 12 = .ok (.astore 5, 2) := by decide +kernel
theorem dX4_value_14 : decode cX4_value 14 = .ok (.aload 4, 2) := by decide +kernel
theorem dX4_value_16 : decode cX4_value 16 = .ok (.ifnull 17, 3) := by decide +kernel
theorem dX4_value_19 : decode cX4_value 19 = .ok (.aload 5, 2) := by decide +kernel
theorem dX4_value_21 : decode cX4_value 21 = .ok (.ifnull 12, 3) := by decide +kernel
theorem dX4_value_24 : decode cX4_value 24 = .ok (.aload 5, 2) := by decide +kernel
theorem dX4_value_26 : decode cX4_value 26 = .ok (.iload_n 3, 1) := by decide +kernel
theorem dX4_value_27 : decode cX4_value 27 = .ok (.invokevirtual 66, 3) := by decide +kernel
theorem dX4_value_30 : decode cX4_value 30 = .ok (.ifCond .ne 5, 3) := by decide +kernel
theorem dX4_value_33 : decode cX4_value 33 = .ok (.iconst (-1), 1) := by decide +kernel
theorem dX4_value_34 : decode cX4_value 34 = .ok (.ireturn, 1) := by decide +kernel
theorem dX4_value_35 : decode cX4_value 35 = .ok (.aload_n 0, 1) := by decide +kernel
theorem dX4_value_36 : decode cX4_value 36 = .ok (.dup, 1) := by decide +kernel
theorem dX4_value_37 : decode cX4_value 37 = .ok (.getfield 151, 3) := by decide +kernel
theorem dX4_value_40 : decode cX4_value 40 = .ok (.getstatic 155, 3) := by decide +kernel
theorem dX4_value_43 : decode cX4_value 43 = .ok (.aload 4, 2) := by decide +kernel
theorem dX4_value_45 : decode cX4_value 45 = .ok (.getfield 134, 3) := by decide +kernel
theorem dX4_value_48 : decode cX4_value 48 = .ok (.invokestatic 100, 3) := by decide +kernel
theorem dX4_value_51 : decode cX4_value 51 = .ok (.i2l, 1) := by decide +kernel
theorem dX4_value_52 : decode cX4_value 52 = .ok (.ladd, 1) := by decide +kernel
theorem dX4_value_53 : decode cX4_value 53 = .ok (.putfield 151, 3) := by decide +kernel
theorem dX4_value_56 : decode cX4_value 56 = .ok (.aload 5, 2) := by decide +kernel
theorem dX4_value_58 : decode cX4_value 58 = .ok (.aload 4, 2) := by decide +kernel
theorem dX4_value_60 : decode cX4_value 60 = .ok (.getfield 148, 3) := by decide +kernel
theorem dX4_value_63 : decode cX4_value 63 = .ok (.iload_n 3, 1) := by decide +kernel
theorem dX4_value_64 : decode cX4_value 64 = .ok (.invokevirtual 158, 3) := by decide +kernel
theorem dX4_value_67 : decode cX4_value 67 = .ok (.ireturn, 1) := by decide +kernel
theorem dX4_count_0 : decode cX4_count 0 = .ok (.aload_n 0, 1) := by decide +kernel
theorem dX4_count_1 : decode cX4_count 1 = .ok (.iload_n 1, 1) := by decide +kernel
theorem dX4_count_2 : decode cX4_count 2 = .ok (.invokevirtual 130, 3) := by decide +kernel
theorem dX4_count_5 : decode cX4_count 5 = .ok (.astore_n 3, 1) := by decide +kernel
theorem dX4_count_6 : decode cX4_count 6 = .ok (.aload_n 0, 1) := by decide +kernel
theorem dX4_count_7 : decode cX4_count 7 = .ok (.iload_n 2, 1) := by decide +kernel
theorem dX4_count_8 : decode cX4_count 8 = .ok (.invokevirtual 56, 3) := by decide +kernel
theorem dX4_count_11 : decode cX4_count 11 = .ok (.astore 4, 2) := by decide +kernel
theorem dX4_count_13 : decode cX4_count 13 = .ok (.aload_n 3, 1) := by decide +kernel
theorem dX4_count_14 : decode cX4_count 14 = .ok (.ifnull 8, 3) := by decide +kernel
theorem dX4_count_17 : decode cX4_count 17 = .ok (.aload 4, 2) := by decide +kernel
theorem dX4_count_19 : decode cX4_count 19 = .ok (.ifnonnull 5, 3) := by decide +kernel
theorem dX4_count_22 : decode cX4_count 22 = .ok (.iconst (-1), 1) := by decide +kernel
theorem dX4_count_23 : decode cX4_count 23 = .ok (.ireturn, 1) := by decide +kernel
theorem dX4_count_24 : decode cX4_count 24 = .ok (.aload 4, 2) := by decide +kernel
theorem dX4_count_26 : decode cX4_count 26 = .ok (.aload_n 3, 1) := by decide +kernel
theorem dX4_count_27 : decode cX4_count 27 = .ok (.getfield 148, 3) := by decide +kernel
theorem dX4_count_30 : decode cX4_count 30 = .ok (.invokevirtual 161, 3) := by decide +kernel
theorem dX4_count_33 : decode cX4_count 33 = .ok (.ireturn, 1) := by decide +kernel
theorem dX4_beyond_0 : decode cX4_beyond 0 = .ok (.aload_n 0, 1) := by decide +kernel
theorem dX4_beyond_1 : decode cX4_beyond 1 = .ok (.iload_n 1, 1) := by decide +kernel
theorem dX4_beyond_2 : decode cX4_beyond 2 = .ok (.invokevirtual 130, 3) := by decide +kernel
theorem dX4_beyond_5 : decode cX4_beyond 5 = .ok (.astore_n 3, 1) := by decide +kernel
theorem dX4_beyond_6 : decode cX4_beyond 6 = .ok (.aload_n 0, 1) := by decide +kernel
theorem dX4_beyond_7 : decode cX4_beyond 7 = .ok (.iload_n 2, 1) := by decide +kernel
theorem dX4_beyond_8 : decode cX4_beyond 8 = .ok (.invokevirtual 56, 3) := by decide +kernel
theorem dX4_beyond_11 : decode cX4_beyond 11 = .ok (.astore 4, 2) := by decide +kernel
theorem dX4_beyond_13 : decode cX4_beyond 13 = .ok (.aload_n 3, 1) := by decide +kernel
theorem dX4_beyond_14 : decode cX4_beyond 14 = .ok (.ifnull 8, 3) := by decide +kernel
theorem dX4_beyond_17 : decode cX4_beyond 17 = .ok (.aload 4, 2) := by decide +kernel
theorem dX4_beyond_19 : decode cX4_beyond 19 = .ok (.ifnonnull 5, 3) := by decide +kernel
theorem dX4_beyond_22 : decode cX4_beyond 22 = .ok (.iconst (-1), 1) := by decide +kernel
theorem dX4_beyond_23 : decode cX4_beyond 23 = .ok (.ireturn, 1) := by decide +kernel
theorem dX4_beyond_24 : decode cX4_beyond 24 = .ok (.aload 4, 2) := by decide +kernel
theorem dX4_beyond_26 : decode cX4_beyond 26 = .ok (.aload_n 3, 1) := by decide +kernel
theorem dX4_beyond_27 : decode cX4_beyond 27 = .ok (.getfield 148, 3) := by decide +kernel
theorem dX4_beyond_30 : decode cX4_beyond 30 = .ok (.invokevirtual 164, 3) := by decide +kernel
theorem dX4_beyond_33 : decode cX4_beyond 33 = .ok (.ireturn, 1) := by decide +kernel
theorem dX4_share_0 : decode cX4_share 0 = .ok (.aload_n 0, 1) := by decide +kernel
theorem dX4_share_1 : decode cX4_share 1 = .ok (.iload_n 1, 1) := by decide +kernel
theorem dX4_share_2 : decode cX4_share 2 = .ok (.invokevirtual 130, 3) := by decide +kernel
theorem dX4_share_5 : decode cX4_share 5 = .ok (.astore_n 3, 1) := by decide +kernel
theorem dX4_share_6 : decode cX4_share 6 = .ok (.aload_n 3, 1) := by decide +kernel
theorem dX4_share_7 : decode cX4_share 7 = .ok (.ifnull 17, 3) := by decide +kernel
theorem dX4_share_10 : decode cX4_share 10 = .ok (.iload_n 2, 1) := by decide +kernel
theorem dX4_share_11 : decode cX4_share 11 = .ok (.ifCond .lt 13, 3) := by decide +kernel
theorem dX4_share_14 : decode cX4_share 14 = .ok (.iload_n 2, 1) := by decide +kernel
theorem dX4_share_15 : decode cX4_share 15 = .ok (.iconst 2, 1) := by decide +kernel
theorem dX4_share_16 : decode cX4_share 16 = .ok (.aload_n 3, 1) := by decide +kernel
theorem dX4_share_17 : decode cX4_share 17 = .ok (.getfield 145, 3) := by decide +kernel
theorem dX4_share_20 : decode cX4_share 20 = .ok (.imul, 1) := by decide +kernel
theorem dX4_share_21 : decode cX4_share 21 = .ok (.if_icmp .le 6, 3) := by decide +kernel
theorem dX4_share_24 : decode cX4_share 24 = .ok (.ldc 83, 2) := by decide +kernel
theorem dX4_share_26 : decode cX4_share 26 = .ok (.ireturn, 1) := by decide +kernel
theorem dX4_share_27 : decode cX4_share 27 = .ok (.aload_n 0, 1) := by decide +kernel
theorem dX4_share_28 : decode cX4_share 28 = .ok (.aload_n 3, 1) := by decide +kernel
theorem dX4_share_29 : decode cX4_share 29 = .ok (.invokevirtual 167, 3) := by decide +kernel
theorem dX4_share_32 : decode cX4_share 32 = .ok (.iload_n 2, 1) := by decide +kernel
theorem dX4_share_33 : decode cX4_share 33 = .ok (.invokestatic 100, 3) := by decide +kernel
theorem dX4_share_36 : decode cX4_share 36 = .ok (.ireturn, 1) := by decide +kernel
theorem dX4_further_0 : decode cX4_further 0 = .ok (.aload_n 0, 1) := by decide +kernel
theorem dX4_further_1 : decode cX4_further 1 = .ok (.iload_n 1, 1) := by decide +kernel
theorem dX4_further_2 : decode cX4_further 2 = .ok (.invokevirtual 130, 3) := by decide +kernel
theorem dX4_further_5 : decode cX4_further 5 = .ok (.astore_n 3, 1) := by decide +kernel
theorem dX4_further_6 : decode cX4_further 6 = .ok (.aload_n 3, 1) := by decide +kernel
theorem dX4_further_7 : decode cX4_further 7 = .ok (.ifnull 14, 3) := by decide +kernel
theorem dX4_further_10 : decode cX4_further 10 = .ok (.iload_n 2, 1) := by decide +kernel
theorem dX4_further_11 : decode cX4_further 11 = .ok (.iconst 1, 1) := by decide +kernel
theorem dX4_further_12 : decode cX4_further 12 = .ok (.if_icmp .lt 9, 3) := by decide +kernel
theorem dX4_further_15 : decode cX4_further 15 = .ok (.iload_n 2, 1) := by decide +kernel
theorem dX4_further_16 : decode cX4_further 16 = .ok (.bipush 12, 2) := by decide +kernel
theorem dX4_further_18 : decode cX4_further 18 = .ok (.if_icmp .le 7, 3) := by decide +kernel
theorem dX4_further_21 : decode cX4_further 21 = .ok (.ldc2_w 171, 3) := by decide +kernel
theorem dX4_further_24 : decode cX4_further 24 = .ok (.lreturn, 1) := by decide +kernel
theorem dX4_further_25 : decode cX4_further 25 = .ok (.aload_n 0, 1) := by decide +kernel
theorem dX4_further_26 : decode cX4_further 26 = .ok (.aload_n 3, 1) := by decide +kernel
theorem dX4_further_27 : decode cX4_further 27 = .ok (.invokevirtual 167, 3) := by decide +kernel
theorem dX4_further_30 : decode cX4_further 30 = .ok (.astore 4, 2) := by decide +kernel
theorem dX4_further_32 : decode cX4_further 32 = .ok (.lconst 1, 1) := by decide +kernel
theorem dX4_further_33 : decode cX4_further 33 = .ok (.lstore 5, 2) := by decide +kernel
theorem dX4_further_35 : decode cX4_further 35 = .ok (.iconst 1, 1) := by decide +kernel
theorem dX4_further_36 : decode cX4_further 36 = .ok (.istore 7, 2) := by decide +kernel
theorem dX4_further_38 : decode cX4_further 38 = .ok (.iload 7, 2) := by decide +kernel
theorem dX4_further_40 : decode cX4_further 40 = .ok (.iload_n 2, 1) := by decide +kernel
theorem dX4_further_41 : decode cX4_further 41 = .ok (.if_icmp .gt 86, 3) := by decide +kernel
theorem dX4_further_44 : decode cX4_further 44 = .ok (.lload 5, 2) := by decide +kernel
theorem dX4_further_46 : decode cX4_further 46 = .ok (.aload_n 0, 1) := by decide +kernel
theorem dX4_further_47 : decode cX4_further 47 = .ok (.getfield 10, 3) := by decide +kernel
theorem dX4_further_50 : decode cX4_further 50 = .ok (.getfield 91, 3) := by decide +kernel
theorem dX4_further_53 : decode cX4_further 53 = .ok (.i2l, 1) := by decide +kernel
theorem dX4_further_54 : decode cX4_further 54 = .ok (.lmul, 1) := by decide +kernel
theorem dX4_further_55 : decode cX4_further 55 = .ok (.lstore 5, 2) := by decide +kernel
theorem dX4_further_57 : decode cX4_further 57 = .ok (.iload 7, 2) := by decide +kernel
theorem dX4_further_59 : decode cX4_further 59 = .ok (.i2l, 1) := by decide +kernel
theorem dX4_further_60 : decode cX4_further 60 = .ok (.aload 4, 2) := by decide +kernel
theorem dX4_further_62 : decode cX4_further 62 = .ok (.iload 7, 2) := by decide +kernel
theorem dX4_further_64 : decode cX4_further 64 = .ok (.invokestatic 100, 3) := by decide +kernel
theorem dX4_further_67 : decode cX4_further 67 = .ok (.i2l, 1) := by decide +kernel
theorem dX4_further_68 : decode cX4_further 68 = .ok (.lmul, 1) := by decide +kernel
theorem dX4_further_69 : decode cX4_further 69 = .ok (.lstore 8, 2) := by decide +kernel
theorem dX4_further_71 : decode cX4_further 71 = .ok (.iconst 1, 1) := by decide +kernel
theorem dX4_further_72 : decode cX4_further 72 = .ok (.istore 10, 2) := by decide +kernel
theorem dX4_further_74 : decode cX4_further 74 = .ok (.iload 10, 2) := by decide +kernel
theorem dX4_further_76 : decode cX4_further 76 = .ok (.iload 7, 2) := by decide +kernel
theorem dX4_further_78 : decode cX4_further 78 = .ok (.if_icmp .ge 33, 3) := by decide +kernel
theorem dX4_further_81 : decode cX4_further 81 = .ok (.lload 8, 2) := by decide +kernel
theorem dX4_further_83 : decode cX4_further 83 = .ok (.aload 4, 2) := by decide +kernel
theorem dX4_further_85 : decode cX4_further 85 = .ok (.iload 10, 2) := by decide +kernel
theorem dX4_further_87 : decode cX4_further 87 = .ok (.invokestatic 100, 3) := by decide +kernel
theorem dX4_further_90 : decode cX4_further 90 = .ok (.i2l, 1) := by decide +kernel
theorem dX4_further_91 : decode cX4_further 91 = .ok (.aload_n 0, 1) := by decide +kernel
theorem dX4_further_92 : decode cX4_further 92 = .ok (.getfield 32, 3) := by decide +kernel
theorem dX4_further_95 : decode cX4_further 95 = .ok (.iload 7, 2) := by decide +kernel
theorem dX4_further_97 : decode cX4_further 97 = .ok (.iload 10, 2) := by decide +kernel
theorem dX4_further_99 : decode cX4_further 99 = .ok (.isub, 1) := by decide +kernel
theorem dX4_further_100 : decode cX4_further 100 = .ok (.laload, 1) := by decide +kernel
theorem dX4_further_101 : decode cX4_further 101 = .ok (.lmul, 1) := by decide +kernel
theorem dX4_further_102 : decode cX4_further 102 = .ok (.ladd, 1) := by decide +kernel
theorem dX4_further_103 : decode cX4_further 103 = .ok (.lstore 8, 2) := by decide +kernel
theorem dX4_further_105 : decode cX4_further 105 = .ok (.iinc 10 1, 3) := by decide +kernel
theorem dX4_further_108 : decode cX4_further 108 = .ok (.goto (-34), 3) := by decide +kernel
theorem dX4_further_111 : decode cX4_further 111 = .ok (.aload_n 0, 1) := by decide +kernel
theorem dX4_further_112 : decode cX4_further 112 = .ok (.getfield 32, 3) := by decide +kernel
theorem dX4_further_115 : decode cX4_further 115 = .ok (.iload 7, 2) := by decide +kernel
theorem dX4_further_117 : decode cX4_further 117 = .ok (.lload 8, 2) := by decide +kernel
theorem dX4_further_119 : decode cX4_further 119 = .ok (.lneg, 1) := by decide +kernel
theorem dX4_further_120 : decode cX4_further 120 = .ok (.lastore, 1) := by decide +kernel
theorem dX4_further_121 : decode cX4_further 121 = .ok (.iinc 7 1, 3) := by decide +kernel
theorem dX4_further_124 : decode cX4_further 124 = .ok (.goto (-86), 3) := by decide +kernel
theorem dX4_further_127 : decode cX4_further 127 = .ok (.lload 5, 2) := by decide +kernel
theorem dX4_further_129 : decode cX4_further 129 = .ok (.lconst 1, 1) := by decide +kernel
theorem dX4_further_130 : decode cX4_further 130 = .ok (.ladd, 1) := by decide +kernel
theorem dX4_further_131 : decode cX4_further 131 = .ok (.aload_n 0, 1) := by decide +kernel
theorem dX4_further_132 : decode cX4_further 132 = .ok (.getfield 32, 3) := by decide +kernel
theorem dX4_further_135 : decode cX4_further 135 = .ok (.iload_n 2, 1) := by decide +kernel
theorem dX4_further_136 : decode cX4_further 136 = .ok (.laload, 1) := by decide +kernel
theorem dX4_further_137 : decode cX4_further 137 = .ok (.lsub, 1) := by decide +kernel
theorem dX4_further_138 : decode cX4_further 138 = .ok (.lreturn, 1) := by decide +kernel
theorem dX4_whole_0 : decode cX4_whole 0 = .ok (.aload_n 0, 1) := by decide +kernel
theorem dX4_whole_1 : decode cX4_whole 1 = .ok (.iload_n 1, 1) := by decide +kernel
theorem dX4_whole_2 : decode cX4_whole 2 = .ok (.invokevirtual 130, 3) := by decide +kernel
theorem dX4_whole_5 : decode cX4_whole 5 = .ok (.astore_n 2, 1) := by decide +kernel
theorem dX4_whole_6 : decode cX4_whole 6 = .ok (.aload_n 2, 1) := by decide +kernel
theorem dX4_whole_7 : decode cX4_whole 7 = .ok (.ifnonnull 5, 3) := by decide +kernel
theorem dX4_whole_10 : decode cX4_whole 10 = .ok (.iconst (-1), 1) := by decide +kernel
theorem dX4_whole_11 : decode cX4_whole 11 = .ok (.ireturn, 1) := by decide +kernel
theorem dX4_whole_12 : decode cX4_whole 12 = .ok (.iconst 0, 1) := by decide +kernel
theorem dX4_whole_13 : decode cX4_whole 13 = .ok (.istore_n 3, 1) := by decide +kernel
theorem dX4_whole_14 : decode cX4_whole 14 = .ok (.aload_n 0, 1) := by decide +kernel
theorem dX4_whole_15 : decode cX4_whole 15 = .ok (.aload_n 2, 1) := by decide +kernel
theorem dX4_whole_16 : decode cX4_whole 16 = .ok (.invokevirtual 167, 3) := by decide +kernel
theorem dX4_whole_19 : decode cX4_whole 19 = .ok (.astore 4, 2) := by decide +kernel
theorem dX4_whole_21 : decode cX4_whole 21 = .ok (.aload 4, 2) := by decide +kernel
theorem dX4_whole_23 : decode cX4_whole 23 = .ok (.arraylength, 1) := by decide +kernel
theorem dX4_whole_24 : decode cX4_whole 24 = .ok (.istore 5, 2) := by decide +kernel
theorem dX4_whole_26 : decode cX4_whole 26 = .ok (.iconst 0, 1) := by decide +kernel
theorem dX4_whole_27 : decode cX4_whole 27 = .ok (.istore 6, 2) := by decide +kernel
theorem dX4_whole_29 : decode cX4_whole 29 = .ok (.iload 6, 2) := by decide +kernel
theorem dX4_whole_31 : decode cX4_whole 31 = .ok (.iload 5, 2) := by decide +kernel
theorem dX4_whole_33 : decode cX4_whole 33 = .ok (.if_icmp .ge 21, 3) := by decide +kernel
theorem dX4_whole_36 : decode cX4_whole 36 = .ok (.aload 4, 2) := by decide +kernel
theorem dX4_whole_38 : decode cX4_whole 38 = .ok (.iload 6, 2) := by decide +kernel
theorem dX4_whole_40 : decode cX4_whole 40 = .ok (.iaload, 1) := by decide +kernel
theorem dX4_whole_41 : decode cX4_whole 41 = .ok (.istore 7, 2) := by decide +kernel
theorem dX4_whole_43 : decode cX4_whole 43 = .ok (.iload_n 3, 1) := by decide +kernel
