theorem dX5_least_51 : decode cX5_least 51 = .ok (.aload_n 0, 1) := by decide +kernel
theorem dX5_least_52 : decode cX5_least 52 = .ok (.iconst 1, 1) := by decide +kernel
theorem dX5_least_53 : decode cX5_least 53 = .ok (.iload 7, 2) := by decide +kernel
theorem dX5_least_55 : decode cX5_least 55 = .ok (.invokevirtual 87, 3) := by decide +kernel
theorem dX5_least_58 : decode cX5_least 58 = .ok (.aload_n 0, 1) := by decide +kernel
theorem dX5_least_59 : decode cX5_least 59 = .ok (.iconst 2, 1) := by decide +kernel
theorem dX5_least_60 : decode cX5_least 60 = .ok (.iconst 3, 1) := by decide +kernel
theorem dX5_least_61 : decode cX5_least 61 = .ok (.iconst 0, 1) := by decide +kernel
theorem dX5_least_62 : decode cX5_least 62 = .ok (.iconst 1, 1) := by decide +kernel
theorem dX5_least_63 : decode cX5_least 63 = .ok (.invokevirtual 90, 3) := by decide +kernel
theorem dX5_least_66 : decode cX5_least 66 = .ok (.aload_n 0, 1) := by decide +kernel
theorem dX5_least_67 : decode cX5_least 67 = .ok (.iconst 3, 1) := by decide +kernel
theorem dX5_least_68 : decode cX5_least 68 = .ok (.invokevirtual 77, 3) := by decide +kernel
theorem dX5_least_71 : decode cX5_least 71 = .ok (.ifCond .lt 7, 3) := by decide +kernel
theorem dX5_least_74 : decode cX5_least 74 = .ok (.iconst 1, 1) := by decide +kernel
theorem dX5_least_75 : decode cX5_least 75 = .ok (.goto 4, 3) := by decide +kernel
theorem dX5_least_78 : decode cX5_least 78 = .ok (.iconst 0, 1) := by decide +kernel
theorem dX5_least_79 : decode cX5_least 79 = .ok (.istore 4, 2) := by decide +kernel
theorem dX5_least_81 : decode cX5_least 81 = .ok (.iinc 7 1, 3) := by decide +kernel
theorem dX5_least_84 : decode cX5_least 84 = .ok (.goto (-47), 3) := by decide +kernel
theorem dX5_least_87 : decode cX5_least 87 = .ok (.iload 5, 2) := by decide +kernel
theorem dX5_least_89 : decode cX5_least 89 = .ok (.aload_n 0, 1) := by decide +kernel
theorem dX5_least_90 : decode cX5_least 90 = .ok (.getfield 7, 3) := by decide +kernel
theorem dX5_least_93 : decode cX5_least 93 = .ok (.imul, 1) := by decide +kernel
theorem dX5_least_94 : decode cX5_least 94 = .ok (.istore 5, 2) := by decide +kernel
theorem dX5_least_96 : decode cX5_least 96 = .ok (.iinc 6 1, 3) := by decide +kernel
theorem dX5_least_99 : decode cX5_least 99 = .ok (.goto (-79), 3) := by decide +kernel
theorem dX5_least_102 : decode cX5_least 102 = .ok (.iload 4, 2) := by decide +kernel
theorem dX5_least_104 : decode cX5_least 104 = .ok (.ifCond .eq 5, 3) := by decide +kernel
theorem dX5_least_107 : decode cX5_least 107 = .ok (.iload_n 3, 1) := by decide +kernel
theorem dX5_least_108 : decode cX5_least 108 = .ok (.ireturn, 1) := by decide +kernel
theorem dX5_least_109 : decode cX5_least 109 = .ok (.iinc 3 1, 3) := by decide +kernel
theorem dX5_least_112 : decode cX5_least 112 = .ok (.goto (-110), 3) := by decide +kernel
theorem dX5_product_0 : decode cX5_product 0 = .ok (.iload_n 1, 1) := by decide +kernel
theorem dX5_product_1 : decode cX5_product 1 = .ok (.iconst 1, 1) := by decide +kernel
theorem dX5_product_2 : decode cX5_product 2 = .ok (.if_icmp .ne 12, 3) := by decide +kernel
theorem dX5_product_5 : decode cX5_product 5 = .ok (.iload_n 2, 1) := by decide +kernel
theorem dX5_product_6 : decode cX5_product 6 = .ok (.iload_n 3, 1) := by decide +kernel
theorem dX5_product_7 : decode cX5_product 7 = .ok (.imul, 1) := by decide +kernel
theorem dX5_product_8 : decode cX5_product 8 = .ok (.aload_n 0, 1) := by decide +kernel
theorem dX5_product_9 : decode cX5_product 9 = .ok (.getfield 7, 3) := by decide +kernel
theorem dX5_product_12 : decode cX5_product 12 = .ok (.irem, 1) := by decide +kernel
theorem dX5_product_13 : decode cX5_product 13 = .ok (.ireturn, 1) := by decide +kernel
theorem dX5_product_14 : decode cX5_product 14 = .ok (.aload_n 0, 1) := by decide +kernel
theorem dX5_product_15 : decode cX5_product 15 = .ok (.iconst 0, 1) := by decide +kernel
theorem dX5_product_16 : decode cX5_product 16 = .ok (.iload_n 2, 1) := by decide +kernel
theorem dX5_product_17 : decode cX5_product 17 = .ok (.invokevirtual 87, 3) := by decide +kernel
theorem dX5_product_20 : decode cX5_product 20 = .ok (.aload_n 0, 1) := by decide +kernel
theorem dX5_product_21 : decode cX5_product 21 = .ok (.iconst 1, 1) := by decide +kernel
theorem dX5_product_22 : decode cX5_product 22 = .ok (.iload_n 3, 1) := by decide +kernel
theorem dX5_product_23 : decode cX5_product 23 = .ok (.invokevirtual 87, 3) := by decide +kernel
theorem dX5_product_26 : decode cX5_product 26 = .ok (.aload_n 0, 1) := by decide +kernel
theorem dX5_product_27 : decode cX5_product 27 = .ok (.iconst 2, 1) := by decide +kernel
theorem dX5_product_28 : decode cX5_product 28 = .ok (.iconst 0, 1) := by decide +kernel
theorem dX5_product_29 : decode cX5_product 29 = .ok (.iconst 1, 1) := by decide +kernel
theorem dX5_product_30 : decode cX5_product 30 = .ok (.invokevirtual 94, 3) := by decide +kernel
theorem dX5_product_33 : decode cX5_product 33 = .ok (.aload_n 0, 1) := by decide +kernel
theorem dX5_product_34 : decode cX5_product 34 = .ok (.iconst 3, 1) := by decide +kernel
theorem dX5_product_35 : decode cX5_product 35 = .ok (.aload_n 0, 1) := by decide +kernel
theorem dX5_product_36 : decode cX5_product 36 = .ok (.getfield 20, 3) := by decide +kernel
theorem dX5_product_39 : decode cX5_product 39 = .ok (.iload_n 1, 1) := by decide +kernel
theorem dX5_product_40 : decode cX5_product 40 = .ok (.iaload, 1) := by decide +kernel
theorem dX5_product_41 : decode cX5_product 41 = .ok (.invokevirtual 87, 3) := by decide +kernel
theorem dX5_product_44 : decode cX5_product 44 = .ok (.aload_n 0, 1) := by decide +kernel
theorem dX5_product_45 : decode cX5_product 45 = .ok (.iconst 4, 1) := by decide +kernel
theorem dX5_product_46 : decode cX5_product 46 = .ok (.iconst 5, 1) := by decide +kernel
theorem dX5_product_47 : decode cX5_product 47 = .ok (.iconst 2, 1) := by decide +kernel
theorem dX5_product_48 : decode cX5_product 48 = .ok (.iconst 3, 1) := by decide +kernel
theorem dX5_product_49 : decode cX5_product 49 = .ok (.invokevirtual 90, 3) := by decide +kernel
theorem dX5_product_52 : decode cX5_product 52 = .ok (.aload_n 0, 1) := by decide +kernel
theorem dX5_product_53 : decode cX5_product 53 = .ok (.iconst 5, 1) := by decide +kernel
theorem dX5_product_54 : decode cX5_product 54 = .ok (.invokevirtual 120, 3) := by decide +kernel
theorem dX5_product_57 : decode cX5_product 57 = .ok (.ireturn, 1) := by decide +kernel
theorem dX5_sum_0 : decode cX5_sum 0 = .ok (.iconst 0, 1) := by decide +kernel
theorem dX5_sum_1 : decode cX5_sum 1 = .ok (.istore_n 3, 1) := by decide +kernel
theorem dX5_sum_2 : decode cX5_sum 2 = .ok (.iconst 1, 1) := by decide +kernel
theorem dX5_sum_3 : decode cX5_sum 3 = .ok (.istore 4, 2) := by decide +kernel
theorem dX5_sum_5 : decode cX5_sum 5 = .ok (.iload_n 1, 1) := by decide +kernel
theorem dX5_sum_6 : decode cX5_sum 6 = .ok (.istore 5, 2) := by decide +kernel
theorem dX5_sum_8 : decode cX5_sum 8 = .ok (.iload_n 2, 1) := by decide +kernel
theorem dX5_sum_9 : decode cX5_sum 9 = .ok (.istore 6, 2) := by decide +kernel
theorem dX5_sum_11 : decode cX5_sum 11 = .ok (.iload 5, 2) := by decide +kernel
theorem dX5_sum_13 : decode cX5_sum 13 = .ok (.ifCond .gt 8, 3) := by decide +kernel
theorem dX5_sum_16 : decode cX5_sum 16 = .ok (.iload 6, 2) := by decide +kernel
theorem dX5_sum_18 : decode cX5_sum 18 = .ok (.ifCond .le 59, 3) := by decide +kernel
theorem dX5_sum_21 : decode cX5_sum 21 = .ok (.iload_n 3, 1) := by decide +kernel
theorem dX5_sum_22 : decode cX5_sum 22 = .ok (.iload 4, 2) := by decide +kernel
theorem dX5_sum_24 : decode cX5_sum 24 = .ok (.iload 5, 2) := by decide +kernel
theorem dX5_sum_26 : decode cX5_sum 26 = .ok (.aload_n 0, 1) := by decide +kernel
theorem dX5_sum_27 : decode cX5_sum 27 = .ok (.getfield 7, 3) := by decide +kernel
theorem dX5_sum_30 : decode cX5_sum 30 = .ok (.irem, 1) := by decide +kernel
theorem dX5_sum_31 : decode cX5_sum 31 = .ok (.iload 6, 2) := by decide +kernel
theorem dX5_sum_33 : decode cX5_sum 33 = .ok (.aload_n 0, 1) := by decide +kernel
theorem dX5_sum_34 : decode cX5_sum 34 = .ok (.getfield 7, 3) := by decide +kernel
theorem dX5_sum_37 : decode cX5_sum 37 = .ok (.irem, 1) := by decide +kernel
theorem dX5_sum_38 : decode cX5_sum 38 = .ok (.iadd, 1) := by decide +kernel
theorem dX5_sum_39 : decode cX5_sum 39 = .ok (.aload_n 0, 1) := by decide +kernel
theorem dX5_sum_40 : decode cX5_sum 40 = .ok (.getfield 7, 3) := by decide +kernel
theorem dX5_sum_43 : decode cX5_sum 43 = .ok (.irem, 1) := by decide +kernel
theorem dX5_sum_44 : decode cX5_sum 44 = .ok (.imul, 1) := by decide +kernel
theorem dX5_sum_45 : decode cX5_sum 45 = .ok (.iadd, 1) := by decide +kernel
theorem dX5_sum_46 : decode cX5_sum 46 = .ok (.istore_n 3, 1) := by decide +kernel
theorem dX5_sum_47 : decode cX5_sum 47 = .ok (.iload 5, 2) := by decide +kernel
theorem dX5_sum_49 : decode cX5_sum 49 = .ok (.aload_n 0, 1) := by decide +kernel
theorem dX5_sum_50 : decode cX5_sum 50 = .ok (.getfield 7, 3) := by decide +kernel
theorem dX5_sum_53 : decode cX5_sum 53 = .ok (.idiv, 1) := by decide +kernel
theorem dX5_sum_54 : decode cX5_sum 54 = .ok (.istore 5, 2) := by decide +kernel
theorem dX5_sum_56 : decode cX5_sum 56 = .ok (.iload 6, 2) := by decide +kernel
theorem dX5_sum_58 : decode cX5_sum 58 = .ok (.aload_n 0, 1) := by decide +kernel
theorem dX5_sum_59 : decode cX5_sum 59 = .ok (.getfield 7, 3) := by decide +kernel
theorem dX5_sum_62 : decode cX5_sum 62 = .ok (.idiv, 1) := by decide +kernel
theorem dX5_sum_63 : decode cX5_sum 63 = .ok (.istore 6, 2) := by decide +kernel
theorem dX5_sum_65 : decode cX5_sum 65 = .ok (.iload 4, 2) := by decide +kernel
theorem dX5_sum_67 : decode cX5_sum 67 = .ok (.aload_n 0, 1) := by decide +kernel
theorem dX5_sum_68 : decode cX5_sum 68 = .ok (.getfield 7, 3) := by decide +kernel
theorem dX5_sum_71 : decode cX5_sum 71 = .ok (.imul, 1) := by decide +kernel
theorem dX5_sum_72 : decode cX5_sum 72 = .ok (.istore 4, 2) := by decide +kernel
theorem dX5_sum_74 : decode cX5_sum 74 = .ok (.goto (-63), 3) := by decide +kernel
theorem dX5_sum_77 : decode cX5_sum 77 = .ok (.iload_n 3, 1) := by decide +kernel
theorem dX5_sum_78 : decode cX5_sum 78 = .ok (.ireturn, 1) := by decide +kernel
theorem dX5_power_0 : decode cX5_power 0 = .ok (.iconst 1, 1) := by decide +kernel
theorem dX5_power_1 : decode cX5_power 1 = .ok (.istore 4, 2) := by decide +kernel
theorem dX5_power_3 : decode cX5_power 3 = .ok (.iload_n 2, 1) := by decide +kernel
theorem dX5_power_4 : decode cX5_power 4 = .ok (.istore 5, 2) := by decide +kernel
theorem dX5_power_6 : decode cX5_power 6 = .ok (.iload_n 3, 1) := by decide +kernel
theorem dX5_power_7 : decode cX5_power 7 = .ok (.istore 6, 2) := by decide +kernel
theorem dX5_power_9 : decode cX5_power 9 = .ok (.iload 6, 2) := by decide +kernel
theorem dX5_power_11 : decode cX5_power 11 = .ok (.ifCond .le 57, 3) := by decide +kernel
theorem dX5_power_14 : decode cX5_power 14 = .ok (.iload 6, 2) := by decide +kernel
theorem dX5_power_16 : decode cX5_power 16 = .ok (.iconst 2, 1) := by decide +kernel
theorem dX5_power_17 : decode cX5_power 17 = .ok (.irem, 1) := by decide +kernel
theorem dX5_power_18 : decode cX5_power 18 = .ok (.iconst 1, 1) := by decide +kernel
theorem dX5_power_19 : decode cX5_power 19 = .ok (.if_icmp .ne 15, 3) := by decide +kernel
theorem dX5_power_22 : decode cX5_power 22 = .ok (.aload_n 0, 1) := by decide +kernel
theorem dX5_power_23 : decode cX5_power 23 = .ok (.iload_n 1, 1) := by decide +kernel
theorem dX5_power_24 : decode cX5_power 24 = .ok (.iload 4, 2) := by decide +kernel
theorem dX5_power_26 : decode cX5_power 26 = .ok (.iload 5, 2) := by decide +kernel
theorem dX5_power_28 : decode cX5_power 28 = .ok (.invokevirtual 123, 3) := by decide +kernel
theorem dX5_power_31 : decode cX5_power 31 = .ok (.goto 5, 3) := by decide +kernel
theorem dX5_power_34 : decode cX5_power 34 = .ok (.iload 4, 2) := by decide +kernel
theorem dX5_power_36 : decode cX5_power 36 = .ok (.istore 4, 2) := by decide +kernel
theorem dX5_power_38 : decode cX5_power 38 = .ok (.iload 6, 2) := by decide +kernel
theorem dX5_power_40 : decode cX5_power 40 = .ok (.iconst 2, 1) := by decide +kernel
theorem dX5_power_41 : decode cX5_power 41 = .ok (.idiv, 1) := by decide +kernel
theorem dX5_power_42 : decode cX5_power 42 = .ok (.istore 6, 2) := by decide +kernel
theorem dX5_power_44 : decode cX5_power 44 = .ok (.iload 6, 2) := by decide +kernel
theorem dX5_power_46 : decode cX5_power 46 = .ok (.ifCond .le 15, 3) := by decide +kernel
theorem dX5_power_49 : decode cX5_power 49 = .ok (.aload_n 0, 1) := by decide +kernel
theorem dX5_power_50 : decode cX5_power 50 = .ok (.iload_n 1, 1) := by decide +kernel
theorem dX5_power_51 : decode cX5_power 51 = .ok (.iload 5, 2) := by decide +kernel
theorem dX5_power_53 : decode cX5_power 53 = .ok (.iload 5, 2) := by decide +kernel
theorem dX5_power_55 : decode cX5_power 55 = .ok (.invokevirtual 123, 3) := by decide +kernel
theorem dX5_power_58 : decode cX5_power 58 = .ok (.goto 5, 3) := by decide +kernel
theorem dX5_power_61 : decode cX5_power 61 = .ok (.iload 5, 2) := by decide +kernel
theorem dX5_power_63 : decode cX5_power 63 = .ok (.istore 5, 2) := by decide +kernel
theorem dX5_power_65 : decode cX5_power 65 = .ok (.goto (-56), 3) := by decide +kernel
theorem dX5_power_68 : decode cX5_power 68 = .ok (.iload 4, 2) := by decide +kernel
theorem dX5_power_70 : decode cX5_power 70 = .ok (.ireturn, 1) := by decide +kernel
theorem dX5_needSigns_0 : decode cX5_needSigns 0 = .ok (.aload_n 0, 1) := by decide +kernel
theorem dX5_needSigns_1 : decode cX5_needSigns 1 = .ok (.getfield 111, 3) := by decide +kernel
theorem dX5_needSigns_4 : decode cX5_needSigns 4 = .ok (.iload_n 1, 1) := by decide +kernel
theorem dX5_needSigns_5 : decode cX5_needSigns 5 = .ok (.if_icmp .ne 4, 3) := by decide +kernel
theorem dX5_needSigns_8 : decode cX5_needSigns 8 = .ok (.return_, 1) := by decide +kernel
theorem dX5_needSigns_9 : decode cX5_needSigns 9 = .ok (.aload_n 0, 1) := by decide +kernel
theorem dX5_needSigns_10 : decode cX5_needSigns 10 = .ok (.iload_n 1, 1) := by decide +kernel
theorem dX5_needSigns_11 : decode cX5_needSigns 11 = .ok (.putfield 111, 3) := by decide +kernel
theorem dX5_needSigns_14 : decode cX5_needSigns 14 = .ok (.iconst 0, 1) := by decide +kernel
theorem dX5_needSigns_15 : decode cX5_needSigns 15 = .ok (.istore_n 2, 1) := by decide +kernel
theorem dX5_needSigns_16 : decode cX5_needSigns 16 = .ok (.iload_n 2, 1) := by decide +kernel
theorem dX5_needSigns_17 : decode cX5_needSigns 17 = .ok (.aload_n 0, 1) := by decide +kernel
theorem dX5_needSigns_18 : decode cX5_needSigns 18 = .ok (.getfield 16, 3) := by decide +kernel
theorem dX5_needSigns_21 : decode cX5_needSigns 21 = .ok (.iload_n 1, 1) := by decide +kernel
theorem dX5_needSigns_22 : decode cX5_needSigns 22 = .ok (.iaload, 1) := by decide +kernel
theorem dX5_needSigns_23 : decode cX5_needSigns 23 = .ok (.if_icmp .ge 16, 3) := by decide +kernel
theorem dX5_needSigns_26 : decode cX5_needSigns 26 = .ok (.aload_n 0, 1) := by decide +kernel
theorem dX5_needSigns_27 : decode cX5_needSigns 27 = .ok (.getfield 41, 3) := by decide +kernel
theorem dX5_needSigns_30 : decode cX5_needSigns 30 = .ok (.iload_n 2, 1) := by decide +kernel
theorem dX5_needSigns_31 : decode cX5_needSigns 31 = .ok (.iconst (-1), 1) := by decide +kernel
theorem dX5_needSigns_32 : decode cX5_needSigns 32 = .ok (.iastore, 1) := by decide +kernel
theorem dX5_needSigns_33 : decode cX5_needSigns 33 = .ok (.iinc 2 1, 3) := by decide +kernel
theorem dX5_needSigns_36 : decode cX5_needSigns 36 = .ok (.goto (-20), 3) := by decide +kernel
theorem dX5_needSigns_39 : decode cX5_needSigns 39 = .ok (.iconst 1, 1) := by decide +kernel
theorem dX5_needSigns_40 : decode cX5_needSigns 40 = .ok (.istore_n 2, 1) := by decide +kernel
theorem dX5_needSigns_41 : decode cX5_needSigns 41 = .ok (.iload_n 2, 1) := by decide +kernel
theorem dX5_needSigns_42 : decode cX5_needSigns 42 = .ok (.aload_n 0, 1) := by decide +kernel
theorem dX5_needSigns_43 : decode cX5_needSigns 43 = .ok (.getfield 16, 3) := by decide +kernel
theorem dX5_needSigns_46 : decode cX5_needSigns 46 = .ok (.iload_n 1, 1) := by decide +kernel
theorem dX5_needSigns_47 : decode cX5_needSigns 47 = .ok (.iaload, 1) := by decide +kernel
theorem dX5_needSigns_48 : decode cX5_needSigns 48 = .ok (.if_icmp .ge 22, 3) := by decide +kernel
theorem dX5_needSigns_51 : decode cX5_needSigns 51 = .ok (.aload_n 0, 1) := by decide +kernel
theorem dX5_needSigns_52 : decode cX5_needSigns 52 = .ok (.getfield 41, 3) := by decide +kernel
theorem dX5_needSigns_55 : decode cX5_needSigns 55 = .ok (.aload_n 0, 1) := by decide +kernel
theorem dX5_needSigns_56 : decode cX5_needSigns 56 = .ok (.iload_n 1, 1) := by decide +kernel
theorem dX5_needSigns_57 : decode cX5_needSigns 57 = .ok (.iload_n 2, 1) := by decide +kernel
theorem dX5_needSigns_58 : decode cX5_needSigns 58 = .ok (.iload_n 2, 1) := by decide +kernel
theorem dX5_needSigns_59 : decode cX5_needSigns 59 = .ok (.invokevirtual 123, 3) := by decide +kernel
theorem dX5_needSigns_62 : decode cX5_needSigns 62 = .ok (.iconst 1, 1) := by decide +kernel
theorem dX5_needSigns_63 : decode cX5_needSigns 63 = .ok (.iastore, 1) := by decide +kernel
theorem dX5_needSigns_64 : decode cX5_needSigns 64 = .ok (.iinc 2 1, 3) := by decide +kernel
theorem dX5_needSigns_67 : decode cX5_needSigns 67 = .ok (.goto (-26), 3) := by decide +kernel
theorem dX5_needSigns_70 : decode cX5_needSigns 70 = .ok (.aload_n 0, 1) := by decide +kernel
theorem dX5_needSigns_71 : decode cX5_needSigns 71 = .ok (.getfield 41, 3) := by decide +kernel
theorem dX5_needSigns_74 : decode cX5_needSigns 74 = .ok (.iconst 0, 1) := by decide +kernel
theorem dX5_needSigns_75 : decode cX5_needSigns 75 = .ok (.iconst 0, 1) := by decide +kernel
theorem dX5_needSigns_76 : decode cX5_needSigns 76 = .ok (.iastore, 1) := by decide +kernel
theorem dX5_needSigns_77 : decode cX5_needSigns 77 = .ok (.return_, 1) := by decide +kernel
theorem dX5_isField_0 : decode cX5_isField 0 = .ok (.iload_n 1, 1) := by decide +kernel
theorem dX5_isField_1 : decode cX5_isField 1 = .ok (.i2l, 1) := by decide +kernel
theorem dX5_isField_2 : decode cX5_isField 2 = .ok (.lconst 1, 1) := by decide +kernel
theorem dX5_isField_3 : decode cX5_isField 3 = .ok (.aload_n 0, 1) := by decide +kernel
theorem dX5_isField_4 : decode cX5_isField 4 = .ok (.getfield 13, 3) := by decide +kernel
theorem dX5_isField_7 : decode cX5_isField 7 = .ok (.i2l, 1) := by decide +kernel
theorem dX5_isField_8 : decode cX5_isField 8 = .ok (.invokestatic 127, 3) := by decide +kernel
theorem dX5_isField_11 : decode cX5_isField 11 = .ok (.ireturn, 1) := by decide +kernel
theorem dX5_isNumber_0 : decode cX5_isNumber 0 = .ok (.aload_n 0, 1) := by decide +kernel
theorem dX5_isNumber_1 : decode cX5_isNumber 1 = .ok (.iload_n 1, 1) := by decide +kernel
theorem dX5_isNumber_2 : decode cX5_isNumber 2 = .ok (.invokevirtual 131, 3) := by decide +kernel
theorem dX5_isNumber_5 : decode cX5_isNumber 5 = .ok (.ifCond .eq 25, 3) := by decide +kernel
theorem dX5_isNumber_8 : decode cX5_isNumber 8 = .ok (.iload_n 2, 1) := by decide +kernel
theorem dX5_isNumber_9 : decode cX5_isNumber 9 = .ok (.i2l, 1) := by decide +kernel
theorem dX5_isNumber_10 : decode cX5_isNumber 10 = .ok (.lconst 0, 1) := by decide +kernel
theorem dX5_isNumber_11 : decode cX5_isNumber 11 = .ok (.aload_n 0, 1) := by decide +kernel
theorem dX5_isNumber_12 : decode cX5_isNumber 12 = .ok (.getfield 16, 3) := by decide +kernel
theorem dX5_isNumber_15 : decode cX5_isNumber 15 = .ok (.iload_n 1, 1) := by decide +kernel
theorem dX5_isNumber_16 : decode cX5_isNumber 16 = .ok (.iaload, 1) := by decide +kernel
theorem dX5_isNumber_17 : decode cX5_isNumber 17 = .ok (.iconst 1, 1) := by decide +kernel
theorem dX5_isNumber_18 : decode cX5_isNumber 18 = .ok (.isub, 1) := by decide +kernel
theorem dX5_isNumber_19 : decode cX5_isNumber 19 = .ok (.i2l, 1) := by decide +kernel
theorem dX5_isNumber_20 : decode cX5_isNumber 20 = .ok (.invokestatic 127, 3) := by decide +kernel
theorem dX5_isNumber_23 : decode cX5_isNumber 23 = .ok (.ifCond .eq 7, 3) := by decide +kernel
theorem dX5_isNumber_26 : decode cX5_isNumber 26 = .ok (.iconst 1, 1) := by decide +kernel
theorem dX5_isNumber_27 : decode cX5_isNumber 27 = .ok (.goto 4, 3) := by decide +kernel
theorem dX5_isNumber_30 : decode cX5_isNumber 30 = .ok (.iconst 0, 1) := by decide +kernel
theorem dX5_isNumber_31 : decode cX5_isNumber 31 = .ok (.ireturn, 1) := by decide +kernel
theorem dX5_prime_0 : decode cX5_prime 0 = .ok (.aload_n 0, 1) := by decide +kernel
theorem dX5_prime_1 : decode cX5_prime 1 = .ok (.iconst 0, 1) := by decide +kernel
theorem dX5_prime_2 : decode cX5_prime 2 = .ok (.putfield 67, 3) := by decide +kernel
theorem dX5_prime_5 : decode cX5_prime 5 = .ok (.iload_n 1, 1) := by decide +kernel
theorem dX5_prime_6 : decode cX5_prime 6 = .ok (.iconst 3, 1) := by decide +kernel
theorem dX5_prime_7 : decode cX5_prime 7 = .ok (.if_icmp .eq 28, 3) := by decide +kernel
theorem dX5_prime_10 : decode cX5_prime 10 = .ok (.iload_n 1, 1) := by decide +kernel
theorem dX5_prime_11 : decode cX5_prime 11 = .ok (.iconst 5, 1) := by decide +kernel
theorem dX5_prime_12 : decode cX5_prime 12 = .ok (.if_icmp .eq 23, 3) := by decide +kernel
theorem dX5_prime_15 : decode cX5_prime 15 = .ok (.iload_n 1, 1) := by decide +kernel
theorem dX5_prime_16 : decode cX5_prime 16 = .ok (.bipush 7, 2) := by decide +kernel
theorem dX5_prime_18 : decode cX5_prime 18 = .ok (.if_icmp .eq 17, 3) := by decide +kernel
theorem dX5_prime_21 : decode cX5_prime 21 = .ok (.iload_n 1, 1) := by decide +kernel
theorem dX5_prime_22 : decode cX5_prime 22 = .ok (.bipush 11, 2) := by decide +kernel
theorem dX5_prime_24 : decode cX5_prime 24 = .ok (.if_icmp .eq 11, 3) := by decide +kernel
theorem dX5_prime_27 : decode cX5_prime 27 = .ok (.iload_n 1, 1) := by decide +kernel
theorem dX5_prime_28 : decode cX5_prime 28 = .ok (.bipush 13, 2) := by decide +kernel
theorem dX5_prime_30 : decode cX5_prime 30 = .ok (.if_icmp .eq 5, 3) := by decide +kernel
theorem dX5_prime_33 : decode cX5_prime 33 = .ok (.iconst (-1), 1) := by decide +kernel
theorem dX5_prime_34 : decode cX5_prime 34 = .ok (.ireturn, 1) := by decide +kernel
theorem dX5_prime_35 : decode cX5_prime 35 = .ok (.aload_n 0, 1) := by decide +kernel
theorem dX5_prime_36 : decode cX5_prime 36 = .ok (.iload_n 1, 1) := by decide +kernel
theorem dX5_prime_37 : decode cX5_prime 37 = .ok (.invokevirtual 63, 3) := by decide +kernel
theorem dX5_prime_40 : decode cX5_prime 40 = .ok (.aload_n 0, 1) := by decide +kernel
theorem dX5_prime_41 : decode cX5_prime 41 = .ok (.getfield 13, 3) := by decide +kernel
theorem dX5_prime_44 : decode cX5_prime 44 = .ok (.ireturn, 1) := by decide +kernel
theorem dX5_size_0 : decode cX5_size 0 = .ok (.aload_n 0, 1) := by decide +kernel
theorem dX5_size_1 : decode cX5_size 1 = .ok (.iconst 0, 1) := by decide +kernel
theorem dX5_size_2 : decode cX5_size 2 = .ok (.putfield 67, 3) := by decide +kernel
theorem dX5_size_5 : decode cX5_size 5 = .ok (.aload_n 0, 1) := by decide +kernel
theorem dX5_size_6 : decode cX5_size 6 = .ok (.iload_n 1, 1) := by decide +kernel
theorem dX5_size_7 : decode cX5_size 7 = .ok (.invokevirtual 131, 3) := by decide +kernel
theorem dX5_size_10 : decode cX5_size 10 = .ok (.ifCond .eq 12, 3) := by decide +kernel
theorem dX5_size_13 : decode cX5_size 13 = .ok (.aload_n 0, 1) := by decide +kernel
theorem dX5_size_14 : decode cX5_size 14 = .ok (.getfield 16, 3) := by decide +kernel
theorem dX5_size_17 : decode cX5_size 17 = .ok (.iload_n 1, 1) := by decide +kernel
theorem dX5_size_18 : decode cX5_size 18 = .ok (.iaload, 1) := by decide +kernel
theorem dX5_size_19 : decode cX5_size 19 = .ok (.goto 4, 3) := by decide +kernel
theorem dX5_size_22 : decode cX5_size 22 = .ok (.iconst (-1), 1) := by decide +kernel
theorem dX5_size_23 : decode cX5_size 23 = .ok (.ireturn, 1) := by decide +kernel
theorem dX5_modulus_0 : decode cX5_modulus 0 = .ok (.aload_n 0, 1) := by decide +kernel
theorem dX5_modulus_1 : decode cX5_modulus 1 = .ok (.iconst 0, 1) := by decide +kernel
theorem dX5_modulus_2 : decode cX5_modulus 2 = .ok (.putfield 67, 3) := by decide +kernel
theorem dX5_modulus_5 : decode cX5_modulus 5 = .ok (.aload_n 0, 1) := by decide +kernel
theorem dX5_modulus_6 : decode cX5_modulus 6 = .ok (.iload_n 1, 1) := by decide +kernel
theorem dX5_modulus_7 : decode cX5_modulus 7 = .ok (.invokevirtual 131, 3) := by decide +kernel
theorem dX5_modulus_10 : decode cX5_modulus 10 = .ok (.ifCond .eq 12, 3) := by decide +kernel
theorem dX5_modulus_13 : decode cX5_modulus 13 = .ok (.aload_n 0, 1) := by decide +kernel
theorem dX5_modulus_14 : decode cX5_modulus 14 = .ok (.getfield 20, 3) := by decide +kernel
theorem dX5_modulus_17 : decode cX5_modulus 17 = .ok (.iload_n 1, 1) := by decide +kernel
theorem dX5_modulus_18 : decode cX5_modulus 18 = .ok (.iaload, 1) := by decide +kernel
theorem dX5_modulus_19 : decode cX5_modulus 19 = .ok (.goto 4, 3) := by decide +kernel
theorem dX5_modulus_22 : decode cX5_modulus 22 = .ok (.iconst (-1), 1) := by decide +kernel
theorem dX5_modulus_23 : decode cX5_modulus 23 = .ok (.ireturn, 1) := by decide +kernel
theorem dX5_plus_0 : decode cX5_plus 0 = .ok (.aload_n 0, 1) := by decide +kernel
theorem dX5_plus_1 : decode cX5_plus 1 = .ok (.iconst 0, 1) := by decide +kernel
theorem dX5_plus_2 : decode cX5_plus 2 = .ok (.putfield 67, 3) := by decide +kernel
theorem dX5_plus_5 : decode cX5_plus 5 = .ok (.aload_n 0, 1) := by decide +kernel
theorem dX5_plus_6 : decode cX5_plus 6 = .ok (.iload_n 1, 1) := by decide +kernel
theorem dX5_plus_7 : decode cX5_plus 7 = .ok (.iload_n 2, 1) := by decide +kernel
theorem dX5_plus_8 : decode cX5_plus 8 = .ok (.invokevirtual 135, 3) := by decide +kernel
theorem dX5_plus_11 : decode cX5_plus 11 = .ok (.ifCond .eq 21, 3) := by decide +kernel
theorem dX5_plus_14 : decode cX5_plus 14 = .ok (.aload_n 0, 1) := by decide +kernel
theorem dX5_plus_15 : decode cX5_plus 15 = .ok (.iload_n 1, 1) := by decide +kernel
theorem dX5_plus_16 : decode cX5_plus 16 = .ok (.iload_n 3, 1) := by decide +kernel
theorem dX5_plus_17 : decode cX5_plus 17 = .ok (.invokevirtual 135, 3) := by decide +kernel
theorem dX5_plus_20 : decode cX5_plus 20 = .ok (.ifCond .eq 12, 3) := by decide +kernel
theorem dX5_plus_23 : decode cX5_plus 23 = .ok (.aload_n 0, 1) := by decide +kernel
theorem dX5_plus_24 : decode cX5_plus 24 = .ok (.iload_n 2, 1) := by decide +kernel
theorem dX5_plus_25 : decode cX5_plus 25 = .ok (.iload_n 3, 1) := by decide +kernel
theorem dX5_plus_26 : decode cX5_plus 26 = .ok (.invokevirtual 139, 3) := by decide +kernel
theorem dX5_plus_29 : decode cX5_plus 29 = .ok (.goto 4, 3) := by decide +kernel
theorem dX5_plus_32 : decode cX5_plus 32 = .ok (.iconst (-1), 1) := by decide +kernel
theorem dX5_plus_33 : decode cX5_plus 33 = .ok (.ireturn, 1) := by decide +kernel
theorem dX5_times_0 : decode cX5_times 0 = .ok (.aload_n 0, 1) := by decide +kernel
theorem dX5_times_1 : decode cX5_times 1 = .ok (.iconst 0, 1) := by decide +kernel
theorem dX5_times_2 : decode cX5_times 2 = .ok (.putfield 67, 3) := by decide +kernel
theorem dX5_times_5 : decode cX5_times 5 = .ok (.aload_n 0, 1) := by decide +kernel
theorem dX5_times_6 : decode cX5_times 6 = .ok (.iload_n 1, 1) := by decide +kernel
theorem dX5_times_7 : decode cX5_times 7 = .ok (.iload_n 2, 1) := by decide +kernel
theorem dX5_times_8 : decode cX5_times 8 = .ok (.invokevirtual 135, 3) := by decide +kernel
theorem dX5_times_11 : decode cX5_times 11 = .ok (.ifCond .eq 22, 3) := by decide +kernel
theorem dX5_times_14 : decode cX5_times 14 = .ok (.aload_n 0, 1) := by decide +kernel
theorem dX5_times_15 : decode cX5_times 15 = .ok (.iload_n 1, 1) := by decide +kernel
theorem dX5_times_16 : decode cX5_times 16 = .ok (.iload_n 3, 1) := by decide +kernel
theorem dX5_times_17 : decode cX5_times 17 = .ok (.invokevirtual 135, 3) := by decide +kernel
theorem dX5_times_20 : decode cX5_times 20 = .ok (.ifCond .eq 13, 3) := by decide +kernel
theorem dX5_times_23 : decode cX5_times 23 = .ok (.aload_n 0, 1) := by decide +kernel
theorem dX5_times_24 : decode cX5_times 24 = .ok (.iload_n 1, 1) := by decide +kernel
theorem dX5_times_25 : decode cX5_times 25 = .ok (.iload_n 2, 1) := by decide +kernel
theorem dX5_times_26 : decode cX5_times 26 = .ok (.iload_n 3, 1) := by decide +kernel
theorem dX5_times_27 : decode cX5_times 27 = .ok (.invokevirtual 123, 3) := by decide +kernel
theorem dX5_times_30 : decode cX5_times 30 = .ok (.goto 4, 3) := by decide +kernel
theorem dX5_times_33 : decode cX5_times 33 = .ok (.iconst (-1), 1) := by decide +kernel
theorem dX5_times_34 : decode cX5_times 34 = .ok (.ireturn, 1) := by decide +kernel
theorem dX5_over_0 : decode cX5_over 0 = .ok (.aload_n 0, 1) := by decide +kernel
theorem dX5_over_1 : decode cX5_over 1 = .ok (.iconst 0, 1) := by decide +kernel
theorem dX5_over_2 : decode cX5_over 2 = .ok (.putfield 67, 3) := by decide +kernel
theorem dX5_over_5 : decode cX5_over 5 = .ok (.aload_n 0, 1) := by decide +kernel
theorem dX5_over_6 : decode cX5_over 6 = .ok (.iload_n 1, 1) := by decide +kernel
theorem dX5_over_7 : decode cX5_over 7 = .ok (.iload_n 2, 1) := by decide +kernel
theorem dX5_over_8 : decode cX5_over 8 = .ok (.invokevirtual 135, 3) := by decide +kernel
theorem dX5_over_11 : decode cX5_over 11 = .ok (.ifCond .ne 5, 3) := by decide +kernel
theorem dX5_over_14 : decode cX5_over 14 = .ok (.iconst (-1), 1) := by decide +kernel
theorem dX5_over_15 : decode cX5_over 15 = .ok (.ireturn, 1) := by decide +kernel
theorem dX5_over_16 : decode cX5_over 16 = .ok (.iload_n 2, 1) := by decide +kernel
theorem dX5_over_17 : decode cX5_over 17 = .ok (.ifCond .ne 6, 3) := by decide +kernel
theorem dX5_over_20 : decode cX5_over 20 = .ok (.bipush (-2), 2) := by decide +kernel
theorem dX5_over_22 : decode cX5_over 22 = .ok (.ireturn, 1) := by decide +kernel
theorem dX5_over_23 : decode cX5_over 23 = .ok (.iconst 1, 1) := by decide +kernel
theorem dX5_over_24 : decode cX5_over 24 = .ok (.istore_n 3, 1) := by decide +kernel
theorem dX5_over_25 : decode cX5_over 25 = .ok (.aload_n 0, 1) := by decide +kernel
theorem dX5_over_26 : decode cX5_over 26 = .ok (.iload_n 1, 1) := by decide +kernel
theorem dX5_over_27 : decode cX5_over 27 = .ok (.iload_n 2, 1) := by decide +kernel
theorem dX5_over_28 : decode cX5_over 28 = .ok (.iload_n 3, 1) := by decide +kernel
theorem dX5_over_29 : decode cX5_over 29 = .ok (.invokevirtual 123, 3) := by decide +kernel
theorem dX5_over_32 : decode cX5_over 32 = .ok (.iconst 1, 1) := by decide +kernel
theorem dX5_over_33 : decode cX5_over 33 = .ok (.if_icmp .eq 9, 3) := by decide +kernel
theorem dX5_over_36 : decode cX5_over 36 = .ok (.iinc 3 1, 3) := by decide +kernel
theorem dX5_over_39 : decode cX5_over 39 = .ok (.goto (-14), 3) := by decide +kernel
theorem dX5_over_42 : decode cX5_over 42 = .ok (.iload_n 3, 1) := by decide +kernel
theorem dX5_over_43 : decode cX5_over 43 = .ok (.ireturn, 1) := by decide +kernel
theorem dX5_raise_0 : decode cX5_raise 0 = .ok (.aload_n 0, 1) := by decide +kernel
theorem dX5_raise_1 : decode cX5_raise 1 = .ok (.iconst 0, 1) := by decide +kernel
theorem dX5_raise_2 : decode cX5_raise 2 = .ok (.putfield 67, 3) := by decide +kernel
theorem dX5_raise_5 : decode cX5_raise 5 = .ok (.aload_n 0, 1) := by decide +kernel
theorem dX5_raise_6 : decode cX5_raise 6 = .ok (.iload_n 1, 1) := by decide +kernel
theorem dX5_raise_7 : decode cX5_raise 7 = .ok (.iload_n 2, 1) := by decide +kernel
theorem dX5_raise_8 : decode cX5_raise 8 = .ok (.invokevirtual 135, 3) := by decide +kernel
theorem dX5_raise_11 : decode cX5_raise 11 = .ok (.ifCond .eq 17, 3) := by decide +kernel
theorem dX5_raise_14 : decode cX5_raise 14 = .ok (.iload_n 3, 1) := by decide +kernel
theorem dX5_raise_15 : decode cX5_raise 15 = .ok (.ifCond .lt 13, 3) := by decide +kernel
theorem dX5_raise_18 : decode cX5_raise 18 = .ok (.aload_n 0, 1) := by decide +kernel
theorem dX5_raise_19 : decode cX5_raise 19 = .ok (.iload_n 1, 1) := by decide +kernel
theorem dX5_raise_20 : decode cX5_raise 20 = .ok (.iload_n 2, 1) := by decide +kernel
theorem dX5_raise_21 : decode cX5_raise 21 = .ok (.iload_n 3, 1) := by decide +kernel
theorem dX5_raise_22 : decode cX5_raise 22 = .ok (.invokevirtual 142, 3) := by decide +kernel
theorem dX5_raise_25 : decode cX5_raise 25 = .ok (.goto 4, 3) := by decide +kernel
theorem dX5_raise_28 : decode cX5_raise 28 = .ok (.iconst (-1), 1) := by decide +kernel
theorem dX5_raise_29 : decode cX5_raise 29 = .ok (.ireturn, 1) := by decide +kernel
theorem dX5_sign_0 : decode cX5_sign 0 = .ok (.aload_n 0, 1) := by decide +kernel
theorem dX5_sign_1 : decode cX5_sign 1 = .ok (.iconst 0, 1) := by decide +kernel
theorem dX5_sign_2 : decode cX5_sign 2 = .ok (.putfield 67, 3) := by decide +kernel
theorem dX5_sign_5 : decode cX5_sign 5 = .ok (.aload_n 0, 1) := by decide +kernel
theorem dX5_sign_6 : decode cX5_sign 6 = .ok (.iload_n 1, 1) := by decide +kernel
theorem dX5_sign_7 : decode cX5_sign 7 = .ok (.iload_n 2, 1) := by decide +kernel
theorem dX5_sign_8 : decode cX5_sign 8 = .ok (.invokevirtual 135, 3) := by decide +kernel
theorem dX5_sign_11 : decode cX5_sign 11 = .ok (.ifCond .ne 6, 3) := by decide +kernel
theorem dX5_sign_14 : decode cX5_sign 14 = .ok (.ldc 145, 2) := by decide +kernel
theorem dX5_sign_16 : decode cX5_sign 16 = .ok (.ireturn, 1) := by decide +kernel
theorem dX5_sign_17 : decode cX5_sign 17 = .ok (.aload_n 0, 1) := by decide +kernel
theorem dX5_sign_18 : decode cX5_sign 18 = .ok (.iload_n 1, 1) := by decide +kernel
theorem dX5_sign_19 : decode cX5_sign 19 = .ok (.invokevirtual 114, 3) := by decide +kernel
theorem dX5_sign_22 : decode cX5_sign 22 = .ok (.aload_n 0, 1) := by decide +kernel
theorem dX5_sign_23 : decode cX5_sign 23 = .ok (.getfield 41, 3) := by decide +kernel
theorem dX5_sign_26 : decode cX5_sign 26 = .ok (.iload_n 2, 1) := by decide +kernel
theorem dX5_sign_27 : decode cX5_sign 27 = .ok (.iaload, 1) := by decide +kernel
theorem dX5_sign_28 : decode cX5_sign 28 = .ok (.ireturn, 1) := by decide +kernel
theorem dX5_turns_0 : decode cX5_turns 0 = .ok (.aload_n 0, 1) := by decide +kernel
theorem dX5_turns_1 : decode cX5_turns 1 = .ok (.iconst 0, 1) := by decide +kernel
theorem dX5_turns_2 : decode cX5_turns 2 = .ok (.putfield 67, 3) := by decide +kernel
theorem dX5_turns_5 : decode cX5_turns 5 = .ok (.aload_n 0, 1) := by decide +kernel
theorem dX5_turns_6 : decode cX5_turns 6 = .ok (.iload_n 1, 1) := by decide +kernel
theorem dX5_turns_7 : decode cX5_turns 7 = .ok (.iload_n 2, 1) := by decide +kernel
theorem dX5_turns_8 : decode cX5_turns 8 = .ok (.invokevirtual 135, 3) := by decide +kernel
theorem dX5_turns_11 : decode cX5_turns 11 = .ok (.ifCond .ne 5, 3) := by decide +kernel
theorem dX5_turns_14 : decode cX5_turns 14 = .ok (.iconst (-1), 1) := by decide +kernel
theorem dX5_turns_15 : decode cX5_turns 15 = .ok (.ireturn, 1) := by decide +kernel
theorem dX5_turns_16 : decode cX5_turns 16 = .ok (.iload_n 2, 1) := by decide +kernel
theorem dX5_turns_17 : decode cX5_turns 17 = .ok (.ifCond .ne 6, 3) := by decide +kernel
theorem dX5_turns_20 : decode cX5_turns 20 = .ok (.bipush (-2), 2) := by decide +kernel
theorem dX5_turns_22 : decode cX5_turns 22 = .ok (.ireturn, 1) := by decide +kernel
theorem dX5_turns_23 : decode cX5_turns 23 = .ok (.iconst 1, 1) := by decide +kernel
theorem dX5_turns_24 : decode cX5_turns 24 = .ok (.istore_n 3, 1) := by decide +kernel
theorem dX5_turns_25 : decode cX5_turns 25 = .ok (.iload_n 2, 1) := by decide +kernel
theorem dX5_turns_26 : decode cX5_turns 26 = .ok (.istore 4, 2) := by decide +kernel
theorem dX5_turns_28 : decode cX5_turns 28 = .ok (.iload 4, 2) := by decide +kernel
theorem dX5_turns_30 : decode cX5_turns 30 = .ok (.iconst 1, 1) := by decide +kernel
theorem dX5_turns_31 : decode cX5_turns 31 = .ok (.if_icmp .eq 19, 3) := by decide +kernel
theorem dX5_turns_34 : decode cX5_turns 34 = .ok (.aload_n 0, 1) := by decide +kernel
theorem dX5_turns_35 : decode cX5_turns 35 = .ok (.iload_n 1, 1) := by decide +kernel
theorem dX5_turns_36 : decode cX5_turns 36 = .ok (.iload 4, 2) := by decide +kernel
theorem dX5_turns_38 : decode cX5_turns 38 = .ok (.iload_n 2, 1) := by decide +kernel
theorem dX5_turns_39 : decode cX5_turns 39 = .ok (.invokevirtual 123, 3) := by decide +kernel
theorem dX5_turns_42 : decode cX5_turns 42 = .ok (.istore 4, 2) := by decide +kernel
theorem dX5_turns_44 : decode cX5_turns 44 = .ok (.iinc 3 1, 3) := by decide +kernel
theorem dX5_turns_47 : decode cX5_turns 47 = .ok (.goto (-19), 3) := by decide +kernel
theorem dX5_turns_50 : decode cX5_turns 50 = .ok (.iload_n 3, 1) := by decide +kernel
theorem dX5_turns_51 : decode cX5_turns 51 = .ok (.ireturn, 1) := by decide +kernel
theorem dX5_trace_0 : decode cX5_trace 0 = .ok (.aload_n 0, 1) := by decide +kernel
theorem dX5_trace_1 : decode cX5_trace 1 = .ok (.iconst 0, 1) := by decide +kernel
theorem dX5_trace_2 : decode cX5_trace 2 = .ok (.putfield 67, 3) := by decide +kernel
theorem dX5_trace_5 : decode cX5_trace 5 = .ok (.aload_n 0, 1) := by decide +kernel
theorem dX5_trace_6 : decode cX5_trace 6 = .ok (.iload_n 1, 1) := by decide +kernel
theorem dX5_trace_7 : decode cX5_trace 7 = .ok (.iload_n 2, 1) := by decide +kernel
theorem dX5_trace_8 : decode cX5_trace 8 = .ok (.invokevirtual 135, 3) := by decide +kernel
theorem dX5_trace_11 : decode cX5_trace 11 = .ok (.ifCond .ne 5, 3) := by decide +kernel
theorem dX5_trace_14 : decode cX5_trace 14 = .ok (.iconst (-1), 1) := by decide +kernel
theorem dX5_trace_15 : decode cX5_trace 15 = .ok (.ireturn, 1) := by decide +kernel
theorem dX5_trace_16 : decode cX5_trace 16 = .ok (.iconst 0, 1) := by decide +kernel
theorem dX5_trace_17 : decode cX5_trace 17 = .ok (.istore_n 3, 1) := by decide +kernel
theorem dX5_trace_18 : decode cX5_trace 18 = .ok (.iload_n 2, 1) := by decide +kernel
theorem dX5_trace_19 : decode cX5_trace 19 = .ok (.istore 4, 2) := by decide +kernel
theorem dX5_trace_21 : decode cX5_trace 21 = .ok (.iconst 0, 1) := by decide +kernel
theorem dX5_trace_22 : decode cX5_trace 22 = .ok (.istore 5, 2) := by decide +kernel
theorem dX5_trace_24 : decode cX5_trace 24 = .ok (.iload 5, 2) := by decide +kernel
theorem dX5_trace_26 : decode cX5_trace 26 = .ok (.iload_n 1, 1) := by decide +kernel
theorem dX5_trace_27 : decode cX5_trace 27 = .ok (.if_icmp .ge 30, 3) := by decide +kernel
theorem dX5_trace_30 : decode cX5_trace 30 = .ok (.aload_n 0, 1) := by decide +kernel
theorem dX5_trace_31 : decode cX5_trace 31 = .ok (.iload_n 3, 1) := by decide +kernel
theorem dX5_trace_32 : decode cX5_trace 32 = .ok (.iload 4, 2) := by decide +kernel
theorem dX5_trace_34 : decode cX5_trace 34 = .ok (.invokevirtual 139, 3) := by decide +kernel
theorem dX5_trace_37 : decode cX5_trace 37 = .ok (.istore_n 3, 1) := by decide +kernel
theorem dX5_trace_38 : decode cX5_trace 38 = .ok (.aload_n 0, 1) := by decide +kernel
theorem dX5_trace_39 : decode cX5_trace 39 = .ok (.iload_n 1, 1) := by decide +kernel
theorem dX5_trace_40 : decode cX5_trace 40 = .ok (.iload 4, 2) := by decide +kernel
theorem dX5_trace_42 : decode cX5_trace 42 = .ok (.aload_n 0, 1) := by decide +kernel
theorem dX5_trace_43 : decode cX5_trace 43 = .ok (.getfield 7, 3) := by decide +kernel
theorem dX5_trace_46 : decode cX5_trace 46 = .ok (.invokevirtual 142, 3) := by decide +kernel
theorem dX5_trace_49 : decode cX5_trace 49 = .ok (.istore 4, 2) := by decide +kernel
theorem dX5_trace_51 : decode cX5_trace 51 = .ok (.iinc 5 1, 3) := by decide +kernel
theorem dX5_trace_54 : decode cX5_trace 54 = .ok (.goto (-30), 3) := by decide +kernel
theorem dX5_trace_57 : decode cX5_trace 57 = .ok (.iload_n 3, 1) := by decide +kernel
theorem dX5_trace_58 : decode cX5_trace 58 = .ok (.ireturn, 1) := by decide +kernel
theorem dX5_forms_0 : decode cX5_forms 0 = .ok (.aload_n 0, 1) := by decide +kernel
theorem dX5_forms_1 : decode cX5_forms 1 = .ok (.iconst 0, 1) := by decide +kernel
theorem dX5_forms_2 : decode cX5_forms 2 = .ok (.putfield 67, 3) := by decide +kernel
theorem dX5_forms_5 : decode cX5_forms 5 = .ok (.aload_n 0, 1) := by decide +kernel
theorem dX5_forms_6 : decode cX5_forms 6 = .ok (.iload_n 1, 1) := by decide +kernel
theorem dX5_forms_7 : decode cX5_forms 7 = .ok (.iload_n 2, 1) := by decide +kernel
theorem dX5_forms_8 : decode cX5_forms 8 = .ok (.invokevirtual 135, 3) := by decide +kernel
theorem dX5_forms_11 : decode cX5_forms 11 = .ok (.ifCond .eq 22, 3) := by decide +kernel
theorem dX5_forms_14 : decode cX5_forms 14 = .ok (.aload_n 0, 1) := by decide +kernel
theorem dX5_forms_15 : decode cX5_forms 15 = .ok (.iload_n 1, 1) := by decide +kernel
theorem dX5_forms_16 : decode cX5_forms 16 = .ok (.iload_n 3, 1) := by decide +kernel
theorem dX5_forms_17 : decode cX5_forms 17 = .ok (.invokevirtual 135, 3) := by decide +kernel
theorem dX5_forms_20 : decode cX5_forms 20 = .ok (.ifCond .eq 13, 3) := by decide +kernel
theorem dX5_forms_23 : decode cX5_forms 23 = .ok (.aload_n 0, 1) := by decide +kernel
theorem dX5_forms_24 : decode cX5_forms 24 = .ok (.iload_n 1, 1) := by decide +kernel
theorem dX5_forms_25 : decode cX5_forms 25 = .ok (.iload 4, 2) := by decide +kernel
theorem dX5_forms_27 : decode cX5_forms 27 = .ok (.invokevirtual 135, 3) := by decide +kernel
theorem dX5_forms_30 : decode cX5_forms 30 = .ok (.ifCond .ne 5, 3) := by decide +kernel
theorem dX5_forms_33 : decode cX5_forms 33 = .ok (.iconst (-1), 1) := by decide +kernel
theorem dX5_forms_34 : decode cX5_forms 34 = .ok (.ireturn, 1) := by decide +kernel
theorem dX5_forms_35 : decode cX5_forms 35 = .ok (.iconst 0, 1) := by decide +kernel
theorem dX5_forms_36 : decode cX5_forms 36 = .ok (.istore 5, 2) := by decide +kernel
theorem dX5_forms_38 : decode cX5_forms 38 = .ok (.iload 5, 2) := by decide +kernel
theorem dX5_forms_40 : decode cX5_forms 40 = .ok (.aload_n 0, 1) := by decide +kernel
theorem dX5_forms_41 : decode cX5_forms 41 = .ok (.getfield 16, 3) := by decide +kernel
theorem dX5_forms_44 : decode cX5_forms 44 = .ok (.iload_n 1, 1) := by decide +kernel
theorem dX5_forms_45 : decode cX5_forms 45 = .ok (.iaload, 1) := by decide +kernel
theorem dX5_forms_46 : decode cX5_forms 46 = .ok (.if_icmp .ge 17, 3) := by decide +kernel
theorem dX5_forms_49 : decode cX5_forms 49 = .ok (.aload_n 0, 1) := by decide +kernel
theorem dX5_forms_50 : decode cX5_forms 50 = .ok (.getfield 53, 3) := by decide +kernel
theorem dX5_forms_53 : decode cX5_forms 53 = .ok (.iload 5, 2) := by decide +kernel
theorem dX5_forms_55 : decode cX5_forms 55 = .ok (.iconst 0, 1) := by decide +kernel
theorem dX5_forms_56 : decode cX5_forms 56 = .ok (.iastore, 1) := by decide +kernel
theorem dX5_forms_57 : decode cX5_forms 57 = .ok (.iinc 5 1, 3) := by decide +kernel
theorem dX5_forms_60 : decode cX5_forms 60 = .ok (.goto (-22), 3) := by decide +kernel
theorem dX5_forms_63 : decode cX5_forms 63 = .ok (.iconst 0, 1) := by decide +kernel
theorem dX5_forms_64 : decode cX5_forms 64 = .ok (.istore 5, 2) := by decide +kernel
theorem dX5_forms_66 : decode cX5_forms 66 = .ok (.iload 5, 2) := by decide +kernel
theorem dX5_forms_68 : decode cX5_forms 68 = .ok (.aload_n 0, 1) := by decide +kernel
theorem dX5_forms_69 : decode cX5_forms 69 = .ok (.getfield 16, 3) := by decide +kernel
theorem dX5_forms_72 : decode cX5_forms 72 = .ok (.iload_n 1, 1) := by decide +kernel
theorem dX5_forms_73 : decode cX5_forms 73 = .ok (.iaload, 1) := by decide +kernel
theorem dX5_forms_74 : decode cX5_forms 74 = .ok (.if_icmp .ge 33, 3) := by decide +kernel
theorem dX5_forms_77 : decode cX5_forms 77 = .ok (.aload_n 0, 1) := by decide +kernel
theorem dX5_forms_78 : decode cX5_forms 78 = .ok (.getfield 53, 3) := by decide +kernel
theorem dX5_forms_81 : decode cX5_forms 81 = .ok (.aload_n 0, 1) := by decide +kernel
theorem dX5_forms_82 : decode cX5_forms 82 = .ok (.iload_n 1, 1) := by decide +kernel
theorem dX5_forms_83 : decode cX5_forms 83 = .ok (.iload_n 3, 1) := by decide +kernel
theorem dX5_forms_84 : decode cX5_forms 84 = .ok (.aload_n 0, 1) := by decide +kernel
theorem dX5_forms_85 : decode cX5_forms 85 = .ok (.iload_n 1, 1) := by decide +kernel
theorem dX5_forms_86 : decode cX5_forms 86 = .ok (.iload 5, 2) := by decide +kernel
theorem dX5_forms_88 : decode cX5_forms 88 = .ok (.iload 5, 2) := by decide +kernel
theorem dX5_forms_90 : decode cX5_forms 90 = .ok (.invokevirtual 123, 3) := by decide +kernel
theorem dX5_forms_93 : decode cX5_forms 93 = .ok (.invokevirtual 123, 3) := by decide +kernel
theorem dX5_forms_96 : decode cX5_forms 96 = .ok (.dup2, 1) := by decide +kernel
theorem dX5_forms_97 : decode cX5_forms 97 = .ok (.iaload, 1) := by decide +kernel
theorem dX5_forms_98 : decode cX5_forms 98 = .ok (.iconst 1, 1) := by decide +kernel
theorem dX5_forms_99 : decode cX5_forms 99 = .ok (.iadd, 1) := by decide +kernel
theorem dX5_forms_100 : decode cX5_forms 100 = .ok (.iastore, 1) := by decide +kernel
theorem dX5_forms_101 : decode cX5_forms 101 = .ok (.iinc 5 1, 3) := by decide +kernel
theorem dX5_forms_104 : decode cX5_forms 104 = .ok (.goto (-38), 3) := by decide +kernel
theorem dX5_forms_107 : decode cX5_forms 107 = .ok (.iconst 0, 1) := by decide +kernel
theorem dX5_forms_108 : decode cX5_forms 108 = .ok (.istore 5, 2) := by decide +kernel
theorem dX5_forms_110 : decode cX5_forms 110 = .ok (.iconst 0, 1) := by decide +kernel
theorem dX5_forms_111 : decode cX5_forms 111 = .ok (.istore 6, 2) := by decide +kernel
theorem dX5_forms_113 : decode cX5_forms 113 = .ok (.iload 6, 2) := by decide +kernel
theorem dX5_forms_115 : decode cX5_forms 115 = .ok (.aload_n 0, 1) := by decide +kernel
theorem dX5_forms_116 : decode cX5_forms 116 = .ok (.getfield 16, 3) := by decide +kernel
theorem dX5_forms_119 : decode cX5_forms 119 = .ok (.iload_n 1, 1) := by decide +kernel
theorem dX5_forms_120 : decode cX5_forms 120 = .ok (.iaload, 1) := by decide +kernel
theorem dX5_forms_121 : decode cX5_forms 121 = .ok (.if_icmp .ge 59, 3) := by decide +kernel
theorem dX5_forms_124 : decode cX5_forms 124 = .ok (.aload_n 0, 1) := by decide +kernel
theorem dX5_forms_125 : decode cX5_forms 125 = .ok (.iload_n 1, 1) := by decide +kernel
theorem dX5_forms_126 : decode cX5_forms 126 = .ok (.iload_n 2, 1) := by decide +kernel
theorem dX5_forms_127 : decode cX5_forms 127 = .ok (.aload_n 0, 1) := by decide +kernel
theorem dX5_forms_128 : decode cX5_forms 128 = .ok (.iload_n 1, 1) := by decide +kernel
theorem dX5_forms_129 : decode cX5_forms 129 = .ok (.iload 6, 2) := by decide +kernel
theorem dX5_forms_131 : decode cX5_forms 131 = .ok (.iload 6, 2) := by decide +kernel
theorem dX5_forms_133 : decode cX5_forms 133 = .ok (.invokevirtual 123, 3) := by decide +kernel
theorem dX5_forms_136 : decode cX5_forms 136 = .ok (.invokevirtual 123, 3) := by decide +kernel
theorem dX5_forms_139 : decode cX5_forms 139 = .ok (.istore 7, 2) := by decide +kernel
theorem dX5_forms_141 : decode cX5_forms 141 = .ok (.aload_n 0, 1) := by decide +kernel
theorem dX5_forms_142 : decode cX5_forms 142 = .ok (.iload 4, 2) := by decide +kernel
theorem dX5_forms_144 : decode cX5_forms 144 = .ok (.aload_n 0, 1) := by decide +kernel
theorem dX5_forms_145 : decode cX5_forms 145 = .ok (.iload_n 1, 1) := by decide +kernel
theorem dX5_forms_146 : decode cX5_forms 146 = .ok (.aload_n 0, 1) := by decide +kernel
theorem dX5_forms_147 : decode cX5_forms 147 = .ok (.getfield 7, 3) := by decide +kernel
theorem dX5_forms_150 : decode cX5_forms 150 = .ok (.iconst 1, 1) := by decide +kernel
theorem dX5_forms_151 : decode cX5_forms 151 = .ok (.isub, 1) := by decide +kernel
theorem dX5_forms_152 : decode cX5_forms 152 = .ok (.iload 7, 2) := by decide +kernel
theorem dX5_forms_154 : decode cX5_forms 154 = .ok (.invokevirtual 123, 3) := by decide +kernel
theorem dX5_forms_157 : decode cX5_forms 157 = .ok (.invokevirtual 139, 3) := by decide +kernel
theorem dX5_forms_160 : decode cX5_forms 160 = .ok (.istore 8, 2) := by decide +kernel
theorem dX5_forms_162 : decode cX5_forms 162 = .ok (.iload 5, 2) := by decide +kernel
theorem dX5_forms_164 : decode cX5_forms 164 = .ok (.aload_n 0, 1) := by decide +kernel
theorem dX5_forms_165 : decode cX5_forms 165 = .ok (.getfield 53, 3) := by decide +kernel
theorem dX5_forms_168 : decode cX5_forms 168 = .ok (.iload 8, 2) := by decide +kernel
theorem dX5_forms_170 : decode cX5_forms 170 = .ok (.iaload, 1) := by decide +kernel
theorem dX5_forms_171 : decode cX5_forms 171 = .ok (.iadd, 1) := by decide +kernel
theorem dX5_forms_172 : decode cX5_forms 172 = .ok (.istore 5, 2) := by decide +kernel
theorem dX5_forms_174 : decode cX5_forms 174 = .ok (.iinc 6 1, 3) := by decide +kernel
theorem dX5_forms_177 : decode cX5_forms 177 = .ok (.goto (-64), 3) := by decide +kernel
theorem dX5_forms_180 : decode cX5_forms 180 = .ok (.iload 5, 2) := by decide +kernel
theorem dX5_forms_182 : decode cX5_forms 182 = .ok (.ireturn, 1) := by decide +kernel
theorem dX5_isCurve_0 : decode cX5_isCurve 0 = .ok (.iload_n 1, 1) := by decide +kernel
theorem dX5_isCurve_1 : decode cX5_isCurve 1 = .ok (.i2l, 1) := by decide +kernel
theorem dX5_isCurve_2 : decode cX5_isCurve 2 = .ok (.lconst 0, 1) := by decide +kernel
theorem dX5_isCurve_3 : decode cX5_isCurve 3 = .ok (.aload_n 0, 1) := by decide +kernel
theorem dX5_isCurve_4 : decode cX5_isCurve 4 = .ok (.getfield 108, 3) := by decide +kernel
theorem dX5_isCurve_7 : decode cX5_isCurve 7 = .ok (.iconst 1, 1) := by decide +kernel
theorem dX5_isCurve_8 : decode cX5_isCurve 8 = .ok (.isub, 1) := by decide +kernel
theorem dX5_isCurve_9 : decode cX5_isCurve 9 = .ok (.i2l, 1) := by decide +kernel
theorem dX5_isCurve_10 : decode cX5_isCurve 10 = .ok (.invokestatic 127, 3) := by decide +kernel
theorem dX5_isCurve_13 : decode cX5_isCurve 13 = .ok (.ireturn, 1) := by decide +kernel
theorem dX5_degreeOf_0 : decode cX5_degreeOf 0 = .ok (.bipush 15, 2) := by decide +kernel
theorem dX5_degreeOf_2 : decode cX5_degreeOf 2 = .ok (.istore_n 2, 1) := by decide +kernel
theorem dX5_degreeOf_3 : decode cX5_degreeOf 3 = .ok (.aload_n 0, 1) := by decide +kernel
theorem dX5_degreeOf_4 : decode cX5_degreeOf 4 = .ok (.getfield 32, 3) := by decide +kernel
theorem dX5_degreeOf_7 : decode cX5_degreeOf 7 = .ok (.bipush 16, 2) := by decide +kernel
theorem dX5_degreeOf_9 : decode cX5_degreeOf 9 = .ok (.iload_n 1, 1) := by decide +kernel
theorem dX5_degreeOf_10 : decode cX5_degreeOf 10 = .ok (.imul, 1) := by decide +kernel
theorem dX5_degreeOf_11 : decode cX5_degreeOf 11 = .ok (.iload_n 2, 1) := by decide +kernel
theorem dX5_degreeOf_12 : decode cX5_degreeOf 12 = .ok (.iadd, 1) := by decide +kernel
theorem dX5_degreeOf_13 : decode cX5_degreeOf 13 = .ok (.iaload, 1) := by decide +kernel
theorem dX5_degreeOf_14 : decode cX5_degreeOf 14 = .ok (.ifCond .ne 9, 3) := by decide +kernel
theorem dX5_degreeOf_17 : decode cX5_degreeOf 17 = .ok (.iinc 2 (-1), 3) := by decide +kernel
theorem dX5_degreeOf_20 : decode cX5_degreeOf 20 = .ok (.goto (-17), 3) := by decide +kernel
theorem dX5_degreeOf_23 : decode cX5_degreeOf 23 = .ok (.iload_n 2, 1) := by decide +kernel
theorem dX5_degreeOf_24 : decode cX5_degreeOf 24 = .ok (.ireturn, 1) := by decide +kernel
theorem dX5_genusOf_0 : decode cX5_genusOf 0 = .ok (.aload_n 0, 1) := by decide +kernel
theorem dX5_genusOf_1 : decode cX5_genusOf 1 = .ok (.iload_n 1, 1) := by decide +kernel
theorem dX5_genusOf_2 : decode cX5_genusOf 2 = .ok (.invokevirtual 146, 3) := by decide +kernel
theorem dX5_genusOf_5 : decode cX5_genusOf 5 = .ok (.iconst 5, 1) := by decide +kernel
theorem dX5_genusOf_6 : decode cX5_genusOf 6 = .ok (.if_icmp .ge 7, 3) := by decide +kernel
theorem dX5_genusOf_9 : decode cX5_genusOf 9 = .ok (.iconst 1, 1) := by decide +kernel
theorem dX5_genusOf_10 : decode cX5_genusOf 10 = .ok (.goto 4, 3) := by decide +kernel
theorem dX5_genusOf_13 : decode cX5_genusOf 13 = .ok (.iconst 2, 1) := by decide +kernel
theorem dX5_genusOf_14 : decode cX5_genusOf 14 = .ok (.ireturn, 1) := by decide +kernel
theorem dX5_loadOwn_0 : decode cX5_loadOwn 0 = .ok (.iconst 0, 1) := by decide +kernel
theorem dX5_loadOwn_1 : decode cX5_loadOwn 1 = .ok (.istore_n 3, 1) := by decide +kernel
theorem dX5_loadOwn_2 : decode cX5_loadOwn 2 = .ok (.iload_n 3, 1) := by decide +kernel
theorem dX5_loadOwn_3 : decode cX5_loadOwn 3 = .ok (.bipush 16, 2) := by decide +kernel
theorem dX5_loadOwn_5 : decode cX5_loadOwn 5 = .ok (.if_icmp .ge 31, 3) := by decide +kernel
theorem dX5_loadOwn_8 : decode cX5_loadOwn 8 = .ok (.aload_n 0, 1) := by decide +kernel
theorem dX5_loadOwn_9 : decode cX5_loadOwn 9 = .ok (.getfield 38, 3) := by decide +kernel
theorem dX5_loadOwn_12 : decode cX5_loadOwn 12 = .ok (.bipush 16, 2) := by decide +kernel
theorem dX5_loadOwn_14 : decode cX5_loadOwn 14 = .ok (.iload_n 1, 1) := by decide +kernel
theorem dX5_loadOwn_15 : decode cX5_loadOwn 15 = .ok (.imul, 1) := by decide +kernel
theorem dX5_loadOwn_16 : decode cX5_loadOwn 16 = .ok (.iload_n 3, 1) := by decide +kernel
theorem dX5_loadOwn_17 : decode cX5_loadOwn 17 = .ok (.iadd, 1) := by decide +kernel
theorem dX5_loadOwn_18 : decode cX5_loadOwn 18 = .ok (.aload_n 0, 1) := by decide +kernel
theorem dX5_loadOwn_19 : decode cX5_loadOwn 19 = .ok (.getfield 32, 3) := by decide +kernel
theorem dX5_loadOwn_22 : decode cX5_loadOwn 22 = .ok (.bipush 16, 2) := by decide +kernel
theorem dX5_loadOwn_24 : decode cX5_loadOwn 24 = .ok (.iload_n 2, 1) := by decide +kernel
theorem dX5_loadOwn_25 : decode cX5_loadOwn 25 = .ok (.imul, 1) := by decide +kernel
theorem dX5_loadOwn_26 : decode cX5_loadOwn 26 = .ok (.iload_n 3, 1) := by decide +kernel
theorem dX5_loadOwn_27 : decode cX5_loadOwn 27 = .ok (.iadd, 1) := by decide +kernel
theorem dX5_loadOwn_28 : decode cX5_loadOwn 28 = .ok (.iaload, 1) := by decide +kernel
theorem dX5_loadOwn_29 : decode cX5_loadOwn 29 = .ok (.iastore, 1) := by decide +kernel
theorem dX5_loadOwn_30 : decode cX5_loadOwn 30 = .ok (.iinc 3 1, 3) := by decide +kernel
theorem dX5_loadOwn_33 : decode cX5_loadOwn 33 = .ok (.goto (-31), 3) := by decide +kernel
theorem dX5_loadOwn_36 : decode cX5_loadOwn 36 = .ok (.return_, 1) := by decide +kernel
theorem dX5_isDegree_0 : decode cX5_isDegree 0 = .ok (.lconst 1, 1) := by decide +kernel
theorem dX5_isDegree_1 : decode cX5_isDegree 1 = .ok (.lstore_n 3, 1) := by decide +kernel
theorem dX5_isDegree_2 : decode cX5_isDegree 2 = .ok (.iconst 0, 1) := by decide +kernel
theorem dX5_isDegree_3 : decode cX5_isDegree 3 = .ok (.istore 5, 2) := by decide +kernel
theorem dX5_isDegree_5 : decode cX5_isDegree 5 = .ok (.iload 5, 2) := by decide +kernel
theorem dX5_isDegree_7 : decode cX5_isDegree 7 = .ok (.iload_n 2, 1) := by decide +kernel
theorem dX5_isDegree_8 : decode cX5_isDegree 8 = .ok (.if_icmp .ge 17, 3) := by decide +kernel
theorem dX5_isDegree_11 : decode cX5_isDegree 11 = .ok (.lload_n 3, 1) := by decide +kernel
theorem dX5_isDegree_12 : decode cX5_isDegree 12 = .ok (.aload_n 0, 1) := by decide +kernel
theorem dX5_isDegree_13 : decode cX5_isDegree 13 = .ok (.getfield 7, 3) := by decide +kernel
theorem dX5_isDegree_16 : decode cX5_isDegree 16 = .ok (.i2l, 1) := by decide +kernel
theorem dX5_isDegree_17 : decode cX5_isDegree 17 = .ok (.lmul, 1) := by decide +kernel
theorem dX5_isDegree_18 : decode cX5_isDegree 18 = .ok (.lstore_n 3, 1) := by decide +kernel
theorem dX5_isDegree_19 : decode cX5_isDegree 19 = .ok (.iinc 5 1, 3) := by decide +kernel
theorem dX5_isDegree_22 : decode cX5_isDegree 22 = .ok (.goto (-17), 3) := by decide +kernel
theorem dX5_isDegree_25 : decode cX5_isDegree 25 = .ok (.iload_n 1, 1) := by decide +kernel
theorem dX5_isDegree_26 : decode cX5_isDegree 26 = .ok (.i2l, 1) := by decide +kernel
theorem dX5_isDegree_27 : decode cX5_isDegree 27 = .ok (.lload_n 3, 1) := by decide +kernel
theorem dX5_isDegree_28 : decode cX5_isDegree 28 = .ok (.lcmp, 1) := by decide +kernel
theorem dX5_isDegree_29 : decode cX5_isDegree 29 = .ok (.ifCond .lt 20, 3) := by decide +kernel
theorem dX5_isDegree_32 : decode cX5_isDegree 32 = .ok (.iload_n 1, 1) := by decide +kernel
theorem dX5_isDegree_33 : decode cX5_isDegree 33 = .ok (.i2l, 1) := by decide +kernel
theorem dX5_isDegree_34 : decode cX5_isDegree 34 = .ok (.lload_n 3, 1) := by decide +kernel
theorem dX5_isDegree_35 : decode cX5_isDegree 35 = .ok (.aload_n 0, 1) := by decide +kernel
theorem dX5_isDegree_36 : decode cX5_isDegree 36 = .ok (.getfield 7, 3) := by decide +kernel
theorem dX5_isDegree_39 : decode cX5_isDegree 39 = .ok (.i2l, 1) := by decide +kernel
theorem dX5_isDegree_40 : decode cX5_isDegree 40 = .ok (.lmul, 1) := by decide +kernel
theorem dX5_isDegree_41 : decode cX5_isDegree 41 = .ok (.lcmp, 1) := by decide +kernel
theorem dX5_isDegree_42 : decode cX5_isDegree 42 = .ok (.ifCond .ge 7, 3) := by decide +kernel
theorem dX5_isDegree_45 : decode cX5_isDegree 45 = .ok (.iconst 1, 1) := by decide +kernel
theorem dX5_isDegree_46 : decode cX5_isDegree 46 = .ok (.goto 4, 3) := by decide +kernel
theorem dX5_isDegree_49 : decode cX5_isDegree 49 = .ok (.iconst 0, 1) := by decide +kernel
theorem dX5_isDegree_50 : decode cX5_isDegree 50 = .ok (.ireturn, 1) := by decide +kernel
theorem dX5_isShaped_0 : decode cX5_isShaped 0 = .ok (.aload_n 0, 1) := by decide +kernel
theorem dX5_isShaped_1 : decode cX5_isShaped 1 = .ok (.iload_n 1, 1) := by decide +kernel
theorem dX5_isShaped_2 : decode cX5_isShaped 2 = .ok (.iconst 3, 1) := by decide +kernel
theorem dX5_isShaped_3 : decode cX5_isShaped 3 = .ok (.invokevirtual 149, 3) := by decide +kernel
theorem dX5_isShaped_6 : decode cX5_isShaped 6 = .ok (.ifCond .ne 31, 3) := by decide +kernel
theorem dX5_isShaped_9 : decode cX5_isShaped 9 = .ok (.aload_n 0, 1) := by decide +kernel
theorem dX5_isShaped_10 : decode cX5_isShaped 10 = .ok (.iload_n 1, 1) := by decide +kernel
theorem dX5_isShaped_11 : decode cX5_isShaped 11 = .ok (.iconst 4, 1) := by decide +kernel
theorem dX5_isShaped_12 : decode cX5_isShaped 12 = .ok (.invokevirtual 149, 3) := by decide +kernel
theorem dX5_isShaped_15 : decode cX5_isShaped 15 = .ok (.ifCond .ne 22, 3) := by decide +kernel
theorem dX5_isShaped_18 : decode cX5_isShaped 18 = .ok (.aload_n 0, 1) := by decide +kernel
theorem dX5_isShaped_19 : decode cX5_isShaped 19 = .ok (.iload_n 1, 1) := by decide +kernel
theorem dX5_isShaped_20 : decode cX5_isShaped 20 = .ok (.iconst 5, 1) := by decide +kernel
theorem dX5_isShaped_21 : decode cX5_isShaped 21 = .ok (.invokevirtual 149, 3) := by decide +kernel
theorem dX5_isShaped_24 : decode cX5_isShaped 24 = .ok (.ifCond .ne 13, 3) := by decide +kernel
theorem dX5_isShaped_27 : decode cX5_isShaped 27 = .ok (.aload_n 0, 1) := by decide +kernel
theorem dX5_isShaped_28 : decode cX5_isShaped 28 = .ok (.iload_n 1, 1) := by decide +kernel
theorem dX5_isShaped_29 : decode cX5_isShaped 29 = .ok (.bipush 6, 2) := by decide +kernel
theorem dX5_isShaped_31 : decode cX5_isShaped 31 = .ok (.invokevirtual 149, 3) := by decide +kernel
theorem dX5_isShaped_34 : decode cX5_isShaped 34 = .ok (.ifCond .eq 7, 3) := by decide +kernel
theorem dX5_isShaped_37 : decode cX5_isShaped 37 = .ok (.iconst 1, 1) := by decide +kernel
theorem dX5_isShaped_38 : decode cX5_isShaped 38 = .ok (.goto 4, 3) := by decide +kernel
theorem dX5_isShaped_41 : decode cX5_isShaped 41 = .ok (.iconst 0, 1) := by decide +kernel
theorem dX5_isShaped_42 : decode cX5_isShaped 42 = .ok (.ireturn, 1) := by decide +kernel
theorem dX5_knotOf_0 : decode cX5_knotOf 0 = .ok (.aload_n 0, 1) := by decide +kernel
theorem dX5_knotOf_1 : decode cX5_knotOf 1 = .ok (.bipush 10, 2) := by decide +kernel
theorem dX5_knotOf_3 : decode cX5_knotOf 3 = .ok (.iload_n 1, 1) := by decide +kernel
theorem dX5_knotOf_4 : decode cX5_knotOf 4 = .ok (.invokevirtual 87, 3) := by decide +kernel
theorem dX5_knotOf_7 : decode cX5_knotOf 7 = .ok (.aload_n 0, 1) := by decide +kernel
theorem dX5_knotOf_8 : decode cX5_knotOf 8 = .ok (.bipush 11, 2) := by decide +kernel
theorem dX5_knotOf_10 : decode cX5_knotOf 10 = .ok (.invokevirtual 74, 3) := by decide +kernel
theorem dX5_knotOf_13 : decode cX5_knotOf 13 = .ok (.iconst 1, 1) := by decide +kernel
theorem dX5_knotOf_14 : decode cX5_knotOf 14 = .ok (.istore_n 2, 1) := by decide +kernel
theorem dX5_knotOf_15 : decode cX5_knotOf 15 = .ok (.iload_n 2, 1) := by decide +kernel
theorem dX5_knotOf_16 : decode cX5_knotOf 16 = .ok (.bipush 16, 2) := by decide +kernel
theorem dX5_knotOf_18 : decode cX5_knotOf 18 = .ok (.if_icmp .ge 37, 3) := by decide +kernel
theorem dX5_knotOf_21 : decode cX5_knotOf 21 = .ok (.aload_n 0, 1) := by decide +kernel
theorem dX5_knotOf_22 : decode cX5_knotOf 22 = .ok (.getfield 38, 3) := by decide +kernel
theorem dX5_knotOf_25 : decode cX5_knotOf 25 = .ok (.sipush 176, 3) := by decide +kernel
theorem dX5_knotOf_28 : decode cX5_knotOf 28 = .ok (.iload_n 2, 1) := by decide +kernel
theorem dX5_knotOf_29 : decode cX5_knotOf 29 = .ok (.iadd, 1) := by decide +kernel
theorem dX5_knotOf_30 : decode cX5_knotOf 30 = .ok (.iconst 1, 1) := by decide +kernel
theorem dX5_knotOf_31 : decode cX5_knotOf 31 = .ok (.isub, 1) := by decide +kernel
theorem dX5_knotOf_32 : decode cX5_knotOf 32 = .ok (.aload_n 0, 1) := by decide +kernel
theorem dX5_knotOf_33 : decode cX5_knotOf 33 = .ok (.iload_n 2, 1) := by decide +kernel
theorem dX5_knotOf_34 : decode cX5_knotOf 34 = .ok (.aload_n 0, 1) := by decide +kernel
theorem dX5_knotOf_35 : decode cX5_knotOf 35 = .ok (.getfield 38, 3) := by decide +kernel
theorem dX5_knotOf_38 : decode cX5_knotOf 38 = .ok (.sipush 160, 3) := by decide +kernel
theorem dX5_knotOf_41 : decode cX5_knotOf 41 = .ok (.iload_n 2, 1) := by decide +kernel
theorem dX5_knotOf_42 : decode cX5_knotOf 42 = .ok (.iadd, 1) := by decide +kernel
theorem dX5_knotOf_43 : decode cX5_knotOf 43 = .ok (.iaload, 1) := by decide +kernel
theorem dX5_knotOf_44 : decode cX5_knotOf 44 = .ok (.imul, 1) := by decide +kernel
theorem dX5_knotOf_45 : decode cX5_knotOf 45 = .ok (.invokevirtual 70, 3) := by decide +kernel
theorem dX5_knotOf_48 : decode cX5_knotOf 48 = .ok (.iastore, 1) := by decide +kernel
theorem dX5_knotOf_49 : decode cX5_knotOf 49 = .ok (.iinc 2 1, 3) := by decide +kernel
theorem dX5_knotOf_52 : decode cX5_knotOf 52 = .ok (.goto (-37), 3) := by decide +kernel
theorem dX5_knotOf_55 : decode cX5_knotOf 55 = .ok (.aload_n 0, 1) := by decide +kernel
theorem dX5_knotOf_56 : decode cX5_knotOf 56 = .ok (.bipush 12, 2) := by decide +kernel
theorem dX5_knotOf_58 : decode cX5_knotOf 58 = .ok (.bipush 13, 2) := by decide +kernel
theorem dX5_knotOf_60 : decode cX5_knotOf 60 = .ok (.bipush 14, 2) := by decide +kernel
theorem dX5_knotOf_62 : decode cX5_knotOf 62 = .ok (.bipush 10, 2) := by decide +kernel
theorem dX5_knotOf_64 : decode cX5_knotOf 64 = .ok (.bipush 11, 2) := by decide +kernel
theorem dX5_knotOf_66 : decode cX5_knotOf 66 = .ok (.invokevirtual 152, 3) := by decide +kernel
theorem dX5_knotOf_69 : decode cX5_knotOf 69 = .ok (.aload_n 0, 1) := by decide +kernel
theorem dX5_knotOf_70 : decode cX5_knotOf 70 = .ok (.bipush 12, 2) := by decide +kernel
theorem dX5_knotOf_72 : decode cX5_knotOf 72 = .ok (.invokevirtual 77, 3) := by decide +kernel
theorem dX5_knotOf_75 : decode cX5_knotOf 75 = .ok (.ireturn, 1) := by decide +kernel
theorem dX5_curve_0 : decode cX5_curve 0 = .ok (.aload_n 0, 1) := by decide +kernel
theorem dX5_curve_1 : decode cX5_curve 1 = .ok (.iconst 0, 1) := by decide +kernel
theorem dX5_curve_2 : decode cX5_curve 2 = .ok (.putfield 67, 3) := by decide +kernel
theorem dX5_curve_5 : decode cX5_curve 5 = .ok (.iload_n 1, 1) := by decide +kernel
theorem dX5_curve_6 : decode cX5_curve 6 = .ok (.i2l, 1) := by decide +kernel
theorem dX5_curve_7 : decode cX5_curve 7 = .ok (.lconst 0, 1) := by decide +kernel
theorem dX5_curve_8 : decode cX5_curve 8 = .ok (.ldc2_w 156, 3) := by decide +kernel
theorem dX5_curve_11 : decode cX5_curve 11 = .ok (.invokestatic 127, 3) := by decide +kernel
theorem dX5_curve_14 : decode cX5_curve 14 = .ok (.ifCond .eq 32, 3) := by decide +kernel
theorem dX5_curve_17 : decode cX5_curve 17 = .ok (.aload_n 0, 1) := by decide +kernel
theorem dX5_curve_18 : decode cX5_curve 18 = .ok (.iload_n 2, 1) := by decide +kernel
theorem dX5_curve_19 : decode cX5_curve 19 = .ok (.invokevirtual 158, 3) := by decide +kernel
theorem dX5_curve_22 : decode cX5_curve 22 = .ok (.ifCond .eq 24, 3) := by decide +kernel
theorem dX5_curve_25 : decode cX5_curve 25 = .ok (.iload_n 1, 1) := by decide +kernel
theorem dX5_curve_26 : decode cX5_curve 26 = .ok (.iconst 2, 1) := by decide +kernel
theorem dX5_curve_27 : decode cX5_curve 27 = .ok (.if_icmp .ne 21, 3) := by decide +kernel
theorem dX5_curve_30 : decode cX5_curve 30 = .ok (.iload_n 3, 1) := by decide +kernel
theorem dX5_curve_31 : decode cX5_curve 31 = .ok (.i2l, 1) := by decide +kernel
theorem dX5_curve_32 : decode cX5_curve 32 = .ok (.lconst 0, 1) := by decide +kernel
theorem dX5_curve_33 : decode cX5_curve 33 = .ok (.aload_n 0, 1) := by decide +kernel
theorem dX5_curve_34 : decode cX5_curve 34 = .ok (.getfield 7, 3) := by decide +kernel
theorem dX5_curve_37 : decode cX5_curve 37 = .ok (.iconst 1, 1) := by decide +kernel
theorem dX5_curve_38 : decode cX5_curve 38 = .ok (.isub, 1) := by decide +kernel
theorem dX5_curve_39 : decode cX5_curve 39 = .ok (.i2l, 1) := by decide +kernel
theorem dX5_curve_40 : decode cX5_curve 40 = .ok (.invokestatic 127, 3) := by decide +kernel
theorem dX5_curve_43 : decode cX5_curve 43 = .ok (.ifCond .ne 5, 3) := by decide +kernel
theorem dX5_curve_46 : decode cX5_curve 46 = .ok (.iconst (-1), 1) := by decide +kernel
theorem dX5_curve_47 : decode cX5_curve 47 = .ok (.ireturn, 1) := by decide +kernel
theorem dX5_curve_48 : decode cX5_curve 48 = .ok (.aload_n 0, 1) := by decide +kernel
theorem dX5_curve_49 : decode cX5_curve 49 = .ok (.bipush (-9), 2) := by decide +kernel
theorem dX5_curve_51 : decode cX5_curve 51 = .ok (.putfield 35, 3) := by decide +kernel
theorem dX5_curve_54 : decode cX5_curve 54 = .ok (.aload_n 0, 1) := by decide +kernel
theorem dX5_curve_55 : decode cX5_curve 55 = .ok (.iload_n 2, 1) := by decide +kernel
theorem dX5_curve_56 : decode cX5_curve 56 = .ok (.invokevirtual 161, 3) := by decide +kernel
theorem dX5_curve_59 : decode cX5_curve 59 = .ok (.ifCond .le 16, 3) := by decide +kernel
theorem dX5_curve_62 : decode cX5_curve 62 = .ok (.aload_n 0, 1) := by decide +kernel
theorem dX5_curve_63 : decode cX5_curve 63 = .ok (.aload_n 0, 1) := by decide +kernel
theorem dX5_curve_64 : decode cX5_curve 64 = .ok (.bipush 12, 2) := by decide +kernel
theorem dX5_curve_66 : decode cX5_curve 66 = .ok (.invokevirtual 120, 3) := by decide +kernel
theorem dX5_curve_69 : decode cX5_curve 69 = .ok (.putfield 35, 3) := by decide +kernel
theorem dX5_curve_72 : decode cX5_curve 72 = .ok (.bipush (-2), 2) := by decide +kernel
theorem dX5_curve_74 : decode cX5_curve 74 = .ok (.ireturn, 1) := by decide +kernel
theorem dX5_curve_75 : decode cX5_curve 75 = .ok (.aload_n 0, 1) := by decide +kernel
theorem dX5_curve_76 : decode cX5_curve 76 = .ok (.getfield 108, 3) := by decide +kernel
theorem dX5_curve_79 : decode cX5_curve 79 = .ok (.bipush 8, 2) := by decide +kernel
theorem dX5_curve_81 : decode cX5_curve 81 = .ok (.if_icmp .ne 6, 3) := by decide +kernel
theorem dX5_curve_84 : decode cX5_curve 84 = .ok (.bipush (-3), 2) := by decide +kernel
theorem dX5_curve_86 : decode cX5_curve 86 = .ok (.ireturn, 1) := by decide +kernel
theorem dX5_curve_87 : decode cX5_curve 87 = .ok (.aload_n 0, 1) := by decide +kernel
theorem dX5_curve_88 : decode cX5_curve 88 = .ok (.getfield 108, 3) := by decide +kernel
theorem dX5_curve_91 : decode cX5_curve 91 = .ok (.istore 4, 2) := by decide +kernel
theorem dX5_curve_93 : decode cX5_curve 93 = .ok (.aload_n 0, 1) := by decide +kernel
theorem dX5_curve_94 : decode cX5_curve 94 = .ok (.getfield 23, 3) := by decide +kernel
theorem dX5_curve_97 : decode cX5_curve 97 = .ok (.iload 4, 2) := by decide +kernel
theorem dX5_curve_99 : decode cX5_curve 99 = .ok (.iload_n 1, 1) := by decide +kernel
theorem dX5_curve_100 : decode cX5_curve 100 = .ok (.iastore, 1) := by decide +kernel
theorem dX5_curve_101 : decode cX5_curve 101 = .ok (.aload_n 0, 1) := by decide +kernel
theorem dX5_curve_102 : decode cX5_curve 102 = .ok (.getfield 26, 3) := by decide +kernel
theorem dX5_curve_105 : decode cX5_curve 105 = .ok (.iload 4, 2) := by decide +kernel
theorem dX5_curve_107 : decode cX5_curve 107 = .ok (.iload_n 2, 1) := by decide +kernel
theorem dX5_curve_108 : decode cX5_curve 108 = .ok (.iastore, 1) := by decide +kernel
theorem dX5_curve_109 : decode cX5_curve 109 = .ok (.aload_n 0, 1) := by decide +kernel
theorem dX5_curve_110 : decode cX5_curve 110 = .ok (.getfield 29, 3) := by decide +kernel
theorem dX5_curve_113 : decode cX5_curve 113 = .ok (.iload 4, 2) := by decide +kernel
theorem dX5_curve_115 : decode cX5_curve 115 = .ok (.iload_n 1, 1) := by decide +kernel
theorem dX5_curve_116 : decode cX5_curve 116 = .ok (.iconst 2, 1) := by decide +kernel
theorem dX5_curve_117 : decode cX5_curve 117 = .ok (.if_icmp .ne 7, 3) := by decide +kernel
theorem dX5_curve_120 : decode cX5_curve 120 = .ok (.iload_n 3, 1) := by decide +kernel
theorem dX5_curve_121 : decode cX5_curve 121 = .ok (.goto 4, 3) := by decide +kernel
theorem dX5_curve_124 : decode cX5_curve 124 = .ok (.iconst 0, 1) := by decide +kernel
theorem dX5_curve_125 : decode cX5_curve 125 = .ok (.iastore, 1) := by decide +kernel
theorem dX5_curve_126 : decode cX5_curve 126 = .ok (.aload_n 0, 1) := by decide +kernel
theorem dX5_curve_127 : decode cX5_curve 127 = .ok (.bipush 10, 2) := by decide +kernel
theorem dX5_curve_129 : decode cX5_curve 129 = .ok (.iload_n 2, 1) := by decide +kernel
theorem dX5_curve_130 : decode cX5_curve 130 = .ok (.invokevirtual 87, 3) := by decide +kernel
theorem dX5_curve_133 : decode cX5_curve 133 = .ok (.iload_n 1, 1) := by decide +kernel
theorem dX5_curve_134 : decode cX5_curve 134 = .ok (.iconst 2, 1) := by decide +kernel
theorem dX5_curve_135 : decode cX5_curve 135 = .ok (.if_icmp .ne 95, 3) := by decide +kernel
theorem dX5_curve_138 : decode cX5_curve 138 = .ok (.aload_n 0, 1) := by decide +kernel
theorem dX5_curve_139 : decode cX5_curve 139 = .ok (.bipush 11, 2) := by decide +kernel
theorem dX5_curve_141 : decode cX5_curve 141 = .ok (.invokevirtual 74, 3) := by decide +kernel
theorem dX5_curve_144 : decode cX5_curve 144 = .ok (.aload_n 0, 1) := by decide +kernel
theorem dX5_curve_145 : decode cX5_curve 145 = .ok (.bipush 12, 2) := by decide +kernel
theorem dX5_curve_147 : decode cX5_curve 147 = .ok (.aload_n 0, 1) := by decide +kernel
theorem dX5_curve_148 : decode cX5_curve 148 = .ok (.getfield 7, 3) := by decide +kernel
theorem dX5_curve_151 : decode cX5_curve 151 = .ok (.iload_n 3, 1) := by decide +kernel
theorem dX5_curve_152 : decode cX5_curve 152 = .ok (.iadd, 1) := by decide +kernel
theorem dX5_curve_153 : decode cX5_curve 153 = .ok (.invokevirtual 87, 3) := by decide +kernel
theorem dX5_curve_156 : decode cX5_curve 156 = .ok (.bipush 6, 2) := by decide +kernel
theorem dX5_curve_158 : decode cX5_curve 158 = .ok (.istore 5, 2) := by decide +kernel
theorem dX5_curve_160 : decode cX5_curve 160 = .ok (.iload 5, 2) := by decide +kernel
theorem dX5_curve_162 : decode cX5_curve 162 = .ok (.ifCond .lt 60, 3) := by decide +kernel
theorem dX5_curve_165 : decode cX5_curve 165 = .ok (.aload_n 0, 1) := by decide +kernel
theorem dX5_curve_166 : decode cX5_curve 166 = .ok (.bipush 13, 2) := by decide +kernel
theorem dX5_curve_168 : decode cX5_curve 168 = .ok (.bipush 11, 2) := by decide +kernel
theorem dX5_curve_170 : decode cX5_curve 170 = .ok (.bipush 12, 2) := by decide +kernel
theorem dX5_curve_172 : decode cX5_curve 172 = .ok (.invokevirtual 94, 3) := by decide +kernel
theorem dX5_curve_175 : decode cX5_curve 175 = .ok (.aload_n 0, 1) := by decide +kernel
theorem dX5_curve_176 : decode cX5_curve 176 = .ok (.bipush 11, 2) := by decide +kernel
theorem dX5_curve_178 : decode cX5_curve 178 = .ok (.bipush 13, 2) := by decide +kernel
theorem dX5_curve_180 : decode cX5_curve 180 = .ok (.invokevirtual 80, 3) := by decide +kernel
theorem dX5_curve_183 : decode cX5_curve 183 = .ok (.aload_n 0, 1) := by decide +kernel
theorem dX5_curve_184 : decode cX5_curve 184 = .ok (.getfield 38, 3) := by decide +kernel
theorem dX5_curve_187 : decode cX5_curve 187 = .ok (.sipush 176, 3) := by decide +kernel
theorem dX5_curve_190 : decode cX5_curve 190 = .ok (.aload_n 0, 1) := by decide +kernel
theorem dX5_curve_191 : decode cX5_curve 191 = .ok (.getfield 38, 3) := by decide +kernel
theorem dX5_curve_194 : decode cX5_curve 194 = .ok (.sipush 176, 3) := by decide +kernel
theorem dX5_curve_197 : decode cX5_curve 197 = .ok (.iaload, 1) := by decide +kernel
theorem dX5_curve_198 : decode cX5_curve 198 = .ok (.aload_n 0, 1) := by decide +kernel
theorem dX5_curve_199 : decode cX5_curve 199 = .ok (.getfield 38, 3) := by decide +kernel
theorem dX5_curve_202 : decode cX5_curve 202 = .ok (.sipush 160, 3) := by decide +kernel
theorem dX5_curve_205 : decode cX5_curve 205 = .ok (.iload 5, 2) := by decide +kernel
theorem dX5_curve_207 : decode cX5_curve 207 = .ok (.iadd, 1) := by decide +kernel
theorem dX5_curve_208 : decode cX5_curve 208 = .ok (.iaload, 1) := by decide +kernel
theorem dX5_curve_209 : decode cX5_curve 209 = .ok (.iadd, 1) := by decide +kernel
theorem dX5_curve_210 : decode cX5_curve 210 = .ok (.aload_n 0, 1) := by decide +kernel
theorem dX5_curve_211 : decode cX5_curve 211 = .ok (.getfield 7, 3) := by decide +kernel
theorem dX5_curve_214 : decode cX5_curve 214 = .ok (.irem, 1) := by decide +kernel
theorem dX5_curve_215 : decode cX5_curve 215 = .ok (.iastore, 1) := by decide +kernel
theorem dX5_curve_216 : decode cX5_curve 216 = .ok (.iinc 5 (-1), 3) := by decide +kernel
theorem dX5_curve_219 : decode cX5_curve 219 = .ok (.goto (-59), 3) := by decide +kernel
theorem dX5_curve_222 : decode cX5_curve 222 = .ok (.aload_n 0, 1) := by decide +kernel
theorem dX5_curve_223 : decode cX5_curve 223 = .ok (.bipush 10, 2) := by decide +kernel
theorem dX5_curve_225 : decode cX5_curve 225 = .ok (.bipush 11, 2) := by decide +kernel
theorem dX5_curve_227 : decode cX5_curve 227 = .ok (.invokevirtual 80, 3) := by decide +kernel
theorem dX5_curve_230 : decode cX5_curve 230 = .ok (.iload_n 1, 1) := by decide +kernel
theorem dX5_curve_231 : decode cX5_curve 231 = .ok (.ifCond .le 13, 3) := by decide +kernel
theorem dX5_curve_234 : decode cX5_curve 234 = .ok (.aload_n 0, 1) := by decide +kernel
theorem dX5_curve_235 : decode cX5_curve 235 = .ok (.bipush 10, 2) := by decide +kernel
theorem dX5_curve_237 : decode cX5_curve 237 = .ok (.aload_n 0, 1) := by decide +kernel
theorem dX5_curve_238 : decode cX5_curve 238 = .ok (.getfield 117, 3) := by decide +kernel
theorem dX5_curve_241 : decode cX5_curve 241 = .ok (.invokevirtual 101, 3) := by decide +kernel
theorem dX5_curve_244 : decode cX5_curve 244 = .ok (.iconst 0, 1) := by decide +kernel
theorem dX5_curve_245 : decode cX5_curve 245 = .ok (.istore 5, 2) := by decide +kernel
theorem dX5_curve_247 : decode cX5_curve 247 = .ok (.iload 5, 2) := by decide +kernel
theorem dX5_curve_249 : decode cX5_curve 249 = .ok (.bipush 16, 2) := by decide +kernel
theorem dX5_curve_251 : decode cX5_curve 251 = .ok (.if_icmp .ge 33, 3) := by decide +kernel
theorem dX5_curve_254 : decode cX5_curve 254 = .ok (.aload_n 0, 1) := by decide +kernel
theorem dX5_curve_255 : decode cX5_curve 255 = .ok (.getfield 32, 3) := by decide +kernel
theorem dX5_curve_258 : decode cX5_curve 258 = .ok (.bipush 16, 2) := by decide +kernel
theorem dX5_curve_260 : decode cX5_curve 260 = .ok (.iload 4, 2) := by decide +kernel
theorem dX5_curve_262 : decode cX5_curve 262 = .ok (.imul, 1) := by decide +kernel
theorem dX5_curve_263 : decode cX5_curve 263 = .ok (.iload 5, 2) := by decide +kernel
theorem dX5_curve_265 : decode cX5_curve 265 = .ok (.iadd, 1) := by decide +kernel
theorem dX5_curve_266 : decode cX5_curve 266 = .ok (.aload_n 0, 1) := by decide +kernel
theorem dX5_curve_267 : decode cX5_curve 267 = .ok (.getfield 38, 3) := by decide +kernel
theorem dX5_curve_270 : decode cX5_curve 270 = .ok (.sipush 160, 3) := by decide +kernel
theorem dX5_curve_273 : decode cX5_curve 273 = .ok (.iload 5, 2) := by decide +kernel
theorem dX5_curve_275 : decode cX5_curve 275 = .ok (.iadd, 1) := by decide +kernel
theorem dX5_curve_276 : decode cX5_curve 276 = .ok (.iaload, 1) := by decide +kernel
theorem dX5_curve_277 : decode cX5_curve 277 = .ok (.iastore, 1) := by decide +kernel
theorem dX5_curve_278 : decode cX5_curve 278 = .ok (.iinc 5 1, 3) := by decide +kernel
theorem dX5_curve_281 : decode cX5_curve 281 = .ok (.goto (-34), 3) := by decide +kernel
theorem dX5_curve_284 : decode cX5_curve 284 = .ok (.aload_n 0, 1) := by decide +kernel
theorem dX5_curve_285 : decode cX5_curve 285 = .ok (.dup, 1) := by decide +kernel
theorem dX5_curve_286 : decode cX5_curve 286 = .ok (.getfield 108, 3) := by decide +kernel
theorem dX5_curve_289 : decode cX5_curve 289 = .ok (.iconst 1, 1) := by decide +kernel
theorem dX5_curve_290 : decode cX5_curve 290 = .ok (.iadd, 1) := by decide +kernel
theorem dX5_curve_291 : decode cX5_curve 291 = .ok (.putfield 108, 3) := by decide +kernel
theorem dX5_curve_294 : decode cX5_curve 294 = .ok (.iload 4, 2) := by decide +kernel
theorem dX5_curve_296 : decode cX5_curve 296 = .ok (.ireturn, 1) := by decide +kernel
theorem dX5_knot_0 : decode cX5_knot 0 = .ok (.aload_n 0, 1) := by decide +kernel
theorem dX5_knot_1 : decode cX5_knot 1 = .ok (.iconst 0, 1) := by decide +kernel
theorem dX5_knot_2 : decode cX5_knot 2 = .ok (.putfield 67, 3) := by decide +kernel
theorem dX5_knot_5 : decode cX5_knot 5 = .ok (.aload_n 0, 1) := by decide +kernel
theorem dX5_knot_6 : decode cX5_knot 6 = .ok (.getfield 35, 3) := by decide +kernel
theorem dX5_knot_9 : decode cX5_knot 9 = .ok (.ireturn, 1) := by decide +kernel
theorem dX5_about_0 : decode cX5_about 0 = .ok (.aload_n 0, 1) := by decide +kernel
theorem dX5_about_1 : decode cX5_about 1 = .ok (.iconst 0, 1) := by decide +kernel
theorem dX5_about_2 : decode cX5_about 2 = .ok (.putfield 67, 3) := by decide +kernel
theorem dX5_about_5 : decode cX5_about 5 = .ok (.aload_n 0, 1) := by decide +kernel
theorem dX5_about_6 : decode cX5_about 6 = .ok (.iload_n 1, 1) := by decide +kernel
theorem dX5_about_7 : decode cX5_about 7 = .ok (.invokevirtual 164, 3) := by decide +kernel
theorem dX5_about_10 : decode cX5_about 10 = .ok (.ifCond .eq 15, 3) := by decide +kernel
theorem dX5_about_13 : decode cX5_about 13 = .ok (.iload_n 2, 1) := by decide +kernel
theorem dX5_about_14 : decode cX5_about 14 = .ok (.i2l, 1) := by decide +kernel
theorem dX5_about_15 : decode cX5_about 15 = .ok (.lconst 0, 1) := by decide +kernel
theorem dX5_about_16 : decode cX5_about 16 = .ok (.ldc2_w 167, 3) := by decide +kernel
theorem dX5_about_19 : decode cX5_about 19 = .ok (.invokestatic 127, 3) := by decide +kernel
theorem dX5_about_22 : decode cX5_about 22 = .ok (.ifCond .ne 5, 3) := by decide +kernel
theorem dX5_about_25 : decode cX5_about 25 = .ok (.iconst (-1), 1) := by decide +kernel
theorem dX5_about_26 : decode cX5_about 26 = .ok (.ireturn, 1) := by decide +kernel
theorem dX5_about_27 : decode cX5_about 27 = .ok (.iload_n 2, 1) := by decide +kernel
theorem dX5_about_28 : decode cX5_about 28 = .ok (.tableswitch 69 0 4 #[36, 43, 50, 57, 63], 36) := by decide +kernel
theorem dX5_about_64 : decode cX5_about 64 = .ok (.aload_n 0, 1) := by decide +kernel
theorem dX5_about_65 : decode cX5_about 65 = .ok (.getfield 23, 3) := by decide +kernel
theorem dX5_about_68 : decode cX5_about 68 = .ok (.iload_n 1, 1) := by decide +kernel
theorem dX5_about_69 : decode cX5_about 69 = .ok (.iaload, 1) := by decide +kernel
theorem dX5_about_70 : decode cX5_about 70 = .ok (.ireturn, 1) := by decide +kernel
theorem dX5_about_71 : decode cX5_about 71 = .ok (.aload_n 0, 1) := by decide +kernel
theorem dX5_about_72 : decode cX5_about 72 = .ok (.getfield 26, 3) := by decide +kernel
theorem dX5_about_75 : decode cX5_about 75 = .ok (.iload_n 1, 1) := by decide +kernel
theorem dX5_about_76 : decode cX5_about 76 = .ok (.iaload, 1) := by decide +kernel
theorem dX5_about_77 : decode cX5_about 77 = .ok (.ireturn, 1) := by decide +kernel
theorem dX5_about_78 : decode cX5_about 78 = .ok (.aload_n 0, 1) := by decide +kernel
theorem dX5_about_79 : decode cX5_about 79 = .ok (.getfield 29, 3) := by decide +kernel
theorem dX5_about_82 : decode cX5_about 82 = .ok (.iload_n 1, 1) := by decide +kernel
theorem dX5_about_83 : decode cX5_about 83 = .ok (.iaload, 1) := by decide +kernel
theorem dX5_about_84 : decode cX5_about 84 = .ok (.ireturn, 1) := by decide +kernel
theorem dX5_about_85 : decode cX5_about 85 = .ok (.aload_n 0, 1) := by decide +kernel
theorem dX5_about_86 : decode cX5_about 86 = .ok (.iload_n 1, 1) := by decide +kernel
theorem dX5_about_87 : decode cX5_about 87 = .ok (.invokevirtual 146, 3) := by decide +kernel
theorem dX5_about_90 : decode cX5_about 90 = .ok (.ireturn, 1) := by decide +kernel
theorem dX5_about_91 : decode cX5_about 91 = .ok (.aload_n 0, 1) := by decide +kernel
theorem dX5_about_92 : decode cX5_about 92 = .ok (.iload_n 1, 1) := by decide +kernel
theorem dX5_about_93 : decode cX5_about 93 = .ok (.invokevirtual 169, 3) := by decide +kernel
theorem dX5_about_96 : decode cX5_about 96 = .ok (.ireturn, 1) := by decide +kernel
theorem dX5_about_97 : decode cX5_about 97 = .ok (.aload_n 0, 1) := by decide +kernel
theorem dX5_about_98 : decode cX5_about 98 = .ok (.bipush 10, 2) := by decide +kernel
theorem dX5_about_100 : decode cX5_about 100 = .ok (.iload_n 1, 1) := by decide +kernel
theorem dX5_about_101 : decode cX5_about 101 = .ok (.invokevirtual 172, 3) := by decide +kernel
theorem dX5_about_104 : decode cX5_about 104 = .ok (.aload_n 0, 1) := by decide +kernel
theorem dX5_about_105 : decode cX5_about 105 = .ok (.bipush 10, 2) := by decide +kernel
theorem dX5_about_107 : decode cX5_about 107 = .ok (.invokevirtual 120, 3) := by decide +kernel
theorem dX5_about_110 : decode cX5_about 110 = .ok (.ireturn, 1) := by decide +kernel
theorem dX5_valueOf_0 : decode cX5_valueOf 0 = .ok (.iconst 0, 1) := by decide +kernel
theorem dX5_valueOf_1 : decode cX5_valueOf 1 = .ok (.istore 4, 2) := by decide +kernel
theorem dX5_valueOf_3 : decode cX5_valueOf 3 = .ok (.bipush 6, 2) := by decide +kernel
theorem dX5_valueOf_5 : decode cX5_valueOf 5 = .ok (.istore 5, 2) := by decide +kernel
theorem dX5_valueOf_7 : decode cX5_valueOf 7 = .ok (.iload 5, 2) := by decide +kernel
theorem dX5_valueOf_9 : decode cX5_valueOf 9 = .ok (.ifCond .lt 35, 3) := by decide +kernel
theorem dX5_valueOf_12 : decode cX5_valueOf 12 = .ok (.aload_n 0, 1) := by decide +kernel
theorem dX5_valueOf_13 : decode cX5_valueOf 13 = .ok (.aload_n 0, 1) := by decide +kernel
theorem dX5_valueOf_14 : decode cX5_valueOf 14 = .ok (.iload_n 2, 1) := by decide +kernel
theorem dX5_valueOf_15 : decode cX5_valueOf 15 = .ok (.iload 4, 2) := by decide +kernel
theorem dX5_valueOf_17 : decode cX5_valueOf 17 = .ok (.iload_n 3, 1) := by decide +kernel
theorem dX5_valueOf_18 : decode cX5_valueOf 18 = .ok (.invokevirtual 123, 3) := by decide +kernel
theorem dX5_valueOf_21 : decode cX5_valueOf 21 = .ok (.aload_n 0, 1) := by decide +kernel
theorem dX5_valueOf_22 : decode cX5_valueOf 22 = .ok (.getfield 32, 3) := by decide +kernel
theorem dX5_valueOf_25 : decode cX5_valueOf 25 = .ok (.bipush 16, 2) := by decide +kernel
theorem dX5_valueOf_27 : decode cX5_valueOf 27 = .ok (.iload_n 1, 1) := by decide +kernel
theorem dX5_valueOf_28 : decode cX5_valueOf 28 = .ok (.imul, 1) := by decide +kernel
theorem dX5_valueOf_29 : decode cX5_valueOf 29 = .ok (.iload 5, 2) := by decide +kernel
theorem dX5_valueOf_31 : decode cX5_valueOf 31 = .ok (.iadd, 1) := by decide +kernel
theorem dX5_valueOf_32 : decode cX5_valueOf 32 = .ok (.iaload, 1) := by decide +kernel
theorem dX5_valueOf_33 : decode cX5_valueOf 33 = .ok (.invokevirtual 139, 3) := by decide +kernel
theorem dX5_valueOf_36 : decode cX5_valueOf 36 = .ok (.istore 4, 2) := by decide +kernel
theorem dX5_valueOf_38 : decode cX5_valueOf 38 = .ok (.iinc 5 (-1), 3) := by decide +kernel
theorem dX5_valueOf_41 : decode cX5_valueOf 41 = .ok (.goto (-34), 3) := by decide +kernel
theorem dX5_valueOf_44 : decode cX5_valueOf 44 = .ok (.iload 4, 2) := by decide +kernel
theorem dX5_valueOf_46 : decode cX5_valueOf 46 = .ok (.ireturn, 1) := by decide +kernel
theorem dX5_value_0 : decode cX5_value 0 = .ok (.aload_n 0, 1) := by decide +kernel
theorem dX5_value_1 : decode cX5_value 1 = .ok (.iconst 0, 1) := by decide +kernel
theorem dX5_value_2 : decode cX5_value 2 = .ok (.putfield 67, 3) := by decide +kernel
theorem dX5_value_5 : decode cX5_value 5 = .ok (.aload_n 0, 1) := by decide +kernel
theorem dX5_value_6 : decode cX5_value 6 = .ok (.iload_n 1, 1) := by decide +kernel
theorem dX5_value_7 : decode cX5_value 7 = .ok (.invokevirtual 164, 3) := by decide +kernel
theorem dX5_value_10 : decode cX5_value 10 = .ok (.ifCond .eq 12, 3) := by decide +kernel
theorem dX5_value_13 : decode cX5_value 13 = .ok (.aload_n 0, 1) := by decide +kernel
theorem dX5_value_14 : decode cX5_value 14 = .ok (.iload_n 2, 1) := by decide +kernel
theorem dX5_value_15 : decode cX5_value 15 = .ok (.iload_n 3, 1) := by decide +kernel
theorem dX5_value_16 : decode cX5_value 16 = .ok (.invokevirtual 135, 3) := by decide +kernel
theorem dX5_value_19 : decode cX5_value 19 = .ok (.ifCond .ne 5, 3) := by decide +kernel
theorem dX5_value_22 : decode cX5_value 22 = .ok (.iconst (-1), 1) := by decide +kernel
theorem dX5_value_23 : decode cX5_value 23 = .ok (.ireturn, 1) := by decide +kernel
theorem dX5_value_24 : decode cX5_value 24 = .ok (.aload_n 0, 1) := by decide +kernel
theorem dX5_value_25 : decode cX5_value 25 = .ok (.dup, 1) := by decide +kernel
theorem dX5_value_26 : decode cX5_value 26 = .ok (.getfield 175, 3) := by decide +kernel
theorem dX5_value_29 : decode cX5_value 29 = .ok (.aload_n 0, 1) := by decide +kernel
theorem dX5_value_30 : decode cX5_value 30 = .ok (.getfield 23, 3) := by decide +kernel
theorem dX5_value_33 : decode cX5_value 33 = .ok (.iload_n 1, 1) := by decide +kernel
theorem dX5_value_34 : decode cX5_value 34 = .ok (.iaload, 1) := by decide +kernel
theorem dX5_value_35 : decode cX5_value 35 = .ok (.ifCond .ne 7, 3) := by decide +kernel
theorem dX5_value_38 : decode cX5_value 38 = .ok (.lconst 1, 1) := by decide +kernel
theorem dX5_value_39 : decode cX5_value 39 = .ok (.goto 22, 3) := by decide +kernel
theorem dX5_value_42 : decode cX5_value 42 = .ok (.aload_n 0, 1) := by decide +kernel
theorem dX5_value_43 : decode cX5_value 43 = .ok (.getfield 23, 3) := by decide +kernel
theorem dX5_value_46 : decode cX5_value 46 = .ok (.iload_n 1, 1) := by decide +kernel
theorem dX5_value_47 : decode cX5_value 47 = .ok (.iaload, 1) := by decide +kernel
theorem dX5_value_48 : decode cX5_value 48 = .ok (.iconst 1, 1) := by decide +kernel
theorem dX5_value_49 : decode cX5_value 49 = .ok (.if_icmp .ne 9, 3) := by decide +kernel
theorem dX5_value_52 : decode cX5_value 52 = .ok (.ldc2_w 179, 3) := by decide +kernel
theorem dX5_value_55 : decode cX5_value 55 = .ok (.goto 6, 3) := by decide +kernel
theorem dX5_value_58 : decode cX5_value 58 = .ok (.ldc2_w 181, 3) := by decide +kernel
theorem dX5_value_61 : decode cX5_value 61 = .ok (.ladd, 1) := by decide +kernel
theorem dX5_value_62 : decode cX5_value 62 = .ok (.putfield 175, 3) := by decide +kernel
theorem dX5_value_65 : decode cX5_value 65 = .ok (.aload_n 0, 1) := by decide +kernel
theorem dX5_value_66 : decode cX5_value 66 = .ok (.iload_n 1, 1) := by decide +kernel
theorem dX5_value_67 : decode cX5_value 67 = .ok (.iload_n 2, 1) := by decide +kernel
theorem dX5_value_68 : decode cX5_value 68 = .ok (.iload_n 3, 1) := by decide +kernel
theorem dX5_value_69 : decode cX5_value 69 = .ok (.invokevirtual 183, 3) := by decide +kernel
theorem dX5_value_72 : decode cX5_value 72 = .ok (.ireturn, 1) := by decide +kernel
theorem dX5_beyondOf_0 : decode cX5_beyondOf 0 = .ok (.aload_n 0, 1) := by decide +kernel
theorem dX5_beyondOf_1 : decode cX5_beyondOf 1 = .ok (.iload_n 1, 1) := by decide +kernel
theorem dX5_beyondOf_2 : decode cX5_beyondOf 2 = .ok (.invokevirtual 146, 3) := by decide +kernel
theorem dX5_beyondOf_5 : decode cX5_beyondOf 5 = .ok (.istore_n 3, 1) := by decide +kernel
theorem dX5_beyondOf_6 : decode cX5_beyondOf 6 = .ok (.aload_n 0, 1) := by decide +kernel
theorem dX5_beyondOf_7 : decode cX5_beyondOf 7 = .ok (.iload_n 2, 1) := by decide +kernel
theorem dX5_beyondOf_8 : decode cX5_beyondOf 8 = .ok (.invokevirtual 114, 3) := by decide +kernel
theorem dX5_beyondOf_11 : decode cX5_beyondOf 11 = .ok (.iload_n 3, 1) := by decide +kernel
theorem dX5_beyondOf_12 : decode cX5_beyondOf 12 = .ok (.iconst 2, 1) := by decide +kernel
theorem dX5_beyondOf_13 : decode cX5_beyondOf 13 = .ok (.irem, 1) := by decide +kernel
theorem dX5_beyondOf_14 : decode cX5_beyondOf 14 = .ok (.iconst 1, 1) := by decide +kernel
theorem dX5_beyondOf_15 : decode cX5_beyondOf 15 = .ok (.if_icmp .ne 7, 3) := by decide +kernel
theorem dX5_beyondOf_18 : decode cX5_beyondOf 18 = .ok (.iconst 1, 1) := by decide +kernel
theorem dX5_beyondOf_19 : decode cX5_beyondOf 19 = .ok (.goto 28, 3) := by decide +kernel
theorem dX5_beyondOf_22 : decode cX5_beyondOf 22 = .ok (.aload_n 0, 1) := by decide +kernel
theorem dX5_beyondOf_23 : decode cX5_beyondOf 23 = .ok (.getfield 41, 3) := by decide +kernel
theorem dX5_beyondOf_26 : decode cX5_beyondOf 26 = .ok (.aload_n 0, 1) := by decide +kernel
theorem dX5_beyondOf_27 : decode cX5_beyondOf 27 = .ok (.getfield 32, 3) := by decide +kernel
theorem dX5_beyondOf_30 : decode cX5_beyondOf 30 = .ok (.bipush 16, 2) := by decide +kernel
theorem dX5_beyondOf_32 : decode cX5_beyondOf 32 = .ok (.iload_n 1, 1) := by decide +kernel
theorem dX5_beyondOf_33 : decode cX5_beyondOf 33 = .ok (.imul, 1) := by decide +kernel
theorem dX5_beyondOf_34 : decode cX5_beyondOf 34 = .ok (.iload_n 3, 1) := by decide +kernel
theorem dX5_beyondOf_35 : decode cX5_beyondOf 35 = .ok (.iadd, 1) := by decide +kernel
theorem dX5_beyondOf_36 : decode cX5_beyondOf 36 = .ok (.iaload, 1) := by decide +kernel
theorem dX5_beyondOf_37 : decode cX5_beyondOf 37 = .ok (.iaload, 1) := by decide +kernel
theorem dX5_beyondOf_38 : decode cX5_beyondOf 38 = .ok (.iconst 1, 1) := by decide +kernel
theorem dX5_beyondOf_39 : decode cX5_beyondOf 39 = .ok (.if_icmp .ne 7, 3) := by decide +kernel
theorem dX5_beyondOf_42 : decode cX5_beyondOf 42 = .ok (.iconst 2, 1) := by decide +kernel
theorem dX5_beyondOf_43 : decode cX5_beyondOf 43 = .ok (.goto 4, 3) := by decide +kernel
theorem dX5_beyondOf_46 : decode cX5_beyondOf 46 = .ok (.iconst 0, 1) := by decide +kernel
theorem dX5_beyondOf_47 : decode cX5_beyondOf 47 = .ok (.ireturn, 1) := by decide +kernel
theorem dX5_countOf_0 : decode cX5_countOf 0 = .ok (.aload_n 0, 1) := by decide +kernel
theorem dX5_countOf_1 : decode cX5_countOf 1 = .ok (.iload_n 2, 1) := by decide +kernel
theorem dX5_countOf_2 : decode cX5_countOf 2 = .ok (.invokevirtual 114, 3) := by decide +kernel
theorem dX5_countOf_5 : decode cX5_countOf 5 = .ok (.iconst 0, 1) := by decide +kernel
theorem dX5_countOf_6 : decode cX5_countOf 6 = .ok (.istore_n 3, 1) := by decide +kernel
theorem dX5_countOf_7 : decode cX5_countOf 7 = .ok (.iconst 0, 1) := by decide +kernel
theorem dX5_countOf_8 : decode cX5_countOf 8 = .ok (.istore 4, 2) := by decide +kernel
theorem dX5_countOf_10 : decode cX5_countOf 10 = .ok (.iload 4, 2) := by decide +kernel
theorem dX5_countOf_12 : decode cX5_countOf 12 = .ok (.aload_n 0, 1) := by decide +kernel
theorem dX5_countOf_13 : decode cX5_countOf 13 = .ok (.getfield 16, 3) := by decide +kernel
theorem dX5_countOf_16 : decode cX5_countOf 16 = .ok (.iload_n 2, 1) := by decide +kernel
theorem dX5_countOf_17 : decode cX5_countOf 17 = .ok (.iaload, 1) := by decide +kernel
theorem dX5_countOf_18 : decode cX5_countOf 18 = .ok (.if_icmp .ge 27, 3) := by decide +kernel
theorem dX5_countOf_21 : decode cX5_countOf 21 = .ok (.iload_n 3, 1) := by decide +kernel
theorem dX5_countOf_22 : decode cX5_countOf 22 = .ok (.iconst 1, 1) := by decide +kernel
theorem dX5_countOf_23 : decode cX5_countOf 23 = .ok (.aload_n 0, 1) := by decide +kernel
theorem dX5_countOf_24 : decode cX5_countOf 24 = .ok (.getfield 41, 3) := by decide +kernel
theorem dX5_countOf_27 : decode cX5_countOf 27 = .ok (.aload_n 0, 1) := by decide +kernel
theorem dX5_countOf_28 : decode cX5_countOf 28 = .ok (.iload_n 1, 1) := by decide +kernel
theorem dX5_countOf_29 : decode cX5_countOf 29 = .ok (.iload_n 2, 1) := by decide +kernel
theorem dX5_countOf_30 : decode cX5_countOf 30 = .ok (.iload 4, 2) := by decide +kernel
theorem dX5_countOf_32 : decode cX5_countOf 32 = .ok (.invokevirtual 183, 3) := by decide +kernel
theorem dX5_countOf_35 : decode cX5_countOf 35 = .ok (.iaload, 1) := by decide +kernel
theorem dX5_countOf_36 : decode cX5_countOf 36 = .ok (.iadd, 1) := by decide +kernel
theorem dX5_countOf_37 : decode cX5_countOf 37 = .ok (.iadd, 1) := by decide +kernel
theorem dX5_countOf_38 : decode cX5_countOf 38 = .ok (.istore_n 3, 1) := by decide +kernel
theorem dX5_countOf_39 : decode cX5_countOf 39 = .ok (.iinc 4 1, 3) := by decide +kernel
theorem dX5_countOf_42 : decode cX5_countOf 42 = .ok (.goto (-32), 3) := by decide +kernel
theorem dX5_countOf_45 : decode cX5_countOf 45 = .ok (.iload_n 3, 1) := by decide +kernel
theorem dX5_countOf_46 : decode cX5_countOf 46 = .ok (.aload_n 0, 1) := by decide +kernel
theorem dX5_countOf_47 : decode cX5_countOf 47 = .ok (.iload_n 1, 1) := by decide +kernel
theorem dX5_countOf_48 : decode cX5_countOf 48 = .ok (.iload_n 2, 1) := by decide +kernel
theorem dX5_countOf_49 : decode cX5_countOf 49 = .ok (.invokevirtual 186, 3) := by decide +kernel
theorem dX5_countOf_52 : decode cX5_countOf 52 = .ok (.iadd, 1) := by decide +kernel
theorem dX5_countOf_53 : decode cX5_countOf 53 = .ok (.ireturn, 1) := by decide +kernel
theorem dX5_count_0 : decode cX5_count 0 = .ok (.aload_n 0, 1) := by decide +kernel
theorem dX5_count_1 : decode cX5_count 1 = .ok (.iconst 0, 1) := by decide +kernel
theorem dX5_count_2 : decode cX5_count 2 = .ok (.putfield 67, 3) := by decide +kernel
theorem dX5_count_5 : decode cX5_count 5 = .ok (.aload_n 0, 1) := by decide +kernel
theorem dX5_count_6 : decode cX5_count 6 = .ok (.iload_n 1, 1) := by decide +kernel
theorem dX5_count_7 : decode cX5_count 7 = .ok (.invokevirtual 164, 3) := by decide +kernel
theorem dX5_count_10 : decode cX5_count 10 = .ok (.ifCond .eq 20, 3) := by decide +kernel
theorem dX5_count_13 : decode cX5_count 13 = .ok (.aload_n 0, 1) := by decide +kernel
theorem dX5_count_14 : decode cX5_count 14 = .ok (.iload_n 2, 1) := by decide +kernel
theorem dX5_count_15 : decode cX5_count 15 = .ok (.invokevirtual 131, 3) := by decide +kernel
theorem dX5_count_18 : decode cX5_count 18 = .ok (.ifCond .eq 12, 3) := by decide +kernel
theorem dX5_count_21 : decode cX5_count 21 = .ok (.aload_n 0, 1) := by decide +kernel
theorem dX5_count_22 : decode cX5_count 22 = .ok (.iload_n 1, 1) := by decide +kernel
theorem dX5_count_23 : decode cX5_count 23 = .ok (.iload_n 2, 1) := by decide +kernel
theorem dX5_count_24 : decode cX5_count 24 = .ok (.invokevirtual 189, 3) := by decide +kernel
theorem dX5_count_27 : decode cX5_count 27 = .ok (.goto 4, 3) := by decide +kernel
theorem dX5_count_30 : decode cX5_count 30 = .ok (.iconst (-1), 1) := by decide +kernel
theorem dX5_count_31 : decode cX5_count 31 = .ok (.ireturn, 1) := by decide +kernel
theorem dX5_beyond_0 : decode cX5_beyond 0 = .ok (.aload_n 0, 1) := by decide +kernel
theorem dX5_beyond_1 : decode cX5_beyond 1 = .ok (.iconst 0, 1) := by decide +kernel
theorem dX5_beyond_2 : decode cX5_beyond 2 = .ok (.putfield 67, 3) := by decide +kernel
theorem dX5_beyond_5 : decode cX5_beyond 5 = .ok (.aload_n 0, 1) := by decide +kernel
theorem dX5_beyond_6 : decode cX5_beyond 6 = .ok (.iload_n 1, 1) := by decide +kernel
theorem dX5_beyond_7 : decode cX5_beyond 7 = .ok (.invokevirtual 164, 3) := by decide +kernel
theorem dX5_beyond_10 : decode cX5_beyond 10 = .ok (.ifCond .eq 20, 3) := by decide +kernel
theorem dX5_beyond_13 : decode cX5_beyond 13 = .ok (.aload_n 0, 1) := by decide +kernel
theorem dX5_beyond_14 : decode cX5_beyond 14 = .ok (.iload_n 2, 1) := by decide +kernel
theorem dX5_beyond_15 : decode cX5_beyond 15 = .ok (.invokevirtual 131, 3) := by decide +kernel
theorem dX5_beyond_18 : decode cX5_beyond 18 = .ok (.ifCond .eq 12, 3) := by decide +kernel
theorem dX5_beyond_21 : decode cX5_beyond 21 = .ok (.aload_n 0, 1) := by decide +kernel
theorem dX5_beyond_22 : decode cX5_beyond 22 = .ok (.iload_n 1, 1) := by decide +kernel
theorem dX5_beyond_23 : decode cX5_beyond 23 = .ok (.iload_n 2, 1) := by decide +kernel
theorem dX5_beyond_24 : decode cX5_beyond 24 = .ok (.invokevirtual 186, 3) := by decide +kernel
theorem dX5_beyond_27 : decode cX5_beyond 27 = .ok (.goto 4, 3) := by decide +kernel
theorem dX5_beyond_30 : decode cX5_beyond 30 = .ok (.iconst (-1), 1) := by decide +kernel
theorem dX5_beyond_31 : decode cX5_beyond 31 = .ok (.ireturn, 1) := by decide +kernel
theorem dX5_needShares_0 : decode cX5_needShares 0 = .ok (.aload_n 0, 1) := by decide +kernel
theorem dX5_needShares_1 : decode cX5_needShares 1 = .ok (.iload_n 1, 1) := by decide +kernel
theorem dX5_needShares_2 : decode cX5_needShares 2 = .ok (.invokevirtual 169, 3) := by decide +kernel
theorem dX5_needShares_5 : decode cX5_needShares 5 = .ok (.istore_n 2, 1) := by decide +kernel
theorem dX5_needShares_6 : decode cX5_needShares 6 = .ok (.aload_n 0, 1) := by decide +kernel
theorem dX5_needShares_7 : decode cX5_needShares 7 = .ok (.getfield 56, 3) := by decide +kernel
theorem dX5_needShares_10 : decode cX5_needShares 10 = .ok (.iconst 0, 1) := by decide +kernel
theorem dX5_needShares_11 : decode cX5_needShares 11 = .ok (.iconst 1, 1) := by decide +kernel
theorem dX5_needShares_12 : decode cX5_needShares 12 = .ok (.iastore, 1) := by decide +kernel
theorem dX5_needShares_13 : decode cX5_needShares 13 = .ok (.aload_n 0, 1) := by decide +kernel
theorem dX5_needShares_14 : decode cX5_needShares 14 = .ok (.getfield 56, 3) := by decide +kernel
theorem dX5_needShares_17 : decode cX5_needShares 17 = .ok (.iconst 1, 1) := by decide +kernel
theorem dX5_needShares_18 : decode cX5_needShares 18 = .ok (.aload_n 0, 1) := by decide +kernel
theorem dX5_needShares_19 : decode cX5_needShares 19 = .ok (.iload_n 1, 1) := by decide +kernel
theorem dX5_needShares_20 : decode cX5_needShares 20 = .ok (.iconst 1, 1) := by decide +kernel
theorem dX5_needShares_21 : decode cX5_needShares 21 = .ok (.invokevirtual 189, 3) := by decide +kernel
theorem dX5_needShares_24 : decode cX5_needShares 24 = .ok (.aload_n 0, 1) := by decide +kernel
theorem dX5_needShares_25 : decode cX5_needShares 25 = .ok (.getfield 7, 3) := by decide +kernel
theorem dX5_needShares_28 : decode cX5_needShares 28 = .ok (.isub, 1) := by decide +kernel
theorem dX5_needShares_29 : decode cX5_needShares 29 = .ok (.iconst 1, 1) := by decide +kernel
theorem dX5_needShares_30 : decode cX5_needShares 30 = .ok (.isub, 1) := by decide +kernel
theorem dX5_needShares_31 : decode cX5_needShares 31 = .ok (.iastore, 1) := by decide +kernel
theorem dX5_needShares_32 : decode cX5_needShares 32 = .ok (.iload_n 2, 1) := by decide +kernel
theorem dX5_needShares_33 : decode cX5_needShares 33 = .ok (.iconst 1, 1) := by decide +kernel
theorem dX5_needShares_34 : decode cX5_needShares 34 = .ok (.if_icmp .ne 30, 3) := by decide +kernel
theorem dX5_needShares_37 : decode cX5_needShares 37 = .ok (.aload_n 0, 1) := by decide +kernel
theorem dX5_needShares_38 : decode cX5_needShares 38 = .ok (.getfield 56, 3) := by decide +kernel
theorem dX5_needShares_41 : decode cX5_needShares 41 = .ok (.iconst 2, 1) := by decide +kernel
theorem dX5_needShares_42 : decode cX5_needShares 42 = .ok (.aload_n 0, 1) := by decide +kernel
theorem dX5_needShares_43 : decode cX5_needShares 43 = .ok (.getfield 7, 3) := by decide +kernel
theorem dX5_needShares_46 : decode cX5_needShares 46 = .ok (.iastore, 1) := by decide +kernel
theorem dX5_needShares_47 : decode cX5_needShares 47 = .ok (.aload_n 0, 1) := by decide +kernel
theorem dX5_needShares_48 : decode cX5_needShares 48 = .ok (.getfield 56, 3) := by decide +kernel
theorem dX5_needShares_51 : decode cX5_needShares 51 = .ok (.iconst 3, 1) := by decide +kernel
theorem dX5_needShares_52 : decode cX5_needShares 52 = .ok (.iconst 0, 1) := by decide +kernel
theorem dX5_needShares_53 : decode cX5_needShares 53 = .ok (.iastore, 1) := by decide +kernel
theorem dX5_needShares_54 : decode cX5_needShares 54 = .ok (.aload_n 0, 1) := by decide +kernel
theorem dX5_needShares_55 : decode cX5_needShares 55 = .ok (.getfield 56, 3) := by decide +kernel
theorem dX5_needShares_58 : decode cX5_needShares 58 = .ok (.iconst 4, 1) := by decide +kernel
theorem dX5_needShares_59 : decode cX5_needShares 59 = .ok (.iconst 0, 1) := by decide +kernel
theorem dX5_needShares_60 : decode cX5_needShares 60 = .ok (.iastore, 1) := by decide +kernel
theorem dX5_needShares_61 : decode cX5_needShares 61 = .ok (.goto 75, 3) := by decide +kernel
theorem dX5_needShares_64 : decode cX5_needShares 64 = .ok (.aload_n 0, 1) := by decide +kernel
theorem dX5_needShares_65 : decode cX5_needShares 65 = .ok (.getfield 56, 3) := by decide +kernel
theorem dX5_needShares_68 : decode cX5_needShares 68 = .ok (.iconst 2, 1) := by decide +kernel
theorem dX5_needShares_69 : decode cX5_needShares 69 = .ok (.aload_n 0, 1) := by decide +kernel
