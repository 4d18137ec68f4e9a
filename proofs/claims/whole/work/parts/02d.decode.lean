theorem dX4_whole_44 : decode cX4_whole 44 = .ok (.iload 7, 2) := by decide +kernel
theorem dX4_whole_46 : decode cX4_whole 46 = .ok (.iadd, 1) := by decide +kernel
theorem dX4_whole_47 : decode cX4_whole 47 = .ok (.istore_n 3, 1) := by decide +kernel
theorem dX4_whole_48 : decode cX4_whole 48 = .ok (.iinc 6 1, 3) := by decide +kernel
theorem dX4_whole_51 : decode cX4_whole 51 = .ok (.goto (-22), 3) := by decide +kernel
theorem dX4_whole_54 : decode cX4_whole 54 = .ok (.iload_n 3, 1) := by decide +kernel
theorem dX4_whole_55 : decode cX4_whole 55 = .ok (.ireturn, 1) := by decide +kernel
theorem dX4_bound_0 : decode cX4_bound 0 = .ok (.iload_n 1, 1) := by decide +kernel
theorem dX4_bound_1 : decode cX4_bound 1 = .ok (.iconst 1, 1) := by decide +kernel
theorem dX4_bound_2 : decode cX4_bound 2 = .ok (.if_icmp .lt 8, 3) := by decide +kernel
theorem dX4_bound_5 : decode cX4_bound 5 = .ok (.iload_n 1, 1) := by decide +kernel
theorem dX4_bound_6 : decode cX4_bound 6 = .ok (.iconst 2, 1) := by decide +kernel
theorem dX4_bound_7 : decode cX4_bound 7 = .ok (.if_icmp .le 5, 3) := by decide +kernel
theorem dX4_bound_10 : decode cX4_bound 10 = .ok (.iconst (-1), 1) := by decide +kernel
theorem dX4_bound_11 : decode cX4_bound 11 = .ok (.ireturn, 1) := by decide +kernel
theorem dX4_bound_12 : decode cX4_bound 12 = .ok (.iconst 4, 1) := by decide +kernel
theorem dX4_bound_13 : decode cX4_bound 13 = .ok (.iload_n 1, 1) := by decide +kernel
theorem dX4_bound_14 : decode cX4_bound 14 = .ok (.imul, 1) := by decide +kernel
theorem dX4_bound_15 : decode cX4_bound 15 = .ok (.iload_n 1, 1) := by decide +kernel
theorem dX4_bound_16 : decode cX4_bound 16 = .ok (.imul, 1) := by decide +kernel
theorem dX4_bound_17 : decode cX4_bound 17 = .ok (.aload_n 0, 1) := by decide +kernel
theorem dX4_bound_18 : decode cX4_bound 18 = .ok (.getfield 10, 3) := by decide +kernel
theorem dX4_bound_21 : decode cX4_bound 21 = .ok (.getfield 91, 3) := by decide +kernel
theorem dX4_bound_24 : decode cX4_bound 24 = .ok (.imul, 1) := by decide +kernel
theorem dX4_bound_25 : decode cX4_bound 25 = .ok (.istore_n 2, 1) := by decide +kernel
theorem dX4_bound_26 : decode cX4_bound 26 = .ok (.iconst 0, 1) := by decide +kernel
theorem dX4_bound_27 : decode cX4_bound 27 = .ok (.istore_n 3, 1) := by decide +kernel
theorem dX4_bound_28 : decode cX4_bound 28 = .ok (.iload_n 3, 1) := by decide +kernel
theorem dX4_bound_29 : decode cX4_bound 29 = .ok (.iload_n 2, 1) := by decide +kernel
theorem dX4_bound_30 : decode cX4_bound 30 = .ok (.if_icmp .ge 20, 3) := by decide +kernel
theorem dX4_bound_33 : decode cX4_bound 33 = .ok (.iload_n 3, 1) := by decide +kernel
theorem dX4_bound_34 : decode cX4_bound 34 = .ok (.iconst 1, 1) := by decide +kernel
theorem dX4_bound_35 : decode cX4_bound 35 = .ok (.iadd, 1) := by decide +kernel
theorem dX4_bound_36 : decode cX4_bound 36 = .ok (.iload_n 3, 1) := by decide +kernel
theorem dX4_bound_37 : decode cX4_bound 37 = .ok (.iconst 1, 1) := by decide +kernel
theorem dX4_bound_38 : decode cX4_bound 38 = .ok (.iadd, 1) := by decide +kernel
theorem dX4_bound_39 : decode cX4_bound 39 = .ok (.imul, 1) := by decide +kernel
theorem dX4_bound_40 : decode cX4_bound 40 = .ok (.iload_n 2, 1) := by decide +kernel
theorem dX4_bound_41 : decode cX4_bound 41 = .ok (.if_icmp .gt 9, 3) := by decide +kernel
theorem dX4_bound_44 : decode cX4_bound 44 = .ok (.iinc 3 1, 3) := by decide +kernel
theorem dX4_bound_47 : decode cX4_bound 47 = .ok (.goto (-19), 3) := by decide +kernel
theorem dX4_bound_50 : decode cX4_bound 50 = .ok (.iload_n 3, 1) := by decide +kernel
theorem dX4_bound_51 : decode cX4_bound 51 = .ok (.ireturn, 1) := by decide +kernel
theorem dX4_surface_0 : decode cX4_surface 0 = .ok (.aload_n 0, 1) := by decide +kernel
theorem dX4_surface_1 : decode cX4_surface 1 = .ok (.iload_n 1, 1) := by decide +kernel
theorem dX4_surface_2 : decode cX4_surface 2 = .ok (.invokevirtual 130, 3) := by decide +kernel
theorem dX4_surface_5 : decode cX4_surface 5 = .ok (.astore 4, 2) := by decide +kernel
theorem dX4_surface_7 : decode cX4_surface 7 = .ok (.aload_n 0, 1) := by decide +kernel
theorem dX4_surface_8 : decode cX4_surface 8 = .ok (.iload_n 2, 1) := by decide +kernel
theorem dX4_surface_9 : decode cX4_surface 9 = .ok (.invokevirtual 130, 3) := by decide +kernel
theorem dX4_surface_12 : decode cX4_surface 12 = .ok (.astore 5, 2) := by decide +kernel
theorem dX4_surface_14 : decode cX4_surface 14 = .ok (.aload_n 0, 1) := by decide +kernel
theorem dX4_surface_15 : decode cX4_surface 15 = .ok (.iload_n 3, 1) := by decide +kernel
theorem dX4_surface_16 : decode cX4_surface 16 = .ok (.invokevirtual 56, 3) := by decide +kernel
theorem dX4_surface_19 : decode cX4_surface 19 = .ok (.astore 6, 2) := by decide +kernel
theorem dX4_surface_21 : decode cX4_surface 21 = .ok (.aload 4, 2) := by decide +kernel
theorem dX4_surface_23 : decode cX4_surface 23 = .ok (.ifnull 13, 3) := by decide +kernel
theorem dX4_surface_26 : decode cX4_surface 26 = .ok (.aload 5, 2) := by decide +kernel
theorem dX4_surface_28 : decode cX4_surface 28 = .ok (.ifnull 8, 3) := by decide +kernel
theorem dX4_surface_31 : decode cX4_surface 31 = .ok (.aload 6, 2) := by decide +kernel
theorem dX4_surface_33 : decode cX4_surface 33 = .ok (.ifnonnull 5, 3) := by decide +kernel
theorem dX4_surface_36 : decode cX4_surface 36 = .ok (.iconst (-1), 1) := by decide +kernel
theorem dX4_surface_37 : decode cX4_surface 37 = .ok (.ireturn, 1) := by decide +kernel
theorem dX4_surface_38 : decode cX4_surface 38 = .ok (.aload 6, 2) := by decide +kernel
theorem dX4_surface_40 : decode cX4_surface 40 = .ok (.aload 4, 2) := by decide +kernel
theorem dX4_surface_42 : decode cX4_surface 42 = .ok (.getfield 148, 3) := by decide +kernel
theorem dX4_surface_45 : decode cX4_surface 45 = .ok (.invokevirtual 173, 3) := by decide +kernel
theorem dX4_surface_48 : decode cX4_surface 48 = .ok (.aload 6, 2) := by decide +kernel
theorem dX4_surface_50 : decode cX4_surface 50 = .ok (.aload 5, 2) := by decide +kernel
theorem dX4_surface_52 : decode cX4_surface 52 = .ok (.getfield 148, 3) := by decide +kernel
theorem dX4_surface_55 : decode cX4_surface 55 = .ok (.invokevirtual 173, 3) := by decide +kernel
theorem dX4_surface_58 : decode cX4_surface 58 = .ok (.imul, 1) := by decide +kernel
theorem dX4_surface_59 : decode cX4_surface 59 = .ok (.istore 7, 2) := by decide +kernel
theorem dX4_surface_61 : decode cX4_surface 61 = .ok (.aload 6, 2) := by decide +kernel
theorem dX4_surface_63 : decode cX4_surface 63 = .ok (.getfield 60, 3) := by decide +kernel
theorem dX4_surface_66 : decode cX4_surface 66 = .ok (.aload 6, 2) := by decide +kernel
theorem dX4_surface_68 : decode cX4_surface 68 = .ok (.getfield 60, 3) := by decide +kernel
theorem dX4_surface_71 : decode cX4_surface 71 = .ok (.imul, 1) := by decide +kernel
theorem dX4_surface_72 : decode cX4_surface 72 = .ok (.iload 7, 2) := by decide +kernel
theorem dX4_surface_74 : decode cX4_surface 74 = .ok (.iadd, 1) := by decide +kernel
theorem dX4_surface_75 : decode cX4_surface 75 = .ok (.ireturn, 1) := by decide +kernel
theorem dX4_best_0 : decode cX4_best 0 = .ok (.aload_n 0, 1) := by decide +kernel
theorem dX4_best_1 : decode cX4_best 1 = .ok (.iconst 1, 1) := by decide +kernel
theorem dX4_best_2 : decode cX4_best 2 = .ok (.invokevirtual 56, 3) := by decide +kernel
theorem dX4_best_5 : decode cX4_best 5 = .ok (.astore 4, 2) := by decide +kernel
theorem dX4_best_7 : decode cX4_best 7 = .ok (.aload 4, 2) := by decide +kernel
theorem dX4_best_9 : decode cX4_best 9 = .ok (.ifnull 35, 3) := by decide +kernel
theorem dX4_best_12 : decode cX4_best 12 = .ok (.iload_n 1, 1) := by decide +kernel
theorem dX4_best_13 : decode cX4_best 13 = .ok (.iconst 3, 1) := by decide +kernel
theorem dX4_best_14 : decode cX4_best 14 = .ok (.if_icmp .lt 30, 3) := by decide +kernel
theorem dX4_best_17 : decode cX4_best 17 = .ok (.iload_n 1, 1) := by decide +kernel
theorem dX4_best_18 : decode cX4_best 18 = .ok (.bipush 6, 2) := by decide +kernel
theorem dX4_best_20 : decode cX4_best 20 = .ok (.if_icmp .gt 24, 3) := by decide +kernel
theorem dX4_best_23 : decode cX4_best 23 = .ok (.iload_n 2, 1) := by decide +kernel
theorem dX4_best_24 : decode cX4_best 24 = .ok (.ifCond .lt 20, 3) := by decide +kernel
theorem dX4_best_27 : decode cX4_best 27 = .ok (.iload_n 2, 1) := by decide +kernel
theorem dX4_best_28 : decode cX4_best 28 = .ok (.ldc 176, 2) := by decide +kernel
theorem dX4_best_30 : decode cX4_best 30 = .ok (.if_icmp .gt 14, 3) := by decide +kernel
theorem dX4_best_33 : decode cX4_best 33 = .ok (.iload_n 3, 1) := by decide +kernel
theorem dX4_best_34 : decode cX4_best 34 = .ok (.iconst 1, 1) := by decide +kernel
theorem dX4_best_35 : decode cX4_best 35 = .ok (.if_icmp .lt 9, 3) := by decide +kernel
theorem dX4_best_38 : decode cX4_best 38 = .ok (.iload_n 3, 1) := by decide +kernel
theorem dX4_best_39 : decode cX4_best 39 = .ok (.bipush 100, 2) := by decide +kernel
theorem dX4_best_41 : decode cX4_best 41 = .ok (.if_icmp .le 5, 3) := by decide +kernel
theorem dX4_best_44 : decode cX4_best 44 = .ok (.iconst (-1), 1) := by decide +kernel
theorem dX4_best_45 : decode cX4_best 45 = .ok (.ireturn, 1) := by decide +kernel
theorem dX4_best_46 : decode cX4_best 46 = .ok (.iload_n 2, 1) := by decide +kernel
theorem dX4_best_47 : decode cX4_best 47 = .ok (.aload_n 0, 1) := by decide +kernel
theorem dX4_best_48 : decode cX4_best 48 = .ok (.getfield 10, 3) := by decide +kernel
theorem dX4_best_51 : decode cX4_best 51 = .ok (.iload_n 1, 1) := by decide +kernel
theorem dX4_best_52 : decode cX4_best 52 = .ok (.invokevirtual 177, 3) := by decide +kernel
theorem dX4_best_55 : decode cX4_best 55 = .ok (.invokestatic 180, 3) := by decide +kernel
theorem dX4_best_58 : decode cX4_best 58 = .ok (.istore 5, 2) := by decide +kernel
theorem dX4_best_60 : decode cX4_best 60 = .ok (.iload_n 2, 1) := by decide +kernel
theorem dX4_best_61 : decode cX4_best 61 = .ok (.iload_n 3, 1) := by decide +kernel
theorem dX4_best_62 : decode cX4_best 62 = .ok (.iadd, 1) := by decide +kernel
theorem dX4_best_63 : decode cX4_best 63 = .ok (.aload_n 0, 1) := by decide +kernel
theorem dX4_best_64 : decode cX4_best 64 = .ok (.getfield 10, 3) := by decide +kernel
theorem dX4_best_67 : decode cX4_best 67 = .ok (.iload_n 1, 1) := by decide +kernel
theorem dX4_best_68 : decode cX4_best 68 = .ok (.iconst 1, 1) := by decide +kernel
theorem dX4_best_69 : decode cX4_best 69 = .ok (.iadd, 1) := by decide +kernel
theorem dX4_best_70 : decode cX4_best 70 = .ok (.invokevirtual 177, 3) := by decide +kernel
theorem dX4_best_73 : decode cX4_best 73 = .ok (.invokestatic 185, 3) := by decide +kernel
theorem dX4_best_76 : decode cX4_best 76 = .ok (.istore 6, 2) := by decide +kernel
theorem dX4_best_78 : decode cX4_best 78 = .ok (.bipush (-9), 2) := by decide +kernel
theorem dX4_best_80 : decode cX4_best 80 = .ok (.istore 7, 2) := by decide +kernel
theorem dX4_best_82 : decode cX4_best 82 = .ok (.iconst (-1), 1) := by decide +kernel
theorem dX4_best_83 : decode cX4_best 83 = .ok (.istore 8, 2) := by decide +kernel
theorem dX4_best_85 : decode cX4_best 85 = .ok (.iload 5, 2) := by decide +kernel
theorem dX4_best_87 : decode cX4_best 87 = .ok (.istore 9, 2) := by decide +kernel
theorem dX4_best_89 : decode cX4_best 89 = .ok (.iload 9, 2) := by decide +kernel
theorem dX4_best_91 : decode cX4_best 91 = .ok (.iload 6, 2) := by decide +kernel
theorem dX4_best_93 : decode cX4_best 93 = .ok (.if_icmp .ge 52, 3) := by decide +kernel
theorem dX4_best_96 : decode cX4_best 96 = .ok (.aload_n 0, 1) := by decide +kernel
theorem dX4_best_97 : decode cX4_best 97 = .ok (.getfield 10, 3) := by decide +kernel
theorem dX4_best_100 : decode cX4_best 100 = .ok (.aload_n 0, 1) := by decide +kernel
theorem dX4_best_101 : decode cX4_best 101 = .ok (.getfield 10, 3) := by decide +kernel
theorem dX4_best_104 : decode cX4_best 104 = .ok (.iload 9, 2) := by decide +kernel
theorem dX4_best_106 : decode cX4_best 106 = .ok (.invokevirtual 114, 3) := by decide +kernel
theorem dX4_best_109 : decode cX4_best 109 = .ok (.invokevirtual 117, 3) := by decide +kernel
theorem dX4_best_112 : decode cX4_best 112 = .ok (.ifCond .ne 27, 3) := by decide +kernel
theorem dX4_best_115 : decode cX4_best 115 = .ok (.aload 4, 2) := by decide +kernel
theorem dX4_best_117 : decode cX4_best 117 = .ok (.iload 9, 2) := by decide +kernel
theorem dX4_best_119 : decode cX4_best 119 = .ok (.invokevirtual 161, 3) := by decide +kernel
theorem dX4_best_122 : decode cX4_best 122 = .ok (.istore 10, 2) := by decide +kernel
theorem dX4_best_124 : decode cX4_best 124 = .ok (.iload 10, 2) := by decide +kernel
theorem dX4_best_126 : decode cX4_best 126 = .ok (.iload 8, 2) := by decide +kernel
theorem dX4_best_128 : decode cX4_best 128 = .ok (.if_icmp .le 11, 3) := by decide +kernel
theorem dX4_best_131 : decode cX4_best 131 = .ok (.iload 10, 2) := by decide +kernel
theorem dX4_best_133 : decode cX4_best 133 = .ok (.istore 8, 2) := by decide +kernel
theorem dX4_best_135 : decode cX4_best 135 = .ok (.iload 9, 2) := by decide +kernel
theorem dX4_best_137 : decode cX4_best 137 = .ok (.istore 7, 2) := by decide +kernel
theorem dX4_best_139 : decode cX4_best 139 = .ok (.iinc 9 1, 3) := by decide +kernel
theorem dX4_best_142 : decode cX4_best 142 = .ok (.goto (-53), 3) := by decide +kernel
theorem dX4_best_145 : decode cX4_best 145 = .ok (.iload 7, 2) := by decide +kernel
theorem dX4_best_147 : decode cX4_best 147 = .ok (.ireturn, 1) := by decide +kernel
theorem dX4_isClass_0 : decode cX4_isClass 0 = .ok (.aload_n 0, 1) := by decide +kernel
theorem dX4_isClass_1 : decode cX4_isClass 1 = .ok (.iload_n 1, 1) := by decide +kernel
theorem dX4_isClass_2 : decode cX4_isClass 2 = .ok (.invokevirtual 188, 3) := by decide +kernel
theorem dX4_isClass_5 : decode cX4_isClass 5 = .ok (.astore 4, 2) := by decide +kernel
theorem dX4_isClass_7 : decode cX4_isClass 7 = .ok (.aload 4, 2) := by decide +kernel
theorem dX4_isClass_9 : decode cX4_isClass 9 = .ok (.ifnull 11, 3) := by decide +kernel
theorem dX4_isClass_12 : decode cX4_isClass 12 = .ok (.iload_n 2, 1) := by decide +kernel
theorem dX4_isClass_13 : decode cX4_isClass 13 = .ok (.ifCond .lt 7, 3) := by decide +kernel
theorem dX4_isClass_16 : decode cX4_isClass 16 = .ok (.iload_n 3, 1) := by decide +kernel
theorem dX4_isClass_17 : decode cX4_isClass 17 = .ok (.ifCond .ge 5, 3) := by decide +kernel
theorem dX4_isClass_20 : decode cX4_isClass 20 = .ok (.iconst (-1), 1) := by decide +kernel
theorem dX4_isClass_21 : decode cX4_isClass 21 = .ok (.ireturn, 1) := by decide +kernel
theorem dX4_isClass_22 : decode cX4_isClass 22 = .ok (.aload 4, 2) := by decide +kernel
theorem dX4_isClass_24 : decode cX4_isClass 24 = .ok (.iload_n 2, 1) := by decide +kernel
theorem dX4_isClass_25 : decode cX4_isClass 25 = .ok (.iload_n 3, 1) := by decide +kernel
theorem dX4_isClass_26 : decode cX4_isClass 26 = .ok (.invokevirtual 192, 3) := by decide +kernel
theorem dX4_isClass_29 : decode cX4_isClass 29 = .ok (.ifCond .eq 7, 3) := by decide +kernel
theorem dX4_isClass_32 : decode cX4_isClass 32 = .ok (.iconst 1, 1) := by decide +kernel
theorem dX4_isClass_33 : decode cX4_isClass 33 = .ok (.goto 4, 3) := by decide +kernel
theorem dX4_isClass_36 : decode cX4_isClass 36 = .ok (.iconst 0, 1) := by decide +kernel
theorem dX4_isClass_37 : decode cX4_isClass 37 = .ok (.ireturn, 1) := by decide +kernel
theorem dX4_classes_0 : decode cX4_classes 0 = .ok (.aload_n 0, 1) := by decide +kernel
theorem dX4_classes_1 : decode cX4_classes 1 = .ok (.iload_n 1, 1) := by decide +kernel
theorem dX4_classes_2 : decode cX4_classes 2 = .ok (.invokevirtual 188, 3) := by decide +kernel
theorem dX4_classes_5 : decode cX4_classes 5 = .ok (.astore_n 2, 1) := by decide +kernel
theorem dX4_classes_6 : decode cX4_classes 6 = .ok (.aload_n 2, 1) := by decide +kernel
theorem dX4_classes_7 : decode cX4_classes 7 = .ok (.ifnonnull 7, 3) := by decide +kernel
theorem dX4_classes_10 : decode cX4_classes 10 = .ok (.iconst (-1), 1) := by decide +kernel
theorem dX4_classes_11 : decode cX4_classes 11 = .ok (.goto 7, 3) := by decide +kernel
theorem dX4_classes_14 : decode cX4_classes 14 = .ok (.aload_n 2, 1) := by decide +kernel
theorem dX4_classes_15 : decode cX4_classes 15 = .ok (.invokevirtual 198, 3) := by decide +kernel
theorem dX4_classes_18 : decode cX4_classes 18 = .ok (.ireturn, 1) := by decide +kernel
theorem dX4_classAt_0 : decode cX4_classAt 0 = .ok (.aload_n 0, 1) := by decide +kernel
theorem dX4_classAt_1 : decode cX4_classAt 1 = .ok (.iload_n 1, 1) := by decide +kernel
theorem dX4_classAt_2 : decode cX4_classAt 2 = .ok (.invokevirtual 188, 3) := by decide +kernel
theorem dX4_classAt_5 : decode cX4_classAt 5 = .ok (.astore 4, 2) := by decide +kernel
theorem dX4_classAt_7 : decode cX4_classAt 7 = .ok (.aload 4, 2) := by decide +kernel
theorem dX4_classAt_9 : decode cX4_classAt 9 = .ok (.ifnull 16, 3) := by decide +kernel
theorem dX4_classAt_12 : decode cX4_classAt 12 = .ok (.iload_n 2, 1) := by decide +kernel
theorem dX4_classAt_13 : decode cX4_classAt 13 = .ok (.ifCond .lt 12, 3) := by decide +kernel
theorem dX4_classAt_16 : decode cX4_classAt 16 = .ok (.iload_n 3, 1) := by decide +kernel
theorem dX4_classAt_17 : decode cX4_classAt 17 = .ok (.ifCond .lt 8, 3) := by decide +kernel
theorem dX4_classAt_20 : decode cX4_classAt 20 = .ok (.iload_n 3, 1) := by decide +kernel
theorem dX4_classAt_21 : decode cX4_classAt 21 = .ok (.iconst 1, 1) := by decide +kernel
theorem dX4_classAt_22 : decode cX4_classAt 22 = .ok (.if_icmp .le 5, 3) := by decide +kernel
theorem dX4_classAt_25 : decode cX4_classAt 25 = .ok (.iconst (-1), 1) := by decide +kernel
theorem dX4_classAt_26 : decode cX4_classAt 26 = .ok (.ireturn, 1) := by decide +kernel
theorem dX4_classAt_27 : decode cX4_classAt 27 = .ok (.iload_n 2, 1) := by decide +kernel
theorem dX4_classAt_28 : decode cX4_classAt 28 = .ok (.aload 4, 2) := by decide +kernel
theorem dX4_classAt_30 : decode cX4_classAt 30 = .ok (.invokevirtual 198, 3) := by decide +kernel
theorem dX4_classAt_33 : decode cX4_classAt 33 = .ok (.if_icmp .lt 6, 3) := by decide +kernel
theorem dX4_classAt_36 : decode cX4_classAt 36 = .ok (.bipush (-9), 2) := by decide +kernel
theorem dX4_classAt_38 : decode cX4_classAt 38 = .ok (.ireturn, 1) := by decide +kernel
theorem dX4_classAt_39 : decode cX4_classAt 39 = .ok (.aload 4, 2) := by decide +kernel
theorem dX4_classAt_41 : decode cX4_classAt 41 = .ok (.iload_n 2, 1) := by decide +kernel
theorem dX4_classAt_42 : decode cX4_classAt 42 = .ok (.invokevirtual 202, 3) := by decide +kernel
theorem dX4_classAt_45 : decode cX4_classAt 45 = .ok (.istore 5, 2) := by decide +kernel
theorem dX4_classAt_47 : decode cX4_classAt 47 = .ok (.iload_n 3, 1) := by decide +kernel
theorem dX4_classAt_48 : decode cX4_classAt 48 = .ok (.ifCond .ne 13, 3) := by decide +kernel
theorem dX4_classAt_51 : decode cX4_classAt 51 = .ok (.aload 4, 2) := by decide +kernel
theorem dX4_classAt_53 : decode cX4_classAt 53 = .ok (.iload 5, 2) := by decide +kernel
theorem dX4_classAt_55 : decode cX4_classAt 55 = .ok (.invokevirtual 205, 3) := by decide +kernel
theorem dX4_classAt_58 : decode cX4_classAt 58 = .ok (.goto 10, 3) := by decide +kernel
theorem dX4_classAt_61 : decode cX4_classAt 61 = .ok (.aload 4, 2) := by decide +kernel
theorem dX4_classAt_63 : decode cX4_classAt 63 = .ok (.iload 5, 2) := by decide +kernel
theorem dX4_classAt_65 : decode cX4_classAt 65 = .ok (.invokevirtual 208, 3) := by decide +kernel
theorem dX4_classAt_68 : decode cX4_classAt 68 = .ok (.ireturn, 1) := by decide +kernel
theorem dX4_add_0 : decode cX4_add 0 = .ok (.aload_n 0, 1) := by decide +kernel
theorem dX4_add_1 : decode cX4_add 1 = .ok (.iload_n 1, 1) := by decide +kernel
theorem dX4_add_2 : decode cX4_add 2 = .ok (.invokevirtual 188, 3) := by decide +kernel
theorem dX4_add_5 : decode cX4_add 5 = .ok (.astore 4, 2) := by decide +kernel
theorem dX4_add_7 : decode cX4_add 7 = .ok (.aload 4, 2) := by decide +kernel
theorem dX4_add_9 : decode cX4_add 9 = .ok (.ifnull 21, 3) := by decide +kernel
theorem dX4_add_12 : decode cX4_add 12 = .ok (.aload 4, 2) := by decide +kernel
theorem dX4_add_14 : decode cX4_add 14 = .ok (.iload_n 2, 1) := by decide +kernel
theorem dX4_add_15 : decode cX4_add 15 = .ok (.invokevirtual 211, 3) := by decide +kernel
theorem dX4_add_18 : decode cX4_add 18 = .ok (.ifCond .eq 12, 3) := by decide +kernel
theorem dX4_add_21 : decode cX4_add 21 = .ok (.aload 4, 2) := by decide +kernel
theorem dX4_add_23 : decode cX4_add 23 = .ok (.iload_n 3, 1) := by decide +kernel
theorem dX4_add_24 : decode cX4_add 24 = .ok (.invokevirtual 211, 3) := by decide +kernel
theorem dX4_add_27 : decode cX4_add 27 = .ok (.ifCond .ne 5, 3) := by decide +kernel
theorem dX4_add_30 : decode cX4_add 30 = .ok (.iconst (-1), 1) := by decide +kernel
theorem dX4_add_31 : decode cX4_add 31 = .ok (.ireturn, 1) := by decide +kernel
theorem dX4_add_32 : decode cX4_add 32 = .ok (.aload 4, 2) := by decide +kernel
theorem dX4_add_34 : decode cX4_add 34 = .ok (.aload 4, 2) := by decide +kernel
theorem dX4_add_36 : decode cX4_add 36 = .ok (.aload 4, 2) := by decide +kernel
theorem dX4_add_38 : decode cX4_add 38 = .ok (.iload_n 2, 1) := by decide +kernel
theorem dX4_add_39 : decode cX4_add 39 = .ok (.invokevirtual 202, 3) := by decide +kernel
theorem dX4_add_42 : decode cX4_add 42 = .ok (.aload 4, 2) := by decide +kernel
theorem dX4_add_44 : decode cX4_add 44 = .ok (.iload_n 3, 1) := by decide +kernel
theorem dX4_add_45 : decode cX4_add 45 = .ok (.invokevirtual 202, 3) := by decide +kernel
theorem dX4_add_48 : decode cX4_add 48 = .ok (.invokevirtual 214, 3) := by decide +kernel
theorem dX4_add_51 : decode cX4_add 51 = .ok (.invokevirtual 217, 3) := by decide +kernel
theorem dX4_add_54 : decode cX4_add 54 = .ok (.ireturn, 1) := by decide +kernel
theorem dX4_minus_0 : decode cX4_minus 0 = .ok (.aload_n 0, 1) := by decide +kernel
theorem dX4_minus_1 : decode cX4_minus 1 = .ok (.iload_n 1, 1) := by decide +kernel
theorem dX4_minus_2 : decode cX4_minus 2 = .ok (.invokevirtual 188, 3) := by decide +kernel
theorem dX4_minus_5 : decode cX4_minus 5 = .ok (.astore_n 3, 1) := by decide +kernel
theorem dX4_minus_6 : decode cX4_minus 6 = .ok (.aload_n 3, 1) := by decide +kernel
theorem dX4_minus_7 : decode cX4_minus 7 = .ok (.ifnull 11, 3) := by decide +kernel
theorem dX4_minus_10 : decode cX4_minus 10 = .ok (.aload_n 3, 1) := by decide +kernel
theorem dX4_minus_11 : decode cX4_minus 11 = .ok (.iload_n 2, 1) := by decide +kernel
theorem dX4_minus_12 : decode cX4_minus 12 = .ok (.invokevirtual 211, 3) := by decide +kernel
theorem dX4_minus_15 : decode cX4_minus 15 = .ok (.ifCond .ne 5, 3) := by decide +kernel
theorem dX4_minus_18 : decode cX4_minus 18 = .ok (.iconst (-1), 1) := by decide +kernel
theorem dX4_minus_19 : decode cX4_minus 19 = .ok (.ireturn, 1) := by decide +kernel
theorem dX4_minus_20 : decode cX4_minus 20 = .ok (.aload_n 3, 1) := by decide +kernel
theorem dX4_minus_21 : decode cX4_minus 21 = .ok (.aload_n 3, 1) := by decide +kernel
theorem dX4_minus_22 : decode cX4_minus 22 = .ok (.aload_n 3, 1) := by decide +kernel
theorem dX4_minus_23 : decode cX4_minus 23 = .ok (.iload_n 2, 1) := by decide +kernel
theorem dX4_minus_24 : decode cX4_minus 24 = .ok (.invokevirtual 202, 3) := by decide +kernel
theorem dX4_minus_27 : decode cX4_minus 27 = .ok (.invokevirtual 220, 3) := by decide +kernel
theorem dX4_minus_30 : decode cX4_minus 30 = .ok (.invokevirtual 217, 3) := by decide +kernel
theorem dX4_minus_33 : decode cX4_minus 33 = .ok (.ireturn, 1) := by decide +kernel
theorem dX4_order_0 : decode cX4_order 0 = .ok (.aload_n 0, 1) := by decide +kernel
theorem dX4_order_1 : decode cX4_order 1 = .ok (.iload_n 1, 1) := by decide +kernel
theorem dX4_order_2 : decode cX4_order 2 = .ok (.invokevirtual 188, 3) := by decide +kernel
theorem dX4_order_5 : decode cX4_order 5 = .ok (.astore_n 3, 1) := by decide +kernel
theorem dX4_order_6 : decode cX4_order 6 = .ok (.aload_n 3, 1) := by decide +kernel
theorem dX4_order_7 : decode cX4_order 7 = .ok (.ifnull 11, 3) := by decide +kernel
theorem dX4_order_10 : decode cX4_order 10 = .ok (.aload_n 3, 1) := by decide +kernel
theorem dX4_order_11 : decode cX4_order 11 = .ok (.iload_n 2, 1) := by decide +kernel
theorem dX4_order_12 : decode cX4_order 12 = .ok (.invokevirtual 211, 3) := by decide +kernel
theorem dX4_order_15 : decode cX4_order 15 = .ok (.ifCond .ne 5, 3) := by decide +kernel
theorem dX4_order_18 : decode cX4_order 18 = .ok (.iconst (-1), 1) := by decide +kernel
theorem dX4_order_19 : decode cX4_order 19 = .ok (.ireturn, 1) := by decide +kernel
theorem dX4_order_20 : decode cX4_order 20 = .ok (.aload_n 3, 1) := by decide +kernel
theorem dX4_order_21 : decode cX4_order 21 = .ok (.aload_n 3, 1) := by decide +kernel
theorem dX4_order_22 : decode cX4_order 22 = .ok (.iload_n 2, 1) := by decide +kernel
theorem dX4_order_23 : decode cX4_order 23 = .ok (.invokevirtual 202, 3) := by decide +kernel
theorem dX4_order_26 : decode cX4_order 26 = .ok (.invokevirtual 223, 3) := by decide +kernel
theorem dX4_order_29 : decode cX4_order 29 = .ok (.ireturn, 1) := by decide +kernel
theorem dX4_told_0 : decode cX4_told 0 = .ok (.iload_n 1, 1) := by decide +kernel
theorem dX4_told_1 : decode cX4_told 1 = .ok (.tableswitch 54 0 3 #[31, 39, 44, 49], 31) := by decide +kernel
theorem dX4_told_32 : decode cX4_told 32 = .ok (.aload_n 0, 1) := by decide +kernel
theorem dX4_told_33 : decode cX4_told 33 = .ok (.getfield 10, 3) := by decide +kernel
theorem dX4_told_36 : decode cX4_told 36 = .ok (.getfield 91, 3) := by decide +kernel
theorem dX4_told_39 : decode cX4_told 39 = .ok (.ireturn, 1) := by decide +kernel
theorem dX4_told_40 : decode cX4_told 40 = .ok (.aload_n 0, 1) := by decide +kernel
theorem dX4_told_41 : decode cX4_told 41 = .ok (.getfield 53, 3) := by decide +kernel
theorem dX4_told_44 : decode cX4_told 44 = .ok (.ireturn, 1) := by decide +kernel
theorem dX4_told_45 : decode cX4_told 45 = .ok (.aload_n 0, 1) := by decide +kernel
theorem dX4_told_46 : decode cX4_told 46 = .ok (.getfield 120, 3) := by decide +kernel
theorem dX4_told_49 : decode cX4_told 49 = .ok (.ireturn, 1) := by decide +kernel
theorem dX4_told_50 : decode cX4_told 50 = .ok (.aload_n 0, 1) := by decide +kernel
theorem dX4_told_51 : decode cX4_told 51 = .ok (.getfield 123, 3) := by decide +kernel
theorem dX4_told_54 : decode cX4_told 54 = .ok (.ireturn, 1) := by decide +kernel
theorem dX4_told_55 : decode cX4_told 55 = .ok (.iconst (-1), 1) := by decide +kernel
theorem dX4_told_56 : decode cX4_told 56 = .ok (.ireturn, 1) := by decide +kernel
theorem dX4_traced_0 : decode cX4_traced 0 = .ok (.aload_n 0, 1) := by decide +kernel
theorem dX4_traced_1 : decode cX4_traced 1 = .ok (.getfield 151, 3) := by decide +kernel
theorem dX4_traced_4 : decode cX4_traced 4 = .ok (.lreturn, 1) := by decide +kernel
theorem dX4_start_0 : decode cX4_start 0 = .ok (.aload_n 0, 1) := by decide +kernel
theorem dX4_start_1 : decode cX4_start 1 = .ok (.getfield 10, 3) := by decide +kernel
theorem dX4_start_4 : decode cX4_start 4 = .ok (.iload_n 1, 1) := by decide +kernel
theorem dX4_start_5 : decode cX4_start 5 = .ok (.invokevirtual 226, 3) := by decide +kernel
theorem dX4_start_8 : decode cX4_start 8 = .ok (.aload_n 0, 1) := by decide +kernel
theorem dX4_start_9 : decode cX4_start 9 = .ok (.iconst 0, 1) := by decide +kernel
theorem dX4_start_10 : decode cX4_start 10 = .ok (.putfield 120, 3) := by decide +kernel
theorem dX4_start_13 : decode cX4_start 13 = .ok (.aload_n 0, 1) := by decide +kernel
theorem dX4_start_14 : decode cX4_start 14 = .ok (.iconst 1, 1) := by decide +kernel
theorem dX4_start_15 : decode cX4_start 15 = .ok (.putfield 53, 3) := by decide +kernel
theorem dX4_start_18 : decode cX4_start 18 = .ok (.aload_n 0, 1) := by decide +kernel
theorem dX4_start_19 : decode cX4_start 19 = .ok (.getfield 53, 3) := by decide +kernel
theorem dX4_start_22 : decode cX4_start 22 = .ok (.iconst 5, 1) := by decide +kernel
theorem dX4_start_23 : decode cX4_start 23 = .ok (.if_icmp .ge 35, 3) := by decide +kernel
theorem dX4_start_26 : decode cX4_start 26 = .ok (.aload_n 0, 1) := by decide +kernel
theorem dX4_start_27 : decode cX4_start 27 = .ok (.getfield 10, 3) := by decide +kernel
theorem dX4_start_30 : decode cX4_start 30 = .ok (.aload_n 0, 1) := by decide +kernel
theorem dX4_start_31 : decode cX4_start 31 = .ok (.getfield 53, 3) := by decide +kernel
theorem dX4_start_34 : decode cX4_start 34 = .ok (.iconst 1, 1) := by decide +kernel
theorem dX4_start_35 : decode cX4_start 35 = .ok (.iadd, 1) := by decide +kernel
theorem dX4_start_36 : decode cX4_start 36 = .ok (.invokevirtual 177, 3) := by decide +kernel
theorem dX4_start_39 : decode cX4_start 39 = .ok (.sipush 343, 3) := by decide +kernel
theorem dX4_start_42 : decode cX4_start 42 = .ok (.if_icmp .gt 16, 3) := by decide +kernel
theorem dX4_start_45 : decode cX4_start 45 = .ok (.aload_n 0, 1) := by decide +kernel
theorem dX4_start_46 : decode cX4_start 46 = .ok (.dup, 1) := by decide +kernel
theorem dX4_start_47 : decode cX4_start 47 = .ok (.getfield 53, 3) := by decide +kernel
theorem dX4_start_50 : decode cX4_start 50 = .ok (.iconst 1, 1) := by decide +kernel
theorem dX4_start_51 : decode cX4_start 51 = .ok (.iadd, 1) := by decide +kernel
theorem dX4_start_52 : decode cX4_start 52 = .ok (.putfield 53, 3) := by decide +kernel
theorem dX4_start_55 : decode cX4_start 55 = .ok (.goto (-37), 3) := by decide +kernel
theorem dX4_start_58 : decode cX4_start 58 = .ok (.aload_n 0, 1) := by decide +kernel
theorem dX4_start_59 : decode cX4_start 59 = .ok (.iconst 1, 1) := by decide +kernel
theorem dX4_start_60 : decode cX4_start 60 = .ok (.invokevirtual 56, 3) := by decide +kernel
theorem dX4_start_63 : decode cX4_start 63 = .ok (.astore_n 2, 1) := by decide +kernel
theorem dX4_start_64 : decode cX4_start 64 = .ok (.aload_n 0, 1) := by decide +kernel
theorem dX4_start_65 : decode cX4_start 65 = .ok (.iconst 1, 1) := by decide +kernel
theorem dX4_start_66 : decode cX4_start 66 = .ok (.putfield 123, 3) := by decide +kernel
theorem dX4_start_69 : decode cX4_start 69 = .ok (.aload_n 2, 1) := by decide +kernel
theorem dX4_start_70 : decode cX4_start 70 = .ok (.ifnull 36, 3) := by decide +kernel
theorem dX4_start_73 : decode cX4_start 73 = .ok (.aload_n 0, 1) := by decide +kernel
theorem dX4_start_74 : decode cX4_start 74 = .ok (.getfield 123, 3) := by decide +kernel
theorem dX4_start_77 : decode cX4_start 77 = .ok (.iload_n 1, 1) := by decide +kernel
theorem dX4_start_78 : decode cX4_start 78 = .ok (.if_icmp .ge 28, 3) := by decide +kernel
theorem dX4_start_81 : decode cX4_start 81 = .ok (.aload_n 2, 1) := by decide +kernel
theorem dX4_start_82 : decode cX4_start 82 = .ok (.aload_n 0, 1) := by decide +kernel
theorem dX4_start_83 : decode cX4_start 83 = .ok (.getfield 123, 3) := by decide +kernel
theorem dX4_start_86 : decode cX4_start 86 = .ok (.invokevirtual 84, 3) := by decide +kernel
theorem dX4_start_89 : decode cX4_start 89 = .ok (.iconst (-1), 1) := by decide +kernel
theorem dX4_start_90 : decode cX4_start 90 = .ok (.if_icmp .eq 16, 3) := by decide +kernel
theorem dX4_start_93 : decode cX4_start 93 = .ok (.aload_n 0, 1) := by decide +kernel
theorem dX4_start_94 : decode cX4_start 94 = .ok (.dup, 1) := by decide +kernel
theorem dX4_start_95 : decode cX4_start 95 = .ok (.getfield 123, 3) := by decide +kernel
theorem dX4_start_98 : decode cX4_start 98 = .ok (.iconst 1, 1) := by decide +kernel
theorem dX4_start_99 : decode cX4_start 99 = .ok (.iadd, 1) := by decide +kernel
theorem dX4_start_100 : decode cX4_start 100 = .ok (.putfield 123, 3) := by decide +kernel
theorem dX4_start_103 : decode cX4_start 103 = .ok (.goto (-34), 3) := by decide +kernel
theorem dX4_start_106 : decode cX4_start 106 = .ok (.return_, 1) := by decide +kernel
theorem dX4_fieldAt_0 : decode cX4_fieldAt 0 = .ok (.iload_n 1, 1) := by decide +kernel
theorem dX4_fieldAt_1 : decode cX4_fieldAt 1 = .ok (.iconst 1, 1) := by decide +kernel
theorem dX4_fieldAt_2 : decode cX4_fieldAt 2 = .ok (.if_icmp .lt 20, 3) := by decide +kernel
theorem dX4_fieldAt_5 : decode cX4_fieldAt 5 = .ok (.iload_n 1, 1) := by decide +kernel
theorem dX4_fieldAt_6 : decode cX4_fieldAt 6 = .ok (.aload_n 0, 1) := by decide +kernel
theorem dX4_fieldAt_7 : decode cX4_fieldAt 7 = .ok (.getfield 53, 3) := by decide +kernel
theorem dX4_fieldAt_10 : decode cX4_fieldAt 10 = .ok (.if_icmp .gt 12, 3) := by decide +kernel
theorem dX4_fieldAt_13 : decode cX4_fieldAt 13 = .ok (.iload_n 1, 1) := by decide +kernel
theorem dX4_fieldAt_14 : decode cX4_fieldAt 14 = .ok (.aload_n 0, 1) := by decide +kernel
theorem dX4_fieldAt_15 : decode cX4_fieldAt 15 = .ok (.getfield 18, 3) := by decide +kernel
theorem dX4_fieldAt_18 : decode cX4_fieldAt 18 = .ok (.arraylength, 1) := by decide +kernel
theorem dX4_fieldAt_19 : decode cX4_fieldAt 19 = .ok (.if_icmp .le 5, 3) := by decide +kernel
theorem dX4_fieldAt_22 : decode cX4_fieldAt 22 = .ok (.aconst_null, 1) := by decide +kernel
theorem dX4_fieldAt_23 : decode cX4_fieldAt 23 = .ok (.areturn, 1) := by decide +kernel
theorem dX4_fieldAt_24 : decode cX4_fieldAt 24 = .ok (.aload_n 0, 1) := by decide +kernel
theorem dX4_fieldAt_25 : decode cX4_fieldAt 25 = .ok (.getfield 18, 3) := by decide +kernel
theorem dX4_fieldAt_28 : decode cX4_fieldAt 28 = .ok (.iload_n 1, 1) := by decide +kernel
theorem dX4_fieldAt_29 : decode cX4_fieldAt 29 = .ok (.iconst 1, 1) := by decide +kernel
theorem dX4_fieldAt_30 : decode cX4_fieldAt 30 = .ok (.isub, 1) := by decide +kernel
theorem dX4_fieldAt_31 : decode cX4_fieldAt 31 = .ok (.aaload, 1) := by decide +kernel
theorem dX4_fieldAt_32 : decode cX4_fieldAt 32 = .ok (.astore_n 2, 1) := by decide +kernel
theorem dX4_fieldAt_33 : decode cX4_fieldAt 33 = .ok (.aload_n 2, 1) := by decide +kernel
theorem dX4_fieldAt_34 : decode cX4_fieldAt 34 = .ok (.invokevirtual 228, 3) := by decide +kernel
theorem dX4_fieldAt_37 : decode cX4_fieldAt 37 = .ok (.aload_n 2, 1) := by decide +kernel
theorem dX4_fieldAt_38 : decode cX4_fieldAt 38 = .ok (.areturn, 1) := by decide +kernel
theorem dX4_curveAt_0 : decode cX4_curveAt 0 = .ok (.iload_n 1, 1) := by decide +kernel
theorem dX4_curveAt_1 : decode cX4_curveAt 1 = .ok (.ifCond .lt 20, 3) := by decide +kernel
theorem dX4_curveAt_4 : decode cX4_curveAt 4 = .ok (.iload_n 1, 1) := by decide +kernel
theorem dX4_curveAt_5 : decode cX4_curveAt 5 = .ok (.aload_n 0, 1) := by decide +kernel
theorem dX4_curveAt_6 : decode cX4_curveAt 6 = .ok (.getfield 120, 3) := by decide +kernel
theorem dX4_curveAt_9 : decode cX4_curveAt 9 = .ok (.if_icmp .ge 12, 3) := by decide +kernel
theorem dX4_curveAt_12 : decode cX4_curveAt 12 = .ok (.iload_n 1, 1) := by decide +kernel
theorem dX4_curveAt_13 : decode cX4_curveAt 13 = .ok (.aload_n 0, 1) := by decide +kernel
theorem dX4_curveAt_14 : decode cX4_curveAt 14 = .ok (.getfield 24, 3) := by decide +kernel
theorem dX4_curveAt_17 : decode cX4_curveAt 17 = .ok (.arraylength, 1) := by decide +kernel
theorem dX4_curveAt_18 : decode cX4_curveAt 18 = .ok (.if_icmp .lt 7, 3) := by decide +kernel
theorem dX4_curveAt_21 : decode cX4_curveAt 21 = .ok (.aconst_null, 1) := by decide +kernel
theorem dX4_curveAt_22 : decode cX4_curveAt 22 = .ok (.goto 9, 3) := by decide +kernel
theorem dX4_curveAt_25 : decode cX4_curveAt 25 = .ok (.aload_n 0, 1) := by decide +kernel
theorem dX4_curveAt_26 : decode cX4_curveAt 26 = .ok (.getfield 24, 3) := by decide +kernel
theorem dX4_curveAt_29 : decode cX4_curveAt 29 = .ok (.iload_n 1, 1) := by decide +kernel
theorem dX4_curveAt_30 : decode cX4_curveAt 30 = .ok (.aaload, 1) := by decide +kernel
theorem dX4_curveAt_31 : decode cX4_curveAt 31 = .ok (.areturn, 1) := by decide +kernel
theorem dX4_listAt_0 : decode cX4_listAt 0 = .ok (.aload_n 0, 1) := by decide +kernel
theorem dX4_listAt_1 : decode cX4_listAt 1 = .ok (.iload_n 1, 1) := by decide +kernel
theorem dX4_listAt_2 : decode cX4_listAt 2 = .ok (.invokevirtual 130, 3) := by decide +kernel
theorem dX4_listAt_5 : decode cX4_listAt 5 = .ok (.astore_n 2, 1) := by decide +kernel
theorem dX4_listAt_6 : decode cX4_listAt 6 = .ok (.aload_n 2, 1) := by decide +kernel
theorem dX4_listAt_7 : decode cX4_listAt 7 = .ok (.ifnull 12, 3) := by decide +kernel
theorem dX4_listAt_10 : decode cX4_listAt 10 = .ok (.aload_n 2, 1) := by decide +kernel
theorem dX4_listAt_11 : decode cX4_listAt 11 = .ok (.getfield 143, 3) := by decide +kernel
theorem dX4_listAt_14 : decode cX4_listAt 14 = .ok (.iconst 2, 1) := by decide +kernel
theorem dX4_listAt_15 : decode cX4_listAt 15 = .ok (.irem, 1) := by decide +kernel
theorem dX4_listAt_16 : decode cX4_listAt 16 = .ok (.ifCond .ne 7, 3) := by decide +kernel
theorem dX4_listAt_19 : decode cX4_listAt 19 = .ok (.aconst_null, 1) := by decide +kernel
theorem dX4_listAt_20 : decode cX4_listAt 20 = .ok (.goto 7, 3) := by decide +kernel
theorem dX4_listAt_23 : decode cX4_listAt 23 = .ok (.aload_n 2, 1) := by decide +kernel
theorem dX4_listAt_24 : decode cX4_listAt 24 = .ok (.getfield 231, 3) := by decide +kernel
theorem dX4_listAt_27 : decode cX4_listAt 27 = .ok (.areturn, 1) := by decide +kernel
theorem dX4_isCurvePolynomial_0 : decode cX4_isCurvePolynomial 0 = .ok (.iload_n 1, 1) := by decide +kernel
theorem dX4_isCurvePolynomial_1 : decode cX4_isCurvePolynomial 1 = .ok (.aload_n 0, 1) := by decide +kernel
theorem dX4_isCurvePolynomial_2 : decode cX4_isCurvePolynomial 2 = .ok (.getfield 10, 3) := by decide +kernel
theorem dX4_isCurvePolynomial_5 : decode cX4_isCurvePolynomial 5 = .ok (.iconst 3, 1) := by decide +kernel
theorem dX4_isCurvePolynomial_6 : decode cX4_isCurvePolynomial 6 = .ok (.invokevirtual 177, 3) := by decide +kernel
theorem dX4_isCurvePolynomial_9 : decode cX4_isCurvePolynomial 9 = .ok (.if_icmp .lt 20, 3) := by decide +kernel
theorem dX4_isCurvePolynomial_12 : decode cX4_isCurvePolynomial 12 = .ok (.iload_n 1, 1) := by decide +kernel
theorem dX4_isCurvePolynomial_13 : decode cX4_isCurvePolynomial 13 = .ok (.aload_n 0, 1) := by decide +kernel
theorem dX4_isCurvePolynomial_14 : decode cX4_isCurvePolynomial 14 = .ok (.getfield 10, 3) := by decide +kernel
theorem dX4_isCurvePolynomial_17 : decode cX4_isCurvePolynomial 17 = .ok (.bipush 7, 2) := by decide +kernel
theorem dX4_isCurvePolynomial_19 : decode cX4_isCurvePolynomial 19 = .ok (.invokevirtual 177, 3) := by decide +kernel
theorem dX4_isCurvePolynomial_22 : decode cX4_isCurvePolynomial 22 = .ok (.if_icmp .ge 7, 3) := by decide +kernel
theorem dX4_isCurvePolynomial_25 : decode cX4_isCurvePolynomial 25 = .ok (.iconst 1, 1) := by decide +kernel
theorem dX4_isCurvePolynomial_26 : decode cX4_isCurvePolynomial 26 = .ok (.goto 4, 3) := by decide +kernel
theorem dX4_isCurvePolynomial_29 : decode cX4_isCurvePolynomial 29 = .ok (.iconst 0, 1) := by decide +kernel
theorem dX4_isCurvePolynomial_30 : decode cX4_isCurvePolynomial 30 = .ok (.ireturn, 1) := by decide +kernel
theorem dX4_shareOf_0 : decode cX4_shareOf 0 = .ok (.aload_n 0, 1) := by decide +kernel
theorem dX4_shareOf_1 : decode cX4_shareOf 1 = .ok (.iconst 1, 1) := by decide +kernel
theorem dX4_shareOf_2 : decode cX4_shareOf 2 = .ok (.invokevirtual 56, 3) := by decide +kernel
theorem dX4_shareOf_5 : decode cX4_shareOf 5 = .ok (.astore_n 2, 1) := by decide +kernel
theorem dX4_shareOf_6 : decode cX4_shareOf 6 = .ok (.aload_n 0, 1) := by decide +kernel
theorem dX4_shareOf_7 : decode cX4_shareOf 7 = .ok (.iconst 2, 1) := by decide +kernel
theorem dX4_shareOf_8 : decode cX4_shareOf 8 = .ok (.invokevirtual 56, 3) := by decide +kernel
theorem dX4_shareOf_11 : decode cX4_shareOf 11 = .ok (.astore_n 3, 1) := by decide +kernel
theorem dX4_shareOf_12 : decode cX4_shareOf 12 = .ok (.aload_n 1, 1) := by decide +kernel
theorem dX4_shareOf_13 : decode cX4_shareOf 13 = .ok (.getfield 235, 3) := by decide +kernel
theorem dX4_shareOf_16 : decode cX4_shareOf 16 = .ok (.ifCond .ne 17, 3) := by decide +kernel
theorem dX4_shareOf_19 : decode cX4_shareOf 19 = .ok (.aload_n 2, 1) := by decide +kernel
theorem dX4_shareOf_20 : decode cX4_shareOf 20 = .ok (.ifnull 13, 3) := by decide +kernel
theorem dX4_shareOf_23 : decode cX4_shareOf 23 = .ok (.aload_n 3, 1) := by decide +kernel
theorem dX4_shareOf_24 : decode cX4_shareOf 24 = .ok (.ifnull 9, 3) := by decide +kernel
theorem dX4_shareOf_27 : decode cX4_shareOf 27 = .ok (.aload_n 1, 1) := by decide +kernel
theorem dX4_shareOf_28 : decode cX4_shareOf 28 = .ok (.aload_n 2, 1) := by decide +kernel
theorem dX4_shareOf_29 : decode cX4_shareOf 29 = .ok (.aload_n 3, 1) := by decide +kernel
theorem dX4_shareOf_30 : decode cX4_shareOf 30 = .ok (.invokevirtual 239, 3) := by decide +kernel
theorem dX4_shareOf_33 : decode cX4_shareOf 33 = .ok (.aload_n 1, 1) := by decide +kernel
theorem dX4_shareOf_34 : decode cX4_shareOf 34 = .ok (.getfield 243, 3) := by decide +kernel
theorem dX4_shareOf_37 : decode cX4_shareOf 37 = .ok (.areturn, 1) := by decide +kernel
theorem dX4_at_0 : decode cX4_at 0 = .ok (.iload_n 1, 1) := by decide +kernel
theorem dX4_at_1 : decode cX4_at 1 = .ok (.ifCond .lt 15, 3) := by decide +kernel
theorem dX4_at_4 : decode cX4_at 4 = .ok (.iload_n 1, 1) := by decide +kernel
theorem dX4_at_5 : decode cX4_at 5 = .ok (.aload_n 0, 1) := by decide +kernel
theorem dX4_at_6 : decode cX4_at 6 = .ok (.arraylength, 1) := by decide +kernel
theorem dX4_at_7 : decode cX4_at 7 = .ok (.if_icmp .ge 9, 3) := by decide +kernel
theorem dX4_at_10 : decode cX4_at 10 = .ok (.aload_n 0, 1) := by decide +kernel
theorem dX4_at_11 : decode cX4_at 11 = .ok (.iload_n 1, 1) := by decide +kernel
theorem dX4_at_12 : decode cX4_at 12 = .ok (.iaload, 1) := by decide +kernel
theorem dX4_at_13 : decode cX4_at 13 = .ok (.goto 4, 3) := by decide +kernel
theorem dX4_at_16 : decode cX4_at 16 = .ok (.iconst 0, 1) := by decide +kernel
theorem dX4_at_17 : decode cX4_at 17 = .ok (.ireturn, 1) := by decide +kernel
theorem dX4_put_0 : decode cX4_put 0 = .ok (.iload_n 1, 1) := by decide +kernel
theorem dX4_put_1 : decode cX4_put 1 = .ok (.ifCond .lt 13, 3) := by decide +kernel
theorem dX4_put_4 : decode cX4_put 4 = .ok (.iload_n 1, 1) := by decide +kernel
theorem dX4_put_5 : decode cX4_put 5 = .ok (.aload_n 0, 1) := by decide +kernel
theorem dX4_put_6 : decode cX4_put 6 = .ok (.arraylength, 1) := by decide +kernel
theorem dX4_put_7 : decode cX4_put 7 = .ok (.if_icmp .ge 7, 3) := by decide +kernel
theorem dX4_put_10 : decode cX4_put 10 = .ok (.aload_n 0, 1) := by decide +kernel
theorem dX4_put_11 : decode cX4_put 11 = .ok (.iload_n 1, 1) := by decide +kernel
theorem dX4_put_12 : decode cX4_put 12 = .ok (.iload_n 2, 1) := by decide +kernel
theorem dX4_put_13 : decode cX4_put 13 = .ok (.iastore, 1) := by decide +kernel
theorem dX4_put_14 : decode cX4_put 14 = .ok (.return_, 1) := by decide +kernel
theorem dX5_init_0 : decode cX5_init 0 = .ok (.aload_n 0, 1) := by decide +kernel
theorem dX5_init_1 : decode cX5_init 1 = .ok (.invokespecial 1, 3) := by decide +kernel
theorem dX5_init_4 : decode cX5_init 4 = .ok (.aload_n 0, 1) := by decide +kernel
theorem dX5_init_5 : decode cX5_init 5 = .ok (.iconst 3, 1) := by decide +kernel
theorem dX5_init_6 : decode cX5_init 6 = .ok (.putfield 7, 3) := by decide +kernel
theorem dX5_init_9 : decode cX5_init 9 = .ok (.aload_n 0, 1) := by decide +kernel
theorem dX5_init_10 : decode cX5_init 10 = .ok (.iconst 5, 1) := by decide +kernel
theorem dX5_init_11 : decode cX5_init 11 = .ok (.putfield 13, 3) := by decide +kernel
theorem dX5_init_14 : decode cX5_init 14 = .ok (.aload_n 0, 1) := by decide +kernel
theorem dX5_init_15 : decode cX5_init 15 = .ok (.bipush 6, 2) := by decide +kernel
theorem dX5_init_17 : decode cX5_init 17 = .ok (.newarray .int, 2) := by decide +kernel
theorem dX5_init_19 : decode cX5_init 19 = .ok (.putfield 16, 3) := by decide +kernel
theorem dX5_init_22 : decode cX5_init 22 = .ok (.aload_n 0, 1) := by decide +kernel
theorem dX5_init_23 : decode cX5_init 23 = .ok (.bipush 6, 2) := by decide +kernel
theorem dX5_init_25 : decode cX5_init 25 = .ok (.newarray .int, 2) := by decide +kernel
theorem dX5_init_27 : decode cX5_init 27 = .ok (.putfield 20, 3) := by decide +kernel
theorem dX5_init_30 : decode cX5_init 30 = .ok (.aload_n 0, 1) := by decide +kernel
theorem dX5_init_31 : decode cX5_init 31 = .ok (.bipush 8, 2) := by decide +kernel
theorem dX5_init_33 : decode cX5_init 33 = .ok (.newarray .int, 2) := by decide +kernel
theorem dX5_init_35 : decode cX5_init 35 = .ok (.putfield 23, 3) := by decide +kernel
theorem dX5_init_38 : decode cX5_init 38 = .ok (.aload_n 0, 1) := by decide +kernel
theorem dX5_init_39 : decode cX5_init 39 = .ok (.bipush 8, 2) := by decide +kernel
theorem dX5_init_41 : decode cX5_init 41 = .ok (.newarray .int, 2) := by decide +kernel
theorem dX5_init_43 : decode cX5_init 43 = .ok (.putfield 26, 3) := by decide +kernel
theorem dX5_init_46 : decode cX5_init 46 = .ok (.aload_n 0, 1) := by decide +kernel
theorem dX5_init_47 : decode cX5_init 47 = .ok (.bipush 8, 2) := by decide +kernel
theorem dX5_init_49 : decode cX5_init 49 = .ok (.newarray .int, 2) := by decide +kernel
theorem dX5_init_51 : decode cX5_init 51 = .ok (.putfield 29, 3) := by decide +kernel
theorem dX5_init_54 : decode cX5_init 54 = .ok (.aload_n 0, 1) := by decide +kernel
theorem dX5_init_55 : decode cX5_init 55 = .ok (.sipush 128, 3) := by decide +kernel
theorem dX5_init_58 : decode cX5_init 58 = .ok (.newarray .int, 2) := by decide +kernel
theorem dX5_init_60 : decode cX5_init 60 = .ok (.putfield 32, 3) := by decide +kernel
theorem dX5_init_63 : decode cX5_init 63 = .ok (.aload_n 0, 1) := by decide +kernel
theorem dX5_init_64 : decode cX5_init 64 = .ok (.bipush (-9), 2) := by decide +kernel
theorem dX5_init_66 : decode cX5_init 66 = .ok (.putfield 35, 3) := by decide +kernel
theorem dX5_init_69 : decode cX5_init 69 = .ok (.aload_n 0, 1) := by decide +kernel
theorem dX5_init_70 : decode cX5_init 70 = .ok (.sipush 640, 3) := by decide +kernel
theorem dX5_init_73 : decode cX5_init 73 = .ok (.newarray .int, 2) := by decide +kernel
theorem dX5_init_75 : decode cX5_init 75 = .ok (.putfield 38, 3) := by decide +kernel
theorem dX5_init_78 : decode cX5_init 78 = .ok (.aload_n 0, 1) := by decide +kernel
theorem dX5_init_79 : decode cX5_init 79 = .ok (.sipush 344, 3) := by decide +kernel
theorem dX5_init_82 : decode cX5_init 82 = .ok (.newarray .int, 2) := by decide +kernel
theorem dX5_init_84 : decode cX5_init 84 = .ok (.putfield 41, 3) := by decide +kernel
theorem dX5_init_87 : decode cX5_init 87 = .ok (.aload_n 0, 1) := by decide +kernel
theorem dX5_init_88 : decode cX5_init 88 = .ok (.bipush (-9), 2) := by decide +kernel
theorem dX5_init_90 : decode cX5_init 90 = .ok (.putfield 44, 3) := by decide +kernel
theorem dX5_init_93 : decode cX5_init 93 = .ok (.aload_n 0, 1) := by decide +kernel
theorem dX5_init_94 : decode cX5_init 94 = .ok (.sipush 600, 3) := by decide +kernel
theorem dX5_init_97 : decode cX5_init 97 = .ok (.newarray .int, 2) := by decide +kernel
theorem dX5_init_99 : decode cX5_init 99 = .ok (.putfield 47, 3) := by decide +kernel
theorem dX5_init_102 : decode cX5_init 102 = .ok (.aload_n 0, 1) := by decide +kernel
theorem dX5_init_103 : decode cX5_init 103 = .ok (.sipush 600, 3) := by decide +kernel
theorem dX5_init_106 : decode cX5_init 106 = .ok (.newarray .int, 2) := by decide +kernel
theorem dX5_init_108 : decode cX5_init 108 = .ok (.putfield 50, 3) := by decide +kernel
theorem dX5_init_111 : decode cX5_init 111 = .ok (.aload_n 0, 1) := by decide +kernel
theorem dX5_init_112 : decode cX5_init 112 = .ok (.sipush 344, 3) := by decide +kernel
theorem dX5_init_115 : decode cX5_init 115 = .ok (.newarray .int, 2) := by decide +kernel
theorem dX5_init_117 : decode cX5_init 117 = .ok (.putfield 53, 3) := by decide +kernel
theorem dX5_init_120 : decode cX5_init 120 = .ok (.aload_n 0, 1) := by decide +kernel
theorem dX5_init_121 : decode cX5_init 121 = .ok (.iconst 5, 1) := by decide +kernel
theorem dX5_init_122 : decode cX5_init 122 = .ok (.newarray .int, 2) := by decide +kernel
theorem dX5_init_124 : decode cX5_init 124 = .ok (.putfield 56, 3) := by decide +kernel
theorem dX5_init_127 : decode cX5_init 127 = .ok (.aload_n 0, 1) := by decide +kernel
theorem dX5_init_128 : decode cX5_init 128 = .ok (.bipush 13, 2) := by decide +kernel
theorem dX5_init_130 : decode cX5_init 130 = .ok (.newarray .long, 2) := by decide +kernel
theorem dX5_init_132 : decode cX5_init 132 = .ok (.putfield 59, 3) := by decide +kernel
theorem dX5_init_135 : decode cX5_init 135 = .ok (.aload_n 0, 1) := by decide +kernel
theorem dX5_init_136 : decode cX5_init 136 = .ok (.iconst 3, 1) := by decide +kernel
theorem dX5_init_137 : decode cX5_init 137 = .ok (.invokevirtual 63, 3) := by decide +kernel
theorem dX5_init_140 : decode cX5_init 140 = .ok (.return_, 1) := by decide +kernel
theorem dX5_in_0 : decode cX5_in 0 = .ok (.lload_n 0, 1) := by decide +kernel
theorem dX5_in_1 : decode cX5_in 1 = .ok (.lload_n 2, 1) := by decide +kernel
theorem dX5_in_2 : decode cX5_in 2 = .ok (.lcmp, 1) := by decide +kernel
theorem dX5_in_3 : decode cX5_in 3 = .ok (.ifCond .lt 14, 3) := by decide +kernel
theorem dX5_in_6 : decode cX5_in 6 = .ok (.lload_n 0, 1) := by decide +kernel
theorem dX5_in_7 : decode cX5_in 7 = .ok (.lload 4, 2) := by decide +kernel
theorem dX5_in_9 : decode cX5_in 9 = .ok (.lcmp, 1) := by decide +kernel
theorem dX5_in_10 : decode cX5_in 10 = .ok (.ifCond .gt 7, 3) := by decide +kernel
theorem dX5_in_13 : decode cX5_in 13 = .ok (.iconst 1, 1) := by decide +kernel
theorem dX5_in_14 : decode cX5_in 14 = .ok (.goto 4, 3) := by decide +kernel
theorem dX5_in_17 : decode cX5_in 17 = .ok (.iconst 0, 1) := by decide +kernel
theorem dX5_in_18 : decode cX5_in 18 = .ok (.ireturn, 1) := by decide +kernel
theorem dX5_left_0 : decode cX5_left 0 = .ok (.iload_n 1, 1) := by decide +kernel
theorem dX5_left_1 : decode cX5_left 1 = .ok (.aload_n 0, 1) := by decide +kernel
theorem dX5_left_2 : decode cX5_left 2 = .ok (.getfield 7, 3) := by decide +kernel
theorem dX5_left_5 : decode cX5_left 5 = .ok (.irem, 1) := by decide +kernel
theorem dX5_left_6 : decode cX5_left 6 = .ok (.istore_n 2, 1) := by decide +kernel
theorem dX5_left_7 : decode cX5_left 7 = .ok (.iload_n 2, 1) := by decide +kernel
theorem dX5_left_8 : decode cX5_left 8 = .ok (.ifCond .ge 12, 3) := by decide +kernel
theorem dX5_left_11 : decode cX5_left 11 = .ok (.iload_n 2, 1) := by decide +kernel
theorem dX5_left_12 : decode cX5_left 12 = .ok (.aload_n 0, 1) := by decide +kernel
theorem dX5_left_13 : decode cX5_left 13 = .ok (.getfield 7, 3) := by decide +kernel
theorem dX5_left_16 : decode cX5_left 16 = .ok (.iadd, 1) := by decide +kernel
theorem dX5_left_17 : decode cX5_left 17 = .ok (.goto 4, 3) := by decide +kernel
theorem dX5_left_20 : decode cX5_left 20 = .ok (.iload_n 2, 1) := by decide +kernel
theorem dX5_left_21 : decode cX5_left 21 = .ok (.ireturn, 1) := by decide +kernel
theorem dX5_inverse_0 : decode cX5_inverse 0 = .ok (.iconst 1, 1) := by decide +kernel
theorem dX5_inverse_1 : decode cX5_inverse 1 = .ok (.istore_n 2, 1) := by decide +kernel
theorem dX5_inverse_2 : decode cX5_inverse 2 = .ok (.iload_n 2, 1) := by decide +kernel
theorem dX5_inverse_3 : decode cX5_inverse 3 = .ok (.iload_n 1, 1) := by decide +kernel
theorem dX5_inverse_4 : decode cX5_inverse 4 = .ok (.imul, 1) := by decide +kernel
theorem dX5_inverse_5 : decode cX5_inverse 5 = .ok (.aload_n 0, 1) := by decide +kernel
theorem dX5_inverse_6 : decode cX5_inverse 6 = .ok (.getfield 7, 3) := by decide +kernel
theorem dX5_inverse_9 : decode cX5_inverse 9 = .ok (.irem, 1) := by decide +kernel
theorem dX5_inverse_10 : decode cX5_inverse 10 = .ok (.iconst 1, 1) := by decide +kernel
theorem dX5_inverse_11 : decode cX5_inverse 11 = .ok (.if_icmp .eq 9, 3) := by decide +kernel
theorem dX5_inverse_14 : decode cX5_inverse 14 = .ok (.iinc 2 1, 3) := by decide +kernel
theorem dX5_inverse_17 : decode cX5_inverse 17 = .ok (.goto (-15), 3) := by decide +kernel
theorem dX5_inverse_20 : decode cX5_inverse 20 = .ok (.iload_n 2, 1) := by decide +kernel
theorem dX5_inverse_21 : decode cX5_inverse 21 = .ok (.ireturn, 1) := by decide +kernel
theorem dX5_clear_0 : decode cX5_clear 0 = .ok (.iconst 0, 1) := by decide +kernel
theorem dX5_clear_1 : decode cX5_clear 1 = .ok (.istore_n 2, 1) := by decide +kernel
theorem dX5_clear_2 : decode cX5_clear 2 = .ok (.iload_n 2, 1) := by decide +kernel
theorem dX5_clear_3 : decode cX5_clear 3 = .ok (.bipush 16, 2) := by decide +kernel
theorem dX5_clear_5 : decode cX5_clear 5 = .ok (.if_icmp .ge 21, 3) := by decide +kernel
theorem dX5_clear_8 : decode cX5_clear 8 = .ok (.aload_n 0, 1) := by decide +kernel
theorem dX5_clear_9 : decode cX5_clear 9 = .ok (.getfield 38, 3) := by decide +kernel
theorem dX5_clear_12 : decode cX5_clear 12 = .ok (.bipush 16, 2) := by decide +kernel
theorem dX5_clear_14 : decode cX5_clear 14 = .ok (.iload_n 1, 1) := by decide +kernel
theorem dX5_clear_15 : decode cX5_clear 15 = .ok (.imul, 1) := by decide +kernel
theorem dX5_clear_16 : decode cX5_clear 16 = .ok (.iload_n 2, 1) := by decide +kernel
theorem dX5_clear_17 : decode cX5_clear 17 = .ok (.iadd, 1) := by decide +kernel
theorem dX5_clear_18 : decode cX5_clear 18 = .ok (.iconst 0, 1) := by decide +kernel
theorem dX5_clear_19 : decode cX5_clear 19 = .ok (.iastore, 1) := by decide +kernel
theorem dX5_clear_20 : decode cX5_clear 20 = .ok (.iinc 2 1, 3) := by decide +kernel
theorem dX5_clear_23 : decode cX5_clear 23 = .ok (.goto (-21), 3) := by decide +kernel
theorem dX5_clear_26 : decode cX5_clear 26 = .ok (.return_, 1) := by decide +kernel
theorem dX5_load_0 : decode cX5_load 0 = .ok (.iload_n 2, 1) := by decide +kernel
theorem dX5_load_1 : decode cX5_load 1 = .ok (.istore_n 3, 1) := by decide +kernel
theorem dX5_load_2 : decode cX5_load 2 = .ok (.iconst 0, 1) := by decide +kernel
theorem dX5_load_3 : decode cX5_load 3 = .ok (.istore 4, 2) := by decide +kernel
theorem dX5_load_5 : decode cX5_load 5 = .ok (.iload 4, 2) := by decide +kernel
theorem dX5_load_7 : decode cX5_load 7 = .ok (.bipush 16, 2) := by decide +kernel
theorem dX5_load_9 : decode cX5_load 9 = .ok (.if_icmp .ge 34, 3) := by decide +kernel
theorem dX5_load_12 : decode cX5_load 12 = .ok (.aload_n 0, 1) := by decide +kernel
theorem dX5_load_13 : decode cX5_load 13 = .ok (.getfield 38, 3) := by decide +kernel
theorem dX5_load_16 : decode cX5_load 16 = .ok (.bipush 16, 2) := by decide +kernel
theorem dX5_load_18 : decode cX5_load 18 = .ok (.iload_n 1, 1) := by decide +kernel
theorem dX5_load_19 : decode cX5_load 19 = .ok (.imul, 1) := by decide +kernel
theorem dX5_load_20 : decode cX5_load 20 = .ok (.iload 4, 2) := by decide +kernel
theorem dX5_load_22 : decode cX5_load 22 = .ok (.iadd, 1) := by decide +kernel
theorem dX5_load_23 : decode cX5_load 23 = .ok (.iload_n 3, 1) := by decide +kernel
theorem dX5_load_24 : decode cX5_load 24 = .ok (.aload_n 0, 1) := by decide +kernel
theorem dX5_load_25 : decode cX5_load 25 = .ok (.getfield 7, 3) := by decide +kernel
theorem dX5_load_28 : decode cX5_load 28 = .ok (.irem, 1) := by decide +kernel
theorem dX5_load_29 : decode cX5_load 29 = .ok (.iastore, 1) := by decide +kernel
theorem dX5_load_30 : decode cX5_load 30 = .ok (.iload_n 3, 1) := by decide +kernel
theorem dX5_load_31 : decode cX5_load 31 = .ok (.aload_n 0, 1) := by decide +kernel
theorem dX5_load_32 : decode cX5_load 32 = .ok (.getfield 7, 3) := by decide +kernel
theorem dX5_load_35 : decode cX5_load 35 = .ok (.idiv, 1) := by decide +kernel
theorem dX5_load_36 : decode cX5_load 36 = .ok (.istore_n 3, 1) := by decide +kernel
theorem dX5_load_37 : decode cX5_load 37 = .ok (.iinc 4 1, 3) := by decide +kernel
theorem dX5_load_40 : decode cX5_load 40 = .ok (.goto (-35), 3) := by decide +kernel
theorem dX5_load_43 : decode cX5_load 43 = .ok (.return_, 1) := by decide +kernel
theorem dX5_number_0 : decode cX5_number 0 = .ok (.iconst 0, 1) := by decide +kernel
theorem dX5_number_1 : decode cX5_number 1 = .ok (.istore_n 2, 1) := by decide +kernel
theorem dX5_number_2 : decode cX5_number 2 = .ok (.bipush 15, 2) := by decide +kernel
theorem dX5_number_4 : decode cX5_number 4 = .ok (.istore_n 3, 1) := by decide +kernel
theorem dX5_number_5 : decode cX5_number 5 = .ok (.iload_n 3, 1) := by decide +kernel
theorem dX5_number_6 : decode cX5_number 6 = .ok (.ifCond .lt 28, 3) := by decide +kernel
theorem dX5_number_9 : decode cX5_number 9 = .ok (.aload_n 0, 1) := by decide +kernel
theorem dX5_number_10 : decode cX5_number 10 = .ok (.getfield 7, 3) := by decide +kernel
theorem dX5_number_13 : decode cX5_number 13 = .ok (.iload_n 2, 1) := by decide +kernel
theorem dX5_number_14 : decode cX5_number 14 = .ok (.imul, 1) := by decide +kernel
theorem dX5_number_15 : decode cX5_number 15 = .ok (.aload_n 0, 1) := by decide +kernel
theorem dX5_number_16 : decode cX5_number 16 = .ok (.getfield 38, 3) := by decide +kernel
theorem dX5_number_19 : decode cX5_number 19 = .ok (.bipush 16, 2) := by decide +kernel
theorem dX5_number_21 : decode cX5_number 21 = .ok (.iload_n 1, 1) := by decide +kernel
theorem dX5_number_22 : decode cX5_number 22 = .ok (.imul, 1) := by decide +kernel
theorem dX5_number_23 : decode cX5_number 23 = .ok (.iload_n 3, 1) := by decide +kernel
theorem dX5_number_24 : decode cX5_number 24 = .ok (.iadd, 1) := by decide +kernel
theorem dX5_number_25 : decode cX5_number 25 = .ok (.iaload, 1) := by decide +kernel
theorem dX5_number_26 : decode cX5_number 26 = .ok (.iadd, 1) := by decide +kernel
theorem dX5_number_27 : decode cX5_number 27 = .ok (.istore_n 2, 1) := by decide +kernel
theorem dX5_number_28 : decode cX5_number 28 = .ok (.iinc 3 (-1), 3) := by decide +kernel
theorem dX5_number_31 : decode cX5_number 31 = .ok (.goto (-26), 3) := by decide +kernel
theorem dX5_number_34 : decode cX5_number 34 = .ok (.iload_n 2, 1) := by decide +kernel
theorem dX5_number_35 : decode cX5_number 35 = .ok (.ireturn, 1) := by decide +kernel
theorem dX5_copy_0 : decode cX5_copy 0 = .ok (.iconst 0, 1) := by decide +kernel
theorem dX5_copy_1 : decode cX5_copy 1 = .ok (.istore_n 3, 1) := by decide +kernel
theorem dX5_copy_2 : decode cX5_copy 2 = .ok (.iload_n 3, 1) := by decide +kernel
theorem dX5_copy_3 : decode cX5_copy 3 = .ok (.bipush 16, 2) := by decide +kernel
theorem dX5_copy_5 : decode cX5_copy 5 = .ok (.if_icmp .ge 31, 3) := by decide +kernel
theorem dX5_copy_8 : decode cX5_copy 8 = .ok (.aload_n 0, 1) := by decide +kernel
theorem dX5_copy_9 : decode cX5_copy 9 = .ok (.getfield 38, 3) := by decide +kernel
theorem dX5_copy_12 : decode cX5_copy 12 = .ok (.bipush 16, 2) := by decide +kernel
theorem dX5_copy_14 : decode cX5_copy 14 = .ok (.iload_n 1, 1) := by decide +kernel
theorem dX5_copy_15 : decode cX5_copy 15 = .ok (.imul, 1) := by decide +kernel
theorem dX5_copy_16 : decode cX5_copy 16 = .ok (.iload_n 3, 1) := by decide +kernel
theorem dX5_copy_17 : decode cX5_copy 17 = .ok (.iadd, 1) := by decide +kernel
theorem dX5_copy_18 : decode cX5_copy 18 = .ok (.aload_n 0, 1) := by decide +kernel
theorem dX5_copy_19 : decode cX5_copy 19 = .ok (.getfield 38, 3) := by decide +kernel
theorem dX5_copy_22 : decode cX5_copy 22 = .ok (.bipush 16, 2) := by decide +kernel
theorem dX5_copy_24 : decode cX5_copy 24 = .ok (.iload_n 2, 1) := by decide +kernel
theorem dX5_copy_25 : decode cX5_copy 25 = .ok (.imul, 1) := by decide +kernel
theorem dX5_copy_26 : decode cX5_copy 26 = .ok (.iload_n 3, 1) := by decide +kernel
theorem dX5_copy_27 : decode cX5_copy 27 = .ok (.iadd, 1) := by decide +kernel
theorem dX5_copy_28 : decode cX5_copy 28 = .ok (.iaload, 1) := by decide +kernel
theorem dX5_copy_29 : decode cX5_copy 29 = .ok (.iastore, 1) := by decide +kernel
theorem dX5_copy_30 : decode cX5_copy 30 = .ok (.iinc 3 1, 3) := by decide +kernel
theorem dX5_copy_33 : decode cX5_copy 33 = .ok (.goto (-31), 3) := by decide +kernel
theorem dX5_copy_36 : decode cX5_copy 36 = .ok (.return_, 1) := by decide +kernel
theorem dX5_degree_0 : decode cX5_degree 0 = .ok (.bipush 15, 2) := by decide +kernel
theorem dX5_degree_2 : decode cX5_degree 2 = .ok (.istore_n 2, 1) := by decide +kernel
theorem dX5_degree_3 : decode cX5_degree 3 = .ok (.iload_n 2, 1) := by decide +kernel
theorem dX5_degree_4 : decode cX5_degree 4 = .ok (.ifCond .lt 23, 3) := by decide +kernel
theorem dX5_degree_7 : decode cX5_degree 7 = .ok (.aload_n 0, 1) := by decide +kernel
theorem dX5_degree_8 : decode cX5_degree 8 = .ok (.getfield 38, 3) := by decide +kernel
theorem dX5_degree_11 : decode cX5_degree 11 = .ok (.bipush 16, 2) := by decide +kernel
theorem dX5_degree_13 : decode cX5_degree 13 = .ok (.iload_n 1, 1) := by decide +kernel
theorem dX5_degree_14 : decode cX5_degree 14 = .ok (.imul, 1) := by decide +kernel
theorem dX5_degree_15 : decode cX5_degree 15 = .ok (.iload_n 2, 1) := by decide +kernel
theorem dX5_degree_16 : decode cX5_degree 16 = .ok (.iadd, 1) := by decide +kernel
theorem dX5_degree_17 : decode cX5_degree 17 = .ok (.iaload, 1) := by decide +kernel
theorem dX5_degree_18 : decode cX5_degree 18 = .ok (.ifCond .ne 9, 3) := by decide +kernel
theorem dX5_degree_21 : decode cX5_degree 21 = .ok (.iinc 2 (-1), 3) := by decide +kernel
theorem dX5_degree_24 : decode cX5_degree 24 = .ok (.goto (-21), 3) := by decide +kernel
theorem dX5_degree_27 : decode cX5_degree 27 = .ok (.iload_n 2, 1) := by decide +kernel
theorem dX5_degree_28 : decode cX5_degree 28 = .ok (.ireturn, 1) := by decide +kernel
theorem dX5_join_0 : decode cX5_join 0 = .ok (.iconst 0, 1) := by decide +kernel
theorem dX5_join_1 : decode cX5_join 1 = .ok (.istore 5, 2) := by decide +kernel
theorem dX5_join_3 : decode cX5_join 3 = .ok (.iload 5, 2) := by decide +kernel
theorem dX5_join_5 : decode cX5_join 5 = .ok (.bipush 16, 2) := by decide +kernel
theorem dX5_join_7 : decode cX5_join 7 = .ok (.if_icmp .ge 53, 3) := by decide +kernel
theorem dX5_join_10 : decode cX5_join 10 = .ok (.aload_n 0, 1) := by decide +kernel
theorem dX5_join_11 : decode cX5_join 11 = .ok (.getfield 38, 3) := by decide +kernel
theorem dX5_join_14 : decode cX5_join 14 = .ok (.bipush 16, 2) := by decide +kernel
theorem dX5_join_16 : decode cX5_join 16 = .ok (.iload_n 1, 1) := by decide +kernel
theorem dX5_join_17 : decode cX5_join 17 = .ok (.imul, 1) := by decide +kernel
theorem dX5_join_18 : decode cX5_join 18 = .ok (.iload 5, 2) := by decide +kernel
theorem dX5_join_20 : decode cX5_join 20 = .ok (.iadd, 1) := by decide +kernel
theorem dX5_join_21 : decode cX5_join 21 = .ok (.aload_n 0, 1) := by decide +kernel
theorem dX5_join_22 : decode cX5_join 22 = .ok (.aload_n 0, 1) := by decide +kernel
theorem dX5_join_23 : decode cX5_join 23 = .ok (.getfield 38, 3) := by decide +kernel
theorem dX5_join_26 : decode cX5_join 26 = .ok (.bipush 16, 2) := by decide +kernel
theorem dX5_join_28 : decode cX5_join 28 = .ok (.iload_n 2, 1) := by decide +kernel
theorem dX5_join_29 : decode cX5_join 29 = .ok (.imul, 1) := by decide +kernel
theorem dX5_join_30 : decode cX5_join 30 = .ok (.iload 5, 2) := by decide +kernel
theorem dX5_join_32 : decode cX5_join 32 = .ok (.iadd, 1) := by decide +kernel
theorem dX5_join_33 : decode cX5_join 33 = .ok (.iaload, 1) := by decide +kernel
theorem dX5_join_34 : decode cX5_join 34 = .ok (.iload 4, 2) := by decide +kernel
theorem dX5_join_36 : decode cX5_join 36 = .ok (.aload_n 0, 1) := by decide +kernel
theorem dX5_join_37 : decode cX5_join 37 = .ok (.getfield 38, 3) := by decide +kernel
theorem dX5_join_40 : decode cX5_join 40 = .ok (.bipush 16, 2) := by decide +kernel
theorem dX5_join_42 : decode cX5_join 42 = .ok (.iload_n 3, 1) := by decide +kernel
theorem dX5_join_43 : decode cX5_join 43 = .ok (.imul, 1) := by decide +kernel
theorem dX5_join_44 : decode cX5_join 44 = .ok (.iload 5, 2) := by decide +kernel
theorem dX5_join_46 : decode cX5_join 46 = .ok (.iadd, 1) := by decide +kernel
theorem dX5_join_47 : decode cX5_join 47 = .ok (.iaload, 1) := by decide +kernel
theorem dX5_join_48 : decode cX5_join 48 = .ok (.imul, 1) := by decide +kernel
theorem dX5_join_49 : decode cX5_join 49 = .ok (.iadd, 1) := by decide +kernel
theorem dX5_join_50 : decode cX5_join 50 = .ok (.invokevirtual 70, 3) := by decide +kernel
theorem dX5_join_53 : decode cX5_join 53 = .ok (.iastore, 1) := by decide +kernel
theorem dX5_join_54 : decode cX5_join 54 = .ok (.iinc 5 1, 3) := by decide +kernel
theorem dX5_join_57 : decode cX5_join 57 = .ok (.goto (-54), 3) := by decide +kernel
theorem dX5_join_60 : decode cX5_join 60 = .ok (.return_, 1) := by decide +kernel
theorem dX5_scale_0 : decode cX5_scale 0 = .ok (.iconst 0, 1) := by decide +kernel
theorem dX5_scale_1 : decode cX5_scale 1 = .ok (.istore_n 3, 1) := by decide +kernel
theorem dX5_scale_2 : decode cX5_scale 2 = .ok (.iload_n 3, 1) := by decide +kernel
theorem dX5_scale_3 : decode cX5_scale 3 = .ok (.bipush 16, 2) := by decide +kernel
theorem dX5_scale_5 : decode cX5_scale 5 = .ok (.if_icmp .ge 38, 3) := by decide +kernel
theorem dX5_scale_8 : decode cX5_scale 8 = .ok (.aload_n 0, 1) := by decide +kernel
theorem dX5_scale_9 : decode cX5_scale 9 = .ok (.getfield 38, 3) := by decide +kernel
theorem dX5_scale_12 : decode cX5_scale 12 = .ok (.bipush 16, 2) := by decide +kernel
theorem dX5_scale_14 : decode cX5_scale 14 = .ok (.iload_n 1, 1) := by decide +kernel
theorem dX5_scale_15 : decode cX5_scale 15 = .ok (.imul, 1) := by decide +kernel
theorem dX5_scale_16 : decode cX5_scale 16 = .ok (.iload_n 3, 1) := by decide +kernel
theorem dX5_scale_17 : decode cX5_scale 17 = .ok (.iadd, 1) := by decide +kernel
theorem dX5_scale_18 : decode cX5_scale 18 = .ok (.aload_n 0, 1) := by decide +kernel
theorem dX5_scale_19 : decode cX5_scale 19 = .ok (.getfield 38, 3) := by decide +kernel
theorem dX5_scale_22 : decode cX5_scale 22 = .ok (.bipush 16, 2) := by decide +kernel
theorem dX5_scale_24 : decode cX5_scale 24 = .ok (.iload_n 1, 1) := by decide +kernel
theorem dX5_scale_25 : decode cX5_scale 25 = .ok (.imul, 1) := by decide +kernel
theorem dX5_scale_26 : decode cX5_scale 26 = .ok (.iload_n 3, 1) := by decide +kernel
theorem dX5_scale_27 : decode cX5_scale 27 = .ok (.iadd, 1) := by decide +kernel
theorem dX5_scale_28 : decode cX5_scale 28 = .ok (.iaload, 1) := by decide +kernel
theorem dX5_scale_29 : decode cX5_scale 29 = .ok (.iload_n 2, 1) := by decide +kernel
theorem dX5_scale_30 : decode cX5_scale 30 = .ok (.imul, 1) := by decide +kernel
theorem dX5_scale_31 : decode cX5_scale 31 = .ok (.aload_n 0, 1) := by decide +kernel
theorem dX5_scale_32 : decode cX5_scale 32 = .ok (.getfield 7, 3) := by decide +kernel
theorem dX5_scale_35 : decode cX5_scale 35 = .ok (.irem, 1) := by decide +kernel
theorem dX5_scale_36 : decode cX5_scale 36 = .ok (.iastore, 1) := by decide +kernel
theorem dX5_scale_37 : decode cX5_scale 37 = .ok (.iinc 3 1, 3) := by decide +kernel
theorem dX5_scale_40 : decode cX5_scale 40 = .ok (.goto (-38), 3) := by decide +kernel
theorem dX5_scale_43 : decode cX5_scale 43 = .ok (.return_, 1) := by decide +kernel
theorem dX5_multiply_0 : decode cX5_multiply 0 = .ok (.aload_n 0, 1) := by decide +kernel
theorem dX5_multiply_1 : decode cX5_multiply 1 = .ok (.iload_n 1, 1) := by decide +kernel
theorem dX5_multiply_2 : decode cX5_multiply 2 = .ok (.invokevirtual 74, 3) := by decide +kernel
theorem dX5_multiply_5 : decode cX5_multiply 5 = .ok (.aload_n 0, 1) := by decide +kernel
theorem dX5_multiply_6 : decode cX5_multiply 6 = .ok (.iload_n 2, 1) := by decide +kernel
theorem dX5_multiply_7 : decode cX5_multiply 7 = .ok (.invokevirtual 77, 3) := by decide +kernel
theorem dX5_multiply_10 : decode cX5_multiply 10 = .ok (.istore 4, 2) := by decide +kernel
theorem dX5_multiply_12 : decode cX5_multiply 12 = .ok (.aload_n 0, 1) := by decide +kernel
theorem dX5_multiply_13 : decode cX5_multiply 13 = .ok (.iload_n 3, 1) := by decide +kernel
theorem dX5_multiply_14 : decode cX5_multiply 14 = .ok (.invokevirtual 77, 3) := by decide +kernel
theorem dX5_multiply_17 : decode cX5_multiply 17 = .ok (.istore 5, 2) := by decide +kernel
theorem dX5_multiply_19 : decode cX5_multiply 19 = .ok (.iconst 0, 1) := by decide +kernel
theorem dX5_multiply_20 : decode cX5_multiply 20 = .ok (.istore 6, 2) := by decide +kernel
theorem dX5_multiply_22 : decode cX5_multiply 22 = .ok (.iload 6, 2) := by decide +kernel
theorem dX5_multiply_24 : decode cX5_multiply 24 = .ok (.iload 4, 2) := by decide +kernel
theorem dX5_multiply_26 : decode cX5_multiply 26 = .ok (.if_icmp .gt 86, 3) := by decide +kernel
theorem dX5_multiply_29 : decode cX5_multiply 29 = .ok (.iconst 0, 1) := by decide +kernel
theorem dX5_multiply_30 : decode cX5_multiply 30 = .ok (.istore 7, 2) := by decide +kernel
theorem dX5_multiply_32 : decode cX5_multiply 32 = .ok (.iload 7, 2) := by decide +kernel
theorem dX5_multiply_34 : decode cX5_multiply 34 = .ok (.iload 5, 2) := by decide +kernel
theorem dX5_multiply_36 : decode cX5_multiply 36 = .ok (.if_icmp .gt 70, 3) := by decide +kernel
theorem dX5_multiply_39 : decode cX5_multiply 39 = .ok (.aload_n 0, 1) := by decide +kernel
theorem dX5_multiply_40 : decode cX5_multiply 40 = .ok (.getfield 38, 3) := by decide +kernel
theorem dX5_multiply_43 : decode cX5_multiply 43 = .ok (.bipush 16, 2) := by decide +kernel
theorem dX5_multiply_45 : decode cX5_multiply 45 = .ok (.iload_n 1, 1) := by decide +kernel
theorem dX5_multiply_46 : decode cX5_multiply 46 = .ok (.imul, 1) := by decide +kernel
theorem dX5_multiply_47 : decode cX5_multiply 47 = .ok (.iload 6, 2) := by decide +kernel
theorem dX5_multiply_49 : decode cX5_multiply 49 = .ok (.iadd, 1) := by decide +kernel
theorem dX5_multiply_50 : decode cX5_multiply 50 = .ok (.iload 7, 2) := by decide +kernel
theorem dX5_multiply_52 : decode cX5_multiply 52 = .ok (.iadd, 1) := by decide +kernel
theorem dX5_multiply_53 : decode cX5_multiply 53 = .ok (.aload_n 0, 1) := by decide +kernel
theorem dX5_multiply_54 : decode cX5_multiply 54 = .ok (.getfield 38, 3) := by decide +kernel
theorem dX5_multiply_57 : decode cX5_multiply 57 = .ok (.bipush 16, 2) := by decide +kernel
theorem dX5_multiply_59 : decode cX5_multiply 59 = .ok (.iload_n 1, 1) := by decide +kernel
theorem dX5_multiply_60 : decode cX5_multiply 60 = .ok (.imul, 1) := by decide +kernel
theorem dX5_multiply_61 : decode cX5_multiply 61 = .ok (.iload 6, 2) := by decide +kernel
theorem dX5_multiply_63 : decode cX5_multiply 63 = .ok (.iadd, 1) := by decide +kernel
theorem dX5_multiply_64 : decode cX5_multiply 64 = .ok (.iload 7, 2) := by decide +kernel
theorem dX5_multiply_66 : decode cX5_multiply 66 = .ok (.iadd, 1) := by decide +kernel
theorem dX5_multiply_67 : decode cX5_multiply 67 = .ok (.iaload, 1) := by decide +kernel
theorem dX5_multiply_68 : decode cX5_multiply 68 = .ok (.aload_n 0, 1) := by decide +kernel
theorem dX5_multiply_69 : decode cX5_multiply 69 = .ok (.getfield 38, 3) := by decide +kernel
theorem dX5_multiply_72 : decode cX5_multiply 72 = .ok (.bipush 16, 2) := by decide +kernel
theorem dX5_multiply_74 : decode cX5_multiply 74 = .ok (.iload_n 2, 1) := by decide +kernel
theorem dX5_multiply_75 : decode cX5_multiply 75 = .ok (.imul, 1) := by decide +kernel
theorem dX5_multiply_76 : decode cX5_multiply 76 = .ok (.iload 6, 2) := by decide +kernel
theorem dX5_multiply_78 : decode cX5_multiply 78 = .ok (.iadd, 1) := by decide +kernel
theorem dX5_multiply_79 : decode cX5_multiply 79 = .ok (.iaload, 1) := by decide +kernel
theorem dX5_multiply_80 : decode cX5_multiply 80 = .ok (.aload_n 0, 1) := by decide +kernel
theorem dX5_multiply_81 : decode cX5_multiply 81 = .ok (.getfield 38, 3) := by decide +kernel
theorem dX5_multiply_84 : decode cX5_multiply 84 = .ok (.bipush 16, 2) := by decide +kernel
theorem dX5_multiply_86 : decode cX5_multiply 86 = .ok (.iload_n 3, 1) := by decide +kernel
theorem dX5_multiply_87 : decode cX5_multiply 87 = .ok (.imul, 1) := by decide +kernel
theorem dX5_multiply_88 : decode cX5_multiply 88 = .ok (.iload 7, 2) := by decide +kernel
theorem dX5_multiply_90 : decode cX5_multiply 90 = .ok (.iadd, 1) := by decide +kernel
theorem dX5_multiply_91 : decode cX5_multiply 91 = .ok (.iaload, 1) := by decide +kernel
theorem dX5_multiply_92 : decode cX5_multiply 92 = .ok (.imul, 1) := by decide +kernel
theorem dX5_multiply_93 : decode cX5_multiply 93 = .ok (.iadd, 1) := by decide +kernel
theorem dX5_multiply_94 : decode cX5_multiply 94 = .ok (.aload_n 0, 1) := by decide +kernel
theorem dX5_multiply_95 : decode cX5_multiply 95 = .ok (.getfield 7, 3) := by decide +kernel
theorem dX5_multiply_98 : decode cX5_multiply 98 = .ok (.irem, 1) := by decide +kernel
theorem dX5_multiply_99 : decode cX5_multiply 99 = .ok (.iastore, 1) := by decide +kernel
theorem dX5_multiply_100 : decode cX5_multiply 100 = .ok (.iinc 7 1, 3) := by decide +kernel
theorem dX5_multiply_103 : decode cX5_multiply 103 = .ok (.goto (-71), 3) := by decide +kernel
theorem dX5_multiply_106 : decode cX5_multiply 106 = .ok (.iinc 6 1, 3) := by decide +kernel
theorem dX5_multiply_109 : decode cX5_multiply 109 = .ok (.goto (-87), 3) := by decide +kernel
theorem dX5_multiply_112 : decode cX5_multiply 112 = .ok (.return_, 1) := by decide +kernel
theorem dX5_divide_0 : decode cX5_divide 0 = .ok (.aload_n 0, 1) := by decide +kernel
theorem dX5_divide_1 : decode cX5_divide 1 = .ok (.iload_n 1, 1) := by decide +kernel
theorem dX5_divide_2 : decode cX5_divide 2 = .ok (.invokevirtual 74, 3) := by decide +kernel
theorem dX5_divide_5 : decode cX5_divide 5 = .ok (.aload_n 0, 1) := by decide +kernel
theorem dX5_divide_6 : decode cX5_divide 6 = .ok (.iload_n 2, 1) := by decide +kernel
theorem dX5_divide_7 : decode cX5_divide 7 = .ok (.iload_n 3, 1) := by decide +kernel
theorem dX5_divide_8 : decode cX5_divide 8 = .ok (.invokevirtual 80, 3) := by decide +kernel
theorem dX5_divide_11 : decode cX5_divide 11 = .ok (.aload_n 0, 1) := by decide +kernel
theorem dX5_divide_12 : decode cX5_divide 12 = .ok (.iload 4, 2) := by decide +kernel
theorem dX5_divide_14 : decode cX5_divide 14 = .ok (.invokevirtual 77, 3) := by decide +kernel
theorem dX5_divide_17 : decode cX5_divide 17 = .ok (.istore 5, 2) := by decide +kernel
theorem dX5_divide_19 : decode cX5_divide 19 = .ok (.aload_n 0, 1) := by decide +kernel
theorem dX5_divide_20 : decode cX5_divide 20 = .ok (.aload_n 0, 1) := by decide +kernel
theorem dX5_divide_21 : decode cX5_divide 21 = .ok (.getfield 38, 3) := by decide +kernel
theorem dX5_divide_24 : decode cX5_divide 24 = .ok (.bipush 16, 2) := by decide +kernel
theorem dX5_divide_26 : decode cX5_divide 26 = .ok (.iload 4, 2) := by decide +kernel
theorem dX5_divide_28 : decode cX5_divide 28 = .ok (.imul, 1) := by decide +kernel
theorem dX5_divide_29 : decode cX5_divide 29 = .ok (.iload 5, 2) := by decide +kernel
theorem dX5_divide_31 : decode cX5_divide 31 = .ok (.iadd, 1) := by decide +kernel
theorem dX5_divide_32 : decode cX5_divide 32 = .ok (.iaload, 1) := by decide +kernel
theorem dX5_divide_33 : decode cX5_divide 33 = .ok (.invokevirtual 84, 3) := by decide +kernel
theorem dX5_divide_36 : decode cX5_divide 36 = .ok (.istore 6, 2) := by decide +kernel
theorem dX5_divide_38 : decode cX5_divide 38 = .ok (.aload_n 0, 1) := by decide +kernel
theorem dX5_divide_39 : decode cX5_divide 39 = .ok (.iload_n 2, 1) := by decide +kernel
theorem dX5_divide_40 : decode cX5_divide 40 = .ok (.invokevirtual 77, 3) := by decide +kernel
theorem dX5_divide_43 : decode cX5_divide 43 = .ok (.istore 7, 2) := by decide +kernel
theorem dX5_divide_45 : decode cX5_divide 45 = .ok (.iload 7, 2) := by decide +kernel
theorem dX5_divide_47 : decode cX5_divide 47 = .ok (.iload 5, 2) := by decide +kernel
theorem dX5_divide_49 : decode cX5_divide 49 = .ok (.if_icmp .lt 125, 3) := by decide +kernel
theorem dX5_divide_52 : decode cX5_divide 52 = .ok (.aload_n 0, 1) := by decide +kernel
theorem dX5_divide_53 : decode cX5_divide 53 = .ok (.getfield 38, 3) := by decide +kernel
theorem dX5_divide_56 : decode cX5_divide 56 = .ok (.bipush 16, 2) := by decide +kernel
theorem dX5_divide_58 : decode cX5_divide 58 = .ok (.iload_n 2, 1) := by decide +kernel
theorem dX5_divide_59 : decode cX5_divide 59 = .ok (.imul, 1) := by decide +kernel
theorem dX5_divide_60 : decode cX5_divide 60 = .ok (.iload 7, 2) := by decide +kernel
theorem dX5_divide_62 : decode cX5_divide 62 = .ok (.iadd, 1) := by decide +kernel
theorem dX5_divide_63 : decode cX5_divide 63 = .ok (.iaload, 1) := by decide +kernel
theorem dX5_divide_64 : decode cX5_divide 64 = .ok (.iload 6, 2) := by decide +kernel
theorem dX5_divide_66 : decode cX5_divide 66 = .ok (.imul, 1) := by decide +kernel
theorem dX5_divide_67 : decode cX5_divide 67 = .ok (.aload_n 0, 1) := by decide +kernel
theorem dX5_divide_68 : decode cX5_divide 68 = .ok (.getfield 7, 3) := by decide +kernel
theorem dX5_divide_71 : decode cX5_divide 71 = .ok (.irem, 1) := by decide +kernel
theorem dX5_divide_72 : decode cX5_divide 72 = .ok (.istore 8, 2) := by decide +kernel
theorem dX5_divide_74 : decode cX5_divide 74 = .ok (.aload_n 0, 1) := by decide +kernel
theorem dX5_divide_75 : decode cX5_divide 75 = .ok (.getfield 38, 3) := by decide +kernel
theorem dX5_divide_78 : decode cX5_divide 78 = .ok (.bipush 16, 2) := by decide +kernel
theorem dX5_divide_80 : decode cX5_divide 80 = .ok (.iload_n 1, 1) := by decide +kernel
theorem dX5_divide_81 : decode cX5_divide 81 = .ok (.imul, 1) := by decide +kernel
theorem dX5_divide_82 : decode cX5_divide 82 = .ok (.iload 7, 2) := by decide +kernel
theorem dX5_divide_84 : decode cX5_divide 84 = .ok (.iadd, 1) := by decide +kernel
theorem dX5_divide_85 : decode cX5_divide 85 = .ok (.iload 5, 2) := by decide +kernel
theorem dX5_divide_87 : decode cX5_divide 87 = .ok (.isub, 1) := by decide +kernel
theorem dX5_divide_88 : decode cX5_divide 88 = .ok (.iload 8, 2) := by decide +kernel
theorem dX5_divide_90 : decode cX5_divide 90 = .ok (.iastore, 1) := by decide +kernel
theorem dX5_divide_91 : decode cX5_divide 91 = .ok (.iconst 0, 1) := by decide +kernel
theorem dX5_divide_92 : decode cX5_divide 92 = .ok (.istore 9, 2) := by decide +kernel
theorem dX5_divide_94 : decode cX5_divide 94 = .ok (.iload 9, 2) := by decide +kernel
theorem dX5_divide_96 : decode cX5_divide 96 = .ok (.iload 5, 2) := by decide +kernel
theorem dX5_divide_98 : decode cX5_divide 98 = .ok (.if_icmp .gt 66, 3) := by decide +kernel
theorem dX5_divide_101 : decode cX5_divide 101 = .ok (.aload_n 0, 1) := by decide +kernel
theorem dX5_divide_102 : decode cX5_divide 102 = .ok (.getfield 38, 3) := by decide +kernel
theorem dX5_divide_105 : decode cX5_divide 105 = .ok (.bipush 16, 2) := by decide +kernel
theorem dX5_divide_107 : decode cX5_divide 107 = .ok (.iload_n 2, 1) := by decide +kernel
theorem dX5_divide_108 : decode cX5_divide 108 = .ok (.imul, 1) := by decide +kernel
theorem dX5_divide_109 : decode cX5_divide 109 = .ok (.iload 7, 2) := by decide +kernel
theorem dX5_divide_111 : decode cX5_divide 111 = .ok (.iadd, 1) := by decide +kernel
theorem dX5_divide_112 : decode cX5_divide 112 = .ok (.iload 5, 2) := by decide +kernel
theorem dX5_divide_114 : decode cX5_divide 114 = .ok (.isub, 1) := by decide +kernel
theorem dX5_divide_115 : decode cX5_divide 115 = .ok (.iload 9, 2) := by decide +kernel
theorem dX5_divide_117 : decode cX5_divide 117 = .ok (.iadd, 1) := by decide +kernel
theorem dX5_divide_118 : decode cX5_divide 118 = .ok (.aload_n 0, 1) := by decide +kernel
theorem dX5_divide_119 : decode cX5_divide 119 = .ok (.aload_n 0, 1) := by decide +kernel
theorem dX5_divide_120 : decode cX5_divide 120 = .ok (.getfield 38, 3) := by decide +kernel
theorem dX5_divide_123 : decode cX5_divide 123 = .ok (.bipush 16, 2) := by decide +kernel
theorem dX5_divide_125 : decode cX5_divide 125 = .ok (.iload_n 2, 1) := by decide +kernel
theorem dX5_divide_126 : decode cX5_divide 126 = .ok (.imul, 1) := by decide +kernel
theorem dX5_divide_127 : decode cX5_divide 127 = .ok (.iload 7, 2) := by decide +kernel
theorem dX5_divide_129 : decode cX5_divide 129 = .ok (.iadd, 1) := by decide +kernel
theorem dX5_divide_130 : decode cX5_divide 130 = .ok (.iload 5, 2) := by decide +kernel
theorem dX5_divide_132 : decode cX5_divide 132 = .ok (.isub, 1) := by decide +kernel
theorem dX5_divide_133 : decode cX5_divide 133 = .ok (.iload 9, 2) := by decide +kernel
theorem dX5_divide_135 : decode cX5_divide 135 = .ok (.iadd, 1) := by decide +kernel
theorem dX5_divide_136 : decode cX5_divide 136 = .ok (.iaload, 1) := by decide +kernel
theorem dX5_divide_137 : decode cX5_divide 137 = .ok (.iload 8, 2) := by decide +kernel
theorem dX5_divide_139 : decode cX5_divide 139 = .ok (.aload_n 0, 1) := by decide +kernel
theorem dX5_divide_140 : decode cX5_divide 140 = .ok (.getfield 38, 3) := by decide +kernel
theorem dX5_divide_143 : decode cX5_divide 143 = .ok (.bipush 16, 2) := by decide +kernel
theorem dX5_divide_145 : decode cX5_divide 145 = .ok (.iload 4, 2) := by decide +kernel
theorem dX5_divide_147 : decode cX5_divide 147 = .ok (.imul, 1) := by decide +kernel
theorem dX5_divide_148 : decode cX5_divide 148 = .ok (.iload 9, 2) := by decide +kernel
theorem dX5_divide_150 : decode cX5_divide 150 = .ok (.iadd, 1) := by decide +kernel
theorem dX5_divide_151 : decode cX5_divide 151 = .ok (.iaload, 1) := by decide +kernel
theorem dX5_divide_152 : decode cX5_divide 152 = .ok (.imul, 1) := by decide +kernel
theorem dX5_divide_153 : decode cX5_divide 153 = .ok (.isub, 1) := by decide +kernel
theorem dX5_divide_154 : decode cX5_divide 154 = .ok (.invokevirtual 70, 3) := by decide +kernel
theorem dX5_divide_157 : decode cX5_divide 157 = .ok (.iastore, 1) := by decide +kernel
theorem dX5_divide_158 : decode cX5_divide 158 = .ok (.iinc 9 1, 3) := by decide +kernel
theorem dX5_divide_161 : decode cX5_divide 161 = .ok (.goto (-67), 3) := by decide +kernel
theorem dX5_divide_164 : decode cX5_divide 164 = .ok (.aload_n 0, 1) := by decide +kernel
theorem dX5_divide_165 : decode cX5_divide 165 = .ok (.iload_n 2, 1) := by decide +kernel
theorem dX5_divide_166 : decode cX5_divide 166 = .ok (.invokevirtual 77, 3) := by decide +kernel
theorem dX5_divide_169 : decode cX5_divide 169 = .ok (.istore 7, 2) := by decide +kernel
theorem dX5_divide_171 : decode cX5_divide 171 = .ok (.goto (-126), 3) := by decide +kernel
theorem dX5_divide_174 : decode cX5_divide 174 = .ok (.return_, 1) := by decide +kernel
theorem dX5_common_0 : decode cX5_common 0 = .ok (.aload_n 0, 1) := by decide +kernel
theorem dX5_common_1 : decode cX5_common 1 = .ok (.iload_n 1, 1) := by decide +kernel
theorem dX5_common_2 : decode cX5_common 2 = .ok (.iload 4, 2) := by decide +kernel
theorem dX5_common_4 : decode cX5_common 4 = .ok (.invokevirtual 80, 3) := by decide +kernel
theorem dX5_common_7 : decode cX5_common 7 = .ok (.aload_n 0, 1) := by decide +kernel
theorem dX5_common_8 : decode cX5_common 8 = .ok (.bipush 30, 2) := by decide +kernel
theorem dX5_common_10 : decode cX5_common 10 = .ok (.iload 5, 2) := by decide +kernel
theorem dX5_common_12 : decode cX5_common 12 = .ok (.invokevirtual 80, 3) := by decide +kernel
theorem dX5_common_15 : decode cX5_common 15 = .ok (.aload_n 0, 1) := by decide +kernel
theorem dX5_common_16 : decode cX5_common 16 = .ok (.iload_n 2, 1) := by decide +kernel
theorem dX5_common_17 : decode cX5_common 17 = .ok (.iconst 1, 1) := by decide +kernel
theorem dX5_common_18 : decode cX5_common 18 = .ok (.invokevirtual 87, 3) := by decide +kernel
theorem dX5_common_21 : decode cX5_common 21 = .ok (.aload_n 0, 1) := by decide +kernel
theorem dX5_common_22 : decode cX5_common 22 = .ok (.bipush 31, 2) := by decide +kernel
theorem dX5_common_24 : decode cX5_common 24 = .ok (.invokevirtual 74, 3) := by decide +kernel
theorem dX5_common_27 : decode cX5_common 27 = .ok (.aload_n 0, 1) := by decide +kernel
theorem dX5_common_28 : decode cX5_common 28 = .ok (.iload_n 3, 1) := by decide +kernel
theorem dX5_common_29 : decode cX5_common 29 = .ok (.invokevirtual 74, 3) := by decide +kernel
theorem dX5_common_32 : decode cX5_common 32 = .ok (.aload_n 0, 1) := by decide +kernel
theorem dX5_common_33 : decode cX5_common 33 = .ok (.bipush 32, 2) := by decide +kernel
theorem dX5_common_35 : decode cX5_common 35 = .ok (.iconst 1, 1) := by decide +kernel
theorem dX5_common_36 : decode cX5_common 36 = .ok (.invokevirtual 87, 3) := by decide +kernel
theorem dX5_common_39 : decode cX5_common 39 = .ok (.aload_n 0, 1) := by decide +kernel
theorem dX5_common_40 : decode cX5_common 40 = .ok (.bipush 30, 2) := by decide +kernel
theorem dX5_common_42 : decode cX5_common 42 = .ok (.invokevirtual 77, 3) := by decide +kernel
theorem dX5_common_45 : decode cX5_common 45 = .ok (.ifCond .lt 112, 3) := by decide +kernel
theorem dX5_common_48 : decode cX5_common 48 = .ok (.aload_n 0, 1) := by decide +kernel
theorem dX5_common_49 : decode cX5_common 49 = .ok (.bipush 33, 2) := by decide +kernel
theorem dX5_common_51 : decode cX5_common 51 = .ok (.bipush 34, 2) := by decide +kernel
theorem dX5_common_53 : decode cX5_common 53 = .ok (.iload_n 1, 1) := by decide +kernel
theorem dX5_common_54 : decode cX5_common 54 = .ok (.bipush 30, 2) := by decide +kernel
theorem dX5_common_56 : decode cX5_common 56 = .ok (.invokevirtual 90, 3) := by decide +kernel
theorem dX5_common_59 : decode cX5_common 59 = .ok (.aload_n 0, 1) := by decide +kernel
theorem dX5_common_60 : decode cX5_common 60 = .ok (.iload_n 1, 1) := by decide +kernel
theorem dX5_common_61 : decode cX5_common 61 = .ok (.bipush 30, 2) := by decide +kernel
theorem dX5_common_63 : decode cX5_common 63 = .ok (.invokevirtual 80, 3) := by decide +kernel
theorem dX5_common_66 : decode cX5_common 66 = .ok (.aload_n 0, 1) := by decide +kernel
theorem dX5_common_67 : decode cX5_common 67 = .ok (.bipush 30, 2) := by decide +kernel
theorem dX5_common_69 : decode cX5_common 69 = .ok (.bipush 34, 2) := by decide +kernel
theorem dX5_common_71 : decode cX5_common 71 = .ok (.invokevirtual 80, 3) := by decide +kernel
theorem dX5_common_74 : decode cX5_common 74 = .ok (.aload_n 0, 1) := by decide +kernel
theorem dX5_common_75 : decode cX5_common 75 = .ok (.bipush 35, 2) := by decide +kernel
theorem dX5_common_77 : decode cX5_common 77 = .ok (.bipush 33, 2) := by decide +kernel
theorem dX5_common_79 : decode cX5_common 79 = .ok (.bipush 31, 2) := by decide +kernel
theorem dX5_common_81 : decode cX5_common 81 = .ok (.invokevirtual 94, 3) := by decide +kernel
theorem dX5_common_84 : decode cX5_common 84 = .ok (.aload_n 0, 1) := by decide +kernel
theorem dX5_common_85 : decode cX5_common 85 = .ok (.bipush 36, 2) := by decide +kernel
theorem dX5_common_87 : decode cX5_common 87 = .ok (.iload_n 2, 1) := by decide +kernel
theorem dX5_common_88 : decode cX5_common 88 = .ok (.bipush 35, 2) := by decide +kernel
theorem dX5_common_90 : decode cX5_common 90 = .ok (.aload_n 0, 1) := by decide +kernel
theorem dX5_common_91 : decode cX5_common 91 = .ok (.getfield 7, 3) := by decide +kernel
theorem dX5_common_94 : decode cX5_common 94 = .ok (.iconst 1, 1) := by decide +kernel
theorem dX5_common_95 : decode cX5_common 95 = .ok (.isub, 1) := by decide +kernel
theorem dX5_common_96 : decode cX5_common 96 = .ok (.invokevirtual 98, 3) := by decide +kernel
theorem dX5_common_99 : decode cX5_common 99 = .ok (.aload_n 0, 1) := by decide +kernel
theorem dX5_common_100 : decode cX5_common 100 = .ok (.iload_n 2, 1) := by decide +kernel
theorem dX5_common_101 : decode cX5_common 101 = .ok (.bipush 31, 2) := by decide +kernel
theorem dX5_common_103 : decode cX5_common 103 = .ok (.invokevirtual 80, 3) := by decide +kernel
theorem dX5_common_106 : decode cX5_common 106 = .ok (.aload_n 0, 1) := by decide +kernel
theorem dX5_common_107 : decode cX5_common 107 = .ok (.bipush 31, 2) := by decide +kernel
theorem dX5_common_109 : decode cX5_common 109 = .ok (.bipush 36, 2) := by decide +kernel
theorem dX5_common_111 : decode cX5_common 111 = .ok (.invokevirtual 80, 3) := by decide +kernel
theorem dX5_common_114 : decode cX5_common 114 = .ok (.aload_n 0, 1) := by decide +kernel
theorem dX5_common_115 : decode cX5_common 115 = .ok (.bipush 35, 2) := by decide +kernel
theorem dX5_common_117 : decode cX5_common 117 = .ok (.bipush 33, 2) := by decide +kernel
theorem dX5_common_119 : decode cX5_common 119 = .ok (.bipush 32, 2) := by decide +kernel
theorem dX5_common_121 : decode cX5_common 121 = .ok (.invokevirtual 94, 3) := by decide +kernel
theorem dX5_common_124 : decode cX5_common 124 = .ok (.aload_n 0, 1) := by decide +kernel
theorem dX5_common_125 : decode cX5_common 125 = .ok (.bipush 36, 2) := by decide +kernel
theorem dX5_common_127 : decode cX5_common 127 = .ok (.iload_n 3, 1) := by decide +kernel
theorem dX5_common_128 : decode cX5_common 128 = .ok (.bipush 35, 2) := by decide +kernel
theorem dX5_common_130 : decode cX5_common 130 = .ok (.aload_n 0, 1) := by decide +kernel
theorem dX5_common_131 : decode cX5_common 131 = .ok (.getfield 7, 3) := by decide +kernel
theorem dX5_common_134 : decode cX5_common 134 = .ok (.iconst 1, 1) := by decide +kernel
theorem dX5_common_135 : decode cX5_common 135 = .ok (.isub, 1) := by decide +kernel
theorem dX5_common_136 : decode cX5_common 136 = .ok (.invokevirtual 98, 3) := by decide +kernel
theorem dX5_common_139 : decode cX5_common 139 = .ok (.aload_n 0, 1) := by decide +kernel
theorem dX5_common_140 : decode cX5_common 140 = .ok (.iload_n 3, 1) := by decide +kernel
theorem dX5_common_141 : decode cX5_common 141 = .ok (.bipush 32, 2) := by decide +kernel
theorem dX5_common_143 : decode cX5_common 143 = .ok (.invokevirtual 80, 3) := by decide +kernel
theorem dX5_common_146 : decode cX5_common 146 = .ok (.aload_n 0, 1) := by decide +kernel
theorem dX5_common_147 : decode cX5_common 147 = .ok (.bipush 32, 2) := by decide +kernel
theorem dX5_common_149 : decode cX5_common 149 = .ok (.bipush 36, 2) := by decide +kernel
theorem dX5_common_151 : decode cX5_common 151 = .ok (.invokevirtual 80, 3) := by decide +kernel
theorem dX5_common_154 : decode cX5_common 154 = .ok (.goto (-115), 3) := by decide +kernel
theorem dX5_common_157 : decode cX5_common 157 = .ok (.aload_n 0, 1) := by decide +kernel
theorem dX5_common_158 : decode cX5_common 158 = .ok (.aload_n 0, 1) := by decide +kernel
theorem dX5_common_159 : decode cX5_common 159 = .ok (.getfield 38, 3) := by decide +kernel
theorem dX5_common_162 : decode cX5_common 162 = .ok (.bipush 16, 2) := by decide +kernel
theorem dX5_common_164 : decode cX5_common 164 = .ok (.iload_n 1, 1) := by decide +kernel
theorem dX5_common_165 : decode cX5_common 165 = .ok (.imul, 1) := by decide +kernel
theorem dX5_common_166 : decode cX5_common 166 = .ok (.aload_n 0, 1) := by decide +kernel
theorem dX5_common_167 : decode cX5_common 167 = .ok (.iload_n 1, 1) := by decide +kernel
theorem dX5_common_168 : decode cX5_common 168 = .ok (.invokevirtual 77, 3) := by decide +kernel
theorem dX5_common_171 : decode cX5_common 171 = .ok (.iadd, 1) := by decide +kernel
theorem dX5_common_172 : decode cX5_common 172 = .ok (.iaload, 1) := by decide +kernel
theorem dX5_common_173 : decode cX5_common 173 = .ok (.invokevirtual 84, 3) := by decide +kernel
theorem dX5_common_176 : decode cX5_common 176 = .ok (.istore 6, 2) := by decide +kernel
theorem dX5_common_178 : decode cX5_common 178 = .ok (.aload_n 0, 1) := by decide +kernel
theorem dX5_common_179 : decode cX5_common 179 = .ok (.iload_n 1, 1) := by decide +kernel
theorem dX5_common_180 : decode cX5_common 180 = .ok (.iload 6, 2) := by decide +kernel
theorem dX5_common_182 : decode cX5_common 182 = .ok (.invokevirtual 101, 3) := by decide +kernel
theorem dX5_common_185 : decode cX5_common 185 = .ok (.aload_n 0, 1) := by decide +kernel
theorem dX5_common_186 : decode cX5_common 186 = .ok (.iload_n 2, 1) := by decide +kernel
theorem dX5_common_187 : decode cX5_common 187 = .ok (.iload 6, 2) := by decide +kernel
theorem dX5_common_189 : decode cX5_common 189 = .ok (.invokevirtual 101, 3) := by decide +kernel
theorem dX5_common_192 : decode cX5_common 192 = .ok (.aload_n 0, 1) := by decide +kernel
theorem dX5_common_193 : decode cX5_common 193 = .ok (.iload_n 3, 1) := by decide +kernel
theorem dX5_common_194 : decode cX5_common 194 = .ok (.iload 6, 2) := by decide +kernel
theorem dX5_common_196 : decode cX5_common 196 = .ok (.invokevirtual 101, 3) := by decide +kernel
theorem dX5_common_199 : decode cX5_common 199 = .ok (.return_, 1) := by decide +kernel
theorem dX5_begins_0 : decode cX5_begins 0 = .ok (.aload_n 0, 1) := by decide +kernel
theorem dX5_begins_1 : decode cX5_begins 1 = .ok (.iload_n 1, 1) := by decide +kernel
theorem dX5_begins_2 : decode cX5_begins 2 = .ok (.putfield 7, 3) := by decide +kernel
theorem dX5_begins_5 : decode cX5_begins 5 = .ok (.aload_n 0, 1) := by decide +kernel
theorem dX5_begins_6 : decode cX5_begins 6 = .ok (.iconst 0, 1) := by decide +kernel
theorem dX5_begins_7 : decode cX5_begins 7 = .ok (.putfield 13, 3) := by decide +kernel
theorem dX5_begins_10 : decode cX5_begins 10 = .ok (.aload_n 0, 1) := by decide +kernel
theorem dX5_begins_11 : decode cX5_begins 11 = .ok (.getfield 7, 3) := by decide +kernel
theorem dX5_begins_14 : decode cX5_begins 14 = .ok (.istore_n 2, 1) := by decide +kernel
theorem dX5_begins_15 : decode cX5_begins 15 = .ok (.iload_n 2, 1) := by decide +kernel
theorem dX5_begins_16 : decode cX5_begins 16 = .ok (.sipush 343, 3) := by decide +kernel
theorem dX5_begins_19 : decode cX5_begins 19 = .ok (.if_icmp .gt 51, 3) := by decide +kernel
theorem dX5_begins_22 : decode cX5_begins 22 = .ok (.aload_n 0, 1) := by decide +kernel
theorem dX5_begins_23 : decode cX5_begins 23 = .ok (.dup, 1) := by decide +kernel
theorem dX5_begins_24 : decode cX5_begins 24 = .ok (.getfield 13, 3) := by decide +kernel
theorem dX5_begins_27 : decode cX5_begins 27 = .ok (.iconst 1, 1) := by decide +kernel
theorem dX5_begins_28 : decode cX5_begins 28 = .ok (.iadd, 1) := by decide +kernel
theorem dX5_begins_29 : decode cX5_begins 29 = .ok (.putfield 13, 3) := by decide +kernel
theorem dX5_begins_32 : decode cX5_begins 32 = .ok (.aload_n 0, 1) := by decide +kernel
theorem dX5_begins_33 : decode cX5_begins 33 = .ok (.getfield 16, 3) := by decide +kernel
theorem dX5_begins_36 : decode cX5_begins 36 = .ok (.aload_n 0, 1) := by decide +kernel
theorem dX5_begins_37 : decode cX5_begins 37 = .ok (.getfield 13, 3) := by decide +kernel
theorem dX5_begins_40 : decode cX5_begins 40 = .ok (.iload_n 2, 1) := by decide +kernel
theorem dX5_begins_41 : decode cX5_begins 41 = .ok (.iastore, 1) := by decide +kernel
theorem dX5_begins_42 : decode cX5_begins 42 = .ok (.aload_n 0, 1) := by decide +kernel
theorem dX5_begins_43 : decode cX5_begins 43 = .ok (.getfield 20, 3) := by decide +kernel
theorem dX5_begins_46 : decode cX5_begins 46 = .ok (.aload_n 0, 1) := by decide +kernel
theorem dX5_begins_47 : decode cX5_begins 47 = .ok (.getfield 13, 3) := by decide +kernel
theorem dX5_begins_50 : decode cX5_begins 50 = .ok (.aload_n 0, 1) := by decide +kernel
theorem dX5_begins_51 : decode cX5_begins 51 = .ok (.aload_n 0, 1) := by decide +kernel
theorem dX5_begins_52 : decode cX5_begins 52 = .ok (.getfield 13, 3) := by decide +kernel
theorem dX5_begins_55 : decode cX5_begins 55 = .ok (.iload_n 2, 1) := by decide +kernel
theorem dX5_begins_56 : decode cX5_begins 56 = .ok (.invokevirtual 104, 3) := by decide +kernel
theorem dX5_begins_59 : decode cX5_begins 59 = .ok (.iastore, 1) := by decide +kernel
theorem dX5_begins_60 : decode cX5_begins 60 = .ok (.iload_n 2, 1) := by decide +kernel
theorem dX5_begins_61 : decode cX5_begins 61 = .ok (.aload_n 0, 1) := by decide +kernel
theorem dX5_begins_62 : decode cX5_begins 62 = .ok (.getfield 7, 3) := by decide +kernel
theorem dX5_begins_65 : decode cX5_begins 65 = .ok (.imul, 1) := by decide +kernel
theorem dX5_begins_66 : decode cX5_begins 66 = .ok (.istore_n 2, 1) := by decide +kernel
theorem dX5_begins_67 : decode cX5_begins 67 = .ok (.goto (-52), 3) := by decide +kernel
theorem dX5_begins_70 : decode cX5_begins 70 = .ok (.aload_n 0, 1) := by decide +kernel
theorem dX5_begins_71 : decode cX5_begins 71 = .ok (.iconst 0, 1) := by decide +kernel
theorem dX5_begins_72 : decode cX5_begins 72 = .ok (.putfield 108, 3) := by decide +kernel
theorem dX5_begins_75 : decode cX5_begins 75 = .ok (.aload_n 0, 1) := by decide +kernel
theorem dX5_begins_76 : decode cX5_begins 76 = .ok (.bipush (-9), 2) := by decide +kernel
theorem dX5_begins_78 : decode cX5_begins 78 = .ok (.putfield 44, 3) := by decide +kernel
theorem dX5_begins_81 : decode cX5_begins 81 = .ok (.aload_n 0, 1) := by decide +kernel
theorem dX5_begins_82 : decode cX5_begins 82 = .ok (.iconst 0, 1) := by decide +kernel
theorem dX5_begins_83 : decode cX5_begins 83 = .ok (.putfield 111, 3) := by decide +kernel
theorem dX5_begins_86 : decode cX5_begins 86 = .ok (.aload_n 0, 1) := by decide +kernel
theorem dX5_begins_87 : decode cX5_begins 87 = .ok (.iconst 1, 1) := by decide +kernel
theorem dX5_begins_88 : decode cX5_begins 88 = .ok (.invokevirtual 114, 3) := by decide +kernel
theorem dX5_begins_91 : decode cX5_begins 91 = .ok (.aload_n 0, 1) := by decide +kernel
theorem dX5_begins_92 : decode cX5_begins 92 = .ok (.iconst 0, 1) := by decide +kernel
theorem dX5_begins_93 : decode cX5_begins 93 = .ok (.putfield 117, 3) := by decide +kernel
theorem dX5_begins_96 : decode cX5_begins 96 = .ok (.aload_n 0, 1) := by decide +kernel
theorem dX5_begins_97 : decode cX5_begins 97 = .ok (.getfield 41, 3) := by decide +kernel
theorem dX5_begins_100 : decode cX5_begins 100 = .ok (.aload_n 0, 1) := by decide +kernel
theorem dX5_begins_101 : decode cX5_begins 101 = .ok (.getfield 117, 3) := by decide +kernel
theorem dX5_begins_104 : decode cX5_begins 104 = .ok (.iaload, 1) := by decide +kernel
theorem dX5_begins_105 : decode cX5_begins 105 = .ok (.ifCond .lt 16, 3) := by decide +kernel
theorem dX5_begins_108 : decode cX5_begins 108 = .ok (.aload_n 0, 1) := by decide +kernel
theorem dX5_begins_109 : decode cX5_begins 109 = .ok (.dup, 1) := by decide +kernel
theorem dX5_begins_110 : decode cX5_begins 110 = .ok (.getfield 117, 3) := by decide +kernel
theorem dX5_begins_113 : decode cX5_begins 113 = .ok (.iconst 1, 1) := by decide +kernel
theorem dX5_begins_114 : decode cX5_begins 114 = .ok (.iadd, 1) := by decide +kernel
theorem dX5_begins_115 : decode cX5_begins 115 = .ok (.putfield 117, 3) := by decide +kernel
theorem dX5_begins_118 : decode cX5_begins 118 = .ok (.goto (-22), 3) := by decide +kernel
theorem dX5_begins_121 : decode cX5_begins 121 = .ok (.return_, 1) := by decide +kernel
theorem dX5_least_0 : decode cX5_least 0 = .ok (.iload_n 2, 1) := by decide +kernel
theorem dX5_least_1 : decode cX5_least 1 = .ok (.istore_n 3, 1) := by decide +kernel
theorem dX5_least_2 : decode cX5_least 2 = .ok (.aload_n 0, 1) := by decide +kernel
theorem dX5_least_3 : decode cX5_least 3 = .ok (.iconst 0, 1) := by decide +kernel
theorem dX5_least_4 : decode cX5_least 4 = .ok (.iload_n 3, 1) := by decide +kernel
theorem dX5_least_5 : decode cX5_least 5 = .ok (.invokevirtual 87, 3) := by decide +kernel
theorem dX5_least_8 : decode cX5_least 8 = .ok (.iconst 1, 1) := by decide +kernel
theorem dX5_least_9 : decode cX5_least 9 = .ok (.istore 4, 2) := by decide +kernel
theorem dX5_least_11 : decode cX5_least 11 = .ok (.aload_n 0, 1) := by decide +kernel
theorem dX5_least_12 : decode cX5_least 12 = .ok (.getfield 7, 3) := by decide +kernel
theorem dX5_least_15 : decode cX5_least 15 = .ok (.istore 5, 2) := by decide +kernel
theorem dX5_least_17 : decode cX5_least 17 = .ok (.iconst 1, 1) := by decide +kernel
theorem dX5_least_18 : decode cX5_least 18 = .ok (.istore 6, 2) := by decide +kernel
theorem dX5_least_20 : decode cX5_least 20 = .ok (.iconst 2, 1) := by decide +kernel
theorem dX5_least_21 : decode cX5_least 21 = .ok (.iload 6, 2) := by decide +kernel
theorem dX5_least_23 : decode cX5_least 23 = .ok (.imul, 1) := by decide +kernel
theorem dX5_least_24 : decode cX5_least 24 = .ok (.iload_n 1, 1) := by decide +kernel
theorem dX5_least_25 : decode cX5_least 25 = .ok (.if_icmp .gt 77, 3) := by decide +kernel
theorem dX5_least_28 : decode cX5_least 28 = .ok (.iload 4, 2) := by decide +kernel
theorem dX5_least_30 : decode cX5_least 30 = .ok (.ifCond .eq 72, 3) := by decide +kernel
theorem dX5_least_33 : decode cX5_least 33 = .ok (.iload 5, 2) := by decide +kernel
theorem dX5_least_35 : decode cX5_least 35 = .ok (.istore 7, 2) := by decide +kernel
theorem dX5_least_37 : decode cX5_least 37 = .ok (.iload 7, 2) := by decide +kernel
theorem dX5_least_39 : decode cX5_least 39 = .ok (.iconst 2, 1) := by decide +kernel
theorem dX5_least_40 : decode cX5_least 40 = .ok (.iload 5, 2) := by decide +kernel
theorem dX5_least_42 : decode cX5_least 42 = .ok (.imul, 1) := by decide +kernel
theorem dX5_least_43 : decode cX5_least 43 = .ok (.if_icmp .ge 44, 3) := by decide +kernel
theorem dX5_least_46 : decode cX5_least 46 = .ok (.iload 4, 2) := by decide +kernel
theorem dX5_least_48 : decode cX5_least 48 = .ok (.ifCond .eq 39, 3) := by decide +kernel
