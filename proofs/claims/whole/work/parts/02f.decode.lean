theorem dX5_needShares_70 : decode cX5_needShares 70 = .ok (.iload_n 1, 1) := by decide +kernel
theorem dX5_needShares_71 : decode cX5_needShares 71 = .ok (.iconst 2, 1) := by decide +kernel
theorem dX5_needShares_72 : decode cX5_needShares 72 = .ok (.invokevirtual 189, 3) := by decide +kernel
theorem dX5_needShares_75 : decode cX5_needShares 75 = .ok (.aload_n 0, 1) := by decide +kernel
theorem dX5_needShares_76 : decode cX5_needShares 76 = .ok (.getfield 7, 3) := by decide +kernel
theorem dX5_needShares_79 : decode cX5_needShares 79 = .ok (.aload_n 0, 1) := by decide +kernel
theorem dX5_needShares_80 : decode cX5_needShares 80 = .ok (.getfield 7, 3) := by decide +kernel
theorem dX5_needShares_83 : decode cX5_needShares 83 = .ok (.imul, 1) := by decide +kernel
theorem dX5_needShares_84 : decode cX5_needShares 84 = .ok (.isub, 1) := by decide +kernel
theorem dX5_needShares_85 : decode cX5_needShares 85 = .ok (.iconst 1, 1) := by decide +kernel
theorem dX5_needShares_86 : decode cX5_needShares 86 = .ok (.isub, 1) := by decide +kernel
theorem dX5_needShares_87 : decode cX5_needShares 87 = .ok (.aload_n 0, 1) := by decide +kernel
theorem dX5_needShares_88 : decode cX5_needShares 88 = .ok (.getfield 56, 3) := by decide +kernel
theorem dX5_needShares_91 : decode cX5_needShares 91 = .ok (.iconst 1, 1) := by decide +kernel
theorem dX5_needShares_92 : decode cX5_needShares 92 = .ok (.iaload, 1) := by decide +kernel
theorem dX5_needShares_93 : decode cX5_needShares 93 = .ok (.aload_n 0, 1) := by decide +kernel
theorem dX5_needShares_94 : decode cX5_needShares 94 = .ok (.getfield 56, 3) := by decide +kernel
theorem dX5_needShares_97 : decode cX5_needShares 97 = .ok (.iconst 1, 1) := by decide +kernel
theorem dX5_needShares_98 : decode cX5_needShares 98 = .ok (.iaload, 1) := by decide +kernel
theorem dX5_needShares_99 : decode cX5_needShares 99 = .ok (.imul, 1) := by decide +kernel
theorem dX5_needShares_100 : decode cX5_needShares 100 = .ok (.iadd, 1) := by decide +kernel
theorem dX5_needShares_101 : decode cX5_needShares 101 = .ok (.iconst 2, 1) := by decide +kernel
theorem dX5_needShares_102 : decode cX5_needShares 102 = .ok (.idiv, 1) := by decide +kernel
theorem dX5_needShares_103 : decode cX5_needShares 103 = .ok (.iastore, 1) := by decide +kernel
theorem dX5_needShares_104 : decode cX5_needShares 104 = .ok (.aload_n 0, 1) := by decide +kernel
theorem dX5_needShares_105 : decode cX5_needShares 105 = .ok (.getfield 56, 3) := by decide +kernel
theorem dX5_needShares_108 : decode cX5_needShares 108 = .ok (.iconst 3, 1) := by decide +kernel
theorem dX5_needShares_109 : decode cX5_needShares 109 = .ok (.aload_n 0, 1) := by decide +kernel
theorem dX5_needShares_110 : decode cX5_needShares 110 = .ok (.getfield 7, 3) := by decide +kernel
theorem dX5_needShares_113 : decode cX5_needShares 113 = .ok (.aload_n 0, 1) := by decide +kernel
theorem dX5_needShares_114 : decode cX5_needShares 114 = .ok (.getfield 56, 3) := by decide +kernel
theorem dX5_needShares_117 : decode cX5_needShares 117 = .ok (.iconst 1, 1) := by decide +kernel
theorem dX5_needShares_118 : decode cX5_needShares 118 = .ok (.iaload, 1) := by decide +kernel
theorem dX5_needShares_119 : decode cX5_needShares 119 = .ok (.imul, 1) := by decide +kernel
theorem dX5_needShares_120 : decode cX5_needShares 120 = .ok (.iastore, 1) := by decide +kernel
theorem dX5_needShares_121 : decode cX5_needShares 121 = .ok (.aload_n 0, 1) := by decide +kernel
theorem dX5_needShares_122 : decode cX5_needShares 122 = .ok (.getfield 56, 3) := by decide +kernel
theorem dX5_needShares_125 : decode cX5_needShares 125 = .ok (.iconst 4, 1) := by decide +kernel
theorem dX5_needShares_126 : decode cX5_needShares 126 = .ok (.aload_n 0, 1) := by decide +kernel
theorem dX5_needShares_127 : decode cX5_needShares 127 = .ok (.getfield 7, 3) := by decide +kernel
theorem dX5_needShares_130 : decode cX5_needShares 130 = .ok (.aload_n 0, 1) := by decide +kernel
theorem dX5_needShares_131 : decode cX5_needShares 131 = .ok (.getfield 7, 3) := by decide +kernel
theorem dX5_needShares_134 : decode cX5_needShares 134 = .ok (.imul, 1) := by decide +kernel
theorem dX5_needShares_135 : decode cX5_needShares 135 = .ok (.iastore, 1) := by decide +kernel
theorem dX5_needShares_136 : decode cX5_needShares 136 = .ok (.return_, 1) := by decide +kernel
theorem dX5_share_0 : decode cX5_share 0 = .ok (.aload_n 0, 1) := by decide +kernel
theorem dX5_share_1 : decode cX5_share 1 = .ok (.iconst 0, 1) := by decide +kernel
theorem dX5_share_2 : decode cX5_share 2 = .ok (.putfield 67, 3) := by decide +kernel
theorem dX5_share_5 : decode cX5_share 5 = .ok (.aload_n 0, 1) := by decide +kernel
theorem dX5_share_6 : decode cX5_share 6 = .ok (.iload_n 1, 1) := by decide +kernel
theorem dX5_share_7 : decode cX5_share 7 = .ok (.invokevirtual 164, 3) := by decide +kernel
theorem dX5_share_10 : decode cX5_share 10 = .ok (.ifCond .eq 20, 3) := by decide +kernel
theorem dX5_share_13 : decode cX5_share 13 = .ok (.iload_n 2, 1) := by decide +kernel
theorem dX5_share_14 : decode cX5_share 14 = .ok (.i2l, 1) := by decide +kernel
theorem dX5_share_15 : decode cX5_share 15 = .ok (.lconst 0, 1) := by decide +kernel
theorem dX5_share_16 : decode cX5_share 16 = .ok (.iconst 2, 1) := by decide +kernel
theorem dX5_share_17 : decode cX5_share 17 = .ok (.aload_n 0, 1) := by decide +kernel
theorem dX5_share_18 : decode cX5_share 18 = .ok (.iload_n 1, 1) := by decide +kernel
theorem dX5_share_19 : decode cX5_share 19 = .ok (.invokevirtual 169, 3) := by decide +kernel
theorem dX5_share_22 : decode cX5_share 22 = .ok (.imul, 1) := by decide +kernel
theorem dX5_share_23 : decode cX5_share 23 = .ok (.i2l, 1) := by decide +kernel
theorem dX5_share_24 : decode cX5_share 24 = .ok (.invokestatic 127, 3) := by decide +kernel
theorem dX5_share_27 : decode cX5_share 27 = .ok (.ifCond .ne 6, 3) := by decide +kernel
theorem dX5_share_30 : decode cX5_share 30 = .ok (.ldc 145, 2) := by decide +kernel
theorem dX5_share_32 : decode cX5_share 32 = .ok (.ireturn, 1) := by decide +kernel
theorem dX5_share_33 : decode cX5_share 33 = .ok (.aload_n 0, 1) := by decide +kernel
theorem dX5_share_34 : decode cX5_share 34 = .ok (.iload_n 1, 1) := by decide +kernel
theorem dX5_share_35 : decode cX5_share 35 = .ok (.invokevirtual 192, 3) := by decide +kernel
theorem dX5_share_38 : decode cX5_share 38 = .ok (.aload_n 0, 1) := by decide +kernel
theorem dX5_share_39 : decode cX5_share 39 = .ok (.getfield 56, 3) := by decide +kernel
theorem dX5_share_42 : decode cX5_share 42 = .ok (.iload_n 2, 1) := by decide +kernel
theorem dX5_share_43 : decode cX5_share 43 = .ok (.iaload, 1) := by decide +kernel
theorem dX5_share_44 : decode cX5_share 44 = .ok (.ireturn, 1) := by decide +kernel
theorem dX5_further_0 : decode cX5_further 0 = .ok (.aload_n 0, 1) := by decide +kernel
theorem dX5_further_1 : decode cX5_further 1 = .ok (.iconst 0, 1) := by decide +kernel
theorem dX5_further_2 : decode cX5_further 2 = .ok (.putfield 67, 3) := by decide +kernel
theorem dX5_further_5 : decode cX5_further 5 = .ok (.aload_n 0, 1) := by decide +kernel
theorem dX5_further_6 : decode cX5_further 6 = .ok (.iload_n 1, 1) := by decide +kernel
theorem dX5_further_7 : decode cX5_further 7 = .ok (.invokevirtual 164, 3) := by decide +kernel
theorem dX5_further_10 : decode cX5_further 10 = .ok (.ifCond .eq 15, 3) := by decide +kernel
theorem dX5_further_13 : decode cX5_further 13 = .ok (.iload_n 2, 1) := by decide +kernel
theorem dX5_further_14 : decode cX5_further 14 = .ok (.i2l, 1) := by decide +kernel
theorem dX5_further_15 : decode cX5_further 15 = .ok (.lconst 1, 1) := by decide +kernel
theorem dX5_further_16 : decode cX5_further 16 = .ok (.ldc2_w 195, 3) := by decide +kernel
theorem dX5_further_19 : decode cX5_further 19 = .ok (.invokestatic 127, 3) := by decide +kernel
theorem dX5_further_22 : decode cX5_further 22 = .ok (.ifCond .ne 7, 3) := by decide +kernel
theorem dX5_further_25 : decode cX5_further 25 = .ok (.ldc2_w 197, 3) := by decide +kernel
theorem dX5_further_28 : decode cX5_further 28 = .ok (.lreturn, 1) := by decide +kernel
theorem dX5_further_29 : decode cX5_further 29 = .ok (.aload_n 0, 1) := by decide +kernel
theorem dX5_further_30 : decode cX5_further 30 = .ok (.iload_n 1, 1) := by decide +kernel
theorem dX5_further_31 : decode cX5_further 31 = .ok (.invokevirtual 192, 3) := by decide +kernel
theorem dX5_further_34 : decode cX5_further 34 = .ok (.lconst 1, 1) := by decide +kernel
theorem dX5_further_35 : decode cX5_further 35 = .ok (.lstore_n 3, 1) := by decide +kernel
theorem dX5_further_36 : decode cX5_further 36 = .ok (.iconst 1, 1) := by decide +kernel
theorem dX5_further_37 : decode cX5_further 37 = .ok (.istore 5, 2) := by decide +kernel
theorem dX5_further_39 : decode cX5_further 39 = .ok (.iload 5, 2) := by decide +kernel
theorem dX5_further_41 : decode cX5_further 41 = .ok (.iload_n 2, 1) := by decide +kernel
theorem dX5_further_42 : decode cX5_further 42 = .ok (.if_icmp .gt 97, 3) := by decide +kernel
theorem dX5_further_45 : decode cX5_further 45 = .ok (.lload_n 3, 1) := by decide +kernel
theorem dX5_further_46 : decode cX5_further 46 = .ok (.aload_n 0, 1) := by decide +kernel
theorem dX5_further_47 : decode cX5_further 47 = .ok (.getfield 7, 3) := by decide +kernel
theorem dX5_further_50 : decode cX5_further 50 = .ok (.i2l, 1) := by decide +kernel
theorem dX5_further_51 : decode cX5_further 51 = .ok (.lmul, 1) := by decide +kernel
theorem dX5_further_52 : decode cX5_further 52 = .ok (.lstore_n 3, 1) := by decide +kernel
theorem dX5_further_53 : decode cX5_further 53 = .ok (.iload 5, 2) := by decide +kernel
theorem dX5_further_55 : decode cX5_further 55 = .ok (.iconst 5, 1) := by decide +kernel
theorem dX5_further_56 : decode cX5_further 56 = .ok (.if_icmp .ge 19, 3) := by decide +kernel
theorem dX5_further_59 : decode cX5_further 59 = .ok (.iload 5, 2) := by decide +kernel
theorem dX5_further_61 : decode cX5_further 61 = .ok (.i2l, 1) := by decide +kernel
theorem dX5_further_62 : decode cX5_further 62 = .ok (.lneg, 1) := by decide +kernel
theorem dX5_further_63 : decode cX5_further 63 = .ok (.aload_n 0, 1) := by decide +kernel
theorem dX5_further_64 : decode cX5_further 64 = .ok (.getfield 56, 3) := by decide +kernel
theorem dX5_further_67 : decode cX5_further 67 = .ok (.iload 5, 2) := by decide +kernel
theorem dX5_further_69 : decode cX5_further 69 = .ok (.iaload, 1) := by decide +kernel
theorem dX5_further_70 : decode cX5_further 70 = .ok (.i2l, 1) := by decide +kernel
theorem dX5_further_71 : decode cX5_further 71 = .ok (.lmul, 1) := by decide +kernel
theorem dX5_further_72 : decode cX5_further 72 = .ok (.goto 4, 3) := by decide +kernel
theorem dX5_further_75 : decode cX5_further 75 = .ok (.lconst 0, 1) := by decide +kernel
theorem dX5_further_76 : decode cX5_further 76 = .ok (.lstore 6, 2) := by decide +kernel
theorem dX5_further_78 : decode cX5_further 78 = .ok (.iconst 1, 1) := by decide +kernel
theorem dX5_further_79 : decode cX5_further 79 = .ok (.istore 8, 2) := by decide +kernel
theorem dX5_further_81 : decode cX5_further 81 = .ok (.iload 8, 2) := by decide +kernel
theorem dX5_further_83 : decode cX5_further 83 = .ok (.iload 5, 2) := by decide +kernel
theorem dX5_further_85 : decode cX5_further 85 = .ok (.if_icmp .ge 39, 3) := by decide +kernel
theorem dX5_further_88 : decode cX5_further 88 = .ok (.iload 8, 2) := by decide +kernel
theorem dX5_further_90 : decode cX5_further 90 = .ok (.iconst 5, 1) := by decide +kernel
theorem dX5_further_91 : decode cX5_further 91 = .ok (.if_icmp .ge 33, 3) := by decide +kernel
theorem dX5_further_94 : decode cX5_further 94 = .ok (.lload 6, 2) := by decide +kernel
theorem dX5_further_96 : decode cX5_further 96 = .ok (.aload_n 0, 1) := by decide +kernel
theorem dX5_further_97 : decode cX5_further 97 = .ok (.getfield 56, 3) := by decide +kernel
theorem dX5_further_100 : decode cX5_further 100 = .ok (.iload 8, 2) := by decide +kernel
theorem dX5_further_102 : decode cX5_further 102 = .ok (.iaload, 1) := by decide +kernel
theorem dX5_further_103 : decode cX5_further 103 = .ok (.i2l, 1) := by decide +kernel
theorem dX5_further_104 : decode cX5_further 104 = .ok (.aload_n 0, 1) := by decide +kernel
theorem dX5_further_105 : decode cX5_further 105 = .ok (.getfield 59, 3) := by decide +kernel
theorem dX5_further_108 : decode cX5_further 108 = .ok (.iload 5, 2) := by decide +kernel
theorem dX5_further_110 : decode cX5_further 110 = .ok (.iload 8, 2) := by decide +kernel
theorem dX5_further_112 : decode cX5_further 112 = .ok (.isub, 1) := by decide +kernel
theorem dX5_further_113 : decode cX5_further 113 = .ok (.laload, 1) := by decide +kernel
theorem dX5_further_114 : decode cX5_further 114 = .ok (.lmul, 1) := by decide +kernel
theorem dX5_further_115 : decode cX5_further 115 = .ok (.lsub, 1) := by decide +kernel
theorem dX5_further_116 : decode cX5_further 116 = .ok (.lstore 6, 2) := by decide +kernel
theorem dX5_further_118 : decode cX5_further 118 = .ok (.iinc 8 1, 3) := by decide +kernel
theorem dX5_further_121 : decode cX5_further 121 = .ok (.goto (-40), 3) := by decide +kernel
theorem dX5_further_124 : decode cX5_further 124 = .ok (.aload_n 0, 1) := by decide +kernel
theorem dX5_further_125 : decode cX5_further 125 = .ok (.getfield 59, 3) := by decide +kernel
theorem dX5_further_128 : decode cX5_further 128 = .ok (.iload 5, 2) := by decide +kernel
theorem dX5_further_130 : decode cX5_further 130 = .ok (.lload 6, 2) := by decide +kernel
theorem dX5_further_132 : decode cX5_further 132 = .ok (.lastore, 1) := by decide +kernel
theorem dX5_further_133 : decode cX5_further 133 = .ok (.iinc 5 1, 3) := by decide +kernel
theorem dX5_further_136 : decode cX5_further 136 = .ok (.goto (-97), 3) := by decide +kernel
theorem dX5_further_139 : decode cX5_further 139 = .ok (.lload_n 3, 1) := by decide +kernel
theorem dX5_further_140 : decode cX5_further 140 = .ok (.lconst 1, 1) := by decide +kernel
theorem dX5_further_141 : decode cX5_further 141 = .ok (.ladd, 1) := by decide +kernel
theorem dX5_further_142 : decode cX5_further 142 = .ok (.aload_n 0, 1) := by decide +kernel
theorem dX5_further_143 : decode cX5_further 143 = .ok (.getfield 59, 3) := by decide +kernel
theorem dX5_further_146 : decode cX5_further 146 = .ok (.iload_n 2, 1) := by decide +kernel
theorem dX5_further_147 : decode cX5_further 147 = .ok (.laload, 1) := by decide +kernel
theorem dX5_further_148 : decode cX5_further 148 = .ok (.lsub, 1) := by decide +kernel
theorem dX5_further_149 : decode cX5_further 149 = .ok (.lreturn, 1) := by decide +kernel
theorem dX5_wholeOf_0 : decode cX5_wholeOf 0 = .ok (.aload_n 0, 1) := by decide +kernel
theorem dX5_wholeOf_1 : decode cX5_wholeOf 1 = .ok (.iload_n 1, 1) := by decide +kernel
theorem dX5_wholeOf_2 : decode cX5_wholeOf 2 = .ok (.invokevirtual 192, 3) := by decide +kernel
theorem dX5_wholeOf_5 : decode cX5_wholeOf 5 = .ok (.aload_n 0, 1) := by decide +kernel
theorem dX5_wholeOf_6 : decode cX5_wholeOf 6 = .ok (.getfield 56, 3) := by decide +kernel
theorem dX5_wholeOf_9 : decode cX5_wholeOf 9 = .ok (.iconst 0, 1) := by decide +kernel
theorem dX5_wholeOf_10 : decode cX5_wholeOf 10 = .ok (.iaload, 1) := by decide +kernel
theorem dX5_wholeOf_11 : decode cX5_wholeOf 11 = .ok (.aload_n 0, 1) := by decide +kernel
theorem dX5_wholeOf_12 : decode cX5_wholeOf 12 = .ok (.getfield 56, 3) := by decide +kernel
theorem dX5_wholeOf_15 : decode cX5_wholeOf 15 = .ok (.iconst 1, 1) := by decide +kernel
theorem dX5_wholeOf_16 : decode cX5_wholeOf 16 = .ok (.iaload, 1) := by decide +kernel
theorem dX5_wholeOf_17 : decode cX5_wholeOf 17 = .ok (.iadd, 1) := by decide +kernel
theorem dX5_wholeOf_18 : decode cX5_wholeOf 18 = .ok (.aload_n 0, 1) := by decide +kernel
theorem dX5_wholeOf_19 : decode cX5_wholeOf 19 = .ok (.getfield 56, 3) := by decide +kernel
theorem dX5_wholeOf_22 : decode cX5_wholeOf 22 = .ok (.iconst 2, 1) := by decide +kernel
theorem dX5_wholeOf_23 : decode cX5_wholeOf 23 = .ok (.iaload, 1) := by decide +kernel
theorem dX5_wholeOf_24 : decode cX5_wholeOf 24 = .ok (.iadd, 1) := by decide +kernel
theorem dX5_wholeOf_25 : decode cX5_wholeOf 25 = .ok (.aload_n 0, 1) := by decide +kernel
theorem dX5_wholeOf_26 : decode cX5_wholeOf 26 = .ok (.getfield 56, 3) := by decide +kernel
theorem dX5_wholeOf_29 : decode cX5_wholeOf 29 = .ok (.iconst 3, 1) := by decide +kernel
theorem dX5_wholeOf_30 : decode cX5_wholeOf 30 = .ok (.iaload, 1) := by decide +kernel
theorem dX5_wholeOf_31 : decode cX5_wholeOf 31 = .ok (.iadd, 1) := by decide +kernel
theorem dX5_wholeOf_32 : decode cX5_wholeOf 32 = .ok (.aload_n 0, 1) := by decide +kernel
theorem dX5_wholeOf_33 : decode cX5_wholeOf 33 = .ok (.getfield 56, 3) := by decide +kernel
theorem dX5_wholeOf_36 : decode cX5_wholeOf 36 = .ok (.iconst 4, 1) := by decide +kernel
theorem dX5_wholeOf_37 : decode cX5_wholeOf 37 = .ok (.iaload, 1) := by decide +kernel
theorem dX5_wholeOf_38 : decode cX5_wholeOf 38 = .ok (.iadd, 1) := by decide +kernel
theorem dX5_wholeOf_39 : decode cX5_wholeOf 39 = .ok (.ireturn, 1) := by decide +kernel
theorem dX5_whole_0 : decode cX5_whole 0 = .ok (.aload_n 0, 1) := by decide +kernel
theorem dX5_whole_1 : decode cX5_whole 1 = .ok (.iconst 0, 1) := by decide +kernel
theorem dX5_whole_2 : decode cX5_whole 2 = .ok (.putfield 67, 3) := by decide +kernel
theorem dX5_whole_5 : decode cX5_whole 5 = .ok (.aload_n 0, 1) := by decide +kernel
theorem dX5_whole_6 : decode cX5_whole 6 = .ok (.iload_n 1, 1) := by decide +kernel
theorem dX5_whole_7 : decode cX5_whole 7 = .ok (.invokevirtual 164, 3) := by decide +kernel
theorem dX5_whole_10 : decode cX5_whole 10 = .ok (.ifCond .eq 11, 3) := by decide +kernel
theorem dX5_whole_13 : decode cX5_whole 13 = .ok (.aload_n 0, 1) := by decide +kernel
theorem dX5_whole_14 : decode cX5_whole 14 = .ok (.iload_n 1, 1) := by decide +kernel
theorem dX5_whole_15 : decode cX5_whole 15 = .ok (.invokevirtual 199, 3) := by decide +kernel
theorem dX5_whole_18 : decode cX5_whole 18 = .ok (.goto 4, 3) := by decide +kernel
theorem dX5_whole_21 : decode cX5_whole 21 = .ok (.iconst (-1), 1) := by decide +kernel
theorem dX5_whole_22 : decode cX5_whole 22 = .ok (.ireturn, 1) := by decide +kernel
theorem dX5_bound_0 : decode cX5_bound 0 = .ok (.aload_n 0, 1) := by decide +kernel
theorem dX5_bound_1 : decode cX5_bound 1 = .ok (.iconst 0, 1) := by decide +kernel
theorem dX5_bound_2 : decode cX5_bound 2 = .ok (.putfield 67, 3) := by decide +kernel
theorem dX5_bound_5 : decode cX5_bound 5 = .ok (.iload_n 1, 1) := by decide +kernel
theorem dX5_bound_6 : decode cX5_bound 6 = .ok (.i2l, 1) := by decide +kernel
theorem dX5_bound_7 : decode cX5_bound 7 = .ok (.lconst 1, 1) := by decide +kernel
theorem dX5_bound_8 : decode cX5_bound 8 = .ok (.ldc2_w 156, 3) := by decide +kernel
theorem dX5_bound_11 : decode cX5_bound 11 = .ok (.invokestatic 127, 3) := by decide +kernel
theorem dX5_bound_14 : decode cX5_bound 14 = .ok (.ifCond .ne 5, 3) := by decide +kernel
theorem dX5_bound_17 : decode cX5_bound 17 = .ok (.iconst (-1), 1) := by decide +kernel
theorem dX5_bound_18 : decode cX5_bound 18 = .ok (.ireturn, 1) := by decide +kernel
theorem dX5_bound_19 : decode cX5_bound 19 = .ok (.iconst 0, 1) := by decide +kernel
theorem dX5_bound_20 : decode cX5_bound 20 = .ok (.istore_n 2, 1) := by decide +kernel
theorem dX5_bound_21 : decode cX5_bound 21 = .ok (.iload_n 2, 1) := by decide +kernel
theorem dX5_bound_22 : decode cX5_bound 22 = .ok (.iconst 1, 1) := by decide +kernel
theorem dX5_bound_23 : decode cX5_bound 23 = .ok (.iadd, 1) := by decide +kernel
theorem dX5_bound_24 : decode cX5_bound 24 = .ok (.iload_n 2, 1) := by decide +kernel
theorem dX5_bound_25 : decode cX5_bound 25 = .ok (.iconst 1, 1) := by decide +kernel
theorem dX5_bound_26 : decode cX5_bound 26 = .ok (.iadd, 1) := by decide +kernel
theorem dX5_bound_27 : decode cX5_bound 27 = .ok (.imul, 1) := by decide +kernel
theorem dX5_bound_28 : decode cX5_bound 28 = .ok (.iconst 4, 1) := by decide +kernel
theorem dX5_bound_29 : decode cX5_bound 29 = .ok (.iload_n 1, 1) := by decide +kernel
theorem dX5_bound_30 : decode cX5_bound 30 = .ok (.imul, 1) := by decide +kernel
theorem dX5_bound_31 : decode cX5_bound 31 = .ok (.iload_n 1, 1) := by decide +kernel
theorem dX5_bound_32 : decode cX5_bound 32 = .ok (.imul, 1) := by decide +kernel
theorem dX5_bound_33 : decode cX5_bound 33 = .ok (.aload_n 0, 1) := by decide +kernel
theorem dX5_bound_34 : decode cX5_bound 34 = .ok (.getfield 7, 3) := by decide +kernel
theorem dX5_bound_37 : decode cX5_bound 37 = .ok (.imul, 1) := by decide +kernel
theorem dX5_bound_38 : decode cX5_bound 38 = .ok (.if_icmp .gt 9, 3) := by decide +kernel
theorem dX5_bound_41 : decode cX5_bound 41 = .ok (.iinc 2 1, 3) := by decide +kernel
theorem dX5_bound_44 : decode cX5_bound 44 = .ok (.goto (-23), 3) := by decide +kernel
theorem dX5_bound_47 : decode cX5_bound 47 = .ok (.iload_n 2, 1) := by decide +kernel
theorem dX5_bound_48 : decode cX5_bound 48 = .ok (.ireturn, 1) := by decide +kernel
theorem dX5_surface_0 : decode cX5_surface 0 = .ok (.aload_n 0, 1) := by decide +kernel
theorem dX5_surface_1 : decode cX5_surface 1 = .ok (.iconst 0, 1) := by decide +kernel
theorem dX5_surface_2 : decode cX5_surface 2 = .ok (.putfield 67, 3) := by decide +kernel
theorem dX5_surface_5 : decode cX5_surface 5 = .ok (.aload_n 0, 1) := by decide +kernel
theorem dX5_surface_6 : decode cX5_surface 6 = .ok (.iload_n 1, 1) := by decide +kernel
theorem dX5_surface_7 : decode cX5_surface 7 = .ok (.invokevirtual 164, 3) := by decide +kernel
theorem dX5_surface_10 : decode cX5_surface 10 = .ok (.ifCond .eq 19, 3) := by decide +kernel
theorem dX5_surface_13 : decode cX5_surface 13 = .ok (.aload_n 0, 1) := by decide +kernel
theorem dX5_surface_14 : decode cX5_surface 14 = .ok (.iload_n 2, 1) := by decide +kernel
theorem dX5_surface_15 : decode cX5_surface 15 = .ok (.invokevirtual 164, 3) := by decide +kernel
theorem dX5_surface_18 : decode cX5_surface 18 = .ok (.ifCond .eq 11, 3) := by decide +kernel
theorem dX5_surface_21 : decode cX5_surface 21 = .ok (.aload_n 0, 1) := by decide +kernel
theorem dX5_surface_22 : decode cX5_surface 22 = .ok (.iload_n 3, 1) := by decide +kernel
theorem dX5_surface_23 : decode cX5_surface 23 = .ok (.invokevirtual 131, 3) := by decide +kernel
theorem dX5_surface_26 : decode cX5_surface 26 = .ok (.ifCond .ne 5, 3) := by decide +kernel
theorem dX5_surface_29 : decode cX5_surface 29 = .ok (.iconst (-1), 1) := by decide +kernel
theorem dX5_surface_30 : decode cX5_surface 30 = .ok (.ireturn, 1) := by decide +kernel
theorem dX5_surface_31 : decode cX5_surface 31 = .ok (.aload_n 0, 1) := by decide +kernel
theorem dX5_surface_32 : decode cX5_surface 32 = .ok (.iload_n 3, 1) := by decide +kernel
theorem dX5_surface_33 : decode cX5_surface 33 = .ok (.invokevirtual 114, 3) := by decide +kernel
theorem dX5_surface_36 : decode cX5_surface 36 = .ok (.aload_n 0, 1) := by decide +kernel
theorem dX5_surface_37 : decode cX5_surface 37 = .ok (.getfield 16, 3) := by decide +kernel
theorem dX5_surface_40 : decode cX5_surface 40 = .ok (.iload_n 3, 1) := by decide +kernel
theorem dX5_surface_41 : decode cX5_surface 41 = .ok (.iaload, 1) := by decide +kernel
theorem dX5_surface_42 : decode cX5_surface 42 = .ok (.istore 4, 2) := by decide +kernel
theorem dX5_surface_44 : decode cX5_surface 44 = .ok (.iconst 0, 1) := by decide +kernel
theorem dX5_surface_45 : decode cX5_surface 45 = .ok (.istore 5, 2) := by decide +kernel
theorem dX5_surface_47 : decode cX5_surface 47 = .ok (.iconst 0, 1) := by decide +kernel
theorem dX5_surface_48 : decode cX5_surface 48 = .ok (.istore 6, 2) := by decide +kernel
theorem dX5_surface_50 : decode cX5_surface 50 = .ok (.iconst 0, 1) := by decide +kernel
theorem dX5_surface_51 : decode cX5_surface 51 = .ok (.istore 7, 2) := by decide +kernel
theorem dX5_surface_53 : decode cX5_surface 53 = .ok (.iconst 0, 1) := by decide +kernel
theorem dX5_surface_54 : decode cX5_surface 54 = .ok (.istore 8, 2) := by decide +kernel
theorem dX5_surface_56 : decode cX5_surface 56 = .ok (.iconst 0, 1) := by decide +kernel
theorem dX5_surface_57 : decode cX5_surface 57 = .ok (.istore 9, 2) := by decide +kernel
theorem dX5_surface_59 : decode cX5_surface 59 = .ok (.iload 9, 2) := by decide +kernel
theorem dX5_surface_61 : decode cX5_surface 61 = .ok (.iload 4, 2) := by decide +kernel
theorem dX5_surface_63 : decode cX5_surface 63 = .ok (.if_icmp .ge 103, 3) := by decide +kernel
theorem dX5_surface_66 : decode cX5_surface 66 = .ok (.aload_n 0, 1) := by decide +kernel
theorem dX5_surface_67 : decode cX5_surface 67 = .ok (.getfield 41, 3) := by decide +kernel
theorem dX5_surface_70 : decode cX5_surface 70 = .ok (.aload_n 0, 1) := by decide +kernel
theorem dX5_surface_71 : decode cX5_surface 71 = .ok (.iload_n 1, 1) := by decide +kernel
theorem dX5_surface_72 : decode cX5_surface 72 = .ok (.iload_n 3, 1) := by decide +kernel
theorem dX5_surface_73 : decode cX5_surface 73 = .ok (.iload 9, 2) := by decide +kernel
theorem dX5_surface_75 : decode cX5_surface 75 = .ok (.invokevirtual 183, 3) := by decide +kernel
theorem dX5_surface_78 : decode cX5_surface 78 = .ok (.iaload, 1) := by decide +kernel
theorem dX5_surface_79 : decode cX5_surface 79 = .ok (.istore 10, 2) := by decide +kernel
theorem dX5_surface_81 : decode cX5_surface 81 = .ok (.aload_n 0, 1) := by decide +kernel
theorem dX5_surface_82 : decode cX5_surface 82 = .ok (.getfield 41, 3) := by decide +kernel
theorem dX5_surface_85 : decode cX5_surface 85 = .ok (.aload_n 0, 1) := by decide +kernel
theorem dX5_surface_86 : decode cX5_surface 86 = .ok (.iload_n 2, 1) := by decide +kernel
theorem dX5_surface_87 : decode cX5_surface 87 = .ok (.iload_n 3, 1) := by decide +kernel
theorem dX5_surface_88 : decode cX5_surface 88 = .ok (.iload 9, 2) := by decide +kernel
theorem dX5_surface_90 : decode cX5_surface 90 = .ok (.invokevirtual 183, 3) := by decide +kernel
theorem dX5_surface_93 : decode cX5_surface 93 = .ok (.iaload, 1) := by decide +kernel
theorem dX5_surface_94 : decode cX5_surface 94 = .ok (.istore 11, 2) := by decide +kernel
theorem dX5_surface_96 : decode cX5_surface 96 = .ok (.iload 5, 2) := by decide +kernel
theorem dX5_surface_98 : decode cX5_surface 98 = .ok (.iload 10, 2) := by decide +kernel
theorem dX5_surface_100 : decode cX5_surface 100 = .ok (.iconst 1, 1) := by decide +kernel
theorem dX5_surface_101 : decode cX5_surface 101 = .ok (.if_icmp .ne 7, 3) := by decide +kernel
theorem dX5_surface_104 : decode cX5_surface 104 = .ok (.iconst 1, 1) := by decide +kernel
theorem dX5_surface_105 : decode cX5_surface 105 = .ok (.goto 4, 3) := by decide +kernel
theorem dX5_surface_108 : decode cX5_surface 108 = .ok (.iconst 0, 1) := by decide +kernel
theorem dX5_surface_109 : decode cX5_surface 109 = .ok (.iadd, 1) := by decide +kernel
theorem dX5_surface_110 : decode cX5_surface 110 = .ok (.istore 5, 2) := by decide +kernel
theorem dX5_surface_112 : decode cX5_surface 112 = .ok (.iload 6, 2) := by decide +kernel
theorem dX5_surface_114 : decode cX5_surface 114 = .ok (.iload 10, 2) := by decide +kernel
theorem dX5_surface_116 : decode cX5_surface 116 = .ok (.iconst (-1), 1) := by decide +kernel
theorem dX5_surface_117 : decode cX5_surface 117 = .ok (.if_icmp .ne 7, 3) := by decide +kernel
theorem dX5_surface_120 : decode cX5_surface 120 = .ok (.iconst 1, 1) := by decide +kernel
theorem dX5_surface_121 : decode cX5_surface 121 = .ok (.goto 4, 3) := by decide +kernel
theorem dX5_surface_124 : decode cX5_surface 124 = .ok (.iconst 0, 1) := by decide +kernel
theorem dX5_surface_125 : decode cX5_surface 125 = .ok (.iadd, 1) := by decide +kernel
theorem dX5_surface_126 : decode cX5_surface 126 = .ok (.istore 6, 2) := by decide +kernel
theorem dX5_surface_128 : decode cX5_surface 128 = .ok (.iload 7, 2) := by decide +kernel
theorem dX5_surface_130 : decode cX5_surface 130 = .ok (.iload 11, 2) := by decide +kernel
theorem dX5_surface_132 : decode cX5_surface 132 = .ok (.iconst 1, 1) := by decide +kernel
theorem dX5_surface_133 : decode cX5_surface 133 = .ok (.if_icmp .ne 7, 3) := by decide +kernel
theorem dX5_surface_136 : decode cX5_surface 136 = .ok (.iconst 1, 1) := by decide +kernel
theorem dX5_surface_137 : decode cX5_surface 137 = .ok (.goto 4, 3) := by decide +kernel
theorem dX5_surface_140 : decode cX5_surface 140 = .ok (.iconst 0, 1) := by decide +kernel
theorem dX5_surface_141 : decode cX5_surface 141 = .ok (.iadd, 1) := by decide +kernel
theorem dX5_surface_142 : decode cX5_surface 142 = .ok (.istore 7, 2) := by decide +kernel
theorem dX5_surface_144 : decode cX5_surface 144 = .ok (.iload 8, 2) := by decide +kernel
theorem dX5_surface_146 : decode cX5_surface 146 = .ok (.iload 11, 2) := by decide +kernel
theorem dX5_surface_148 : decode cX5_surface 148 = .ok (.iconst (-1), 1) := by decide +kernel
theorem dX5_surface_149 : decode cX5_surface 149 = .ok (.if_icmp .ne 7, 3) := by decide +kernel
theorem dX5_surface_152 : decode cX5_surface 152 = .ok (.iconst 1, 1) := by decide +kernel
theorem dX5_surface_153 : decode cX5_surface 153 = .ok (.goto 4, 3) := by decide +kernel
theorem dX5_surface_156 : decode cX5_surface 156 = .ok (.iconst 0, 1) := by decide +kernel
theorem dX5_surface_157 : decode cX5_surface 157 = .ok (.iadd, 1) := by decide +kernel
theorem dX5_surface_158 : decode cX5_surface 158 = .ok (.istore 8, 2) := by decide +kernel
theorem dX5_surface_160 : decode cX5_surface 160 = .ok (.iinc 9 1, 3) := by decide +kernel
theorem dX5_surface_163 : decode cX5_surface 163 = .ok (.goto (-104), 3) := by decide +kernel
theorem dX5_surface_166 : decode cX5_surface 166 = .ok (.iload 4, 2) := by decide +kernel
theorem dX5_surface_168 : decode cX5_surface 168 = .ok (.iload 4, 2) := by decide +kernel
theorem dX5_surface_170 : decode cX5_surface 170 = .ok (.imul, 1) := by decide +kernel
theorem dX5_surface_171 : decode cX5_surface 171 = .ok (.iload 5, 2) := by decide +kernel
theorem dX5_surface_173 : decode cX5_surface 173 = .ok (.iload 6, 2) := by decide +kernel
theorem dX5_surface_175 : decode cX5_surface 175 = .ok (.iadd, 1) := by decide +kernel
theorem dX5_surface_176 : decode cX5_surface 176 = .ok (.iload 7, 2) := by decide +kernel
theorem dX5_surface_178 : decode cX5_surface 178 = .ok (.iload 8, 2) := by decide +kernel
theorem dX5_surface_180 : decode cX5_surface 180 = .ok (.iadd, 1) := by decide +kernel
theorem dX5_surface_181 : decode cX5_surface 181 = .ok (.imul, 1) := by decide +kernel
theorem dX5_surface_182 : decode cX5_surface 182 = .ok (.isub, 1) := by decide +kernel
theorem dX5_surface_183 : decode cX5_surface 183 = .ok (.istore 9, 2) := by decide +kernel
theorem dX5_surface_185 : decode cX5_surface 185 = .ok (.iload 9, 2) := by decide +kernel
theorem dX5_surface_187 : decode cX5_surface 187 = .ok (.iconst 2, 1) := by decide +kernel
theorem dX5_surface_188 : decode cX5_surface 188 = .ok (.iload 5, 2) := by decide +kernel
theorem dX5_surface_190 : decode cX5_surface 190 = .ok (.iload 7, 2) := by decide +kernel
theorem dX5_surface_192 : decode cX5_surface 192 = .ok (.imul, 1) := by decide +kernel
theorem dX5_surface_193 : decode cX5_surface 193 = .ok (.iload 6, 2) := by decide +kernel
theorem dX5_surface_195 : decode cX5_surface 195 = .ok (.iload 8, 2) := by decide +kernel
theorem dX5_surface_197 : decode cX5_surface 197 = .ok (.imul, 1) := by decide +kernel
theorem dX5_surface_198 : decode cX5_surface 198 = .ok (.iadd, 1) := by decide +kernel
theorem dX5_surface_199 : decode cX5_surface 199 = .ok (.imul, 1) := by decide +kernel
theorem dX5_surface_200 : decode cX5_surface 200 = .ok (.iadd, 1) := by decide +kernel
theorem dX5_surface_201 : decode cX5_surface 201 = .ok (.ireturn, 1) := by decide +kernel
theorem dX5_best_0 : decode cX5_best 0 = .ok (.aload_n 0, 1) := by decide +kernel
theorem dX5_best_1 : decode cX5_best 1 = .ok (.iconst 0, 1) := by decide +kernel
theorem dX5_best_2 : decode cX5_best 2 = .ok (.putfield 67, 3) := by decide +kernel
theorem dX5_best_5 : decode cX5_best 5 = .ok (.iload_n 1, 1) := by decide +kernel
theorem dX5_best_6 : decode cX5_best 6 = .ok (.i2l, 1) := by decide +kernel
theorem dX5_best_7 : decode cX5_best 7 = .ok (.ldc2_w 202, 3) := by decide +kernel
theorem dX5_best_10 : decode cX5_best 10 = .ok (.ldc2_w 204, 3) := by decide +kernel
theorem dX5_best_13 : decode cX5_best 13 = .ok (.invokestatic 127, 3) := by decide +kernel
theorem dX5_best_16 : decode cX5_best 16 = .ok (.ifCond .eq 27, 3) := by decide +kernel
theorem dX5_best_19 : decode cX5_best 19 = .ok (.iload_n 2, 1) := by decide +kernel
theorem dX5_best_20 : decode cX5_best 20 = .ok (.i2l, 1) := by decide +kernel
theorem dX5_best_21 : decode cX5_best 21 = .ok (.lconst 0, 1) := by decide +kernel
theorem dX5_best_22 : decode cX5_best 22 = .ok (.ldc2_w 206, 3) := by decide +kernel
theorem dX5_best_25 : decode cX5_best 25 = .ok (.invokestatic 127, 3) := by decide +kernel
theorem dX5_best_28 : decode cX5_best 28 = .ok (.ifCond .eq 15, 3) := by decide +kernel
theorem dX5_best_31 : decode cX5_best 31 = .ok (.iload_n 3, 1) := by decide +kernel
theorem dX5_best_32 : decode cX5_best 32 = .ok (.i2l, 1) := by decide +kernel
theorem dX5_best_33 : decode cX5_best 33 = .ok (.lconst 1, 1) := by decide +kernel
theorem dX5_best_34 : decode cX5_best 34 = .ok (.ldc2_w 208, 3) := by decide +kernel
theorem dX5_best_37 : decode cX5_best 37 = .ok (.invokestatic 127, 3) := by decide +kernel
theorem dX5_best_40 : decode cX5_best 40 = .ok (.ifCond .ne 5, 3) := by decide +kernel
theorem dX5_best_43 : decode cX5_best 43 = .ok (.iconst (-1), 1) := by decide +kernel
theorem dX5_best_44 : decode cX5_best 44 = .ok (.ireturn, 1) := by decide +kernel
theorem dX5_best_45 : decode cX5_best 45 = .ok (.bipush (-9), 2) := by decide +kernel
theorem dX5_best_47 : decode cX5_best 47 = .ok (.istore 4, 2) := by decide +kernel
theorem dX5_best_49 : decode cX5_best 49 = .ok (.iconst (-1), 1) := by decide +kernel
theorem dX5_best_50 : decode cX5_best 50 = .ok (.istore 5, 2) := by decide +kernel
theorem dX5_best_52 : decode cX5_best 52 = .ok (.iload_n 2, 1) := by decide +kernel
theorem dX5_best_53 : decode cX5_best 53 = .ok (.istore 6, 2) := by decide +kernel
theorem dX5_best_55 : decode cX5_best 55 = .ok (.iload 6, 2) := by decide +kernel
theorem dX5_best_57 : decode cX5_best 57 = .ok (.iload_n 2, 1) := by decide +kernel
theorem dX5_best_58 : decode cX5_best 58 = .ok (.iload_n 3, 1) := by decide +kernel
theorem dX5_best_59 : decode cX5_best 59 = .ok (.iadd, 1) := by decide +kernel
theorem dX5_best_60 : decode cX5_best 60 = .ok (.if_icmp .ge 166, 3) := by decide +kernel
theorem dX5_best_63 : decode cX5_best 63 = .ok (.aload_n 0, 1) := by decide +kernel
theorem dX5_best_64 : decode cX5_best 64 = .ok (.iload 6, 2) := by decide +kernel
theorem dX5_best_66 : decode cX5_best 66 = .ok (.iload_n 1, 1) := by decide +kernel
theorem dX5_best_67 : decode cX5_best 67 = .ok (.invokevirtual 149, 3) := by decide +kernel
theorem dX5_best_70 : decode cX5_best 70 = .ok (.ifCond .eq 150, 3) := by decide +kernel
theorem dX5_best_73 : decode cX5_best 73 = .ok (.aload_n 0, 1) := by decide +kernel
theorem dX5_best_74 : decode cX5_best 74 = .ok (.iload 6, 2) := by decide +kernel
theorem dX5_best_76 : decode cX5_best 76 = .ok (.invokevirtual 161, 3) := by decide +kernel
theorem dX5_best_79 : decode cX5_best 79 = .ok (.ifCond .ne 141, 3) := by decide +kernel
theorem dX5_best_82 : decode cX5_best 82 = .ok (.aload_n 0, 1) := by decide +kernel
theorem dX5_best_83 : decode cX5_best 83 = .ok (.iconst 1, 1) := by decide +kernel
theorem dX5_best_84 : decode cX5_best 84 = .ok (.invokevirtual 114, 3) := by decide +kernel
theorem dX5_best_87 : decode cX5_best 87 = .ok (.aload_n 0, 1) := by decide +kernel
theorem dX5_best_88 : decode cX5_best 88 = .ok (.bipush 10, 2) := by decide +kernel
theorem dX5_best_90 : decode cX5_best 90 = .ok (.iload 6, 2) := by decide +kernel
theorem dX5_best_92 : decode cX5_best 92 = .ok (.invokevirtual 87, 3) := by decide +kernel
theorem dX5_best_95 : decode cX5_best 95 = .ok (.iload_n 1, 1) := by decide +kernel
theorem dX5_best_96 : decode cX5_best 96 = .ok (.iconst 2, 1) := by decide +kernel
theorem dX5_best_97 : decode cX5_best 97 = .ok (.irem, 1) := by decide +kernel
theorem dX5_best_98 : decode cX5_best 98 = .ok (.iconst 1, 1) := by decide +kernel
theorem dX5_best_99 : decode cX5_best 99 = .ok (.if_icmp .ne 7, 3) := by decide +kernel
theorem dX5_best_102 : decode cX5_best 102 = .ok (.iconst 1, 1) := by decide +kernel
theorem dX5_best_103 : decode cX5_best 103 = .ok (.goto 27, 3) := by decide +kernel
theorem dX5_best_106 : decode cX5_best 106 = .ok (.aload_n 0, 1) := by decide +kernel
theorem dX5_best_107 : decode cX5_best 107 = .ok (.getfield 41, 3) := by decide +kernel
theorem dX5_best_110 : decode cX5_best 110 = .ok (.aload_n 0, 1) := by decide +kernel
theorem dX5_best_111 : decode cX5_best 111 = .ok (.getfield 38, 3) := by decide +kernel
theorem dX5_best_114 : decode cX5_best 114 = .ok (.sipush 160, 3) := by decide +kernel
theorem dX5_best_117 : decode cX5_best 117 = .ok (.iload_n 1, 1) := by decide +kernel
theorem dX5_best_118 : decode cX5_best 118 = .ok (.iadd, 1) := by decide +kernel
theorem dX5_best_119 : decode cX5_best 119 = .ok (.iaload, 1) := by decide +kernel
theorem dX5_best_120 : decode cX5_best 120 = .ok (.iaload, 1) := by decide +kernel
theorem dX5_best_121 : decode cX5_best 121 = .ok (.iconst 1, 1) := by decide +kernel
theorem dX5_best_122 : decode cX5_best 122 = .ok (.if_icmp .ne 7, 3) := by decide +kernel
theorem dX5_best_125 : decode cX5_best 125 = .ok (.iconst 2, 1) := by decide +kernel
theorem dX5_best_126 : decode cX5_best 126 = .ok (.goto 4, 3) := by decide +kernel
theorem dX5_best_129 : decode cX5_best 129 = .ok (.iconst 0, 1) := by decide +kernel
theorem dX5_best_130 : decode cX5_best 130 = .ok (.istore 7, 2) := by decide +kernel
theorem dX5_best_132 : decode cX5_best 132 = .ok (.iconst 0, 1) := by decide +kernel
theorem dX5_best_133 : decode cX5_best 133 = .ok (.istore 8, 2) := by decide +kernel
theorem dX5_best_135 : decode cX5_best 135 = .ok (.iload 8, 2) := by decide +kernel
theorem dX5_best_137 : decode cX5_best 137 = .ok (.aload_n 0, 1) := by decide +kernel
theorem dX5_best_138 : decode cX5_best 138 = .ok (.getfield 7, 3) := by decide +kernel
theorem dX5_best_141 : decode cX5_best 141 = .ok (.if_icmp .ge 64, 3) := by decide +kernel
theorem dX5_best_144 : decode cX5_best 144 = .ok (.iconst 0, 1) := by decide +kernel
theorem dX5_best_145 : decode cX5_best 145 = .ok (.istore 9, 2) := by decide +kernel
theorem dX5_best_147 : decode cX5_best 147 = .ok (.iload_n 1, 1) := by decide +kernel
theorem dX5_best_148 : decode cX5_best 148 = .ok (.istore 10, 2) := by decide +kernel
theorem dX5_best_150 : decode cX5_best 150 = .ok (.iload 10, 2) := by decide +kernel
theorem dX5_best_152 : decode cX5_best 152 = .ok (.ifCond .lt 33, 3) := by decide +kernel
theorem dX5_best_155 : decode cX5_best 155 = .ok (.iload 9, 2) := by decide +kernel
theorem dX5_best_157 : decode cX5_best 157 = .ok (.iload 8, 2) := by decide +kernel
theorem dX5_best_159 : decode cX5_best 159 = .ok (.imul, 1) := by decide +kernel
theorem dX5_best_160 : decode cX5_best 160 = .ok (.aload_n 0, 1) := by decide +kernel
theorem dX5_best_161 : decode cX5_best 161 = .ok (.getfield 38, 3) := by decide +kernel
theorem dX5_best_164 : decode cX5_best 164 = .ok (.sipush 160, 3) := by decide +kernel
theorem dX5_best_167 : decode cX5_best 167 = .ok (.iload 10, 2) := by decide +kernel
theorem dX5_best_169 : decode cX5_best 169 = .ok (.iadd, 1) := by decide +kernel
theorem dX5_best_170 : decode cX5_best 170 = .ok (.iaload, 1) := by decide +kernel
theorem dX5_best_171 : decode cX5_best 171 = .ok (.iadd, 1) := by decide +kernel
theorem dX5_best_172 : decode cX5_best 172 = .ok (.aload_n 0, 1) := by decide +kernel
theorem dX5_best_173 : decode cX5_best 173 = .ok (.getfield 7, 3) := by decide +kernel
theorem dX5_best_176 : decode cX5_best 176 = .ok (.irem, 1) := by decide +kernel
theorem dX5_best_177 : decode cX5_best 177 = .ok (.istore 9, 2) := by decide +kernel
theorem dX5_best_179 : decode cX5_best 179 = .ok (.iinc 10 (-1), 3) := by decide +kernel
theorem dX5_best_182 : decode cX5_best 182 = .ok (.goto (-32), 3) := by decide +kernel
theorem dX5_best_185 : decode cX5_best 185 = .ok (.iload 7, 2) := by decide +kernel
theorem dX5_best_187 : decode cX5_best 187 = .ok (.iconst 1, 1) := by decide +kernel
theorem dX5_best_188 : decode cX5_best 188 = .ok (.aload_n 0, 1) := by decide +kernel
theorem dX5_best_189 : decode cX5_best 189 = .ok (.getfield 41, 3) := by decide +kernel
theorem dX5_best_192 : decode cX5_best 192 = .ok (.iload 9, 2) := by decide +kernel
theorem dX5_best_194 : decode cX5_best 194 = .ok (.iaload, 1) := by decide +kernel
theorem dX5_best_195 : decode cX5_best 195 = .ok (.iadd, 1) := by decide +kernel
theorem dX5_best_196 : decode cX5_best 196 = .ok (.iadd, 1) := by decide +kernel
theorem dX5_best_197 : decode cX5_best 197 = .ok (.istore 7, 2) := by decide +kernel
theorem dX5_best_199 : decode cX5_best 199 = .ok (.iinc 8 1, 3) := by decide +kernel
theorem dX5_best_202 : decode cX5_best 202 = .ok (.goto (-67), 3) := by decide +kernel
theorem dX5_best_205 : decode cX5_best 205 = .ok (.iload 7, 2) := by decide +kernel
theorem dX5_best_207 : decode cX5_best 207 = .ok (.iload 5, 2) := by decide +kernel
theorem dX5_best_209 : decode cX5_best 209 = .ok (.if_icmp .le 11, 3) := by decide +kernel
theorem dX5_best_212 : decode cX5_best 212 = .ok (.iload 7, 2) := by decide +kernel
theorem dX5_best_214 : decode cX5_best 214 = .ok (.istore 5, 2) := by decide +kernel
theorem dX5_best_216 : decode cX5_best 216 = .ok (.iload 6, 2) := by decide +kernel
theorem dX5_best_218 : decode cX5_best 218 = .ok (.istore 4, 2) := by decide +kernel
theorem dX5_best_220 : decode cX5_best 220 = .ok (.iinc 6 1, 3) := by decide +kernel
theorem dX5_best_223 : decode cX5_best 223 = .ok (.goto (-168), 3) := by decide +kernel
theorem dX5_best_226 : decode cX5_best 226 = .ok (.iload 4, 2) := by decide +kernel
theorem dX5_best_228 : decode cX5_best 228 = .ok (.ireturn, 1) := by decide +kernel
theorem dX5_hasClasses_0 : decode cX5_hasClasses 0 = .ok (.aload_n 0, 1) := by decide +kernel
theorem dX5_hasClasses_1 : decode cX5_hasClasses 1 = .ok (.iload_n 1, 1) := by decide +kernel
theorem dX5_hasClasses_2 : decode cX5_hasClasses 2 = .ok (.invokevirtual 164, 3) := by decide +kernel
theorem dX5_hasClasses_5 : decode cX5_hasClasses 5 = .ok (.ifCond .eq 18, 3) := by decide +kernel
theorem dX5_hasClasses_8 : decode cX5_hasClasses 8 = .ok (.aload_n 0, 1) := by decide +kernel
theorem dX5_hasClasses_9 : decode cX5_hasClasses 9 = .ok (.iload_n 1, 1) := by decide +kernel
theorem dX5_hasClasses_10 : decode cX5_hasClasses 10 = .ok (.invokevirtual 146, 3) := by decide +kernel
theorem dX5_hasClasses_13 : decode cX5_hasClasses 13 = .ok (.iconst 2, 1) := by decide +kernel
theorem dX5_hasClasses_14 : decode cX5_hasClasses 14 = .ok (.irem, 1) := by decide +kernel
theorem dX5_hasClasses_15 : decode cX5_hasClasses 15 = .ok (.iconst 1, 1) := by decide +kernel
theorem dX5_hasClasses_16 : decode cX5_hasClasses 16 = .ok (.if_icmp .ne 7, 3) := by decide +kernel
theorem dX5_hasClasses_19 : decode cX5_hasClasses 19 = .ok (.iconst 1, 1) := by decide +kernel
theorem dX5_hasClasses_20 : decode cX5_hasClasses 20 = .ok (.goto 4, 3) := by decide +kernel
theorem dX5_hasClasses_23 : decode cX5_hasClasses 23 = .ok (.iconst 0, 1) := by decide +kernel
theorem dX5_hasClasses_24 : decode cX5_hasClasses 24 = .ok (.ireturn, 1) := by decide +kernel
theorem dX5_goesIn_0 : decode cX5_goesIn 0 = .ok (.aload_n 0, 1) := by decide +kernel
theorem dX5_goesIn_1 : decode cX5_goesIn 1 = .ok (.bipush 20, 2) := by decide +kernel
theorem dX5_goesIn_3 : decode cX5_goesIn 3 = .ok (.iload_n 2, 1) := by decide +kernel
theorem dX5_goesIn_4 : decode cX5_goesIn 4 = .ok (.invokevirtual 87, 3) := by decide +kernel
theorem dX5_goesIn_7 : decode cX5_goesIn 7 = .ok (.aload_n 0, 1) := by decide +kernel
theorem dX5_goesIn_8 : decode cX5_goesIn 8 = .ok (.bipush 21, 2) := by decide +kernel
theorem dX5_goesIn_10 : decode cX5_goesIn 10 = .ok (.iload_n 3, 1) := by decide +kernel
theorem dX5_goesIn_11 : decode cX5_goesIn 11 = .ok (.invokevirtual 87, 3) := by decide +kernel
theorem dX5_goesIn_14 : decode cX5_goesIn 14 = .ok (.aload_n 0, 1) := by decide +kernel
theorem dX5_goesIn_15 : decode cX5_goesIn 15 = .ok (.bipush 22, 2) := by decide +kernel
theorem dX5_goesIn_17 : decode cX5_goesIn 17 = .ok (.bipush 21, 2) := by decide +kernel
theorem dX5_goesIn_19 : decode cX5_goesIn 19 = .ok (.bipush 21, 2) := by decide +kernel
theorem dX5_goesIn_21 : decode cX5_goesIn 21 = .ok (.invokevirtual 94, 3) := by decide +kernel
theorem dX5_goesIn_24 : decode cX5_goesIn 24 = .ok (.aload_n 0, 1) := by decide +kernel
theorem dX5_goesIn_25 : decode cX5_goesIn 25 = .ok (.bipush 23, 2) := by decide +kernel
theorem dX5_goesIn_27 : decode cX5_goesIn 27 = .ok (.iload_n 1, 1) := by decide +kernel
theorem dX5_goesIn_28 : decode cX5_goesIn 28 = .ok (.invokevirtual 172, 3) := by decide +kernel
theorem dX5_goesIn_31 : decode cX5_goesIn 31 = .ok (.aload_n 0, 1) := by decide +kernel
theorem dX5_goesIn_32 : decode cX5_goesIn 32 = .ok (.bipush 24, 2) := by decide +kernel
theorem dX5_goesIn_34 : decode cX5_goesIn 34 = .ok (.bipush 23, 2) := by decide +kernel
theorem dX5_goesIn_36 : decode cX5_goesIn 36 = .ok (.bipush 22, 2) := by decide +kernel
theorem dX5_goesIn_38 : decode cX5_goesIn 38 = .ok (.aload_n 0, 1) := by decide +kernel
theorem dX5_goesIn_39 : decode cX5_goesIn 39 = .ok (.getfield 7, 3) := by decide +kernel
theorem dX5_goesIn_42 : decode cX5_goesIn 42 = .ok (.iconst 1, 1) := by decide +kernel
theorem dX5_goesIn_43 : decode cX5_goesIn 43 = .ok (.isub, 1) := by decide +kernel
theorem dX5_goesIn_44 : decode cX5_goesIn 44 = .ok (.invokevirtual 98, 3) := by decide +kernel
theorem dX5_goesIn_47 : decode cX5_goesIn 47 = .ok (.aload_n 0, 1) := by decide +kernel
theorem dX5_goesIn_48 : decode cX5_goesIn 48 = .ok (.bipush 25, 2) := by decide +kernel
theorem dX5_goesIn_50 : decode cX5_goesIn 50 = .ok (.bipush 26, 2) := by decide +kernel
theorem dX5_goesIn_52 : decode cX5_goesIn 52 = .ok (.bipush 24, 2) := by decide +kernel
theorem dX5_goesIn_54 : decode cX5_goesIn 54 = .ok (.bipush 20, 2) := by decide +kernel
theorem dX5_goesIn_56 : decode cX5_goesIn 56 = .ok (.invokevirtual 90, 3) := by decide +kernel
theorem dX5_goesIn_59 : decode cX5_goesIn 59 = .ok (.aload_n 0, 1) := by decide +kernel
theorem dX5_goesIn_60 : decode cX5_goesIn 60 = .ok (.bipush 26, 2) := by decide +kernel
theorem dX5_goesIn_62 : decode cX5_goesIn 62 = .ok (.invokevirtual 77, 3) := by decide +kernel
theorem dX5_goesIn_65 : decode cX5_goesIn 65 = .ok (.ifCond .ge 7, 3) := by decide +kernel
theorem dX5_goesIn_68 : decode cX5_goesIn 68 = .ok (.iconst 1, 1) := by decide +kernel
theorem dX5_goesIn_69 : decode cX5_goesIn 69 = .ok (.goto 4, 3) := by decide +kernel
theorem dX5_goesIn_72 : decode cX5_goesIn 72 = .ok (.iconst 0, 1) := by decide +kernel
theorem dX5_goesIn_73 : decode cX5_goesIn 73 = .ok (.ireturn, 1) := by decide +kernel
theorem dX5_isClassOf_0 : decode cX5_isClassOf 0 = .ok (.iconst 1, 1) := by decide +kernel
theorem dX5_isClassOf_1 : decode cX5_isClassOf 1 = .ok (.istore 4, 2) := by decide +kernel
theorem dX5_isClassOf_3 : decode cX5_isClassOf 3 = .ok (.iconst 0, 1) := by decide +kernel
theorem dX5_isClassOf_4 : decode cX5_isClassOf 4 = .ok (.istore 5, 2) := by decide +kernel
theorem dX5_isClassOf_6 : decode cX5_isClassOf 6 = .ok (.iload 5, 2) := by decide +kernel
theorem dX5_isClassOf_8 : decode cX5_isClassOf 8 = .ok (.aload_n 0, 1) := by decide +kernel
theorem dX5_isClassOf_9 : decode cX5_isClassOf 9 = .ok (.iload_n 1, 1) := by decide +kernel
theorem dX5_isClassOf_10 : decode cX5_isClassOf 10 = .ok (.invokevirtual 169, 3) := by decide +kernel
theorem dX5_isClassOf_13 : decode cX5_isClassOf 13 = .ok (.if_icmp .gt 54, 3) := by decide +kernel
theorem dX5_isClassOf_16 : decode cX5_isClassOf 16 = .ok (.iload_n 2, 1) := by decide +kernel
theorem dX5_isClassOf_17 : decode cX5_isClassOf 17 = .ok (.iload 4, 2) := by decide +kernel
theorem dX5_isClassOf_19 : decode cX5_isClassOf 19 = .ok (.if_icmp .lt 33, 3) := by decide +kernel
theorem dX5_isClassOf_22 : decode cX5_isClassOf 22 = .ok (.iload_n 2, 1) := by decide +kernel
theorem dX5_isClassOf_23 : decode cX5_isClassOf 23 = .ok (.iconst 2, 1) := by decide +kernel
theorem dX5_isClassOf_24 : decode cX5_isClassOf 24 = .ok (.iload 4, 2) := by decide +kernel
theorem dX5_isClassOf_26 : decode cX5_isClassOf 26 = .ok (.imul, 1) := by decide +kernel
theorem dX5_isClassOf_27 : decode cX5_isClassOf 27 = .ok (.if_icmp .ge 25, 3) := by decide +kernel
theorem dX5_isClassOf_30 : decode cX5_isClassOf 30 = .ok (.iload_n 3, 1) := by decide +kernel
theorem dX5_isClassOf_31 : decode cX5_isClassOf 31 = .ok (.iload 4, 2) := by decide +kernel
theorem dX5_isClassOf_33 : decode cX5_isClassOf 33 = .ok (.if_icmp .ge 17, 3) := by decide +kernel
theorem dX5_isClassOf_36 : decode cX5_isClassOf 36 = .ok (.aload_n 0, 1) := by decide +kernel
theorem dX5_isClassOf_37 : decode cX5_isClassOf 37 = .ok (.iload_n 1, 1) := by decide +kernel
theorem dX5_isClassOf_38 : decode cX5_isClassOf 38 = .ok (.iload_n 2, 1) := by decide +kernel
theorem dX5_isClassOf_39 : decode cX5_isClassOf 39 = .ok (.iload_n 3, 1) := by decide +kernel
theorem dX5_isClassOf_40 : decode cX5_isClassOf 40 = .ok (.invokevirtual 210, 3) := by decide +kernel
theorem dX5_isClassOf_43 : decode cX5_isClassOf 43 = .ok (.ifCond .eq 7, 3) := by decide +kernel
theorem dX5_isClassOf_46 : decode cX5_isClassOf 46 = .ok (.iconst 1, 1) := by decide +kernel
theorem dX5_isClassOf_47 : decode cX5_isClassOf 47 = .ok (.goto 4, 3) := by decide +kernel
theorem dX5_isClassOf_50 : decode cX5_isClassOf 50 = .ok (.iconst 0, 1) := by decide +kernel
theorem dX5_isClassOf_51 : decode cX5_isClassOf 51 = .ok (.ireturn, 1) := by decide +kernel
theorem dX5_isClassOf_52 : decode cX5_isClassOf 52 = .ok (.iload 4, 2) := by decide +kernel
theorem dX5_isClassOf_54 : decode cX5_isClassOf 54 = .ok (.aload_n 0, 1) := by decide +kernel
theorem dX5_isClassOf_55 : decode cX5_isClassOf 55 = .ok (.getfield 7, 3) := by decide +kernel
theorem dX5_isClassOf_58 : decode cX5_isClassOf 58 = .ok (.imul, 1) := by decide +kernel
theorem dX5_isClassOf_59 : decode cX5_isClassOf 59 = .ok (.istore 4, 2) := by decide +kernel
theorem dX5_isClassOf_61 : decode cX5_isClassOf 61 = .ok (.iinc 5 1, 3) := by decide +kernel
theorem dX5_isClassOf_64 : decode cX5_isClassOf 64 = .ok (.goto (-58), 3) := by decide +kernel
theorem dX5_isClassOf_67 : decode cX5_isClassOf 67 = .ok (.iconst 0, 1) := by decide +kernel
theorem dX5_isClassOf_68 : decode cX5_isClassOf 68 = .ok (.ireturn, 1) := by decide +kernel
theorem dX5_needClasses_0 : decode cX5_needClasses 0 = .ok (.aload_n 0, 1) := by decide +kernel
theorem dX5_needClasses_1 : decode cX5_needClasses 1 = .ok (.getfield 44, 3) := by decide +kernel
theorem dX5_needClasses_4 : decode cX5_needClasses 4 = .ok (.iload_n 1, 1) := by decide +kernel
theorem dX5_needClasses_5 : decode cX5_needClasses 5 = .ok (.if_icmp .ne 4, 3) := by decide +kernel
theorem dX5_needClasses_8 : decode cX5_needClasses 8 = .ok (.return_, 1) := by decide +kernel
theorem dX5_needClasses_9 : decode cX5_needClasses 9 = .ok (.aload_n 0, 1) := by decide +kernel
theorem dX5_needClasses_10 : decode cX5_needClasses 10 = .ok (.iload_n 1, 1) := by decide +kernel
theorem dX5_needClasses_11 : decode cX5_needClasses 11 = .ok (.putfield 44, 3) := by decide +kernel
theorem dX5_needClasses_14 : decode cX5_needClasses 14 = .ok (.aload_n 0, 1) := by decide +kernel
theorem dX5_needClasses_15 : decode cX5_needClasses 15 = .ok (.iconst 0, 1) := by decide +kernel
theorem dX5_needClasses_16 : decode cX5_needClasses 16 = .ok (.putfield 214, 3) := by decide +kernel
theorem dX5_needClasses_19 : decode cX5_needClasses 19 = .ok (.iconst 1, 1) := by decide +kernel
theorem dX5_needClasses_20 : decode cX5_needClasses 20 = .ok (.istore_n 2, 1) := by decide +kernel
theorem dX5_needClasses_21 : decode cX5_needClasses 21 = .ok (.iconst 0, 1) := by decide +kernel
theorem dX5_needClasses_22 : decode cX5_needClasses 22 = .ok (.istore_n 3, 1) := by decide +kernel
theorem dX5_needClasses_23 : decode cX5_needClasses 23 = .ok (.iload_n 3, 1) := by decide +kernel
theorem dX5_needClasses_24 : decode cX5_needClasses 24 = .ok (.aload_n 0, 1) := by decide +kernel
theorem dX5_needClasses_25 : decode cX5_needClasses 25 = .ok (.iload_n 1, 1) := by decide +kernel
theorem dX5_needClasses_26 : decode cX5_needClasses 26 = .ok (.invokevirtual 169, 3) := by decide +kernel
theorem dX5_needClasses_29 : decode cX5_needClasses 29 = .ok (.if_icmp .gt 129, 3) := by decide +kernel
theorem dX5_needClasses_32 : decode cX5_needClasses 32 = .ok (.iload_n 2, 1) := by decide +kernel
theorem dX5_needClasses_33 : decode cX5_needClasses 33 = .ok (.istore 4, 2) := by decide +kernel
theorem dX5_needClasses_35 : decode cX5_needClasses 35 = .ok (.iload 4, 2) := by decide +kernel
theorem dX5_needClasses_37 : decode cX5_needClasses 37 = .ok (.iconst 2, 1) := by decide +kernel
theorem dX5_needClasses_38 : decode cX5_needClasses 38 = .ok (.iload_n 2, 1) := by decide +kernel
theorem dX5_needClasses_39 : decode cX5_needClasses 39 = .ok (.imul, 1) := by decide +kernel
theorem dX5_needClasses_40 : decode cX5_needClasses 40 = .ok (.if_icmp .ge 105, 3) := by decide +kernel
theorem dX5_needClasses_43 : decode cX5_needClasses 43 = .ok (.aload_n 0, 1) := by decide +kernel
theorem dX5_needClasses_44 : decode cX5_needClasses 44 = .ok (.bipush 20, 2) := by decide +kernel
theorem dX5_needClasses_46 : decode cX5_needClasses 46 = .ok (.iload 4, 2) := by decide +kernel
theorem dX5_needClasses_48 : decode cX5_needClasses 48 = .ok (.invokevirtual 87, 3) := by decide +kernel
theorem dX5_needClasses_51 : decode cX5_needClasses 51 = .ok (.aload_n 0, 1) := by decide +kernel
theorem dX5_needClasses_52 : decode cX5_needClasses 52 = .ok (.bipush 23, 2) := by decide +kernel
theorem dX5_needClasses_54 : decode cX5_needClasses 54 = .ok (.iload_n 1, 1) := by decide +kernel
theorem dX5_needClasses_55 : decode cX5_needClasses 55 = .ok (.invokevirtual 172, 3) := by decide +kernel
theorem dX5_needClasses_58 : decode cX5_needClasses 58 = .ok (.aload_n 0, 1) := by decide +kernel
theorem dX5_needClasses_59 : decode cX5_needClasses 59 = .ok (.bipush 25, 2) := by decide +kernel
theorem dX5_needClasses_61 : decode cX5_needClasses 61 = .ok (.bipush 26, 2) := by decide +kernel
theorem dX5_needClasses_63 : decode cX5_needClasses 63 = .ok (.bipush 23, 2) := by decide +kernel
theorem dX5_needClasses_65 : decode cX5_needClasses 65 = .ok (.bipush 20, 2) := by decide +kernel
theorem dX5_needClasses_67 : decode cX5_needClasses 67 = .ok (.invokevirtual 90, 3) := by decide +kernel
theorem dX5_needClasses_70 : decode cX5_needClasses 70 = .ok (.iconst 0, 1) := by decide +kernel
theorem dX5_needClasses_71 : decode cX5_needClasses 71 = .ok (.istore 5, 2) := by decide +kernel
theorem dX5_needClasses_73 : decode cX5_needClasses 73 = .ok (.iload 5, 2) := by decide +kernel
theorem dX5_needClasses_75 : decode cX5_needClasses 75 = .ok (.iload_n 2, 1) := by decide +kernel
theorem dX5_needClasses_76 : decode cX5_needClasses 76 = .ok (.if_icmp .ge 63, 3) := by decide +kernel
theorem dX5_needClasses_79 : decode cX5_needClasses 79 = .ok (.aload_n 0, 1) := by decide +kernel
theorem dX5_needClasses_80 : decode cX5_needClasses 80 = .ok (.iload 5, 2) := by decide +kernel
theorem dX5_needClasses_82 : decode cX5_needClasses 82 = .ok (.aload_n 0, 1) := by decide +kernel
theorem dX5_needClasses_83 : decode cX5_needClasses 83 = .ok (.getfield 7, 3) := by decide +kernel
theorem dX5_needClasses_86 : decode cX5_needClasses 86 = .ok (.irem, 1) := by decide +kernel
theorem dX5_needClasses_87 : decode cX5_needClasses 87 = .ok (.iload 5, 2) := by decide +kernel
theorem dX5_needClasses_89 : decode cX5_needClasses 89 = .ok (.aload_n 0, 1) := by decide +kernel
theorem dX5_needClasses_90 : decode cX5_needClasses 90 = .ok (.getfield 7, 3) := by decide +kernel
theorem dX5_needClasses_93 : decode cX5_needClasses 93 = .ok (.idiv, 1) := by decide +kernel
theorem dX5_needClasses_94 : decode cX5_needClasses 94 = .ok (.iload_n 3, 1) := by decide +kernel
theorem dX5_needClasses_95 : decode cX5_needClasses 95 = .ok (.invokevirtual 217, 3) := by decide +kernel
theorem dX5_needClasses_98 : decode cX5_needClasses 98 = .ok (.ifCond .eq 35, 3) := by decide +kernel
theorem dX5_needClasses_101 : decode cX5_needClasses 101 = .ok (.aload_n 0, 1) := by decide +kernel
theorem dX5_needClasses_102 : decode cX5_needClasses 102 = .ok (.getfield 47, 3) := by decide +kernel
theorem dX5_needClasses_105 : decode cX5_needClasses 105 = .ok (.aload_n 0, 1) := by decide +kernel
theorem dX5_needClasses_106 : decode cX5_needClasses 106 = .ok (.getfield 214, 3) := by decide +kernel
theorem dX5_needClasses_109 : decode cX5_needClasses 109 = .ok (.iload 4, 2) := by decide +kernel
theorem dX5_needClasses_111 : decode cX5_needClasses 111 = .ok (.iastore, 1) := by decide +kernel
theorem dX5_needClasses_112 : decode cX5_needClasses 112 = .ok (.aload_n 0, 1) := by decide +kernel
theorem dX5_needClasses_113 : decode cX5_needClasses 113 = .ok (.getfield 50, 3) := by decide +kernel
theorem dX5_needClasses_116 : decode cX5_needClasses 116 = .ok (.aload_n 0, 1) := by decide +kernel
theorem dX5_needClasses_117 : decode cX5_needClasses 117 = .ok (.getfield 214, 3) := by decide +kernel
theorem dX5_needClasses_120 : decode cX5_needClasses 120 = .ok (.iload 5, 2) := by decide +kernel
theorem dX5_needClasses_122 : decode cX5_needClasses 122 = .ok (.iastore, 1) := by decide +kernel
theorem dX5_needClasses_123 : decode cX5_needClasses 123 = .ok (.aload_n 0, 1) := by decide +kernel
theorem dX5_needClasses_124 : decode cX5_needClasses 124 = .ok (.dup, 1) := by decide +kernel
theorem dX5_needClasses_125 : decode cX5_needClasses 125 = .ok (.getfield 214, 3) := by decide +kernel
theorem dX5_needClasses_128 : decode cX5_needClasses 128 = .ok (.iconst 1, 1) := by decide +kernel
theorem dX5_needClasses_129 : decode cX5_needClasses 129 = .ok (.iadd, 1) := by decide +kernel
theorem dX5_needClasses_130 : decode cX5_needClasses 130 = .ok (.putfield 214, 3) := by decide +kernel
theorem dX5_needClasses_133 : decode cX5_needClasses 133 = .ok (.iinc 5 1, 3) := by decide +kernel
theorem dX5_needClasses_136 : decode cX5_needClasses 136 = .ok (.goto (-63), 3) := by decide +kernel
theorem dX5_needClasses_139 : decode cX5_needClasses 139 = .ok (.iinc 4 1, 3) := by decide +kernel
theorem dX5_needClasses_142 : decode cX5_needClasses 142 = .ok (.goto (-107), 3) := by decide +kernel
theorem dX5_needClasses_145 : decode cX5_needClasses 145 = .ok (.iload_n 2, 1) := by decide +kernel
theorem dX5_needClasses_146 : decode cX5_needClasses 146 = .ok (.aload_n 0, 1) := by decide +kernel
theorem dX5_needClasses_147 : decode cX5_needClasses 147 = .ok (.getfield 7, 3) := by decide +kernel
theorem dX5_needClasses_150 : decode cX5_needClasses 150 = .ok (.imul, 1) := by decide +kernel
theorem dX5_needClasses_151 : decode cX5_needClasses 151 = .ok (.istore_n 2, 1) := by decide +kernel
theorem dX5_needClasses_152 : decode cX5_needClasses 152 = .ok (.iinc 3 1, 3) := by decide +kernel
theorem dX5_needClasses_155 : decode cX5_needClasses 155 = .ok (.goto (-132), 3) := by decide +kernel
theorem dX5_needClasses_158 : decode cX5_needClasses 158 = .ok (.return_, 1) := by decide +kernel
theorem dX5_leaves_0 : decode cX5_leaves 0 = .ok (.iload_n 3, 1) := by decide +kernel
theorem dX5_leaves_1 : decode cX5_leaves 1 = .ok (.iconst 2, 1) := by decide +kernel
theorem dX5_leaves_2 : decode cX5_leaves 2 = .ok (.if_icmp .ge 31, 3) := by decide +kernel
theorem dX5_leaves_5 : decode cX5_leaves 5 = .ok (.iload_n 3, 1) := by decide +kernel
theorem dX5_leaves_6 : decode cX5_leaves 6 = .ok (.ifCond .eq 21, 3) := by decide +kernel
theorem dX5_leaves_9 : decode cX5_leaves 9 = .ok (.aload_n 0, 1) := by decide +kernel
theorem dX5_leaves_10 : decode cX5_leaves 10 = .ok (.iload_n 1, 1) := by decide +kernel
theorem dX5_leaves_11 : decode cX5_leaves 11 = .ok (.iload_n 1, 1) := by decide +kernel
theorem dX5_leaves_12 : decode cX5_leaves 12 = .ok (.imul, 1) := by decide +kernel
theorem dX5_leaves_13 : decode cX5_leaves 13 = .ok (.invokevirtual 70, 3) := by decide +kernel
theorem dX5_leaves_16 : decode cX5_leaves 16 = .ok (.aload_n 0, 1) := by decide +kernel
theorem dX5_leaves_17 : decode cX5_leaves 17 = .ok (.getfield 38, 3) := by decide +kernel
theorem dX5_leaves_20 : decode cX5_leaves 20 = .ok (.sipush 416, 3) := by decide +kernel
theorem dX5_leaves_23 : decode cX5_leaves 23 = .ok (.iaload, 1) := by decide +kernel
theorem dX5_leaves_24 : decode cX5_leaves 24 = .ok (.if_icmp .ne 7, 3) := by decide +kernel
theorem dX5_leaves_27 : decode cX5_leaves 27 = .ok (.iconst 1, 1) := by decide +kernel
theorem dX5_leaves_28 : decode cX5_leaves 28 = .ok (.goto 4, 3) := by decide +kernel
theorem dX5_leaves_31 : decode cX5_leaves 31 = .ok (.iconst 0, 1) := by decide +kernel
theorem dX5_leaves_32 : decode cX5_leaves 32 = .ok (.ireturn, 1) := by decide +kernel
theorem dX5_leaves_33 : decode cX5_leaves 33 = .ok (.aload_n 0, 1) := by decide +kernel
theorem dX5_leaves_34 : decode cX5_leaves 34 = .ok (.iload_n 1, 1) := by decide +kernel
theorem dX5_leaves_35 : decode cX5_leaves 35 = .ok (.iload_n 1, 1) := by decide +kernel
theorem dX5_leaves_36 : decode cX5_leaves 36 = .ok (.imul, 1) := by decide +kernel
theorem dX5_leaves_37 : decode cX5_leaves 37 = .ok (.iload_n 2, 1) := by decide +kernel
theorem dX5_leaves_38 : decode cX5_leaves 38 = .ok (.iload_n 2, 1) := by decide +kernel
theorem dX5_leaves_39 : decode cX5_leaves 39 = .ok (.imul, 1) := by decide +kernel
theorem dX5_leaves_40 : decode cX5_leaves 40 = .ok (.aload_n 0, 1) := by decide +kernel
theorem dX5_leaves_41 : decode cX5_leaves 41 = .ok (.getfield 38, 3) := by decide +kernel
theorem dX5_leaves_44 : decode cX5_leaves 44 = .ok (.sipush 320, 3) := by decide +kernel
theorem dX5_leaves_47 : decode cX5_leaves 47 = .ok (.iaload, 1) := by decide +kernel
theorem dX5_leaves_48 : decode cX5_leaves 48 = .ok (.imul, 1) := by decide +kernel
theorem dX5_leaves_49 : decode cX5_leaves 49 = .ok (.isub, 1) := by decide +kernel
theorem dX5_leaves_50 : decode cX5_leaves 50 = .ok (.invokevirtual 70, 3) := by decide +kernel
theorem dX5_leaves_53 : decode cX5_leaves 53 = .ok (.istore 4, 2) := by decide +kernel
theorem dX5_leaves_55 : decode cX5_leaves 55 = .ok (.aload_n 0, 1) := by decide +kernel
theorem dX5_leaves_56 : decode cX5_leaves 56 = .ok (.iconst 2, 1) := by decide +kernel
theorem dX5_leaves_57 : decode cX5_leaves 57 = .ok (.iload_n 1, 1) := by decide +kernel
theorem dX5_leaves_58 : decode cX5_leaves 58 = .ok (.imul, 1) := by decide +kernel
theorem dX5_leaves_59 : decode cX5_leaves 59 = .ok (.iload_n 2, 1) := by decide +kernel
theorem dX5_leaves_60 : decode cX5_leaves 60 = .ok (.imul, 1) := by decide +kernel
theorem dX5_leaves_61 : decode cX5_leaves 61 = .ok (.iload_n 2, 1) := by decide +kernel
theorem dX5_leaves_62 : decode cX5_leaves 62 = .ok (.iload_n 2, 1) := by decide +kernel
theorem dX5_leaves_63 : decode cX5_leaves 63 = .ok (.imul, 1) := by decide +kernel
theorem dX5_leaves_64 : decode cX5_leaves 64 = .ok (.aload_n 0, 1) := by decide +kernel
theorem dX5_leaves_65 : decode cX5_leaves 65 = .ok (.getfield 38, 3) := by decide +kernel
theorem dX5_leaves_68 : decode cX5_leaves 68 = .ok (.sipush 321, 3) := by decide +kernel
theorem dX5_leaves_71 : decode cX5_leaves 71 = .ok (.iaload, 1) := by decide +kernel
theorem dX5_leaves_72 : decode cX5_leaves 72 = .ok (.imul, 1) := by decide +kernel
theorem dX5_leaves_73 : decode cX5_leaves 73 = .ok (.isub, 1) := by decide +kernel
theorem dX5_leaves_74 : decode cX5_leaves 74 = .ok (.invokevirtual 70, 3) := by decide +kernel
theorem dX5_leaves_77 : decode cX5_leaves 77 = .ok (.istore 5, 2) := by decide +kernel
theorem dX5_leaves_79 : decode cX5_leaves 79 = .ok (.iload 4, 2) := by decide +kernel
theorem dX5_leaves_81 : decode cX5_leaves 81 = .ok (.aload_n 0, 1) := by decide +kernel
theorem dX5_leaves_82 : decode cX5_leaves 82 = .ok (.getfield 38, 3) := by decide +kernel
theorem dX5_leaves_85 : decode cX5_leaves 85 = .ok (.sipush 416, 3) := by decide +kernel
theorem dX5_leaves_88 : decode cX5_leaves 88 = .ok (.iaload, 1) := by decide +kernel
theorem dX5_leaves_89 : decode cX5_leaves 89 = .ok (.if_icmp .ne 20, 3) := by decide +kernel
theorem dX5_leaves_92 : decode cX5_leaves 92 = .ok (.iload 5, 2) := by decide +kernel
theorem dX5_leaves_94 : decode cX5_leaves 94 = .ok (.aload_n 0, 1) := by decide +kernel
theorem dX5_leaves_95 : decode cX5_leaves 95 = .ok (.getfield 38, 3) := by decide +kernel
theorem dX5_leaves_98 : decode cX5_leaves 98 = .ok (.sipush 417, 3) := by decide +kernel
theorem dX5_leaves_101 : decode cX5_leaves 101 = .ok (.iaload, 1) := by decide +kernel
theorem dX5_leaves_102 : decode cX5_leaves 102 = .ok (.if_icmp .ne 7, 3) := by decide +kernel
theorem dX5_leaves_105 : decode cX5_leaves 105 = .ok (.iconst 1, 1) := by decide +kernel
theorem dX5_leaves_106 : decode cX5_leaves 106 = .ok (.goto 4, 3) := by decide +kernel
theorem dX5_leaves_109 : decode cX5_leaves 109 = .ok (.iconst 0, 1) := by decide +kernel
theorem dX5_leaves_110 : decode cX5_leaves 110 = .ok (.ireturn, 1) := by decide +kernel
theorem dX5_isClass_0 : decode cX5_isClass 0 = .ok (.aload_n 0, 1) := by decide +kernel
theorem dX5_isClass_1 : decode cX5_isClass 1 = .ok (.iconst 0, 1) := by decide +kernel
theorem dX5_isClass_2 : decode cX5_isClass 2 = .ok (.putfield 67, 3) := by decide +kernel
theorem dX5_isClass_5 : decode cX5_isClass 5 = .ok (.aload_n 0, 1) := by decide +kernel
theorem dX5_isClass_6 : decode cX5_isClass 6 = .ok (.iload_n 1, 1) := by decide +kernel
theorem dX5_isClass_7 : decode cX5_isClass 7 = .ok (.invokevirtual 220, 3) := by decide +kernel
theorem dX5_isClass_10 : decode cX5_isClass 10 = .ok (.ifCond .eq 11, 3) := by decide +kernel
theorem dX5_isClass_13 : decode cX5_isClass 13 = .ok (.iload_n 2, 1) := by decide +kernel
theorem dX5_isClass_14 : decode cX5_isClass 14 = .ok (.ifCond .lt 7, 3) := by decide +kernel
theorem dX5_isClass_17 : decode cX5_isClass 17 = .ok (.iload_n 3, 1) := by decide +kernel
theorem dX5_isClass_18 : decode cX5_isClass 18 = .ok (.ifCond .ge 5, 3) := by decide +kernel
theorem dX5_isClass_21 : decode cX5_isClass 21 = .ok (.iconst (-1), 1) := by decide +kernel
theorem dX5_isClass_22 : decode cX5_isClass 22 = .ok (.ireturn, 1) := by decide +kernel
theorem dX5_isClass_23 : decode cX5_isClass 23 = .ok (.aload_n 0, 1) := by decide +kernel
theorem dX5_isClass_24 : decode cX5_isClass 24 = .ok (.iload_n 1, 1) := by decide +kernel
theorem dX5_isClass_25 : decode cX5_isClass 25 = .ok (.iload_n 2, 1) := by decide +kernel
theorem dX5_isClass_26 : decode cX5_isClass 26 = .ok (.iload_n 3, 1) := by decide +kernel
theorem dX5_isClass_27 : decode cX5_isClass 27 = .ok (.invokevirtual 223, 3) := by decide +kernel
theorem dX5_isClass_30 : decode cX5_isClass 30 = .ok (.ifCond .eq 7, 3) := by decide +kernel
theorem dX5_isClass_33 : decode cX5_isClass 33 = .ok (.iconst 1, 1) := by decide +kernel
theorem dX5_isClass_34 : decode cX5_isClass 34 = .ok (.goto 4, 3) := by decide +kernel
theorem dX5_isClass_37 : decode cX5_isClass 37 = .ok (.iconst 0, 1) := by decide +kernel
theorem dX5_isClass_38 : decode cX5_isClass 38 = .ok (.ireturn, 1) := by decide +kernel
theorem dX5_classes_0 : decode cX5_classes 0 = .ok (.aload_n 0, 1) := by decide +kernel
theorem dX5_classes_1 : decode cX5_classes 1 = .ok (.iconst 0, 1) := by decide +kernel
theorem dX5_classes_2 : decode cX5_classes 2 = .ok (.putfield 67, 3) := by decide +kernel
theorem dX5_classes_5 : decode cX5_classes 5 = .ok (.aload_n 0, 1) := by decide +kernel
theorem dX5_classes_6 : decode cX5_classes 6 = .ok (.iload_n 1, 1) := by decide +kernel
theorem dX5_classes_7 : decode cX5_classes 7 = .ok (.invokevirtual 220, 3) := by decide +kernel
theorem dX5_classes_10 : decode cX5_classes 10 = .ok (.ifCond .ne 5, 3) := by decide +kernel
theorem dX5_classes_13 : decode cX5_classes 13 = .ok (.iconst (-1), 1) := by decide +kernel
theorem dX5_classes_14 : decode cX5_classes 14 = .ok (.ireturn, 1) := by decide +kernel
theorem dX5_classes_15 : decode cX5_classes 15 = .ok (.aload_n 0, 1) := by decide +kernel
theorem dX5_classes_16 : decode cX5_classes 16 = .ok (.iload_n 1, 1) := by decide +kernel
theorem dX5_classes_17 : decode cX5_classes 17 = .ok (.invokevirtual 226, 3) := by decide +kernel
theorem dX5_classes_20 : decode cX5_classes 20 = .ok (.aload_n 0, 1) := by decide +kernel
theorem dX5_classes_21 : decode cX5_classes 21 = .ok (.getfield 214, 3) := by decide +kernel
theorem dX5_classes_24 : decode cX5_classes 24 = .ok (.ireturn, 1) := by decide +kernel
theorem dX5_classAt_0 : decode cX5_classAt 0 = .ok (.aload_n 0, 1) := by decide +kernel
theorem dX5_classAt_1 : decode cX5_classAt 1 = .ok (.iconst 0, 1) := by decide +kernel
theorem dX5_classAt_2 : decode cX5_classAt 2 = .ok (.putfield 67, 3) := by decide +kernel
theorem dX5_classAt_5 : decode cX5_classAt 5 = .ok (.aload_n 0, 1) := by decide +kernel
theorem dX5_classAt_6 : decode cX5_classAt 6 = .ok (.iload_n 1, 1) := by decide +kernel
theorem dX5_classAt_7 : decode cX5_classAt 7 = .ok (.invokevirtual 220, 3) := by decide +kernel
theorem dX5_classAt_10 : decode cX5_classAt 10 = .ok (.ifCond .eq 17, 3) := by decide +kernel
theorem dX5_classAt_13 : decode cX5_classAt 13 = .ok (.iload_n 2, 1) := by decide +kernel
theorem dX5_classAt_14 : decode cX5_classAt 14 = .ok (.ifCond .lt 13, 3) := by decide +kernel
theorem dX5_classAt_17 : decode cX5_classAt 17 = .ok (.iload_n 3, 1) := by decide +kernel
theorem dX5_classAt_18 : decode cX5_classAt 18 = .ok (.i2l, 1) := by decide +kernel
theorem dX5_classAt_19 : decode cX5_classAt 19 = .ok (.lconst 0, 1) := by decide +kernel
theorem dX5_classAt_20 : decode cX5_classAt 20 = .ok (.lconst 1, 1) := by decide +kernel
theorem dX5_classAt_21 : decode cX5_classAt 21 = .ok (.invokestatic 127, 3) := by decide +kernel
theorem dX5_classAt_24 : decode cX5_classAt 24 = .ok (.ifCond .ne 5, 3) := by decide +kernel
theorem dX5_classAt_27 : decode cX5_classAt 27 = .ok (.iconst (-1), 1) := by decide +kernel
theorem dX5_classAt_28 : decode cX5_classAt 28 = .ok (.ireturn, 1) := by decide +kernel
theorem dX5_classAt_29 : decode cX5_classAt 29 = .ok (.aload_n 0, 1) := by decide +kernel
theorem dX5_classAt_30 : decode cX5_classAt 30 = .ok (.iload_n 1, 1) := by decide +kernel
theorem dX5_classAt_31 : decode cX5_classAt 31 = .ok (.invokevirtual 226, 3) := by decide +kernel
theorem dX5_classAt_34 : decode cX5_classAt 34 = .ok (.iload_n 2, 1) := by decide +kernel
theorem dX5_classAt_35 : decode cX5_classAt 35 = .ok (.aload_n 0, 1) := by decide +kernel
theorem dX5_classAt_36 : decode cX5_classAt 36 = .ok (.getfield 214, 3) := by decide +kernel
theorem dX5_classAt_39 : decode cX5_classAt 39 = .ok (.if_icmp .lt 8, 3) := by decide +kernel
theorem dX5_classAt_42 : decode cX5_classAt 42 = .ok (.bipush (-9), 2) := by decide +kernel
theorem dX5_classAt_44 : decode cX5_classAt 44 = .ok (.goto 22, 3) := by decide +kernel
theorem dX5_classAt_47 : decode cX5_classAt 47 = .ok (.iload_n 3, 1) := by decide +kernel
theorem dX5_classAt_48 : decode cX5_classAt 48 = .ok (.ifCond .ne 12, 3) := by decide +kernel
theorem dX5_classAt_51 : decode cX5_classAt 51 = .ok (.aload_n 0, 1) := by decide +kernel
theorem dX5_classAt_52 : decode cX5_classAt 52 = .ok (.getfield 47, 3) := by decide +kernel
theorem dX5_classAt_55 : decode cX5_classAt 55 = .ok (.iload_n 2, 1) := by decide +kernel
theorem dX5_classAt_56 : decode cX5_classAt 56 = .ok (.iaload, 1) := by decide +kernel
theorem dX5_classAt_57 : decode cX5_classAt 57 = .ok (.goto 9, 3) := by decide +kernel
theorem dX5_classAt_60 : decode cX5_classAt 60 = .ok (.aload_n 0, 1) := by decide +kernel
theorem dX5_classAt_61 : decode cX5_classAt 61 = .ok (.getfield 50, 3) := by decide +kernel
theorem dX5_classAt_64 : decode cX5_classAt 64 = .ok (.iload_n 2, 1) := by decide +kernel
theorem dX5_classAt_65 : decode cX5_classAt 65 = .ok (.iaload, 1) := by decide +kernel
theorem dX5_classAt_66 : decode cX5_classAt 66 = .ok (.ireturn, 1) := by decide +kernel
theorem dX5_find_0 : decode cX5_find 0 = .ok (.iconst 0, 1) := by decide +kernel
theorem dX5_find_1 : decode cX5_find 1 = .ok (.istore_n 3, 1) := by decide +kernel
theorem dX5_find_2 : decode cX5_find 2 = .ok (.aload_n 0, 1) := by decide +kernel
theorem dX5_find_3 : decode cX5_find 3 = .ok (.getfield 47, 3) := by decide +kernel
theorem dX5_find_6 : decode cX5_find 6 = .ok (.iload_n 3, 1) := by decide +kernel
theorem dX5_find_7 : decode cX5_find 7 = .ok (.iaload, 1) := by decide +kernel
theorem dX5_find_8 : decode cX5_find 8 = .ok (.iload_n 1, 1) := by decide +kernel
theorem dX5_find_9 : decode cX5_find 9 = .ok (.if_icmp .ne 13, 3) := by decide +kernel
theorem dX5_find_12 : decode cX5_find 12 = .ok (.aload_n 0, 1) := by decide +kernel
theorem dX5_find_13 : decode cX5_find 13 = .ok (.getfield 50, 3) := by decide +kernel
theorem dX5_find_16 : decode cX5_find 16 = .ok (.iload_n 3, 1) := by decide +kernel
theorem dX5_find_17 : decode cX5_find 17 = .ok (.iaload, 1) := by decide +kernel
theorem dX5_find_18 : decode cX5_find 18 = .ok (.iload_n 2, 1) := by decide +kernel
theorem dX5_find_19 : decode cX5_find 19 = .ok (.if_icmp .eq 9, 3) := by decide +kernel
theorem dX5_find_22 : decode cX5_find 22 = .ok (.iinc 3 1, 3) := by decide +kernel
theorem dX5_find_25 : decode cX5_find 25 = .ok (.goto (-23), 3) := by decide +kernel
theorem dX5_find_28 : decode cX5_find 28 = .ok (.iload_n 3, 1) := by decide +kernel
theorem dX5_find_29 : decode cX5_find 29 = .ok (.ireturn, 1) := by decide +kernel
theorem dX5_addOf_0 : decode cX5_addOf 0 = .ok (.aload_n 0, 1) := by decide +kernel
theorem dX5_addOf_1 : decode cX5_addOf 1 = .ok (.bipush 20, 2) := by decide +kernel
theorem dX5_addOf_3 : decode cX5_addOf 3 = .ok (.aload_n 0, 1) := by decide +kernel
theorem dX5_addOf_4 : decode cX5_addOf 4 = .ok (.getfield 47, 3) := by decide +kernel
theorem dX5_addOf_7 : decode cX5_addOf 7 = .ok (.iload_n 2, 1) := by decide +kernel
theorem dX5_addOf_8 : decode cX5_addOf 8 = .ok (.iaload, 1) := by decide +kernel
theorem dX5_addOf_9 : decode cX5_addOf 9 = .ok (.invokevirtual 87, 3) := by decide +kernel
theorem dX5_addOf_12 : decode cX5_addOf 12 = .ok (.aload_n 0, 1) := by decide +kernel
theorem dX5_addOf_13 : decode cX5_addOf 13 = .ok (.bipush 21, 2) := by decide +kernel
theorem dX5_addOf_15 : decode cX5_addOf 15 = .ok (.aload_n 0, 1) := by decide +kernel
theorem dX5_addOf_16 : decode cX5_addOf 16 = .ok (.getfield 50, 3) := by decide +kernel
theorem dX5_addOf_19 : decode cX5_addOf 19 = .ok (.iload_n 2, 1) := by decide +kernel
theorem dX5_addOf_20 : decode cX5_addOf 20 = .ok (.iaload, 1) := by decide +kernel
theorem dX5_addOf_21 : decode cX5_addOf 21 = .ok (.invokevirtual 87, 3) := by decide +kernel
theorem dX5_addOf_24 : decode cX5_addOf 24 = .ok (.aload_n 0, 1) := by decide +kernel
theorem dX5_addOf_25 : decode cX5_addOf 25 = .ok (.bipush 22, 2) := by decide +kernel
theorem dX5_addOf_27 : decode cX5_addOf 27 = .ok (.aload_n 0, 1) := by decide +kernel
theorem dX5_addOf_28 : decode cX5_addOf 28 = .ok (.getfield 47, 3) := by decide +kernel
theorem dX5_addOf_31 : decode cX5_addOf 31 = .ok (.iload_n 3, 1) := by decide +kernel
theorem dX5_addOf_32 : decode cX5_addOf 32 = .ok (.iaload, 1) := by decide +kernel
theorem dX5_addOf_33 : decode cX5_addOf 33 = .ok (.invokevirtual 87, 3) := by decide +kernel
theorem dX5_addOf_36 : decode cX5_addOf 36 = .ok (.aload_n 0, 1) := by decide +kernel
theorem dX5_addOf_37 : decode cX5_addOf 37 = .ok (.bipush 23, 2) := by decide +kernel
theorem dX5_addOf_39 : decode cX5_addOf 39 = .ok (.aload_n 0, 1) := by decide +kernel
theorem dX5_addOf_40 : decode cX5_addOf 40 = .ok (.getfield 50, 3) := by decide +kernel
theorem dX5_addOf_43 : decode cX5_addOf 43 = .ok (.iload_n 3, 1) := by decide +kernel
theorem dX5_addOf_44 : decode cX5_addOf 44 = .ok (.iaload, 1) := by decide +kernel
theorem dX5_addOf_45 : decode cX5_addOf 45 = .ok (.invokevirtual 87, 3) := by decide +kernel
theorem dX5_addOf_48 : decode cX5_addOf 48 = .ok (.aload_n 0, 1) := by decide +kernel
theorem dX5_addOf_49 : decode cX5_addOf 49 = .ok (.bipush 24, 2) := by decide +kernel
theorem dX5_addOf_51 : decode cX5_addOf 51 = .ok (.iload_n 1, 1) := by decide +kernel
theorem dX5_addOf_52 : decode cX5_addOf 52 = .ok (.invokevirtual 172, 3) := by decide +kernel
theorem dX5_addOf_55 : decode cX5_addOf 55 = .ok (.aload_n 0, 1) := by decide +kernel
theorem dX5_addOf_56 : decode cX5_addOf 56 = .ok (.bipush 10, 2) := by decide +kernel
theorem dX5_addOf_58 : decode cX5_addOf 58 = .ok (.bipush 11, 2) := by decide +kernel
theorem dX5_addOf_60 : decode cX5_addOf 60 = .ok (.bipush 12, 2) := by decide +kernel
theorem dX5_addOf_62 : decode cX5_addOf 62 = .ok (.bipush 20, 2) := by decide +kernel
theorem dX5_addOf_64 : decode cX5_addOf 64 = .ok (.bipush 22, 2) := by decide +kernel
theorem dX5_addOf_66 : decode cX5_addOf 66 = .ok (.invokevirtual 152, 3) := by decide +kernel
theorem dX5_addOf_69 : decode cX5_addOf 69 = .ok (.aload_n 0, 1) := by decide +kernel
theorem dX5_addOf_70 : decode cX5_addOf 70 = .ok (.bipush 25, 2) := by decide +kernel
theorem dX5_addOf_72 : decode cX5_addOf 72 = .ok (.bipush 21, 2) := by decide +kernel
theorem dX5_addOf_74 : decode cX5_addOf 74 = .ok (.bipush 23, 2) := by decide +kernel
theorem dX5_addOf_76 : decode cX5_addOf 76 = .ok (.iconst 1, 1) := by decide +kernel
theorem dX5_addOf_77 : decode cX5_addOf 77 = .ok (.invokevirtual 98, 3) := by decide +kernel
theorem dX5_addOf_80 : decode cX5_addOf 80 = .ok (.aload_n 0, 1) := by decide +kernel
theorem dX5_addOf_81 : decode cX5_addOf 81 = .ok (.bipush 13, 2) := by decide +kernel
theorem dX5_addOf_83 : decode cX5_addOf 83 = .ok (.bipush 14, 2) := by decide +kernel
theorem dX5_addOf_85 : decode cX5_addOf 85 = .ok (.bipush 15, 2) := by decide +kernel
theorem dX5_addOf_87 : decode cX5_addOf 87 = .ok (.bipush 10, 2) := by decide +kernel
theorem dX5_addOf_89 : decode cX5_addOf 89 = .ok (.bipush 25, 2) := by decide +kernel
theorem dX5_addOf_91 : decode cX5_addOf 91 = .ok (.invokevirtual 152, 3) := by decide +kernel
theorem dX5_addOf_94 : decode cX5_addOf 94 = .ok (.aload_n 0, 1) := by decide +kernel
theorem dX5_addOf_95 : decode cX5_addOf 95 = .ok (.bipush 16, 2) := by decide +kernel
theorem dX5_addOf_97 : decode cX5_addOf 97 = .ok (.bipush 14, 2) := by decide +kernel
theorem dX5_addOf_99 : decode cX5_addOf 99 = .ok (.bipush 11, 2) := by decide +kernel
theorem dX5_addOf_101 : decode cX5_addOf 101 = .ok (.invokevirtual 94, 3) := by decide +kernel
theorem dX5_addOf_104 : decode cX5_addOf 104 = .ok (.aload_n 0, 1) := by decide +kernel
theorem dX5_addOf_105 : decode cX5_addOf 105 = .ok (.bipush 17, 2) := by decide +kernel
theorem dX5_addOf_107 : decode cX5_addOf 107 = .ok (.bipush 14, 2) := by decide +kernel
theorem dX5_addOf_109 : decode cX5_addOf 109 = .ok (.bipush 12, 2) := by decide +kernel
theorem dX5_addOf_111 : decode cX5_addOf 111 = .ok (.invokevirtual 94, 3) := by decide +kernel
theorem dX5_addOf_114 : decode cX5_addOf 114 = .ok (.aload_n 0, 1) := by decide +kernel
theorem dX5_addOf_115 : decode cX5_addOf 115 = .ok (.bipush 10, 2) := by decide +kernel
theorem dX5_addOf_117 : decode cX5_addOf 117 = .ok (.bipush 16, 2) := by decide +kernel
theorem dX5_addOf_119 : decode cX5_addOf 119 = .ok (.bipush 20, 2) := by decide +kernel
theorem dX5_addOf_121 : decode cX5_addOf 121 = .ok (.invokevirtual 94, 3) := by decide +kernel
theorem dX5_addOf_124 : decode cX5_addOf 124 = .ok (.aload_n 0, 1) := by decide +kernel
theorem dX5_addOf_125 : decode cX5_addOf 125 = .ok (.bipush 11, 2) := by decide +kernel
theorem dX5_addOf_127 : decode cX5_addOf 127 = .ok (.bipush 10, 2) := by decide +kernel
theorem dX5_addOf_129 : decode cX5_addOf 129 = .ok (.bipush 23, 2) := by decide +kernel
theorem dX5_addOf_131 : decode cX5_addOf 131 = .ok (.invokevirtual 94, 3) := by decide +kernel
theorem dX5_addOf_134 : decode cX5_addOf 134 = .ok (.aload_n 0, 1) := by decide +kernel
theorem dX5_addOf_135 : decode cX5_addOf 135 = .ok (.bipush 10, 2) := by decide +kernel
theorem dX5_addOf_137 : decode cX5_addOf 137 = .ok (.bipush 17, 2) := by decide +kernel
theorem dX5_addOf_139 : decode cX5_addOf 139 = .ok (.bipush 22, 2) := by decide +kernel
theorem dX5_addOf_141 : decode cX5_addOf 141 = .ok (.invokevirtual 94, 3) := by decide +kernel
theorem dX5_addOf_144 : decode cX5_addOf 144 = .ok (.aload_n 0, 1) := by decide +kernel
theorem dX5_addOf_145 : decode cX5_addOf 145 = .ok (.bipush 12, 2) := by decide +kernel
theorem dX5_addOf_147 : decode cX5_addOf 147 = .ok (.bipush 10, 2) := by decide +kernel
theorem dX5_addOf_149 : decode cX5_addOf 149 = .ok (.bipush 21, 2) := by decide +kernel
theorem dX5_addOf_151 : decode cX5_addOf 151 = .ok (.invokevirtual 94, 3) := by decide +kernel
theorem dX5_addOf_154 : decode cX5_addOf 154 = .ok (.aload_n 0, 1) := by decide +kernel
theorem dX5_addOf_155 : decode cX5_addOf 155 = .ok (.bipush 14, 2) := by decide +kernel
theorem dX5_addOf_157 : decode cX5_addOf 157 = .ok (.bipush 11, 2) := by decide +kernel
theorem dX5_addOf_159 : decode cX5_addOf 159 = .ok (.bipush 12, 2) := by decide +kernel
theorem dX5_addOf_161 : decode cX5_addOf 161 = .ok (.iconst 1, 1) := by decide +kernel
theorem dX5_addOf_162 : decode cX5_addOf 162 = .ok (.invokevirtual 98, 3) := by decide +kernel
theorem dX5_addOf_165 : decode cX5_addOf 165 = .ok (.aload_n 0, 1) := by decide +kernel
theorem dX5_addOf_166 : decode cX5_addOf 166 = .ok (.bipush 10, 2) := by decide +kernel
theorem dX5_addOf_168 : decode cX5_addOf 168 = .ok (.bipush 21, 2) := by decide +kernel
theorem dX5_addOf_170 : decode cX5_addOf 170 = .ok (.bipush 23, 2) := by decide +kernel
theorem dX5_addOf_172 : decode cX5_addOf 172 = .ok (.invokevirtual 94, 3) := by decide +kernel
theorem dX5_addOf_175 : decode cX5_addOf 175 = .ok (.aload_n 0, 1) := by decide +kernel
theorem dX5_addOf_176 : decode cX5_addOf 176 = .ok (.bipush 11, 2) := by decide +kernel
theorem dX5_addOf_178 : decode cX5_addOf 178 = .ok (.bipush 10, 2) := by decide +kernel
theorem dX5_addOf_180 : decode cX5_addOf 180 = .ok (.bipush 24, 2) := by decide +kernel
theorem dX5_addOf_182 : decode cX5_addOf 182 = .ok (.iconst 1, 1) := by decide +kernel
theorem dX5_addOf_183 : decode cX5_addOf 183 = .ok (.invokevirtual 98, 3) := by decide +kernel
theorem dX5_addOf_186 : decode cX5_addOf 186 = .ok (.aload_n 0, 1) := by decide +kernel
theorem dX5_addOf_187 : decode cX5_addOf 187 = .ok (.bipush 12, 2) := by decide +kernel
theorem dX5_addOf_189 : decode cX5_addOf 189 = .ok (.bipush 15, 2) := by decide +kernel
theorem dX5_addOf_191 : decode cX5_addOf 191 = .ok (.bipush 11, 2) := by decide +kernel
theorem dX5_addOf_193 : decode cX5_addOf 193 = .ok (.invokevirtual 94, 3) := by decide +kernel
theorem dX5_addOf_196 : decode cX5_addOf 196 = .ok (.aload_n 0, 1) := by decide +kernel
theorem dX5_addOf_197 : decode cX5_addOf 197 = .ok (.bipush 10, 2) := by decide +kernel
theorem dX5_addOf_199 : decode cX5_addOf 199 = .ok (.bipush 14, 2) := by decide +kernel
theorem dX5_addOf_201 : decode cX5_addOf 201 = .ok (.bipush 12, 2) := by decide +kernel
theorem dX5_addOf_203 : decode cX5_addOf 203 = .ok (.iconst 1, 1) := by decide +kernel
theorem dX5_addOf_204 : decode cX5_addOf 204 = .ok (.invokevirtual 98, 3) := by decide +kernel
theorem dX5_addOf_207 : decode cX5_addOf 207 = .ok (.aload_n 0, 1) := by decide +kernel
theorem dX5_addOf_208 : decode cX5_addOf 208 = .ok (.bipush 18, 2) := by decide +kernel
theorem dX5_addOf_210 : decode cX5_addOf 210 = .ok (.bipush 19, 2) := by decide +kernel
theorem dX5_addOf_212 : decode cX5_addOf 212 = .ok (.bipush 10, 2) := by decide +kernel
theorem dX5_addOf_214 : decode cX5_addOf 214 = .ok (.bipush 13, 2) := by decide +kernel
theorem dX5_addOf_216 : decode cX5_addOf 216 = .ok (.invokevirtual 90, 3) := by decide +kernel
theorem dX5_addOf_219 : decode cX5_addOf 219 = .ok (.aload_n 0, 1) := by decide +kernel
theorem dX5_addOf_220 : decode cX5_addOf 220 = .ok (.bipush 12, 2) := by decide +kernel
theorem dX5_addOf_222 : decode cX5_addOf 222 = .ok (.bipush 20, 2) := by decide +kernel
theorem dX5_addOf_224 : decode cX5_addOf 224 = .ok (.bipush 22, 2) := by decide +kernel
theorem dX5_addOf_226 : decode cX5_addOf 226 = .ok (.invokevirtual 94, 3) := by decide +kernel
theorem dX5_addOf_229 : decode cX5_addOf 229 = .ok (.aload_n 0, 1) := by decide +kernel
theorem dX5_addOf_230 : decode cX5_addOf 230 = .ok (.bipush 14, 2) := by decide +kernel
theorem dX5_addOf_232 : decode cX5_addOf 232 = .ok (.bipush 13, 2) := by decide +kernel
theorem dX5_addOf_234 : decode cX5_addOf 234 = .ok (.bipush 13, 2) := by decide +kernel
theorem dX5_addOf_236 : decode cX5_addOf 236 = .ok (.invokevirtual 94, 3) := by decide +kernel
theorem dX5_addOf_239 : decode cX5_addOf 239 = .ok (.aload_n 0, 1) := by decide +kernel
theorem dX5_addOf_240 : decode cX5_addOf 240 = .ok (.bipush 10, 2) := by decide +kernel
theorem dX5_addOf_242 : decode cX5_addOf 242 = .ok (.bipush 19, 2) := by decide +kernel
theorem dX5_addOf_244 : decode cX5_addOf 244 = .ok (.bipush 12, 2) := by decide +kernel
theorem dX5_addOf_246 : decode cX5_addOf 246 = .ok (.bipush 14, 2) := by decide +kernel
theorem dX5_addOf_248 : decode cX5_addOf 248 = .ok (.invokevirtual 90, 3) := by decide +kernel
theorem dX5_addOf_251 : decode cX5_addOf 251 = .ok (.aload_n 0, 1) := by decide +kernel
theorem dX5_addOf_252 : decode cX5_addOf 252 = .ok (.bipush 19, 2) := by decide +kernel
theorem dX5_addOf_254 : decode cX5_addOf 254 = .ok (.bipush 11, 2) := by decide +kernel
theorem dX5_addOf_256 : decode cX5_addOf 256 = .ok (.bipush 18, 2) := by decide +kernel
theorem dX5_addOf_258 : decode cX5_addOf 258 = .ok (.bipush 10, 2) := by decide +kernel
theorem dX5_addOf_260 : decode cX5_addOf 260 = .ok (.invokevirtual 90, 3) := by decide +kernel
theorem dX5_addOf_263 : decode cX5_addOf 263 = .ok (.aload_n 0, 1) := by decide +kernel
theorem dX5_addOf_264 : decode cX5_addOf 264 = .ok (.bipush 10, 2) := by decide +kernel
theorem dX5_addOf_266 : decode cX5_addOf 266 = .ok (.invokevirtual 77, 3) := by decide +kernel
theorem dX5_addOf_269 : decode cX5_addOf 269 = .ok (.aload_n 0, 1) := by decide +kernel
theorem dX5_addOf_270 : decode cX5_addOf 270 = .ok (.iload_n 1, 1) := by decide +kernel
theorem dX5_addOf_271 : decode cX5_addOf 271 = .ok (.invokevirtual 169, 3) := by decide +kernel
theorem dX5_addOf_274 : decode cX5_addOf 274 = .ok (.if_icmp .le 111, 3) := by decide +kernel
theorem dX5_addOf_277 : decode cX5_addOf 277 = .ok (.aload_n 0, 1) := by decide +kernel
theorem dX5_addOf_278 : decode cX5_addOf 278 = .ok (.bipush 12, 2) := by decide +kernel
theorem dX5_addOf_280 : decode cX5_addOf 280 = .ok (.bipush 11, 2) := by decide +kernel
theorem dX5_addOf_282 : decode cX5_addOf 282 = .ok (.bipush 11, 2) := by decide +kernel
theorem dX5_addOf_284 : decode cX5_addOf 284 = .ok (.invokevirtual 94, 3) := by decide +kernel
theorem dX5_addOf_287 : decode cX5_addOf 287 = .ok (.aload_n 0, 1) := by decide +kernel
theorem dX5_addOf_288 : decode cX5_addOf 288 = .ok (.bipush 14, 2) := by decide +kernel
theorem dX5_addOf_290 : decode cX5_addOf 290 = .ok (.bipush 24, 2) := by decide +kernel
theorem dX5_addOf_292 : decode cX5_addOf 292 = .ok (.bipush 12, 2) := by decide +kernel
theorem dX5_addOf_294 : decode cX5_addOf 294 = .ok (.aload_n 0, 1) := by decide +kernel
theorem dX5_addOf_295 : decode cX5_addOf 295 = .ok (.getfield 7, 3) := by decide +kernel
theorem dX5_addOf_298 : decode cX5_addOf 298 = .ok (.iconst 1, 1) := by decide +kernel
theorem dX5_addOf_299 : decode cX5_addOf 299 = .ok (.isub, 1) := by decide +kernel
theorem dX5_addOf_300 : decode cX5_addOf 300 = .ok (.invokevirtual 98, 3) := by decide +kernel
theorem dX5_addOf_303 : decode cX5_addOf 303 = .ok (.aload_n 0, 1) := by decide +kernel
theorem dX5_addOf_304 : decode cX5_addOf 304 = .ok (.bipush 15, 2) := by decide +kernel
theorem dX5_addOf_306 : decode cX5_addOf 306 = .ok (.bipush 16, 2) := by decide +kernel
theorem dX5_addOf_308 : decode cX5_addOf 308 = .ok (.bipush 14, 2) := by decide +kernel
theorem dX5_addOf_310 : decode cX5_addOf 310 = .ok (.bipush 10, 2) := by decide +kernel
theorem dX5_addOf_312 : decode cX5_addOf 312 = .ok (.invokevirtual 90, 3) := by decide +kernel
theorem dX5_addOf_315 : decode cX5_addOf 315 = .ok (.aload_n 0, 1) := by decide +kernel
theorem dX5_addOf_316 : decode cX5_addOf 316 = .ok (.bipush 10, 2) := by decide +kernel
theorem dX5_addOf_318 : decode cX5_addOf 318 = .ok (.bipush 15, 2) := by decide +kernel
theorem dX5_addOf_320 : decode cX5_addOf 320 = .ok (.invokevirtual 80, 3) := by decide +kernel
theorem dX5_addOf_323 : decode cX5_addOf 323 = .ok (.aload_n 0, 1) := by decide +kernel
theorem dX5_addOf_324 : decode cX5_addOf 324 = .ok (.bipush 10, 2) := by decide +kernel
theorem dX5_addOf_326 : decode cX5_addOf 326 = .ok (.aload_n 0, 1) := by decide +kernel
theorem dX5_addOf_327 : decode cX5_addOf 327 = .ok (.aload_n 0, 1) := by decide +kernel
theorem dX5_addOf_328 : decode cX5_addOf 328 = .ok (.getfield 38, 3) := by decide +kernel
theorem dX5_addOf_331 : decode cX5_addOf 331 = .ok (.sipush 160, 3) := by decide +kernel
theorem dX5_addOf_334 : decode cX5_addOf 334 = .ok (.aload_n 0, 1) := by decide +kernel
theorem dX5_addOf_335 : decode cX5_addOf 335 = .ok (.bipush 10, 2) := by decide +kernel
theorem dX5_addOf_337 : decode cX5_addOf 337 = .ok (.invokevirtual 77, 3) := by decide +kernel
theorem dX5_addOf_340 : decode cX5_addOf 340 = .ok (.iadd, 1) := by decide +kernel
theorem dX5_addOf_341 : decode cX5_addOf 341 = .ok (.iaload, 1) := by decide +kernel
theorem dX5_addOf_342 : decode cX5_addOf 342 = .ok (.invokevirtual 84, 3) := by decide +kernel
theorem dX5_addOf_345 : decode cX5_addOf 345 = .ok (.invokevirtual 101, 3) := by decide +kernel
theorem dX5_addOf_348 : decode cX5_addOf 348 = .ok (.aload_n 0, 1) := by decide +kernel
theorem dX5_addOf_349 : decode cX5_addOf 349 = .ok (.bipush 12, 2) := by decide +kernel
theorem dX5_addOf_351 : decode cX5_addOf 351 = .ok (.invokevirtual 74, 3) := by decide +kernel
theorem dX5_addOf_354 : decode cX5_addOf 354 = .ok (.aload_n 0, 1) := by decide +kernel
theorem dX5_addOf_355 : decode cX5_addOf 355 = .ok (.bipush 14, 2) := by decide +kernel
theorem dX5_addOf_357 : decode cX5_addOf 357 = .ok (.bipush 12, 2) := by decide +kernel
theorem dX5_addOf_359 : decode cX5_addOf 359 = .ok (.bipush 11, 2) := by decide +kernel
theorem dX5_addOf_361 : decode cX5_addOf 361 = .ok (.aload_n 0, 1) := by decide +kernel
theorem dX5_addOf_362 : decode cX5_addOf 362 = .ok (.getfield 7, 3) := by decide +kernel
theorem dX5_addOf_365 : decode cX5_addOf 365 = .ok (.iconst 1, 1) := by decide +kernel
theorem dX5_addOf_366 : decode cX5_addOf 366 = .ok (.isub, 1) := by decide +kernel
theorem dX5_addOf_367 : decode cX5_addOf 367 = .ok (.invokevirtual 98, 3) := by decide +kernel
theorem dX5_addOf_370 : decode cX5_addOf 370 = .ok (.aload_n 0, 1) := by decide +kernel
theorem dX5_addOf_371 : decode cX5_addOf 371 = .ok (.bipush 15, 2) := by decide +kernel
theorem dX5_addOf_373 : decode cX5_addOf 373 = .ok (.bipush 11, 2) := by decide +kernel
theorem dX5_addOf_375 : decode cX5_addOf 375 = .ok (.bipush 14, 2) := by decide +kernel
theorem dX5_addOf_377 : decode cX5_addOf 377 = .ok (.bipush 10, 2) := by decide +kernel
theorem dX5_addOf_379 : decode cX5_addOf 379 = .ok (.invokevirtual 90, 3) := by decide +kernel
theorem dX5_addOf_382 : decode cX5_addOf 382 = .ok (.goto (-119), 3) := by decide +kernel
theorem dX5_addOf_385 : decode cX5_addOf 385 = .ok (.aload_n 0, 1) := by decide +kernel
theorem dX5_addOf_386 : decode cX5_addOf 386 = .ok (.aload_n 0, 1) := by decide +kernel
theorem dX5_addOf_387 : decode cX5_addOf 387 = .ok (.bipush 10, 2) := by decide +kernel
theorem dX5_addOf_389 : decode cX5_addOf 389 = .ok (.invokevirtual 120, 3) := by decide +kernel
theorem dX5_addOf_392 : decode cX5_addOf 392 = .ok (.aload_n 0, 1) := by decide +kernel
theorem dX5_addOf_393 : decode cX5_addOf 393 = .ok (.bipush 11, 2) := by decide +kernel
theorem dX5_addOf_395 : decode cX5_addOf 395 = .ok (.invokevirtual 120, 3) := by decide +kernel
theorem dX5_addOf_398 : decode cX5_addOf 398 = .ok (.invokevirtual 229, 3) := by decide +kernel
theorem dX5_addOf_401 : decode cX5_addOf 401 = .ok (.ireturn, 1) := by decide +kernel
theorem dX5_isThere_0 : decode cX5_isThere 0 = .ok (.aload_n 0, 1) := by decide +kernel
theorem dX5_isThere_1 : decode cX5_isThere 1 = .ok (.iload_n 1, 1) := by decide +kernel
theorem dX5_isThere_2 : decode cX5_isThere 2 = .ok (.invokevirtual 220, 3) := by decide +kernel
theorem dX5_isThere_5 : decode cX5_isThere 5 = .ok (.ifCond .ne 5, 3) := by decide +kernel
theorem dX5_isThere_8 : decode cX5_isThere 8 = .ok (.iconst 0, 1) := by decide +kernel
theorem dX5_isThere_9 : decode cX5_isThere 9 = .ok (.ireturn, 1) := by decide +kernel
theorem dX5_isThere_10 : decode cX5_isThere 10 = .ok (.aload_n 0, 1) := by decide +kernel
theorem dX5_isThere_11 : decode cX5_isThere 11 = .ok (.iload_n 1, 1) := by decide +kernel
theorem dX5_isThere_12 : decode cX5_isThere 12 = .ok (.invokevirtual 226, 3) := by decide +kernel
theorem dX5_isThere_15 : decode cX5_isThere 15 = .ok (.iload_n 2, 1) := by decide +kernel
theorem dX5_isThere_16 : decode cX5_isThere 16 = .ok (.i2l, 1) := by decide +kernel
theorem dX5_isThere_17 : decode cX5_isThere 17 = .ok (.lconst 0, 1) := by decide +kernel
theorem dX5_isThere_18 : decode cX5_isThere 18 = .ok (.aload_n 0, 1) := by decide +kernel
theorem dX5_isThere_19 : decode cX5_isThere 19 = .ok (.getfield 214, 3) := by decide +kernel
theorem dX5_isThere_22 : decode cX5_isThere 22 = .ok (.iconst 1, 1) := by decide +kernel
theorem dX5_isThere_23 : decode cX5_isThere 23 = .ok (.isub, 1) := by decide +kernel
theorem dX5_isThere_24 : decode cX5_isThere 24 = .ok (.i2l, 1) := by decide +kernel
theorem dX5_isThere_25 : decode cX5_isThere 25 = .ok (.invokestatic 127, 3) := by decide +kernel
theorem dX5_isThere_28 : decode cX5_isThere 28 = .ok (.ireturn, 1) := by decide +kernel
theorem dX5_add_0 : decode cX5_add 0 = .ok (.aload_n 0, 1) := by decide +kernel
theorem dX5_add_1 : decode cX5_add 1 = .ok (.iconst 0, 1) := by decide +kernel
theorem dX5_add_2 : decode cX5_add 2 = .ok (.putfield 67, 3) := by decide +kernel
theorem dX5_add_5 : decode cX5_add 5 = .ok (.aload_n 0, 1) := by decide +kernel
theorem dX5_add_6 : decode cX5_add 6 = .ok (.iload_n 1, 1) := by decide +kernel
theorem dX5_add_7 : decode cX5_add 7 = .ok (.iload_n 2, 1) := by decide +kernel
theorem dX5_add_8 : decode cX5_add 8 = .ok (.invokevirtual 232, 3) := by decide +kernel
theorem dX5_add_11 : decode cX5_add 11 = .ok (.ifCond .eq 22, 3) := by decide +kernel
theorem dX5_add_14 : decode cX5_add 14 = .ok (.aload_n 0, 1) := by decide +kernel
theorem dX5_add_15 : decode cX5_add 15 = .ok (.iload_n 1, 1) := by decide +kernel
theorem dX5_add_16 : decode cX5_add 16 = .ok (.iload_n 3, 1) := by decide +kernel
theorem dX5_add_17 : decode cX5_add 17 = .ok (.invokevirtual 232, 3) := by decide +kernel
theorem dX5_add_20 : decode cX5_add 20 = .ok (.ifCond .eq 13, 3) := by decide +kernel
theorem dX5_add_23 : decode cX5_add 23 = .ok (.aload_n 0, 1) := by decide +kernel
theorem dX5_add_24 : decode cX5_add 24 = .ok (.iload_n 1, 1) := by decide +kernel
theorem dX5_add_25 : decode cX5_add 25 = .ok (.iload_n 2, 1) := by decide +kernel
theorem dX5_add_26 : decode cX5_add 26 = .ok (.iload_n 3, 1) := by decide +kernel
theorem dX5_add_27 : decode cX5_add 27 = .ok (.invokevirtual 235, 3) := by decide +kernel
theorem dX5_add_30 : decode cX5_add 30 = .ok (.goto 4, 3) := by decide +kernel
theorem dX5_add_33 : decode cX5_add 33 = .ok (.iconst (-1), 1) := by decide +kernel
theorem dX5_add_34 : decode cX5_add 34 = .ok (.ireturn, 1) := by decide +kernel
theorem dX5_minus_0 : decode cX5_minus 0 = .ok (.aload_n 0, 1) := by decide +kernel
theorem dX5_minus_1 : decode cX5_minus 1 = .ok (.iconst 0, 1) := by decide +kernel
theorem dX5_minus_2 : decode cX5_minus 2 = .ok (.putfield 67, 3) := by decide +kernel
theorem dX5_minus_5 : decode cX5_minus 5 = .ok (.aload_n 0, 1) := by decide +kernel
theorem dX5_minus_6 : decode cX5_minus 6 = .ok (.iload_n 1, 1) := by decide +kernel
theorem dX5_minus_7 : decode cX5_minus 7 = .ok (.iload_n 2, 1) := by decide +kernel
theorem dX5_minus_8 : decode cX5_minus 8 = .ok (.invokevirtual 232, 3) := by decide +kernel
theorem dX5_minus_11 : decode cX5_minus 11 = .ok (.ifCond .ne 5, 3) := by decide +kernel
theorem dX5_minus_14 : decode cX5_minus 14 = .ok (.iconst (-1), 1) := by decide +kernel
theorem dX5_minus_15 : decode cX5_minus 15 = .ok (.ireturn, 1) := by decide +kernel
theorem dX5_minus_16 : decode cX5_minus 16 = .ok (.aload_n 0, 1) := by decide +kernel
theorem dX5_minus_17 : decode cX5_minus 17 = .ok (.bipush 20, 2) := by decide +kernel
theorem dX5_minus_19 : decode cX5_minus 19 = .ok (.aload_n 0, 1) := by decide +kernel
theorem dX5_minus_20 : decode cX5_minus 20 = .ok (.getfield 50, 3) := by decide +kernel
theorem dX5_minus_23 : decode cX5_minus 23 = .ok (.iload_n 2, 1) := by decide +kernel
theorem dX5_minus_24 : decode cX5_minus 24 = .ok (.iaload, 1) := by decide +kernel
theorem dX5_minus_25 : decode cX5_minus 25 = .ok (.invokevirtual 87, 3) := by decide +kernel
theorem dX5_minus_28 : decode cX5_minus 28 = .ok (.aload_n 0, 1) := by decide +kernel
theorem dX5_minus_29 : decode cX5_minus 29 = .ok (.bipush 20, 2) := by decide +kernel
theorem dX5_minus_31 : decode cX5_minus 31 = .ok (.aload_n 0, 1) := by decide +kernel
theorem dX5_minus_32 : decode cX5_minus 32 = .ok (.getfield 7, 3) := by decide +kernel
theorem dX5_minus_35 : decode cX5_minus 35 = .ok (.iconst 1, 1) := by decide +kernel
theorem dX5_minus_36 : decode cX5_minus 36 = .ok (.isub, 1) := by decide +kernel
theorem dX5_minus_37 : decode cX5_minus 37 = .ok (.invokevirtual 101, 3) := by decide +kernel
theorem dX5_minus_40 : decode cX5_minus 40 = .ok (.aload_n 0, 1) := by decide +kernel
theorem dX5_minus_41 : decode cX5_minus 41 = .ok (.aload_n 0, 1) := by decide +kernel
theorem dX5_minus_42 : decode cX5_minus 42 = .ok (.getfield 47, 3) := by decide +kernel
theorem dX5_minus_45 : decode cX5_minus 45 = .ok (.iload_n 2, 1) := by decide +kernel
theorem dX5_minus_46 : decode cX5_minus 46 = .ok (.iaload, 1) := by decide +kernel
theorem dX5_minus_47 : decode cX5_minus 47 = .ok (.aload_n 0, 1) := by decide +kernel
theorem dX5_minus_48 : decode cX5_minus 48 = .ok (.bipush 20, 2) := by decide +kernel
theorem dX5_minus_50 : decode cX5_minus 50 = .ok (.invokevirtual 120, 3) := by decide +kernel
theorem dX5_minus_53 : decode cX5_minus 53 = .ok (.invokevirtual 229, 3) := by decide +kernel
theorem dX5_minus_56 : decode cX5_minus 56 = .ok (.ireturn, 1) := by decide +kernel
theorem dX5_order_0 : decode cX5_order 0 = .ok (.aload_n 0, 1) := by decide +kernel
theorem dX5_order_1 : decode cX5_order 1 = .ok (.iconst 0, 1) := by decide +kernel
theorem dX5_order_2 : decode cX5_order 2 = .ok (.putfield 67, 3) := by decide +kernel
theorem dX5_order_5 : decode cX5_order 5 = .ok (.aload_n 0, 1) := by decide +kernel
theorem dX5_order_6 : decode cX5_order 6 = .ok (.iload_n 1, 1) := by decide +kernel
theorem dX5_order_7 : decode cX5_order 7 = .ok (.iload_n 2, 1) := by decide +kernel
theorem dX5_order_8 : decode cX5_order 8 = .ok (.invokevirtual 232, 3) := by decide +kernel
theorem dX5_order_11 : decode cX5_order 11 = .ok (.ifCond .ne 5, 3) := by decide +kernel
theorem dX5_order_14 : decode cX5_order 14 = .ok (.iconst (-1), 1) := by decide +kernel
theorem dX5_order_15 : decode cX5_order 15 = .ok (.ireturn, 1) := by decide +kernel
theorem dX5_order_16 : decode cX5_order 16 = .ok (.iconst 1, 1) := by decide +kernel
theorem dX5_order_17 : decode cX5_order 17 = .ok (.istore_n 3, 1) := by decide +kernel
theorem dX5_order_18 : decode cX5_order 18 = .ok (.iload_n 2, 1) := by decide +kernel
theorem dX5_order_19 : decode cX5_order 19 = .ok (.istore 4, 2) := by decide +kernel
theorem dX5_order_21 : decode cX5_order 21 = .ok (.iload 4, 2) := by decide +kernel
theorem dX5_order_23 : decode cX5_order 23 = .ok (.ifCond .eq 19, 3) := by decide +kernel
theorem dX5_order_26 : decode cX5_order 26 = .ok (.aload_n 0, 1) := by decide +kernel
theorem dX5_order_27 : decode cX5_order 27 = .ok (.iload_n 1, 1) := by decide +kernel
theorem dX5_order_28 : decode cX5_order 28 = .ok (.iload 4, 2) := by decide +kernel
theorem dX5_order_30 : decode cX5_order 30 = .ok (.iload_n 2, 1) := by decide +kernel
theorem dX5_order_31 : decode cX5_order 31 = .ok (.invokevirtual 235, 3) := by decide +kernel
theorem dX5_order_34 : decode cX5_order 34 = .ok (.istore 4, 2) := by decide +kernel
theorem dX5_order_36 : decode cX5_order 36 = .ok (.iinc 3 1, 3) := by decide +kernel
theorem dX5_order_39 : decode cX5_order 39 = .ok (.goto (-18), 3) := by decide +kernel
theorem dX5_order_42 : decode cX5_order 42 = .ok (.iload_n 3, 1) := by decide +kernel
theorem dX5_order_43 : decode cX5_order 43 = .ok (.ireturn, 1) := by decide +kernel
theorem dX5_told_0 : decode cX5_told 0 = .ok (.aload_n 0, 1) := by decide +kernel
theorem dX5_told_1 : decode cX5_told 1 = .ok (.iconst 0, 1) := by decide +kernel
theorem dX5_told_2 : decode cX5_told 2 = .ok (.putfield 67, 3) := by decide +kernel
theorem dX5_told_5 : decode cX5_told 5 = .ok (.iload_n 1, 1) := by decide +kernel
theorem dX5_told_6 : decode cX5_told 6 = .ok (.ifCond .ne 10, 3) := by decide +kernel
theorem dX5_told_9 : decode cX5_told 9 = .ok (.aload_n 0, 1) := by decide +kernel
theorem dX5_told_10 : decode cX5_told 10 = .ok (.getfield 7, 3) := by decide +kernel
theorem dX5_told_13 : decode cX5_told 13 = .ok (.goto 40, 3) := by decide +kernel
theorem dX5_told_16 : decode cX5_told 16 = .ok (.iload_n 1, 1) := by decide +kernel
theorem dX5_told_17 : decode cX5_told 17 = .ok (.iconst 1, 1) := by decide +kernel
theorem dX5_told_18 : decode cX5_told 18 = .ok (.if_icmp .ne 10, 3) := by decide +kernel
theorem dX5_told_21 : decode cX5_told 21 = .ok (.aload_n 0, 1) := by decide +kernel
theorem dX5_told_22 : decode cX5_told 22 = .ok (.getfield 13, 3) := by decide +kernel
theorem dX5_told_25 : decode cX5_told 25 = .ok (.goto 28, 3) := by decide +kernel
theorem dX5_told_28 : decode cX5_told 28 = .ok (.iload_n 1, 1) := by decide +kernel
theorem dX5_told_29 : decode cX5_told 29 = .ok (.iconst 2, 1) := by decide +kernel
theorem dX5_told_30 : decode cX5_told 30 = .ok (.if_icmp .ne 10, 3) := by decide +kernel
theorem dX5_told_33 : decode cX5_told 33 = .ok (.aload_n 0, 1) := by decide +kernel
theorem dX5_told_34 : decode cX5_told 34 = .ok (.getfield 108, 3) := by decide +kernel
theorem dX5_told_37 : decode cX5_told 37 = .ok (.goto 16, 3) := by decide +kernel
theorem dX5_told_40 : decode cX5_told 40 = .ok (.iload_n 1, 1) := by decide +kernel
theorem dX5_told_41 : decode cX5_told 41 = .ok (.iconst 3, 1) := by decide +kernel
theorem dX5_told_42 : decode cX5_told 42 = .ok (.if_icmp .ne 10, 3) := by decide +kernel
