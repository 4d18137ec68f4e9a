theorem dX0_init_0 : decode cX0_init 0 = .ok (.aload_n 0, 1) := by decide +kernel
theorem dX0_init_1 : decode cX0_init 1 = .ok (.invokespecial 3, 3) := by decide +kernel
theorem dX0_init_4 : decode cX0_init 4 = .ok (.aload_n 0, 1) := by decide +kernel
theorem dX0_init_5 : decode cX0_init 5 = .ok (.sipush 450, 3) := by decide +kernel
theorem dX0_init_8 : decode cX0_init 8 = .ok (.newarray .int, 2) := by decide +kernel
theorem dX0_init_10 : decode cX0_init 10 = .ok (.putfield 9, 3) := by decide +kernel
theorem dX0_init_13 : decode cX0_init 13 = .ok (.aload_n 0, 1) := by decide +kernel
theorem dX0_init_14 : decode cX0_init 14 = .ok (.iconst 1, 1) := by decide +kernel
theorem dX0_init_15 : decode cX0_init 15 = .ok (.putfield 15, 3) := by decide +kernel
theorem dX0_init_18 : decode cX0_init 18 = .ok (.aload_n 0, 1) := by decide +kernel
theorem dX0_init_19 : decode cX0_init 19 = .ok (.aload_n 1, 1) := by decide +kernel
theorem dX0_init_20 : decode cX0_init 20 = .ok (.putfield 19, 3) := by decide +kernel
theorem dX0_init_23 : decode cX0_init 23 = .ok (.return_, 1) := by decide +kernel
theorem dX0_begin_0 : decode cX0_begin 0 = .ok (.aload_n 0, 1) := by decide +kernel
theorem dX0_begin_1 : decode cX0_begin 1 = .ok (.iload_n 1, 1) := by decide +kernel
theorem dX0_begin_2 : decode cX0_begin 2 = .ok (.putfield 23, 3) := by decide +kernel
theorem dX0_begin_5 : decode cX0_begin 5 = .ok (.aload_n 0, 1) := by decide +kernel
theorem dX0_begin_6 : decode cX0_begin 6 = .ok (.iload_n 2, 1) := by decide +kernel
theorem dX0_begin_7 : decode cX0_begin 7 = .ok (.putfield 15, 3) := by decide +kernel
theorem dX0_begin_10 : decode cX0_begin 10 = .ok (.aload_n 0, 1) := by decide +kernel
theorem dX0_begin_11 : decode cX0_begin 11 = .ok (.iconst 0, 1) := by decide +kernel
theorem dX0_begin_12 : decode cX0_begin 12 = .ok (.putfield 26, 3) := by decide +kernel
theorem dX0_begin_15 : decode cX0_begin 15 = .ok (.return_, 1) := by decide +kernel
theorem dX0_holds_0 : decode cX0_holds 0 = .ok (.iconst 0, 1) := by decide +kernel
theorem dX0_holds_1 : decode cX0_holds 1 = .ok (.istore_n 3, 1) := by decide +kernel
theorem dX0_holds_2 : decode cX0_holds 2 = .ok (.iload_n 3, 1) := by decide +kernel
theorem dX0_holds_3 : decode cX0_holds 3 = .ok (.aload_n 0, 1) := by decide +kernel
theorem dX0_holds_4 : decode cX0_holds 4 = .ok (.getfield 15, 3) := by decide +kernel
theorem dX0_holds_7 : decode cX0_holds 7 = .ok (.if_icmp .gt 69, 3) := by decide +kernel
theorem dX0_holds_10 : decode cX0_holds 10 = .ok (.aload_n 0, 1) := by decide +kernel
theorem dX0_holds_11 : decode cX0_holds 11 = .ok (.getfield 19, 3) := by decide +kernel
theorem dX0_holds_14 : decode cX0_holds 14 = .ok (.iload_n 3, 1) := by decide +kernel
theorem dX0_holds_15 : decode cX0_holds 15 = .ok (.invokevirtual 29, 3) := by decide +kernel
theorem dX0_holds_18 : decode cX0_holds 18 = .ok (.istore 4, 2) := by decide +kernel
theorem dX0_holds_20 : decode cX0_holds 20 = .ok (.iload_n 1, 1) := by decide +kernel
theorem dX0_holds_21 : decode cX0_holds 21 = .ok (.iload 4, 2) := by decide +kernel
theorem dX0_holds_23 : decode cX0_holds 23 = .ok (.if_icmp .lt 47, 3) := by decide +kernel
theorem dX0_holds_26 : decode cX0_holds 26 = .ok (.iload_n 1, 1) := by decide +kernel
theorem dX0_holds_27 : decode cX0_holds 27 = .ok (.iconst 2, 1) := by decide +kernel
theorem dX0_holds_28 : decode cX0_holds 28 = .ok (.iload 4, 2) := by decide +kernel
theorem dX0_holds_30 : decode cX0_holds 30 = .ok (.imul, 1) := by decide +kernel
theorem dX0_holds_31 : decode cX0_holds 31 = .ok (.if_icmp .ge 39, 3) := by decide +kernel
theorem dX0_holds_34 : decode cX0_holds 34 = .ok (.iload_n 2, 1) := by decide +kernel
theorem dX0_holds_35 : decode cX0_holds 35 = .ok (.iload 4, 2) := by decide +kernel
theorem dX0_holds_37 : decode cX0_holds 37 = .ok (.if_icmp .ge 31, 3) := by decide +kernel
theorem dX0_holds_40 : decode cX0_holds 40 = .ok (.aload_n 0, 1) := by decide +kernel
theorem dX0_holds_41 : decode cX0_holds 41 = .ok (.getfield 19, 3) := by decide +kernel
theorem dX0_holds_44 : decode cX0_holds 44 = .ok (.iload_n 2, 1) := by decide +kernel
theorem dX0_holds_45 : decode cX0_holds 45 = .ok (.iload_n 1, 1) := by decide +kernel
theorem dX0_holds_46 : decode cX0_holds 46 = .ok (.invokevirtual 35, 3) := by decide +kernel
theorem dX0_holds_49 : decode cX0_holds 49 = .ok (.aload_n 0, 1) := by decide +kernel
theorem dX0_holds_50 : decode cX0_holds 50 = .ok (.getfield 19, 3) := by decide +kernel
theorem dX0_holds_53 : decode cX0_holds 53 = .ok (.aload_n 0, 1) := by decide +kernel
theorem dX0_holds_54 : decode cX0_holds 54 = .ok (.getfield 23, 3) := by decide +kernel
theorem dX0_holds_57 : decode cX0_holds 57 = .ok (.iload_n 1, 1) := by decide +kernel
theorem dX0_holds_58 : decode cX0_holds 58 = .ok (.invokevirtual 39, 3) := by decide +kernel
theorem dX0_holds_61 : decode cX0_holds 61 = .ok (.if_icmp .ne 7, 3) := by decide +kernel
theorem dX0_holds_64 : decode cX0_holds 64 = .ok (.iconst 1, 1) := by decide +kernel
theorem dX0_holds_65 : decode cX0_holds 65 = .ok (.goto 4, 3) := by decide +kernel
theorem dX0_holds_68 : decode cX0_holds 68 = .ok (.iconst 0, 1) := by decide +kernel
theorem dX0_holds_69 : decode cX0_holds 69 = .ok (.ireturn, 1) := by decide +kernel
theorem dX0_holds_70 : decode cX0_holds 70 = .ok (.iinc 3 1, 3) := by decide +kernel
theorem dX0_holds_73 : decode cX0_holds 73 = .ok (.goto (-71), 3) := by decide +kernel
theorem dX0_holds_76 : decode cX0_holds 76 = .ok (.iconst 0, 1) := by decide +kernel
theorem dX0_holds_77 : decode cX0_holds 77 = .ok (.ireturn, 1) := by decide +kernel
theorem dX0_many_0 : decode cX0_many 0 = .ok (.aload_n 0, 1) := by decide +kernel
theorem dX0_many_1 : decode cX0_many 1 = .ok (.getfield 26, 3) := by decide +kernel
theorem dX0_many_4 : decode cX0_many 4 = .ok (.ifCond .ne 7, 3) := by decide +kernel
theorem dX0_many_7 : decode cX0_many 7 = .ok (.aload_n 0, 1) := by decide +kernel
theorem dX0_many_8 : decode cX0_many 8 = .ok (.invokevirtual 42, 3) := by decide +kernel
theorem dX0_many_11 : decode cX0_many 11 = .ok (.aload_n 0, 1) := by decide +kernel
theorem dX0_many_12 : decode cX0_many 12 = .ok (.getfield 26, 3) := by decide +kernel
theorem dX0_many_15 : decode cX0_many 15 = .ok (.ireturn, 1) := by decide +kernel
theorem dX0_reaches_0 : decode cX0_reaches 0 = .ok (.iload_n 1, 1) := by decide +kernel
theorem dX0_reaches_1 : decode cX0_reaches 1 = .ok (.ifCond .lt 15, 3) := by decide +kernel
theorem dX0_reaches_4 : decode cX0_reaches 4 = .ok (.iload_n 1, 1) := by decide +kernel
theorem dX0_reaches_5 : decode cX0_reaches 5 = .ok (.aload_n 0, 1) := by decide +kernel
theorem dX0_reaches_6 : decode cX0_reaches 6 = .ok (.invokevirtual 45, 3) := by decide +kernel
theorem dX0_reaches_9 : decode cX0_reaches 9 = .ok (.if_icmp .ge 7, 3) := by decide +kernel
theorem dX0_reaches_12 : decode cX0_reaches 12 = .ok (.iconst 1, 1) := by decide +kernel
theorem dX0_reaches_13 : decode cX0_reaches 13 = .ok (.goto 4, 3) := by decide +kernel
theorem dX0_reaches_16 : decode cX0_reaches 16 = .ok (.iconst 0, 1) := by decide +kernel
theorem dX0_reaches_17 : decode cX0_reaches 17 = .ok (.ireturn, 1) := by decide +kernel
theorem dX0_keyAt_0 : decode cX0_keyAt 0 = .ok (.aload_n 0, 1) := by decide +kernel
theorem dX0_keyAt_1 : decode cX0_keyAt 1 = .ok (.getfield 9, 3) := by decide +kernel
theorem dX0_keyAt_4 : decode cX0_keyAt 4 = .ok (.iload_n 1, 1) := by decide +kernel
theorem dX0_keyAt_5 : decode cX0_keyAt 5 = .ok (.invokestatic 49, 3) := by decide +kernel
theorem dX0_keyAt_8 : decode cX0_keyAt 8 = .ok (.ireturn, 1) := by decide +kernel
theorem dX0_keyOf_0 : decode cX0_keyOf 0 = .ok (.iload_n 1, 1) := by decide +kernel
theorem dX0_keyOf_1 : decode cX0_keyOf 1 = .ok (.aload_n 0, 1) := by decide +kernel
theorem dX0_keyOf_2 : decode cX0_keyOf 2 = .ok (.getfield 19, 3) := by decide +kernel
theorem dX0_keyOf_5 : decode cX0_keyOf 5 = .ok (.getfield 53, 3) := by decide +kernel
theorem dX0_keyOf_8 : decode cX0_keyOf 8 = .ok (.imul, 1) := by decide +kernel
theorem dX0_keyOf_9 : decode cX0_keyOf 9 = .ok (.aload_n 0, 1) := by decide +kernel
theorem dX0_keyOf_10 : decode cX0_keyOf 10 = .ok (.getfield 19, 3) := by decide +kernel
theorem dX0_keyOf_13 : decode cX0_keyOf 13 = .ok (.getfield 53, 3) := by decide +kernel
theorem dX0_keyOf_16 : decode cX0_keyOf 16 = .ok (.imul, 1) := by decide +kernel
theorem dX0_keyOf_17 : decode cX0_keyOf 17 = .ok (.iload_n 2, 1) := by decide +kernel
theorem dX0_keyOf_18 : decode cX0_keyOf 18 = .ok (.iadd, 1) := by decide +kernel
theorem dX0_keyOf_19 : decode cX0_keyOf 19 = .ok (.ireturn, 1) := by decide +kernel
theorem dX0_uOf_0 : decode cX0_uOf 0 = .ok (.iload_n 1, 1) := by decide +kernel
theorem dX0_uOf_1 : decode cX0_uOf 1 = .ok (.aload_n 0, 1) := by decide +kernel
theorem dX0_uOf_2 : decode cX0_uOf 2 = .ok (.getfield 19, 3) := by decide +kernel
theorem dX0_uOf_5 : decode cX0_uOf 5 = .ok (.getfield 53, 3) := by decide +kernel
theorem dX0_uOf_8 : decode cX0_uOf 8 = .ok (.idiv, 1) := by decide +kernel
theorem dX0_uOf_9 : decode cX0_uOf 9 = .ok (.aload_n 0, 1) := by decide +kernel
theorem dX0_uOf_10 : decode cX0_uOf 10 = .ok (.getfield 19, 3) := by decide +kernel
theorem dX0_uOf_13 : decode cX0_uOf 13 = .ok (.getfield 53, 3) := by decide +kernel
theorem dX0_uOf_16 : decode cX0_uOf 16 = .ok (.idiv, 1) := by decide +kernel
theorem dX0_uOf_17 : decode cX0_uOf 17 = .ok (.ireturn, 1) := by decide +kernel
theorem dX0_vOf_0 : decode cX0_vOf 0 = .ok (.iload_n 1, 1) := by decide +kernel
theorem dX0_vOf_1 : decode cX0_vOf 1 = .ok (.aload_n 0, 1) := by decide +kernel
theorem dX0_vOf_2 : decode cX0_vOf 2 = .ok (.getfield 19, 3) := by decide +kernel
theorem dX0_vOf_5 : decode cX0_vOf 5 = .ok (.getfield 53, 3) := by decide +kernel
theorem dX0_vOf_8 : decode cX0_vOf 8 = .ok (.aload_n 0, 1) := by decide +kernel
theorem dX0_vOf_9 : decode cX0_vOf 9 = .ok (.getfield 19, 3) := by decide +kernel
theorem dX0_vOf_12 : decode cX0_vOf 12 = .ok (.getfield 53, 3) := by decide +kernel
theorem dX0_vOf_15 : decode cX0_vOf 15 = .ok (.imul, 1) := by decide +kernel
theorem dX0_vOf_16 : decode cX0_vOf 16 = .ok (.irem, 1) := by decide +kernel
theorem dX0_vOf_17 : decode cX0_vOf 17 = .ok (.ireturn, 1) := by decide +kernel
theorem dX0_placeOf_0 : decode cX0_placeOf 0 = .ok (.iconst 0, 1) := by decide +kernel
theorem dX0_placeOf_1 : decode cX0_placeOf 1 = .ok (.istore_n 2, 1) := by decide +kernel
theorem dX0_placeOf_2 : decode cX0_placeOf 2 = .ok (.iload_n 2, 1) := by decide +kernel
theorem dX0_placeOf_3 : decode cX0_placeOf 3 = .ok (.aload_n 0, 1) := by decide +kernel
theorem dX0_placeOf_4 : decode cX0_placeOf 4 = .ok (.getfield 26, 3) := by decide +kernel
theorem dX0_placeOf_7 : decode cX0_placeOf 7 = .ok (.if_icmp .ge 23, 3) := by decide +kernel
theorem dX0_placeOf_10 : decode cX0_placeOf 10 = .ok (.aload_n 0, 1) := by decide +kernel
theorem dX0_placeOf_11 : decode cX0_placeOf 11 = .ok (.getfield 9, 3) := by decide +kernel
theorem dX0_placeOf_14 : decode cX0_placeOf 14 = .ok (.iload_n 2, 1) := by decide +kernel
theorem dX0_placeOf_15 : decode cX0_placeOf 15 = .ok (.invokestatic 49, 3) := by decide +kernel
theorem dX0_placeOf_18 : decode cX0_placeOf 18 = .ok (.iload_n 1, 1) := by decide +kernel
theorem dX0_placeOf_19 : decode cX0_placeOf 19 = .ok (.if_icmp .ne 5, 3) := by decide +kernel
theorem dX0_placeOf_22 : decode cX0_placeOf 22 = .ok (.iload_n 2, 1) := by decide +kernel
theorem dX0_placeOf_23 : decode cX0_placeOf 23 = .ok (.ireturn, 1) := by decide +kernel
theorem dX0_placeOf_24 : decode cX0_placeOf 24 = .ok (.iinc 2 1, 3) := by decide +kernel
theorem dX0_placeOf_27 : decode cX0_placeOf 27 = .ok (.goto (-25), 3) := by decide +kernel
theorem dX0_placeOf_30 : decode cX0_placeOf 30 = .ok (.bipush (-9), 2) := by decide +kernel
theorem dX0_placeOf_32 : decode cX0_placeOf 32 = .ok (.ireturn, 1) := by decide +kernel
theorem dX0_oppositeOf_0 : decode cX0_oppositeOf 0 = .ok (.aload_n 0, 1) := by decide +kernel
theorem dX0_oppositeOf_1 : decode cX0_oppositeOf 1 = .ok (.aload_n 0, 1) := by decide +kernel
theorem dX0_oppositeOf_2 : decode cX0_oppositeOf 2 = .ok (.iload_n 1, 1) := by decide +kernel
theorem dX0_oppositeOf_3 : decode cX0_oppositeOf 3 = .ok (.invokevirtual 56, 3) := by decide +kernel
theorem dX0_oppositeOf_6 : decode cX0_oppositeOf 6 = .ok (.aload_n 0, 1) := by decide +kernel
theorem dX0_oppositeOf_7 : decode cX0_oppositeOf 7 = .ok (.getfield 19, 3) := by decide +kernel
theorem dX0_oppositeOf_10 : decode cX0_oppositeOf 10 = .ok (.iconst 0, 1) := by decide +kernel
theorem dX0_oppositeOf_11 : decode cX0_oppositeOf 11 = .ok (.aload_n 0, 1) := by decide +kernel
theorem dX0_oppositeOf_12 : decode cX0_oppositeOf 12 = .ok (.iload_n 1, 1) := by decide +kernel
theorem dX0_oppositeOf_13 : decode cX0_oppositeOf 13 = .ok (.invokevirtual 59, 3) := by decide +kernel
theorem dX0_oppositeOf_16 : decode cX0_oppositeOf 16 = .ok (.invokevirtual 62, 3) := by decide +kernel
theorem dX0_oppositeOf_19 : decode cX0_oppositeOf 19 = .ok (.invokevirtual 65, 3) := by decide +kernel
theorem dX0_oppositeOf_22 : decode cX0_oppositeOf 22 = .ok (.ireturn, 1) := by decide +kernel
theorem dX0_orderOf_0 : decode cX0_orderOf 0 = .ok (.aload_n 0, 1) := by decide +kernel
theorem dX0_orderOf_1 : decode cX0_orderOf 1 = .ok (.invokevirtual 45, 3) := by decide +kernel
theorem dX0_orderOf_4 : decode cX0_orderOf 4 = .ok (.istore_n 2, 1) := by decide +kernel
theorem dX0_orderOf_5 : decode cX0_orderOf 5 = .ok (.iload_n 2, 1) := by decide +kernel
theorem dX0_orderOf_6 : decode cX0_orderOf 6 = .ok (.istore_n 3, 1) := by decide +kernel
theorem dX0_orderOf_7 : decode cX0_orderOf 7 = .ok (.iconst 2, 1) := by decide +kernel
theorem dX0_orderOf_8 : decode cX0_orderOf 8 = .ok (.istore 4, 2) := by decide +kernel
theorem dX0_orderOf_10 : decode cX0_orderOf 10 = .ok (.iload 4, 2) := by decide +kernel
theorem dX0_orderOf_12 : decode cX0_orderOf 12 = .ok (.iload_n 3, 1) := by decide +kernel
theorem dX0_orderOf_13 : decode cX0_orderOf 13 = .ok (.if_icmp .gt 52, 3) := by decide +kernel
theorem dX0_orderOf_16 : decode cX0_orderOf 16 = .ok (.iload_n 3, 1) := by decide +kernel
theorem dX0_orderOf_17 : decode cX0_orderOf 17 = .ok (.iconst 1, 1) := by decide +kernel
theorem dX0_orderOf_18 : decode cX0_orderOf 18 = .ok (.if_icmp .le 41, 3) := by decide +kernel
theorem dX0_orderOf_21 : decode cX0_orderOf 21 = .ok (.iload_n 3, 1) := by decide +kernel
theorem dX0_orderOf_22 : decode cX0_orderOf 22 = .ok (.iload 4, 2) := by decide +kernel
theorem dX0_orderOf_24 : decode cX0_orderOf 24 = .ok (.irem, 1) := by decide +kernel
theorem dX0_orderOf_25 : decode cX0_orderOf 25 = .ok (.ifCond .ne 34, 3) := by decide +kernel
theorem dX0_orderOf_28 : decode cX0_orderOf 28 = .ok (.iload_n 3, 1) := by decide +kernel
theorem dX0_orderOf_29 : decode cX0_orderOf 29 = .ok (.iload 4, 2) := by decide +kernel
theorem dX0_orderOf_31 : decode cX0_orderOf 31 = .ok (.idiv, 1) := by decide +kernel
theorem dX0_orderOf_32 : decode cX0_orderOf 32 = .ok (.istore_n 3, 1) := by decide +kernel
theorem dX0_orderOf_33 : decode cX0_orderOf 33 = .ok (.aload_n 0, 1) := by decide +kernel
theorem dX0_orderOf_34 : decode cX0_orderOf 34 = .ok (.iload_n 1, 1) := by decide +kernel
theorem dX0_orderOf_35 : decode cX0_orderOf 35 = .ok (.iload_n 2, 1) := by decide +kernel
theorem dX0_orderOf_36 : decode cX0_orderOf 36 = .ok (.iload 4, 2) := by decide +kernel
theorem dX0_orderOf_38 : decode cX0_orderOf 38 = .ok (.idiv, 1) := by decide +kernel
theorem dX0_orderOf_39 : decode cX0_orderOf 39 = .ok (.invokevirtual 68, 3) := by decide +kernel
theorem dX0_orderOf_42 : decode cX0_orderOf 42 = .ok (.aload_n 0, 1) := by decide +kernel
theorem dX0_orderOf_43 : decode cX0_orderOf 43 = .ok (.iconst 1, 1) := by decide +kernel
theorem dX0_orderOf_44 : decode cX0_orderOf 44 = .ok (.iconst 0, 1) := by decide +kernel
theorem dX0_orderOf_45 : decode cX0_orderOf 45 = .ok (.invokevirtual 65, 3) := by decide +kernel
theorem dX0_orderOf_48 : decode cX0_orderOf 48 = .ok (.if_icmp .ne (-32), 3) := by decide +kernel
theorem dX0_orderOf_51 : decode cX0_orderOf 51 = .ok (.iload_n 2, 1) := by decide +kernel
theorem dX0_orderOf_52 : decode cX0_orderOf 52 = .ok (.iload 4, 2) := by decide +kernel
theorem dX0_orderOf_54 : decode cX0_orderOf 54 = .ok (.idiv, 1) := by decide +kernel
theorem dX0_orderOf_55 : decode cX0_orderOf 55 = .ok (.istore_n 2, 1) := by decide +kernel
theorem dX0_orderOf_56 : decode cX0_orderOf 56 = .ok (.goto (-40), 3) := by decide +kernel
theorem dX0_orderOf_59 : decode cX0_orderOf 59 = .ok (.iinc 4 1, 3) := by decide +kernel
theorem dX0_orderOf_62 : decode cX0_orderOf 62 = .ok (.goto (-52), 3) := by decide +kernel
theorem dX0_orderOf_65 : decode cX0_orderOf 65 = .ok (.iload_n 2, 1) := by decide +kernel
theorem dX0_orderOf_66 : decode cX0_orderOf 66 = .ok (.ireturn, 1) := by decide +kernel
theorem dX0_multipleOf_0 : decode cX0_multipleOf 0 = .ok (.aload_n 0, 1) := by decide +kernel
theorem dX0_multipleOf_1 : decode cX0_multipleOf 1 = .ok (.iconst 1, 1) := by decide +kernel
theorem dX0_multipleOf_2 : decode cX0_multipleOf 2 = .ok (.iconst 0, 1) := by decide +kernel
theorem dX0_multipleOf_3 : decode cX0_multipleOf 3 = .ok (.invokevirtual 65, 3) := by decide +kernel
theorem dX0_multipleOf_6 : decode cX0_multipleOf 6 = .ok (.istore_n 3, 1) := by decide +kernel
theorem dX0_multipleOf_7 : decode cX0_multipleOf 7 = .ok (.iload_n 1, 1) := by decide +kernel
theorem dX0_multipleOf_8 : decode cX0_multipleOf 8 = .ok (.istore 4, 2) := by decide +kernel
theorem dX0_multipleOf_10 : decode cX0_multipleOf 10 = .ok (.iload_n 2, 1) := by decide +kernel
theorem dX0_multipleOf_11 : decode cX0_multipleOf 11 = .ok (.istore 5, 2) := by decide +kernel
theorem dX0_multipleOf_13 : decode cX0_multipleOf 13 = .ok (.iload 5, 2) := by decide +kernel
theorem dX0_multipleOf_15 : decode cX0_multipleOf 15 = .ok (.ifCond .le 38, 3) := by decide +kernel
theorem dX0_multipleOf_18 : decode cX0_multipleOf 18 = .ok (.iload 5, 2) := by decide +kernel
theorem dX0_multipleOf_20 : decode cX0_multipleOf 20 = .ok (.iconst 2, 1) := by decide +kernel
theorem dX0_multipleOf_21 : decode cX0_multipleOf 21 = .ok (.irem, 1) := by decide +kernel
theorem dX0_multipleOf_22 : decode cX0_multipleOf 22 = .ok (.iconst 1, 1) := by decide +kernel
theorem dX0_multipleOf_23 : decode cX0_multipleOf 23 = .ok (.if_icmp .ne 11, 3) := by decide +kernel
theorem dX0_multipleOf_26 : decode cX0_multipleOf 26 = .ok (.aload_n 0, 1) := by decide +kernel
theorem dX0_multipleOf_27 : decode cX0_multipleOf 27 = .ok (.iload_n 3, 1) := by decide +kernel
theorem dX0_multipleOf_28 : decode cX0_multipleOf 28 = .ok (.iload 4, 2) := by decide +kernel
theorem dX0_multipleOf_30 : decode cX0_multipleOf 30 = .ok (.invokevirtual 71, 3) := by decide +kernel
theorem dX0_multipleOf_33 : decode cX0_multipleOf 33 = .ok (.istore_n 3, 1) := by decide +kernel
theorem dX0_multipleOf_34 : decode cX0_multipleOf 34 = .ok (.aload_n 0, 1) := by decide +kernel
theorem dX0_multipleOf_35 : decode cX0_multipleOf 35 = .ok (.iload 4, 2) := by decide +kernel
theorem dX0_multipleOf_37 : decode cX0_multipleOf 37 = .ok (.iload 4, 2) := by decide +kernel
theorem dX0_multipleOf_39 : decode cX0_multipleOf 39 = .ok (.invokevirtual 71, 3) := by decide +kernel
theorem dX0_multipleOf_42 : decode cX0_multipleOf 42 = .ok (.istore 4, 2) := by decide +kernel
theorem dX0_multipleOf_44 : decode cX0_multipleOf 44 = .ok (.iload 5, 2) := by decide +kernel
theorem dX0_multipleOf_46 : decode cX0_multipleOf 46 = .ok (.iconst 2, 1) := by decide +kernel
theorem dX0_multipleOf_47 : decode cX0_multipleOf 47 = .ok (.idiv, 1) := by decide +kernel
theorem dX0_multipleOf_48 : decode cX0_multipleOf 48 = .ok (.istore 5, 2) := by decide +kernel
theorem dX0_multipleOf_50 : decode cX0_multipleOf 50 = .ok (.goto (-37), 3) := by decide +kernel
theorem dX0_multipleOf_53 : decode cX0_multipleOf 53 = .ok (.iload_n 3, 1) := by decide +kernel
theorem dX0_multipleOf_54 : decode cX0_multipleOf 54 = .ok (.ireturn, 1) := by decide +kernel
theorem dX0_sumOf_0 : decode cX0_sumOf 0 = .ok (.aload_n 0, 1) := by decide +kernel
theorem dX0_sumOf_1 : decode cX0_sumOf 1 = .ok (.iload_n 1, 1) := by decide +kernel
theorem dX0_sumOf_2 : decode cX0_sumOf 2 = .ok (.invokevirtual 56, 3) := by decide +kernel
theorem dX0_sumOf_5 : decode cX0_sumOf 5 = .ok (.istore_n 3, 1) := by decide +kernel
theorem dX0_sumOf_6 : decode cX0_sumOf 6 = .ok (.aload_n 0, 1) := by decide +kernel
theorem dX0_sumOf_7 : decode cX0_sumOf 7 = .ok (.iload_n 1, 1) := by decide +kernel
theorem dX0_sumOf_8 : decode cX0_sumOf 8 = .ok (.invokevirtual 59, 3) := by decide +kernel
theorem dX0_sumOf_11 : decode cX0_sumOf 11 = .ok (.istore 4, 2) := by decide +kernel
theorem dX0_sumOf_13 : decode cX0_sumOf 13 = .ok (.aload_n 0, 1) := by decide +kernel
theorem dX0_sumOf_14 : decode cX0_sumOf 14 = .ok (.iload_n 2, 1) := by decide +kernel
theorem dX0_sumOf_15 : decode cX0_sumOf 15 = .ok (.invokevirtual 56, 3) := by decide +kernel
theorem dX0_sumOf_18 : decode cX0_sumOf 18 = .ok (.istore 5, 2) := by decide +kernel
theorem dX0_sumOf_20 : decode cX0_sumOf 20 = .ok (.aload_n 0, 1) := by decide +kernel
theorem dX0_sumOf_21 : decode cX0_sumOf 21 = .ok (.iload_n 2, 1) := by decide +kernel
theorem dX0_sumOf_22 : decode cX0_sumOf 22 = .ok (.invokevirtual 59, 3) := by decide +kernel
theorem dX0_sumOf_25 : decode cX0_sumOf 25 = .ok (.istore 6, 2) := by decide +kernel
theorem dX0_sumOf_27 : decode cX0_sumOf 27 = .ok (.aload_n 0, 1) := by decide +kernel
theorem dX0_sumOf_28 : decode cX0_sumOf 28 = .ok (.getfield 19, 3) := by decide +kernel
theorem dX0_sumOf_31 : decode cX0_sumOf 31 = .ok (.iload_n 3, 1) := by decide +kernel
theorem dX0_sumOf_32 : decode cX0_sumOf 32 = .ok (.iload 5, 2) := by decide +kernel
theorem dX0_sumOf_34 : decode cX0_sumOf 34 = .ok (.invokevirtual 74, 3) := by decide +kernel
theorem dX0_sumOf_37 : decode cX0_sumOf 37 = .ok (.istore 7, 2) := by decide +kernel
theorem dX0_sumOf_39 : decode cX0_sumOf 39 = .ok (.aload_n 0, 1) := by decide +kernel
theorem dX0_sumOf_40 : decode cX0_sumOf 40 = .ok (.getfield 19, 3) := by decide +kernel
theorem dX0_sumOf_43 : decode cX0_sumOf 43 = .ok (.iload_n 3, 1) := by decide +kernel
theorem dX0_sumOf_44 : decode cX0_sumOf 44 = .ok (.iload 5, 2) := by decide +kernel
theorem dX0_sumOf_46 : decode cX0_sumOf 46 = .ok (.invokevirtual 77, 3) := by decide +kernel
theorem dX0_sumOf_49 : decode cX0_sumOf 49 = .ok (.istore 8, 2) := by decide +kernel
theorem dX0_sumOf_51 : decode cX0_sumOf 51 = .ok (.aload_n 0, 1) := by decide +kernel
theorem dX0_sumOf_52 : decode cX0_sumOf 52 = .ok (.getfield 19, 3) := by decide +kernel
theorem dX0_sumOf_55 : decode cX0_sumOf 55 = .ok (.aload_n 0, 1) := by decide +kernel
theorem dX0_sumOf_56 : decode cX0_sumOf 56 = .ok (.getfield 19, 3) := by decide +kernel
theorem dX0_sumOf_59 : decode cX0_sumOf 59 = .ok (.iload 7, 2) := by decide +kernel
theorem dX0_sumOf_61 : decode cX0_sumOf 61 = .ok (.aload_n 0, 1) := by decide +kernel
theorem dX0_sumOf_62 : decode cX0_sumOf 62 = .ok (.getfield 19, 3) := by decide +kernel
theorem dX0_sumOf_65 : decode cX0_sumOf 65 = .ok (.iload 8, 2) := by decide +kernel
theorem dX0_sumOf_67 : decode cX0_sumOf 67 = .ok (.iload_n 3, 1) := by decide +kernel
theorem dX0_sumOf_68 : decode cX0_sumOf 68 = .ok (.invokevirtual 80, 3) := by decide +kernel
theorem dX0_sumOf_71 : decode cX0_sumOf 71 = .ok (.invokevirtual 62, 3) := by decide +kernel
theorem dX0_sumOf_74 : decode cX0_sumOf 74 = .ok (.iload 5, 2) := by decide +kernel
theorem dX0_sumOf_76 : decode cX0_sumOf 76 = .ok (.invokevirtual 83, 3) := by decide +kernel
theorem dX0_sumOf_79 : decode cX0_sumOf 79 = .ok (.istore 9, 2) := by decide +kernel
theorem dX0_sumOf_81 : decode cX0_sumOf 81 = .ok (.aload_n 0, 1) := by decide +kernel
theorem dX0_sumOf_82 : decode cX0_sumOf 82 = .ok (.getfield 19, 3) := by decide +kernel
theorem dX0_sumOf_85 : decode cX0_sumOf 85 = .ok (.iload 4, 2) := by decide +kernel
theorem dX0_sumOf_87 : decode cX0_sumOf 87 = .ok (.iload 6, 2) := by decide +kernel
theorem dX0_sumOf_89 : decode cX0_sumOf 89 = .ok (.invokevirtual 86, 3) := by decide +kernel
theorem dX0_sumOf_92 : decode cX0_sumOf 92 = .ok (.istore 10, 2) := by decide +kernel
theorem dX0_sumOf_94 : decode cX0_sumOf 94 = .ok (.aload_n 0, 1) := by decide +kernel
theorem dX0_sumOf_95 : decode cX0_sumOf 95 = .ok (.getfield 19, 3) := by decide +kernel
theorem dX0_sumOf_98 : decode cX0_sumOf 98 = .ok (.iload 7, 2) := by decide +kernel
theorem dX0_sumOf_100 : decode cX0_sumOf 100 = .ok (.iload 10, 2) := by decide +kernel
theorem dX0_sumOf_102 : decode cX0_sumOf 102 = .ok (.invokevirtual 74, 3) := by decide +kernel
theorem dX0_sumOf_105 : decode cX0_sumOf 105 = .ok (.istore 11, 2) := by decide +kernel
theorem dX0_sumOf_107 : decode cX0_sumOf 107 = .ok (.aload_n 0, 1) := by decide +kernel
theorem dX0_sumOf_108 : decode cX0_sumOf 108 = .ok (.getfield 19, 3) := by decide +kernel
theorem dX0_sumOf_111 : decode cX0_sumOf 111 = .ok (.iload 7, 2) := by decide +kernel
theorem dX0_sumOf_113 : decode cX0_sumOf 113 = .ok (.iload 10, 2) := by decide +kernel
theorem dX0_sumOf_115 : decode cX0_sumOf 115 = .ok (.invokevirtual 77, 3) := by decide +kernel
theorem dX0_sumOf_118 : decode cX0_sumOf 118 = .ok (.istore 12, 2) := by decide +kernel
theorem dX0_sumOf_120 : decode cX0_sumOf 120 = .ok (.aload_n 0, 1) := by decide +kernel
theorem dX0_sumOf_121 : decode cX0_sumOf 121 = .ok (.getfield 19, 3) := by decide +kernel
theorem dX0_sumOf_124 : decode cX0_sumOf 124 = .ok (.aload_n 0, 1) := by decide +kernel
theorem dX0_sumOf_125 : decode cX0_sumOf 125 = .ok (.getfield 19, 3) := by decide +kernel
theorem dX0_sumOf_128 : decode cX0_sumOf 128 = .ok (.iload 11, 2) := by decide +kernel
theorem dX0_sumOf_130 : decode cX0_sumOf 130 = .ok (.aload_n 0, 1) := by decide +kernel
theorem dX0_sumOf_131 : decode cX0_sumOf 131 = .ok (.getfield 19, 3) := by decide +kernel
theorem dX0_sumOf_134 : decode cX0_sumOf 134 = .ok (.iload 12, 2) := by decide +kernel
theorem dX0_sumOf_136 : decode cX0_sumOf 136 = .ok (.iload 7, 2) := by decide +kernel
theorem dX0_sumOf_138 : decode cX0_sumOf 138 = .ok (.invokevirtual 80, 3) := by decide +kernel
theorem dX0_sumOf_141 : decode cX0_sumOf 141 = .ok (.invokevirtual 62, 3) := by decide +kernel
theorem dX0_sumOf_144 : decode cX0_sumOf 144 = .ok (.iload 10, 2) := by decide +kernel
theorem dX0_sumOf_146 : decode cX0_sumOf 146 = .ok (.invokevirtual 83, 3) := by decide +kernel
theorem dX0_sumOf_149 : decode cX0_sumOf 149 = .ok (.istore 13, 2) := by decide +kernel
theorem dX0_sumOf_151 : decode cX0_sumOf 151 = .ok (.aload_n 0, 1) := by decide +kernel
theorem dX0_sumOf_152 : decode cX0_sumOf 152 = .ok (.getfield 19, 3) := by decide +kernel
theorem dX0_sumOf_155 : decode cX0_sumOf 155 = .ok (.aload_n 0, 1) := by decide +kernel
theorem dX0_sumOf_156 : decode cX0_sumOf 156 = .ok (.getfield 19, 3) := by decide +kernel
theorem dX0_sumOf_159 : decode cX0_sumOf 159 = .ok (.aload_n 0, 1) := by decide +kernel
theorem dX0_sumOf_160 : decode cX0_sumOf 160 = .ok (.getfield 19, 3) := by decide +kernel
theorem dX0_sumOf_163 : decode cX0_sumOf 163 = .ok (.iload 8, 2) := by decide +kernel
theorem dX0_sumOf_165 : decode cX0_sumOf 165 = .ok (.iload_n 3, 1) := by decide +kernel
theorem dX0_sumOf_166 : decode cX0_sumOf 166 = .ok (.invokevirtual 80, 3) := by decide +kernel
theorem dX0_sumOf_169 : decode cX0_sumOf 169 = .ok (.iload 6, 2) := by decide +kernel
theorem dX0_sumOf_171 : decode cX0_sumOf 171 = .ok (.invokevirtual 80, 3) := by decide +kernel
theorem dX0_sumOf_174 : decode cX0_sumOf 174 = .ok (.aload_n 0, 1) := by decide +kernel
theorem dX0_sumOf_175 : decode cX0_sumOf 175 = .ok (.getfield 19, 3) := by decide +kernel
theorem dX0_sumOf_178 : decode cX0_sumOf 178 = .ok (.aload_n 0, 1) := by decide +kernel
theorem dX0_sumOf_179 : decode cX0_sumOf 179 = .ok (.getfield 19, 3) := by decide +kernel
theorem dX0_sumOf_182 : decode cX0_sumOf 182 = .ok (.iload 9, 2) := by decide +kernel
theorem dX0_sumOf_184 : decode cX0_sumOf 184 = .ok (.iload 5, 2) := by decide +kernel
theorem dX0_sumOf_186 : decode cX0_sumOf 186 = .ok (.invokevirtual 80, 3) := by decide +kernel
theorem dX0_sumOf_189 : decode cX0_sumOf 189 = .ok (.iload 4, 2) := by decide +kernel
theorem dX0_sumOf_191 : decode cX0_sumOf 191 = .ok (.invokevirtual 80, 3) := by decide +kernel
theorem dX0_sumOf_194 : decode cX0_sumOf 194 = .ok (.invokevirtual 86, 3) := by decide +kernel
theorem dX0_sumOf_197 : decode cX0_sumOf 197 = .ok (.istore 14, 2) := by decide +kernel
theorem dX0_sumOf_199 : decode cX0_sumOf 199 = .ok (.aload_n 0, 1) := by decide +kernel
theorem dX0_sumOf_200 : decode cX0_sumOf 200 = .ok (.getfield 19, 3) := by decide +kernel
theorem dX0_sumOf_203 : decode cX0_sumOf 203 = .ok (.aload_n 0, 1) := by decide +kernel
theorem dX0_sumOf_204 : decode cX0_sumOf 204 = .ok (.getfield 19, 3) := by decide +kernel
theorem dX0_sumOf_207 : decode cX0_sumOf 207 = .ok (.iload 4, 2) := by decide +kernel
theorem dX0_sumOf_209 : decode cX0_sumOf 209 = .ok (.iload 6, 2) := by decide +kernel
theorem dX0_sumOf_211 : decode cX0_sumOf 211 = .ok (.invokevirtual 80, 3) := by decide +kernel
theorem dX0_sumOf_214 : decode cX0_sumOf 214 = .ok (.aload_n 0, 1) := by decide +kernel
theorem dX0_sumOf_215 : decode cX0_sumOf 215 = .ok (.getfield 23, 3) := by decide +kernel
theorem dX0_sumOf_218 : decode cX0_sumOf 218 = .ok (.invokevirtual 86, 3) := by decide +kernel
theorem dX0_sumOf_221 : decode cX0_sumOf 221 = .ok (.istore 15, 2) := by decide +kernel
theorem dX0_sumOf_223 : decode cX0_sumOf 223 = .ok (.aload_n 0, 1) := by decide +kernel
theorem dX0_sumOf_224 : decode cX0_sumOf 224 = .ok (.getfield 19, 3) := by decide +kernel
theorem dX0_sumOf_227 : decode cX0_sumOf 227 = .ok (.aload_n 0, 1) := by decide +kernel
theorem dX0_sumOf_228 : decode cX0_sumOf 228 = .ok (.getfield 19, 3) := by decide +kernel
theorem dX0_sumOf_231 : decode cX0_sumOf 231 = .ok (.iload 12, 2) := by decide +kernel
theorem dX0_sumOf_233 : decode cX0_sumOf 233 = .ok (.iload 14, 2) := by decide +kernel
theorem dX0_sumOf_235 : decode cX0_sumOf 235 = .ok (.invokevirtual 80, 3) := by decide +kernel
theorem dX0_sumOf_238 : decode cX0_sumOf 238 = .ok (.aload_n 0, 1) := by decide +kernel
theorem dX0_sumOf_239 : decode cX0_sumOf 239 = .ok (.getfield 19, 3) := by decide +kernel
theorem dX0_sumOf_242 : decode cX0_sumOf 242 = .ok (.iload 13, 2) := by decide +kernel
theorem dX0_sumOf_244 : decode cX0_sumOf 244 = .ok (.iload 15, 2) := by decide +kernel
theorem dX0_sumOf_246 : decode cX0_sumOf 246 = .ok (.invokevirtual 80, 3) := by decide +kernel
theorem dX0_sumOf_249 : decode cX0_sumOf 249 = .ok (.invokevirtual 86, 3) := by decide +kernel
theorem dX0_sumOf_252 : decode cX0_sumOf 252 = .ok (.istore 16, 2) := by decide +kernel
theorem dX0_sumOf_254 : decode cX0_sumOf 254 = .ok (.aload_n 0, 1) := by decide +kernel
theorem dX0_sumOf_255 : decode cX0_sumOf 255 = .ok (.getfield 19, 3) := by decide +kernel
theorem dX0_sumOf_258 : decode cX0_sumOf 258 = .ok (.aload_n 0, 1) := by decide +kernel
theorem dX0_sumOf_259 : decode cX0_sumOf 259 = .ok (.getfield 19, 3) := by decide +kernel
theorem dX0_sumOf_262 : decode cX0_sumOf 262 = .ok (.iload_n 3, 1) := by decide +kernel
theorem dX0_sumOf_263 : decode cX0_sumOf 263 = .ok (.iload 5, 2) := by decide +kernel
theorem dX0_sumOf_265 : decode cX0_sumOf 265 = .ok (.invokevirtual 80, 3) := by decide +kernel
theorem dX0_sumOf_268 : decode cX0_sumOf 268 = .ok (.aload_n 0, 1) := by decide +kernel
theorem dX0_sumOf_269 : decode cX0_sumOf 269 = .ok (.getfield 19, 3) := by decide +kernel
theorem dX0_sumOf_272 : decode cX0_sumOf 272 = .ok (.iload 11, 2) := by decide +kernel
theorem dX0_sumOf_274 : decode cX0_sumOf 274 = .ok (.iload 11, 2) := by decide +kernel
theorem dX0_sumOf_276 : decode cX0_sumOf 276 = .ok (.invokevirtual 80, 3) := by decide +kernel
theorem dX0_sumOf_279 : decode cX0_sumOf 279 = .ok (.invokevirtual 83, 3) := by decide +kernel
theorem dX0_sumOf_282 : decode cX0_sumOf 282 = .ok (.istore 17, 2) := by decide +kernel
theorem dX0_sumOf_284 : decode cX0_sumOf 284 = .ok (.aload_n 0, 1) := by decide +kernel
theorem dX0_sumOf_285 : decode cX0_sumOf 285 = .ok (.iload 17, 2) := by decide +kernel
theorem dX0_sumOf_287 : decode cX0_sumOf 287 = .ok (.aload_n 0, 1) := by decide +kernel
theorem dX0_sumOf_288 : decode cX0_sumOf 288 = .ok (.getfield 19, 3) := by decide +kernel
theorem dX0_sumOf_291 : decode cX0_sumOf 291 = .ok (.aload_n 0, 1) := by decide +kernel
theorem dX0_sumOf_292 : decode cX0_sumOf 292 = .ok (.getfield 19, 3) := by decide +kernel
theorem dX0_sumOf_295 : decode cX0_sumOf 295 = .ok (.iload 16, 2) := by decide +kernel
theorem dX0_sumOf_297 : decode cX0_sumOf 297 = .ok (.iload 11, 2) := by decide +kernel
theorem dX0_sumOf_299 : decode cX0_sumOf 299 = .ok (.invokevirtual 83, 3) := by decide +kernel
theorem dX0_sumOf_302 : decode cX0_sumOf 302 = .ok (.iload 17, 2) := by decide +kernel
theorem dX0_sumOf_304 : decode cX0_sumOf 304 = .ok (.invokevirtual 39, 3) := by decide +kernel
theorem dX0_sumOf_307 : decode cX0_sumOf 307 = .ok (.invokevirtual 89, 3) := by decide +kernel
theorem dX0_sumOf_310 : decode cX0_sumOf 310 = .ok (.ireturn, 1) := by decide +kernel
theorem dX0_reduced_0 : decode cX0_reduced 0 = .ok (.iload_n 1, 1) := by decide +kernel
theorem dX0_reduced_1 : decode cX0_reduced 1 = .ok (.istore_n 3, 1) := by decide +kernel
theorem dX0_reduced_2 : decode cX0_reduced 2 = .ok (.iload_n 2, 1) := by decide +kernel
theorem dX0_reduced_3 : decode cX0_reduced 3 = .ok (.istore 4, 2) := by decide +kernel
theorem dX0_reduced_5 : decode cX0_reduced 5 = .ok (.iconst 0, 1) := by decide +kernel
theorem dX0_reduced_6 : decode cX0_reduced 6 = .ok (.istore 5, 2) := by decide +kernel
theorem dX0_reduced_8 : decode cX0_reduced 8 = .ok (.iload 5, 2) := by decide +kernel
theorem dX0_reduced_10 : decode cX0_reduced 10 = .ok (.bipush 20, 2) := by decide +kernel
theorem dX0_reduced_12 : decode cX0_reduced 12 = .ok (.if_icmp .ge 82, 3) := by decide +kernel
theorem dX0_reduced_15 : decode cX0_reduced 15 = .ok (.aload_n 0, 1) := by decide +kernel
theorem dX0_reduced_16 : decode cX0_reduced 16 = .ok (.getfield 19, 3) := by decide +kernel
theorem dX0_reduced_19 : decode cX0_reduced 19 = .ok (.iload_n 3, 1) := by decide +kernel
theorem dX0_reduced_20 : decode cX0_reduced 20 = .ok (.invokevirtual 92, 3) := by decide +kernel
theorem dX0_reduced_23 : decode cX0_reduced 23 = .ok (.aload_n 0, 1) := by decide +kernel
theorem dX0_reduced_24 : decode cX0_reduced 24 = .ok (.getfield 15, 3) := by decide +kernel
theorem dX0_reduced_27 : decode cX0_reduced 27 = .ok (.if_icmp .le 67, 3) := by decide +kernel
theorem dX0_reduced_30 : decode cX0_reduced 30 = .ok (.aload_n 0, 1) := by decide +kernel
theorem dX0_reduced_31 : decode cX0_reduced 31 = .ok (.getfield 19, 3) := by decide +kernel
theorem dX0_reduced_34 : decode cX0_reduced 34 = .ok (.aload_n 0, 1) := by decide +kernel
theorem dX0_reduced_35 : decode cX0_reduced 35 = .ok (.getfield 19, 3) := by decide +kernel
theorem dX0_reduced_38 : decode cX0_reduced 38 = .ok (.aload_n 0, 1) := by decide +kernel
theorem dX0_reduced_39 : decode cX0_reduced 39 = .ok (.getfield 19, 3) := by decide +kernel
theorem dX0_reduced_42 : decode cX0_reduced 42 = .ok (.aload_n 0, 1) := by decide +kernel
theorem dX0_reduced_43 : decode cX0_reduced 43 = .ok (.getfield 23, 3) := by decide +kernel
theorem dX0_reduced_46 : decode cX0_reduced 46 = .ok (.aload_n 0, 1) := by decide +kernel
theorem dX0_reduced_47 : decode cX0_reduced 47 = .ok (.getfield 19, 3) := by decide +kernel
theorem dX0_reduced_50 : decode cX0_reduced 50 = .ok (.iload 4, 2) := by decide +kernel
theorem dX0_reduced_52 : decode cX0_reduced 52 = .ok (.iload 4, 2) := by decide +kernel
theorem dX0_reduced_54 : decode cX0_reduced 54 = .ok (.invokevirtual 80, 3) := by decide +kernel
theorem dX0_reduced_57 : decode cX0_reduced 57 = .ok (.invokevirtual 62, 3) := by decide +kernel
theorem dX0_reduced_60 : decode cX0_reduced 60 = .ok (.iload_n 3, 1) := by decide +kernel
theorem dX0_reduced_61 : decode cX0_reduced 61 = .ok (.invokevirtual 83, 3) := by decide +kernel
theorem dX0_reduced_64 : decode cX0_reduced 64 = .ok (.invokevirtual 95, 3) := by decide +kernel
theorem dX0_reduced_67 : decode cX0_reduced 67 = .ok (.istore_n 3, 1) := by decide +kernel
theorem dX0_reduced_68 : decode cX0_reduced 68 = .ok (.aload_n 0, 1) := by decide +kernel
theorem dX0_reduced_69 : decode cX0_reduced 69 = .ok (.getfield 19, 3) := by decide +kernel
theorem dX0_reduced_72 : decode cX0_reduced 72 = .ok (.aload_n 0, 1) := by decide +kernel
theorem dX0_reduced_73 : decode cX0_reduced 73 = .ok (.getfield 19, 3) := by decide +kernel
theorem dX0_reduced_76 : decode cX0_reduced 76 = .ok (.iconst 0, 1) := by decide +kernel
theorem dX0_reduced_77 : decode cX0_reduced 77 = .ok (.iload 4, 2) := by decide +kernel
theorem dX0_reduced_79 : decode cX0_reduced 79 = .ok (.invokevirtual 62, 3) := by decide +kernel
theorem dX0_reduced_82 : decode cX0_reduced 82 = .ok (.iload_n 3, 1) := by decide +kernel
theorem dX0_reduced_83 : decode cX0_reduced 83 = .ok (.invokevirtual 39, 3) := by decide +kernel
theorem dX0_reduced_86 : decode cX0_reduced 86 = .ok (.istore 4, 2) := by decide +kernel
theorem dX0_reduced_88 : decode cX0_reduced 88 = .ok (.iinc 5 1, 3) := by decide +kernel
theorem dX0_reduced_91 : decode cX0_reduced 91 = .ok (.goto (-83), 3) := by decide +kernel
theorem dX0_reduced_94 : decode cX0_reduced 94 = .ok (.aload_n 0, 1) := by decide +kernel
theorem dX0_reduced_95 : decode cX0_reduced 95 = .ok (.iload_n 3, 1) := by decide +kernel
theorem dX0_reduced_96 : decode cX0_reduced 96 = .ok (.iload 4, 2) := by decide +kernel
theorem dX0_reduced_98 : decode cX0_reduced 98 = .ok (.invokevirtual 65, 3) := by decide +kernel
theorem dX0_reduced_101 : decode cX0_reduced 101 = .ok (.ireturn, 1) := by decide +kernel
theorem dX0_goThrough_0 : decode cX0_goThrough 0 = .ok (.iconst 0, 1) := by decide +kernel
theorem dX0_goThrough_1 : decode cX0_goThrough 1 = .ok (.istore_n 1, 1) := by decide +kernel
theorem dX0_goThrough_2 : decode cX0_goThrough 2 = .ok (.iload_n 1, 1) := by decide +kernel
theorem dX0_goThrough_3 : decode cX0_goThrough 3 = .ok (.aload_n 0, 1) := by decide +kernel
theorem dX0_goThrough_4 : decode cX0_goThrough 4 = .ok (.getfield 15, 3) := by decide +kernel
theorem dX0_goThrough_7 : decode cX0_goThrough 7 = .ok (.if_icmp .gt 39, 3) := by decide +kernel
theorem dX0_goThrough_10 : decode cX0_goThrough 10 = .ok (.aload_n 0, 1) := by decide +kernel
theorem dX0_goThrough_11 : decode cX0_goThrough 11 = .ok (.getfield 19, 3) := by decide +kernel
theorem dX0_goThrough_14 : decode cX0_goThrough 14 = .ok (.iload_n 1, 1) := by decide +kernel
theorem dX0_goThrough_15 : decode cX0_goThrough 15 = .ok (.invokevirtual 29, 3) := by decide +kernel
theorem dX0_goThrough_18 : decode cX0_goThrough 18 = .ok (.istore_n 2, 1) := by decide +kernel
theorem dX0_goThrough_19 : decode cX0_goThrough 19 = .ok (.iload_n 2, 1) := by decide +kernel
theorem dX0_goThrough_20 : decode cX0_goThrough 20 = .ok (.istore_n 3, 1) := by decide +kernel
theorem dX0_goThrough_21 : decode cX0_goThrough 21 = .ok (.iload_n 3, 1) := by decide +kernel
theorem dX0_goThrough_22 : decode cX0_goThrough 22 = .ok (.iconst 2, 1) := by decide +kernel
theorem dX0_goThrough_23 : decode cX0_goThrough 23 = .ok (.iload_n 2, 1) := by decide +kernel
theorem dX0_goThrough_24 : decode cX0_goThrough 24 = .ok (.imul, 1) := by decide +kernel
theorem dX0_goThrough_25 : decode cX0_goThrough 25 = .ok (.if_icmp .ge 15, 3) := by decide +kernel
theorem dX0_goThrough_28 : decode cX0_goThrough 28 = .ok (.aload_n 0, 1) := by decide +kernel
theorem dX0_goThrough_29 : decode cX0_goThrough 29 = .ok (.iload_n 3, 1) := by decide +kernel
theorem dX0_goThrough_30 : decode cX0_goThrough 30 = .ok (.iload_n 2, 1) := by decide +kernel
theorem dX0_goThrough_31 : decode cX0_goThrough 31 = .ok (.invokevirtual 98, 3) := by decide +kernel
theorem dX0_goThrough_34 : decode cX0_goThrough 34 = .ok (.iinc 3 1, 3) := by decide +kernel
theorem dX0_goThrough_37 : decode cX0_goThrough 37 = .ok (.goto (-16), 3) := by decide +kernel
theorem dX0_goThrough_40 : decode cX0_goThrough 40 = .ok (.iinc 1 1, 3) := by decide +kernel
theorem dX0_goThrough_43 : decode cX0_goThrough 43 = .ok (.goto (-41), 3) := by decide +kernel
theorem dX0_goThrough_46 : decode cX0_goThrough 46 = .ok (.return_, 1) := by decide +kernel
theorem dX0_listWith_0 : decode cX0_listWith 0 = .ok (.aload_n 0, 1) := by decide +kernel
theorem dX0_listWith_1 : decode cX0_listWith 1 = .ok (.getfield 19, 3) := by decide +kernel
theorem dX0_listWith_4 : decode cX0_listWith 4 = .ok (.aload_n 0, 1) := by decide +kernel
theorem dX0_listWith_5 : decode cX0_listWith 5 = .ok (.getfield 23, 3) := by decide +kernel
theorem dX0_listWith_8 : decode cX0_listWith 8 = .ok (.iload_n 1, 1) := by decide +kernel
theorem dX0_listWith_9 : decode cX0_listWith 9 = .ok (.invokevirtual 39, 3) := by decide +kernel
theorem dX0_listWith_12 : decode cX0_listWith 12 = .ok (.istore_n 3, 1) := by decide +kernel
theorem dX0_listWith_13 : decode cX0_listWith 13 = .ok (.iconst 0, 1) := by decide +kernel
theorem dX0_listWith_14 : decode cX0_listWith 14 = .ok (.istore 4, 2) := by decide +kernel
theorem dX0_listWith_16 : decode cX0_listWith 16 = .ok (.iload 4, 2) := by decide +kernel
theorem dX0_listWith_18 : decode cX0_listWith 18 = .ok (.iload_n 2, 1) := by decide +kernel
theorem dX0_listWith_19 : decode cX0_listWith 19 = .ok (.if_icmp .ge 61, 3) := by decide +kernel
theorem dX0_listWith_22 : decode cX0_listWith 22 = .ok (.aload_n 0, 1) := by decide +kernel
theorem dX0_listWith_23 : decode cX0_listWith 23 = .ok (.getfield 26, 3) := by decide +kernel
theorem dX0_listWith_26 : decode cX0_listWith 26 = .ok (.aload_n 0, 1) := by decide +kernel
theorem dX0_listWith_27 : decode cX0_listWith 27 = .ok (.getfield 9, 3) := by decide +kernel
theorem dX0_listWith_30 : decode cX0_listWith 30 = .ok (.arraylength, 1) := by decide +kernel
theorem dX0_listWith_31 : decode cX0_listWith 31 = .ok (.if_icmp .ge 49, 3) := by decide +kernel
theorem dX0_listWith_34 : decode cX0_listWith 34 = .ok (.aload_n 0, 1) := by decide +kernel
theorem dX0_listWith_35 : decode cX0_listWith 35 = .ok (.getfield 19, 3) := by decide +kernel
theorem dX0_listWith_38 : decode cX0_listWith 38 = .ok (.iload 4, 2) := by decide +kernel
theorem dX0_listWith_40 : decode cX0_listWith 40 = .ok (.iload_n 1, 1) := by decide +kernel
theorem dX0_listWith_41 : decode cX0_listWith 41 = .ok (.invokevirtual 35, 3) := by decide +kernel
theorem dX0_listWith_44 : decode cX0_listWith 44 = .ok (.iload_n 3, 1) := by decide +kernel
theorem dX0_listWith_45 : decode cX0_listWith 45 = .ok (.if_icmp .ne 29, 3) := by decide +kernel
theorem dX0_listWith_48 : decode cX0_listWith 48 = .ok (.aload_n 0, 1) := by decide +kernel
theorem dX0_listWith_49 : decode cX0_listWith 49 = .ok (.getfield 9, 3) := by decide +kernel
theorem dX0_listWith_52 : decode cX0_listWith 52 = .ok (.aload_n 0, 1) := by decide +kernel
theorem dX0_listWith_53 : decode cX0_listWith 53 = .ok (.getfield 26, 3) := by decide +kernel
theorem dX0_listWith_56 : decode cX0_listWith 56 = .ok (.aload_n 0, 1) := by decide +kernel
theorem dX0_listWith_57 : decode cX0_listWith 57 = .ok (.iload_n 1, 1) := by decide +kernel
theorem dX0_listWith_58 : decode cX0_listWith 58 = .ok (.iload 4, 2) := by decide +kernel
theorem dX0_listWith_60 : decode cX0_listWith 60 = .ok (.invokevirtual 65, 3) := by decide +kernel
theorem dX0_listWith_63 : decode cX0_listWith 63 = .ok (.iastore, 1) := by decide +kernel
theorem dX0_listWith_64 : decode cX0_listWith 64 = .ok (.aload_n 0, 1) := by decide +kernel
theorem dX0_listWith_65 : decode cX0_listWith 65 = .ok (.dup, 1) := by decide +kernel
theorem dX0_listWith_66 : decode cX0_listWith 66 = .ok (.getfield 26, 3) := by decide +kernel
theorem dX0_listWith_69 : decode cX0_listWith 69 = .ok (.iconst 1, 1) := by decide +kernel
theorem dX0_listWith_70 : decode cX0_listWith 70 = .ok (.iadd, 1) := by decide +kernel
theorem dX0_listWith_71 : decode cX0_listWith 71 = .ok (.putfield 26, 3) := by decide +kernel
theorem dX0_listWith_74 : decode cX0_listWith 74 = .ok (.iinc 4 1, 3) := by decide +kernel
theorem dX0_listWith_77 : decode cX0_listWith 77 = .ok (.goto (-61), 3) := by decide +kernel
theorem dX0_listWith_80 : decode cX0_listWith 80 = .ok (.return_, 1) := by decide +kernel
theorem dX1_init_0 : decode cX1_init 0 = .ok (.aload_n 0, 1) := by decide +kernel
theorem dX1_init_1 : decode cX1_init 1 = .ok (.invokespecial 3, 3) := by decide +kernel
theorem dX1_init_4 : decode cX1_init 4 = .ok (.aload_n 0, 1) := by decide +kernel
theorem dX1_init_5 : decode cX1_init 5 = .ok (.iconst 5, 1) := by decide +kernel
theorem dX1_init_6 : decode cX1_init 6 = .ok (.newarray .int, 2) := by decide +kernel
theorem dX1_init_8 : decode cX1_init 8 = .ok (.putfield 9, 3) := by decide +kernel
theorem dX1_init_11 : decode cX1_init 11 = .ok (.aload_n 0, 1) := by decide +kernel
theorem dX1_init_12 : decode cX1_init 12 = .ok (.aload_n 1, 1) := by decide +kernel
theorem dX1_init_13 : decode cX1_init 13 = .ok (.putfield 15, 3) := by decide +kernel
theorem dX1_init_16 : decode cX1_init 16 = .ok (.aload_n 0, 1) := by decide +kernel
theorem dX1_init_17 : decode cX1_init 17 = .ok (.new 19, 3) := by decide +kernel
theorem dX1_init_20 : decode cX1_init 20 = .ok (.dup, 1) := by decide +kernel
theorem dX1_init_21 : decode cX1_init 21 = .ok (.aload_n 1, 1) := by decide +kernel
theorem dX1_init_22 : decode cX1_init 22 = .ok (.invokespecial 21, 3) := by decide +kernel
theorem dX1_init_25 : decode cX1_init 25 = .ok (.putfield 24, 3) := by decide +kernel
theorem dX1_init_28 : decode cX1_init 28 = .ok (.return_, 1) := by decide +kernel
theorem dX1_begin_0 : decode cX1_begin 0 = .ok (.aload_n 0, 1) := by decide +kernel
theorem dX1_begin_1 : decode cX1_begin 1 = .ok (.iload_n 1, 1) := by decide +kernel
theorem dX1_begin_2 : decode cX1_begin 2 = .ok (.putfield 28, 3) := by decide +kernel
theorem dX1_begin_5 : decode cX1_begin 5 = .ok (.aload_n 0, 1) := by decide +kernel
theorem dX1_begin_6 : decode cX1_begin 6 = .ok (.iload_n 2, 1) := by decide +kernel
theorem dX1_begin_7 : decode cX1_begin 7 = .ok (.putfield 32, 3) := by decide +kernel
theorem dX1_begin_10 : decode cX1_begin 10 = .ok (.aload_n 0, 1) := by decide +kernel
theorem dX1_begin_11 : decode cX1_begin 11 = .ok (.iload_n 1, 1) := by decide +kernel
theorem dX1_begin_12 : decode cX1_begin 12 = .ok (.iconst 2, 1) := by decide +kernel
theorem dX1_begin_13 : decode cX1_begin 13 = .ok (.if_icmp .ne 7, 3) := by decide +kernel
theorem dX1_begin_16 : decode cX1_begin 16 = .ok (.iload_n 3, 1) := by decide +kernel
theorem dX1_begin_17 : decode cX1_begin 17 = .ok (.goto 4, 3) := by decide +kernel
theorem dX1_begin_20 : decode cX1_begin 20 = .ok (.iconst 0, 1) := by decide +kernel
theorem dX1_begin_21 : decode cX1_begin 21 = .ok (.putfield 35, 3) := by decide +kernel
theorem dX1_begin_24 : decode cX1_begin 24 = .ok (.aload_n 0, 1) := by decide +kernel
theorem dX1_begin_25 : decode cX1_begin 25 = .ok (.aload_n 0, 1) := by decide +kernel
theorem dX1_begin_26 : decode cX1_begin 26 = .ok (.getfield 15, 3) := by decide +kernel
theorem dX1_begin_29 : decode cX1_begin 29 = .ok (.iload_n 2, 1) := by decide +kernel
theorem dX1_begin_30 : decode cX1_begin 30 = .ok (.invokevirtual 38, 3) := by decide +kernel
theorem dX1_begin_33 : decode cX1_begin 33 = .ok (.putfield 44, 3) := by decide +kernel
theorem dX1_begin_36 : decode cX1_begin 36 = .ok (.aload_n 0, 1) := by decide +kernel
theorem dX1_begin_37 : decode cX1_begin 37 = .ok (.aload_n 0, 1) := by decide +kernel
theorem dX1_begin_38 : decode cX1_begin 38 = .ok (.getfield 44, 3) := by decide +kernel
theorem dX1_begin_41 : decode cX1_begin 41 = .ok (.iconst 4, 1) := by decide +kernel
theorem dX1_begin_42 : decode cX1_begin 42 = .ok (.if_icmp .gt 7, 3) := by decide +kernel
theorem dX1_begin_45 : decode cX1_begin 45 = .ok (.iconst 1, 1) := by decide +kernel
theorem dX1_begin_46 : decode cX1_begin 46 = .ok (.goto 4, 3) := by decide +kernel
theorem dX1_begin_49 : decode cX1_begin 49 = .ok (.iconst 2, 1) := by decide +kernel
theorem dX1_begin_50 : decode cX1_begin 50 = .ok (.putfield 46, 3) := by decide +kernel
theorem dX1_begin_53 : decode cX1_begin 53 = .ok (.aload_n 0, 1) := by decide +kernel
theorem dX1_begin_54 : decode cX1_begin 54 = .ok (.aload_n 0, 1) := by decide +kernel
theorem dX1_begin_55 : decode cX1_begin 55 = .ok (.getfield 15, 3) := by decide +kernel
theorem dX1_begin_58 : decode cX1_begin 58 = .ok (.aload_n 0, 1) := by decide +kernel
theorem dX1_begin_59 : decode cX1_begin 59 = .ok (.getfield 28, 3) := by decide +kernel
theorem dX1_begin_62 : decode cX1_begin 62 = .ok (.iconst 1, 1) := by decide +kernel
theorem dX1_begin_63 : decode cX1_begin 63 = .ok (.if_icmp .lt 19, 3) := by decide +kernel
theorem dX1_begin_66 : decode cX1_begin 66 = .ok (.aload_n 0, 1) := by decide +kernel
theorem dX1_begin_67 : decode cX1_begin 67 = .ok (.getfield 15, 3) := by decide +kernel
theorem dX1_begin_70 : decode cX1_begin 70 = .ok (.aload_n 0, 1) := by decide +kernel
theorem dX1_begin_71 : decode cX1_begin 71 = .ok (.getfield 32, 3) := by decide +kernel
theorem dX1_begin_74 : decode cX1_begin 74 = .ok (.iload 4, 2) := by decide +kernel
theorem dX1_begin_76 : decode cX1_begin 76 = .ok (.invokevirtual 49, 3) := by decide +kernel
theorem dX1_begin_79 : decode cX1_begin 79 = .ok (.goto 7, 3) := by decide +kernel
theorem dX1_begin_82 : decode cX1_begin 82 = .ok (.aload_n 0, 1) := by decide +kernel
theorem dX1_begin_83 : decode cX1_begin 83 = .ok (.getfield 32, 3) := by decide +kernel
theorem dX1_begin_86 : decode cX1_begin 86 = .ok (.aload_n 0, 1) := by decide +kernel
theorem dX1_begin_87 : decode cX1_begin 87 = .ok (.getfield 35, 3) := by decide +kernel
theorem dX1_begin_90 : decode cX1_begin 90 = .ok (.invokevirtual 53, 3) := by decide +kernel
theorem dX1_begin_93 : decode cX1_begin 93 = .ok (.putfield 56, 3) := by decide +kernel
theorem dX1_begin_96 : decode cX1_begin 96 = .ok (.aload_n 0, 1) := by decide +kernel
theorem dX1_begin_97 : decode cX1_begin 97 = .ok (.iconst 0, 1) := by decide +kernel
theorem dX1_begin_98 : decode cX1_begin 98 = .ok (.putfield 59, 3) := by decide +kernel
theorem dX1_begin_101 : decode cX1_begin 101 = .ok (.aload_n 0, 1) := by decide +kernel
theorem dX1_begin_102 : decode cX1_begin 102 = .ok (.getfield 24, 3) := by decide +kernel
theorem dX1_begin_105 : decode cX1_begin 105 = .ok (.aload_n 0, 1) := by decide +kernel
theorem dX1_begin_106 : decode cX1_begin 106 = .ok (.getfield 56, 3) := by decide +kernel
theorem dX1_begin_109 : decode cX1_begin 109 = .ok (.aload_n 0, 1) := by decide +kernel
theorem dX1_begin_110 : decode cX1_begin 110 = .ok (.getfield 46, 3) := by decide +kernel
theorem dX1_begin_113 : decode cX1_begin 113 = .ok (.invokevirtual 63, 3) := by decide +kernel
theorem dX1_begin_116 : decode cX1_begin 116 = .ok (.return_, 1) := by decide +kernel
theorem dX1_makeShare_0 : decode cX1_makeShare 0 = .ok (.aload_n 0, 1) := by decide +kernel
theorem dX1_makeShare_1 : decode cX1_makeShare 1 = .ok (.getfield 15, 3) := by decide +kernel
theorem dX1_makeShare_4 : decode cX1_makeShare 4 = .ok (.getfield 67, 3) := by decide +kernel
theorem dX1_makeShare_7 : decode cX1_makeShare 7 = .ok (.istore_n 3, 1) := by decide +kernel
theorem dX1_makeShare_8 : decode cX1_makeShare 8 = .ok (.aload_n 1, 1) := by decide +kernel
theorem dX1_makeShare_9 : decode cX1_makeShare 9 = .ok (.aload_n 0, 1) := by decide +kernel
theorem dX1_makeShare_10 : decode cX1_makeShare 10 = .ok (.getfield 56, 3) := by decide +kernel
theorem dX1_makeShare_13 : decode cX1_makeShare 13 = .ok (.invokevirtual 70, 3) := by decide +kernel
theorem dX1_makeShare_16 : decode cX1_makeShare 16 = .ok (.iload_n 3, 1) := by decide +kernel
theorem dX1_makeShare_17 : decode cX1_makeShare 17 = .ok (.isub, 1) := by decide +kernel
theorem dX1_makeShare_18 : decode cX1_makeShare 18 = .ok (.iconst 1, 1) := by decide +kernel
theorem dX1_makeShare_19 : decode cX1_makeShare 19 = .ok (.isub, 1) := by decide +kernel
theorem dX1_makeShare_20 : decode cX1_makeShare 20 = .ok (.istore 4, 2) := by decide +kernel
theorem dX1_makeShare_22 : decode cX1_makeShare 22 = .ok (.aload_n 0, 1) := by decide +kernel
theorem dX1_makeShare_23 : decode cX1_makeShare 23 = .ok (.getfield 9, 3) := by decide +kernel
theorem dX1_makeShare_26 : decode cX1_makeShare 26 = .ok (.iconst 0, 1) := by decide +kernel
theorem dX1_makeShare_27 : decode cX1_makeShare 27 = .ok (.invokestatic 75, 3) := by decide +kernel
theorem dX1_makeShare_30 : decode cX1_makeShare 30 = .ok (.aload_n 0, 1) := by decide +kernel
theorem dX1_makeShare_31 : decode cX1_makeShare 31 = .ok (.getfield 9, 3) := by decide +kernel
theorem dX1_makeShare_34 : decode cX1_makeShare 34 = .ok (.iconst 0, 1) := by decide +kernel
theorem dX1_makeShare_35 : decode cX1_makeShare 35 = .ok (.iconst 1, 1) := by decide +kernel
theorem dX1_makeShare_36 : decode cX1_makeShare 36 = .ok (.invokestatic 81, 3) := by decide +kernel
theorem dX1_makeShare_39 : decode cX1_makeShare 39 = .ok (.aload_n 0, 1) := by decide +kernel
theorem dX1_makeShare_40 : decode cX1_makeShare 40 = .ok (.getfield 9, 3) := by decide +kernel
theorem dX1_makeShare_43 : decode cX1_makeShare 43 = .ok (.iconst 1, 1) := by decide +kernel
theorem dX1_makeShare_44 : decode cX1_makeShare 44 = .ok (.iload 4, 2) := by decide +kernel
theorem dX1_makeShare_46 : decode cX1_makeShare 46 = .ok (.invokestatic 81, 3) := by decide +kernel
theorem dX1_makeShare_49 : decode cX1_makeShare 49 = .ok (.aload_n 0, 1) := by decide +kernel
theorem dX1_makeShare_50 : decode cX1_makeShare 50 = .ok (.getfield 46, 3) := by decide +kernel
theorem dX1_makeShare_53 : decode cX1_makeShare 53 = .ok (.iconst 2, 1) := by decide +kernel
theorem dX1_makeShare_54 : decode cX1_makeShare 54 = .ok (.if_icmp .ne 33, 3) := by decide +kernel
theorem dX1_makeShare_57 : decode cX1_makeShare 57 = .ok (.aload_n 0, 1) := by decide +kernel
theorem dX1_makeShare_58 : decode cX1_makeShare 58 = .ok (.getfield 9, 3) := by decide +kernel
theorem dX1_makeShare_61 : decode cX1_makeShare 61 = .ok (.iconst 2, 1) := by decide +kernel
theorem dX1_makeShare_62 : decode cX1_makeShare 62 = .ok (.aload_n 2, 1) := by decide +kernel
theorem dX1_makeShare_63 : decode cX1_makeShare 63 = .ok (.aload_n 0, 1) := by decide +kernel
theorem dX1_makeShare_64 : decode cX1_makeShare 64 = .ok (.getfield 56, 3) := by decide +kernel
theorem dX1_makeShare_67 : decode cX1_makeShare 67 = .ok (.invokevirtual 70, 3) := by decide +kernel
theorem dX1_makeShare_70 : decode cX1_makeShare 70 = .ok (.iload_n 3, 1) := by decide +kernel
theorem dX1_makeShare_71 : decode cX1_makeShare 71 = .ok (.iload_n 3, 1) := by decide +kernel
theorem dX1_makeShare_72 : decode cX1_makeShare 72 = .ok (.imul, 1) := by decide +kernel
theorem dX1_makeShare_73 : decode cX1_makeShare 73 = .ok (.isub, 1) := by decide +kernel
theorem dX1_makeShare_74 : decode cX1_makeShare 74 = .ok (.iconst 1, 1) := by decide +kernel
theorem dX1_makeShare_75 : decode cX1_makeShare 75 = .ok (.isub, 1) := by decide +kernel
theorem dX1_makeShare_76 : decode cX1_makeShare 76 = .ok (.iload 4, 2) := by decide +kernel
theorem dX1_makeShare_78 : decode cX1_makeShare 78 = .ok (.iload 4, 2) := by decide +kernel
theorem dX1_makeShare_80 : decode cX1_makeShare 80 = .ok (.imul, 1) := by decide +kernel
theorem dX1_makeShare_81 : decode cX1_makeShare 81 = .ok (.iadd, 1) := by decide +kernel
theorem dX1_makeShare_82 : decode cX1_makeShare 82 = .ok (.iconst 2, 1) := by decide +kernel
theorem dX1_makeShare_83 : decode cX1_makeShare 83 = .ok (.idiv, 1) := by decide +kernel
theorem dX1_makeShare_84 : decode cX1_makeShare 84 = .ok (.invokestatic 81, 3) := by decide +kernel
theorem dX1_makeShare_87 : decode cX1_makeShare 87 = .ok (.iconst 0, 1) := by decide +kernel
theorem dX1_makeShare_88 : decode cX1_makeShare 88 = .ok (.istore 5, 2) := by decide +kernel
theorem dX1_makeShare_90 : decode cX1_makeShare 90 = .ok (.iload 5, 2) := by decide +kernel
theorem dX1_makeShare_92 : decode cX1_makeShare 92 = .ok (.aload_n 0, 1) := by decide +kernel
theorem dX1_makeShare_93 : decode cX1_makeShare 93 = .ok (.getfield 46, 3) := by decide +kernel
theorem dX1_makeShare_96 : decode cX1_makeShare 96 = .ok (.if_icmp .ge 49, 3) := by decide +kernel
theorem dX1_makeShare_99 : decode cX1_makeShare 99 = .ok (.aload_n 0, 1) := by decide +kernel
theorem dX1_makeShare_100 : decode cX1_makeShare 100 = .ok (.getfield 9, 3) := by decide +kernel
theorem dX1_makeShare_103 : decode cX1_makeShare 103 = .ok (.iconst 2, 1) := by decide +kernel
theorem dX1_makeShare_104 : decode cX1_makeShare 104 = .ok (.aload_n 0, 1) := by decide +kernel
theorem dX1_makeShare_105 : decode cX1_makeShare 105 = .ok (.getfield 46, 3) := by decide +kernel
theorem dX1_makeShare_108 : decode cX1_makeShare 108 = .ok (.imul, 1) := by decide +kernel
theorem dX1_makeShare_109 : decode cX1_makeShare 109 = .ok (.iload 5, 2) := by decide +kernel
theorem dX1_makeShare_111 : decode cX1_makeShare 111 = .ok (.isub, 1) := by decide +kernel
theorem dX1_makeShare_112 : decode cX1_makeShare 112 = .ok (.aload_n 0, 1) := by decide +kernel
theorem dX1_makeShare_113 : decode cX1_makeShare 113 = .ok (.getfield 15, 3) := by decide +kernel
theorem dX1_makeShare_116 : decode cX1_makeShare 116 = .ok (.aload_n 0, 1) := by decide +kernel
theorem dX1_makeShare_117 : decode cX1_makeShare 117 = .ok (.getfield 46, 3) := by decide +kernel
theorem dX1_makeShare_120 : decode cX1_makeShare 120 = .ok (.iload 5, 2) := by decide +kernel
theorem dX1_makeShare_122 : decode cX1_makeShare 122 = .ok (.isub, 1) := by decide +kernel
theorem dX1_makeShare_123 : decode cX1_makeShare 123 = .ok (.invokevirtual 85, 3) := by decide +kernel
theorem dX1_makeShare_126 : decode cX1_makeShare 126 = .ok (.aload_n 0, 1) := by decide +kernel
theorem dX1_makeShare_127 : decode cX1_makeShare 127 = .ok (.getfield 9, 3) := by decide +kernel
theorem dX1_makeShare_130 : decode cX1_makeShare 130 = .ok (.iload 5, 2) := by decide +kernel
theorem dX1_makeShare_132 : decode cX1_makeShare 132 = .ok (.invokestatic 88, 3) := by decide +kernel
theorem dX1_makeShare_135 : decode cX1_makeShare 135 = .ok (.imul, 1) := by decide +kernel
theorem dX1_makeShare_136 : decode cX1_makeShare 136 = .ok (.invokestatic 81, 3) := by decide +kernel
theorem dX1_makeShare_139 : decode cX1_makeShare 139 = .ok (.iinc 5 1, 3) := by decide +kernel
theorem dX1_makeShare_142 : decode cX1_makeShare 142 = .ok (.goto (-52), 3) := by decide +kernel
theorem dX1_makeShare_145 : decode cX1_makeShare 145 = .ok (.aload_n 0, 1) := by decide +kernel
theorem dX1_makeShare_146 : decode cX1_makeShare 146 = .ok (.iconst 1, 1) := by decide +kernel
theorem dX1_makeShare_147 : decode cX1_makeShare 147 = .ok (.putfield 59, 3) := by decide +kernel
theorem dX1_makeShare_150 : decode cX1_makeShare 150 = .ok (.return_, 1) := by decide +kernel
theorem dX2_init_0 : decode cX2_init 0 = .ok (.aload_n 0, 1) := by decide +kernel
theorem dX2_init_1 : decode cX2_init 1 = .ok (.invokespecial 3, 3) := by decide +kernel
theorem dX2_init_4 : decode cX2_init 4 = .ok (.aload_n 0, 1) := by decide +kernel
theorem dX2_init_5 : decode cX2_init 5 = .ok (.sipush 343, 3) := by decide +kernel
theorem dX2_init_8 : decode cX2_init 8 = .ok (.newarray .int, 2) := by decide +kernel
theorem dX2_init_10 : decode cX2_init 10 = .ok (.putfield 9, 3) := by decide +kernel
theorem dX2_init_13 : decode cX2_init 13 = .ok (.aload_n 0, 1) := by decide +kernel
theorem dX2_init_14 : decode cX2_init 14 = .ok (.sipush 343, 3) := by decide +kernel
theorem dX2_init_17 : decode cX2_init 17 = .ok (.newarray .int, 2) := by decide +kernel
theorem dX2_init_19 : decode cX2_init 19 = .ok (.putfield 15, 3) := by decide +kernel
theorem dX2_init_22 : decode cX2_init 22 = .ok (.aload_n 0, 1) := by decide +kernel
theorem dX2_init_23 : decode cX2_init 23 = .ok (.iconst 0, 1) := by decide +kernel
theorem dX2_init_24 : decode cX2_init 24 = .ok (.putfield 18, 3) := by decide +kernel
theorem dX2_init_27 : decode cX2_init 27 = .ok (.aload_n 0, 1) := by decide +kernel
theorem dX2_init_28 : decode cX2_init 28 = .ok (.iconst 2, 1) := by decide +kernel
theorem dX2_init_29 : decode cX2_init 29 = .ok (.putfield 22, 3) := by decide +kernel
theorem dX2_init_32 : decode cX2_init 32 = .ok (.aload_n 0, 1) := by decide +kernel
theorem dX2_init_33 : decode cX2_init 33 = .ok (.iconst 1, 1) := by decide +kernel
theorem dX2_init_34 : decode cX2_init 34 = .ok (.putfield 25, 3) := by decide +kernel
theorem dX2_init_37 : decode cX2_init 37 = .ok (.aload_n 0, 1) := by decide +kernel
theorem dX2_init_38 : decode cX2_init 38 = .ok (.iconst 0, 1) := by decide +kernel
theorem dX2_init_39 : decode cX2_init 39 = .ok (.putfield 28, 3) := by decide +kernel
theorem dX2_init_42 : decode cX2_init 42 = .ok (.aload_n 0, 1) := by decide +kernel
theorem dX2_init_43 : decode cX2_init 43 = .ok (.aload_n 1, 1) := by decide +kernel
theorem dX2_init_44 : decode cX2_init 44 = .ok (.putfield 31, 3) := by decide +kernel
theorem dX2_init_47 : decode cX2_init 47 = .ok (.aload_n 0, 1) := by decide +kernel
theorem dX2_init_48 : decode cX2_init 48 = .ok (.iload_n 2, 1) := by decide +kernel
theorem dX2_init_49 : decode cX2_init 49 = .ok (.putfield 35, 3) := by decide +kernel
theorem dX2_init_52 : decode cX2_init 52 = .ok (.return_, 1) := by decide +kernel
theorem dX2_fit_0 : decode cX2_fit 0 = .ok (.aload_n 0, 1) := by decide +kernel
theorem dX2_fit_1 : decode cX2_fit 1 = .ok (.getfield 18, 3) := by decide +kernel
theorem dX2_fit_4 : decode cX2_fit 4 = .ok (.aload_n 0, 1) := by decide +kernel
theorem dX2_fit_5 : decode cX2_fit 5 = .ok (.getfield 31, 3) := by decide +kernel
theorem dX2_fit_8 : decode cX2_fit 8 = .ok (.getfield 38, 3) := by decide +kernel
theorem dX2_fit_11 : decode cX2_fit 11 = .ok (.if_icmp .ne 4, 3) := by decide +kernel
theorem dX2_fit_14 : decode cX2_fit 14 = .ok (.return_, 1) := by decide +kernel
theorem dX2_fit_15 : decode cX2_fit 15 = .ok (.aload_n 0, 1) := by decide +kernel
theorem dX2_fit_16 : decode cX2_fit 16 = .ok (.aload_n 0, 1) := by decide +kernel
theorem dX2_fit_17 : decode cX2_fit 17 = .ok (.getfield 31, 3) := by decide +kernel
theorem dX2_fit_20 : decode cX2_fit 20 = .ok (.getfield 38, 3) := by decide +kernel
theorem dX2_fit_23 : decode cX2_fit 23 = .ok (.putfield 18, 3) := by decide +kernel
theorem dX2_fit_26 : decode cX2_fit 26 = .ok (.aload_n 0, 1) := by decide +kernel
theorem dX2_fit_27 : decode cX2_fit 27 = .ok (.aload_n 0, 1) := by decide +kernel
theorem dX2_fit_28 : decode cX2_fit 28 = .ok (.getfield 31, 3) := by decide +kernel
theorem dX2_fit_31 : decode cX2_fit 31 = .ok (.aload_n 0, 1) := by decide +kernel
theorem dX2_fit_32 : decode cX2_fit 32 = .ok (.getfield 35, 3) := by decide +kernel
theorem dX2_fit_35 : decode cX2_fit 35 = .ok (.invokevirtual 43, 3) := by decide +kernel
theorem dX2_fit_38 : decode cX2_fit 38 = .ok (.putfield 22, 3) := by decide +kernel
theorem dX2_fit_41 : decode cX2_fit 41 = .ok (.aload_n 0, 1) := by decide +kernel
theorem dX2_fit_42 : decode cX2_fit 42 = .ok (.iconst 1, 1) := by decide +kernel
theorem dX2_fit_43 : decode cX2_fit 43 = .ok (.aload_n 0, 1) := by decide +kernel
theorem dX2_fit_44 : decode cX2_fit 44 = .ok (.getfield 22, 3) := by decide +kernel
theorem dX2_fit_47 : decode cX2_fit 47 = .ok (.iconst 1, 1) := by decide +kernel
theorem dX2_fit_48 : decode cX2_fit 48 = .ok (.isub, 1) := by decide +kernel
theorem dX2_fit_49 : decode cX2_fit 49 = .ok (.invokestatic 47, 3) := by decide +kernel
theorem dX2_fit_52 : decode cX2_fit 52 = .ok (.putfield 25, 3) := by decide +kernel
theorem dX2_fit_55 : decode cX2_fit 55 = .ok (.aload_n 0, 1) := by decide +kernel
theorem dX2_fit_56 : decode cX2_fit 56 = .ok (.aload_n 0, 1) := by decide +kernel
theorem dX2_fit_57 : decode cX2_fit 57 = .ok (.getfield 22, 3) := by decide +kernel
theorem dX2_fit_60 : decode cX2_fit 60 = .ok (.putfield 28, 3) := by decide +kernel
theorem dX2_fit_63 : decode cX2_fit 63 = .ok (.aload_n 0, 1) := by decide +kernel
theorem dX2_fit_64 : decode cX2_fit 64 = .ok (.getfield 28, 3) := by decide +kernel
theorem dX2_fit_67 : decode cX2_fit 67 = .ok (.iconst 2, 1) := by decide +kernel
theorem dX2_fit_68 : decode cX2_fit 68 = .ok (.aload_n 0, 1) := by decide +kernel
theorem dX2_fit_69 : decode cX2_fit 69 = .ok (.getfield 22, 3) := by decide +kernel
theorem dX2_fit_72 : decode cX2_fit 72 = .ok (.imul, 1) := by decide +kernel
theorem dX2_fit_73 : decode cX2_fit 73 = .ok (.if_icmp .ge 34, 3) := by decide +kernel
theorem dX2_fit_76 : decode cX2_fit 76 = .ok (.aload_n 0, 1) := by decide +kernel
theorem dX2_fit_77 : decode cX2_fit 77 = .ok (.getfield 31, 3) := by decide +kernel
theorem dX2_fit_80 : decode cX2_fit 80 = .ok (.aload_n 0, 1) := by decide +kernel
theorem dX2_fit_81 : decode cX2_fit 81 = .ok (.getfield 28, 3) := by decide +kernel
theorem dX2_fit_84 : decode cX2_fit 84 = .ok (.aload_n 0, 1) := by decide +kernel
theorem dX2_fit_85 : decode cX2_fit 85 = .ok (.getfield 35, 3) := by decide +kernel
theorem dX2_fit_88 : decode cX2_fit 88 = .ok (.invokevirtual 53, 3) := by decide +kernel
theorem dX2_fit_91 : decode cX2_fit 91 = .ok (.ifCond .eq 16, 3) := by decide +kernel
theorem dX2_fit_94 : decode cX2_fit 94 = .ok (.aload_n 0, 1) := by decide +kernel
theorem dX2_fit_95 : decode cX2_fit 95 = .ok (.dup, 1) := by decide +kernel
theorem dX2_fit_96 : decode cX2_fit 96 = .ok (.getfield 28, 3) := by decide +kernel
theorem dX2_fit_99 : decode cX2_fit 99 = .ok (.iconst 1, 1) := by decide +kernel
theorem dX2_fit_100 : decode cX2_fit 100 = .ok (.iadd, 1) := by decide +kernel
theorem dX2_fit_101 : decode cX2_fit 101 = .ok (.putfield 28, 3) := by decide +kernel
theorem dX2_fit_104 : decode cX2_fit 104 = .ok (.goto (-41), 3) := by decide +kernel
theorem dX2_fit_107 : decode cX2_fit 107 = .ok (.iconst 1, 1) := by decide +kernel
theorem dX2_fit_108 : decode cX2_fit 108 = .ok (.istore_n 1, 1) := by decide +kernel
theorem dX2_fit_109 : decode cX2_fit 109 = .ok (.iload_n 1, 1) := by decide +kernel
theorem dX2_fit_110 : decode cX2_fit 110 = .ok (.aload_n 0, 1) := by decide +kernel
theorem dX2_fit_111 : decode cX2_fit 111 = .ok (.getfield 22, 3) := by decide +kernel
theorem dX2_fit_114 : decode cX2_fit 114 = .ok (.if_icmp .ge 21, 3) := by decide +kernel
theorem dX2_fit_117 : decode cX2_fit 117 = .ok (.aload_n 0, 1) := by decide +kernel
theorem dX2_fit_118 : decode cX2_fit 118 = .ok (.iload_n 1, 1) := by decide +kernel
theorem dX2_fit_119 : decode cX2_fit 119 = .ok (.invokevirtual 57, 3) := by decide +kernel
theorem dX2_fit_122 : decode cX2_fit 122 = .ok (.aload_n 0, 1) := by decide +kernel
theorem dX2_fit_123 : decode cX2_fit 123 = .ok (.getfield 25, 3) := by decide +kernel
theorem dX2_fit_126 : decode cX2_fit 126 = .ok (.if_icmp .eq 9, 3) := by decide +kernel
theorem dX2_fit_129 : decode cX2_fit 129 = .ok (.iinc 1 1, 3) := by decide +kernel
theorem dX2_fit_132 : decode cX2_fit 132 = .ok (.goto (-23), 3) := by decide +kernel
theorem dX2_fit_135 : decode cX2_fit 135 = .ok (.iconst 0, 1) := by decide +kernel
theorem dX2_fit_136 : decode cX2_fit 136 = .ok (.istore_n 2, 1) := by decide +kernel
theorem dX2_fit_137 : decode cX2_fit 137 = .ok (.iload_n 2, 1) := by decide +kernel
theorem dX2_fit_138 : decode cX2_fit 138 = .ok (.aload_n 0, 1) := by decide +kernel
theorem dX2_fit_139 : decode cX2_fit 139 = .ok (.getfield 25, 3) := by decide +kernel
theorem dX2_fit_142 : decode cX2_fit 142 = .ok (.if_icmp .ge 25, 3) := by decide +kernel
theorem dX2_fit_145 : decode cX2_fit 145 = .ok (.aload_n 0, 1) := by decide +kernel
theorem dX2_fit_146 : decode cX2_fit 146 = .ok (.getfield 15, 3) := by decide +kernel
theorem dX2_fit_149 : decode cX2_fit 149 = .ok (.aload_n 0, 1) := by decide +kernel
theorem dX2_fit_150 : decode cX2_fit 150 = .ok (.getfield 9, 3) := by decide +kernel
theorem dX2_fit_153 : decode cX2_fit 153 = .ok (.iload_n 2, 1) := by decide +kernel
theorem dX2_fit_154 : decode cX2_fit 154 = .ok (.invokestatic 60, 3) := by decide +kernel
theorem dX2_fit_157 : decode cX2_fit 157 = .ok (.iload_n 2, 1) := by decide +kernel
theorem dX2_fit_158 : decode cX2_fit 158 = .ok (.invokestatic 64, 3) := by decide +kernel
theorem dX2_fit_161 : decode cX2_fit 161 = .ok (.iinc 2 1, 3) := by decide +kernel
theorem dX2_fit_164 : decode cX2_fit 164 = .ok (.goto (-27), 3) := by decide +kernel
theorem dX2_fit_167 : decode cX2_fit 167 = .ok (.return_, 1) := by decide +kernel
theorem dX2_walk_0 : decode cX2_walk 0 = .ok (.iconst 1, 1) := by decide +kernel
theorem dX2_walk_1 : decode cX2_walk 1 = .ok (.istore_n 2, 1) := by decide +kernel
theorem dX2_walk_2 : decode cX2_walk 2 = .ok (.iconst 0, 1) := by decide +kernel
theorem dX2_walk_3 : decode cX2_walk 3 = .ok (.istore_n 3, 1) := by decide +kernel
theorem dX2_walk_4 : decode cX2_walk 4 = .ok (.iload_n 3, 1) := by decide +kernel
theorem dX2_walk_5 : decode cX2_walk 5 = .ok (.aload_n 0, 1) := by decide +kernel
theorem dX2_walk_6 : decode cX2_walk 6 = .ok (.getfield 25, 3) := by decide +kernel
theorem dX2_walk_9 : decode cX2_walk 9 = .ok (.if_icmp .ge 48, 3) := by decide +kernel
theorem dX2_walk_12 : decode cX2_walk 12 = .ok (.aload_n 0, 1) := by decide +kernel
theorem dX2_walk_13 : decode cX2_walk 13 = .ok (.getfield 9, 3) := by decide +kernel
theorem dX2_walk_16 : decode cX2_walk 16 = .ok (.iload_n 3, 1) := by decide +kernel
theorem dX2_walk_17 : decode cX2_walk 17 = .ok (.iload_n 2, 1) := by decide +kernel
theorem dX2_walk_18 : decode cX2_walk 18 = .ok (.invokestatic 64, 3) := by decide +kernel
theorem dX2_walk_21 : decode cX2_walk 21 = .ok (.aload_n 0, 1) := by decide +kernel
theorem dX2_walk_22 : decode cX2_walk 22 = .ok (.getfield 31, 3) := by decide +kernel
theorem dX2_walk_25 : decode cX2_walk 25 = .ok (.aload_n 0, 1) := by decide +kernel
theorem dX2_walk_26 : decode cX2_walk 26 = .ok (.getfield 31, 3) := by decide +kernel
theorem dX2_walk_29 : decode cX2_walk 29 = .ok (.iload_n 2, 1) := by decide +kernel
theorem dX2_walk_30 : decode cX2_walk 30 = .ok (.iload_n 1, 1) := by decide +kernel
theorem dX2_walk_31 : decode cX2_walk 31 = .ok (.invokevirtual 68, 3) := by decide +kernel
theorem dX2_walk_34 : decode cX2_walk 34 = .ok (.aload_n 0, 1) := by decide +kernel
theorem dX2_walk_35 : decode cX2_walk 35 = .ok (.getfield 28, 3) := by decide +kernel
theorem dX2_walk_38 : decode cX2_walk 38 = .ok (.invokevirtual 71, 3) := by decide +kernel
theorem dX2_walk_41 : decode cX2_walk 41 = .ok (.istore_n 2, 1) := by decide +kernel
theorem dX2_walk_42 : decode cX2_walk 42 = .ok (.iload_n 2, 1) := by decide +kernel
theorem dX2_walk_43 : decode cX2_walk 43 = .ok (.iconst 1, 1) := by decide +kernel
theorem dX2_walk_44 : decode cX2_walk 44 = .ok (.if_icmp .ne 7, 3) := by decide +kernel
theorem dX2_walk_47 : decode cX2_walk 47 = .ok (.iload_n 3, 1) := by decide +kernel
theorem dX2_walk_48 : decode cX2_walk 48 = .ok (.iconst 1, 1) := by decide +kernel
theorem dX2_walk_49 : decode cX2_walk 49 = .ok (.iadd, 1) := by decide +kernel
theorem dX2_walk_50 : decode cX2_walk 50 = .ok (.ireturn, 1) := by decide +kernel
theorem dX2_walk_51 : decode cX2_walk 51 = .ok (.iinc 3 1, 3) := by decide +kernel
theorem dX2_walk_54 : decode cX2_walk 54 = .ok (.goto (-50), 3) := by decide +kernel
theorem dX2_walk_57 : decode cX2_walk 57 = .ok (.iconst 0, 1) := by decide +kernel
theorem dX2_walk_58 : decode cX2_walk 58 = .ok (.ireturn, 1) := by decide +kernel
theorem dX2_has_0 : decode cX2_has 0 = .ok (.iload_n 1, 1) := by decide +kernel
theorem dX2_has_1 : decode cX2_has 1 = .ok (.ifCond .lt 15, 3) := by decide +kernel
theorem dX2_has_4 : decode cX2_has 4 = .ok (.iload_n 1, 1) := by decide +kernel
theorem dX2_has_5 : decode cX2_has 5 = .ok (.aload_n 0, 1) := by decide +kernel
theorem dX2_has_6 : decode cX2_has 6 = .ok (.getfield 22, 3) := by decide +kernel
theorem dX2_has_9 : decode cX2_has 9 = .ok (.if_icmp .ge 7, 3) := by decide +kernel
theorem dX2_has_12 : decode cX2_has 12 = .ok (.iconst 1, 1) := by decide +kernel
theorem dX2_has_13 : decode cX2_has 13 = .ok (.goto 4, 3) := by decide +kernel
theorem dX2_has_16 : decode cX2_has 16 = .ok (.iconst 0, 1) := by decide +kernel
theorem dX2_has_17 : decode cX2_has 17 = .ok (.ireturn, 1) := by decide +kernel
theorem dX2_product_0 : decode cX2_product 0 = .ok (.iload_n 1, 1) := by decide +kernel
theorem dX2_product_1 : decode cX2_product 1 = .ok (.ifCond .eq 7, 3) := by decide +kernel
theorem dX2_product_4 : decode cX2_product 4 = .ok (.iload_n 2, 1) := by decide +kernel
theorem dX2_product_5 : decode cX2_product 5 = .ok (.ifCond .ne 5, 3) := by decide +kernel
theorem dX2_product_8 : decode cX2_product 8 = .ok (.iconst 0, 1) := by decide +kernel
theorem dX2_product_9 : decode cX2_product 9 = .ok (.ireturn, 1) := by decide +kernel
theorem dX2_product_10 : decode cX2_product 10 = .ok (.aload_n 0, 1) := by decide +kernel
theorem dX2_product_11 : decode cX2_product 11 = .ok (.getfield 9, 3) := by decide +kernel
theorem dX2_product_14 : decode cX2_product 14 = .ok (.aload_n 0, 1) := by decide +kernel
theorem dX2_product_15 : decode cX2_product 15 = .ok (.getfield 15, 3) := by decide +kernel
theorem dX2_product_18 : decode cX2_product 18 = .ok (.iload_n 1, 1) := by decide +kernel
theorem dX2_product_19 : decode cX2_product 19 = .ok (.invokestatic 60, 3) := by decide +kernel
theorem dX2_product_22 : decode cX2_product 22 = .ok (.aload_n 0, 1) := by decide +kernel
theorem dX2_product_23 : decode cX2_product 23 = .ok (.getfield 15, 3) := by decide +kernel
theorem dX2_product_26 : decode cX2_product 26 = .ok (.iload_n 2, 1) := by decide +kernel
theorem dX2_product_27 : decode cX2_product 27 = .ok (.invokestatic 60, 3) := by decide +kernel
theorem dX2_product_30 : decode cX2_product 30 = .ok (.iadd, 1) := by decide +kernel
theorem dX2_product_31 : decode cX2_product 31 = .ok (.aload_n 0, 1) := by decide +kernel
theorem dX2_product_32 : decode cX2_product 32 = .ok (.getfield 25, 3) := by decide +kernel
theorem dX2_product_35 : decode cX2_product 35 = .ok (.irem, 1) := by decide +kernel
theorem dX2_product_36 : decode cX2_product 36 = .ok (.invokestatic 60, 3) := by decide +kernel
theorem dX2_product_39 : decode cX2_product 39 = .ok (.ireturn, 1) := by decide +kernel
theorem dX2_power_0 : decode cX2_power 0 = .ok (.iload_n 2, 1) := by decide +kernel
theorem dX2_power_1 : decode cX2_power 1 = .ok (.ifCond .ne 5, 3) := by decide +kernel
theorem dX2_power_4 : decode cX2_power 4 = .ok (.iconst 1, 1) := by decide +kernel
theorem dX2_power_5 : decode cX2_power 5 = .ok (.ireturn, 1) := by decide +kernel
theorem dX2_power_6 : decode cX2_power 6 = .ok (.iload_n 1, 1) := by decide +kernel
theorem dX2_power_7 : decode cX2_power 7 = .ok (.ifCond .ne 7, 3) := by decide +kernel
theorem dX2_power_10 : decode cX2_power 10 = .ok (.iconst 0, 1) := by decide +kernel
theorem dX2_power_11 : decode cX2_power 11 = .ok (.goto 29, 3) := by decide +kernel
theorem dX2_power_14 : decode cX2_power 14 = .ok (.aload_n 0, 1) := by decide +kernel
theorem dX2_power_15 : decode cX2_power 15 = .ok (.getfield 9, 3) := by decide +kernel
theorem dX2_power_18 : decode cX2_power 18 = .ok (.aload_n 0, 1) := by decide +kernel
theorem dX2_power_19 : decode cX2_power 19 = .ok (.getfield 15, 3) := by decide +kernel
theorem dX2_power_22 : decode cX2_power 22 = .ok (.iload_n 1, 1) := by decide +kernel
theorem dX2_power_23 : decode cX2_power 23 = .ok (.invokestatic 60, 3) := by decide +kernel
theorem dX2_power_26 : decode cX2_power 26 = .ok (.i2l, 1) := by decide +kernel
theorem dX2_power_27 : decode cX2_power 27 = .ok (.iload_n 2, 1) := by decide +kernel
theorem dX2_power_28 : decode cX2_power 28 = .ok (.i2l, 1) := by decide +kernel
theorem dX2_power_29 : decode cX2_power 29 = .ok (.lmul, 1) := by decide +kernel
theorem dX2_power_30 : decode cX2_power 30 = .ok (.aload_n 0, 1) := by decide +kernel
theorem dX2_power_31 : decode cX2_power 31 = .ok (.getfield 25, 3) := by decide +kernel
theorem dX2_power_34 : decode cX2_power 34 = .ok (.i2l, 1) := by decide +kernel
theorem dX2_power_35 : decode cX2_power 35 = .ok (.lrem, 1) := by decide +kernel
theorem dX2_power_36 : decode cX2_power 36 = .ok (.l2i, 1) := by decide +kernel
theorem dX2_power_37 : decode cX2_power 37 = .ok (.invokestatic 60, 3) := by decide +kernel
theorem dX2_power_40 : decode cX2_power 40 = .ok (.ireturn, 1) := by decide +kernel
theorem dX2_squareSign_0 : decode cX2_squareSign 0 = .ok (.iload_n 1, 1) := by decide +kernel
theorem dX2_squareSign_1 : decode cX2_squareSign 1 = .ok (.ifCond .ne 5, 3) := by decide +kernel
theorem dX2_squareSign_4 : decode cX2_squareSign 4 = .ok (.iconst 0, 1) := by decide +kernel
theorem dX2_squareSign_5 : decode cX2_squareSign 5 = .ok (.ireturn, 1) := by decide +kernel
theorem dX2_squareSign_6 : decode cX2_squareSign 6 = .ok (.aload_n 0, 1) := by decide +kernel
theorem dX2_squareSign_7 : decode cX2_squareSign 7 = .ok (.getfield 15, 3) := by decide +kernel
theorem dX2_squareSign_10 : decode cX2_squareSign 10 = .ok (.iload_n 1, 1) := by decide +kernel
theorem dX2_squareSign_11 : decode cX2_squareSign 11 = .ok (.invokestatic 60, 3) := by decide +kernel
theorem dX2_squareSign_14 : decode cX2_squareSign 14 = .ok (.iconst 2, 1) := by decide +kernel
theorem dX2_squareSign_15 : decode cX2_squareSign 15 = .ok (.irem, 1) := by decide +kernel
theorem dX2_squareSign_16 : decode cX2_squareSign 16 = .ok (.ifCond .ne 7, 3) := by decide +kernel
theorem dX2_squareSign_19 : decode cX2_squareSign 19 = .ok (.iconst 1, 1) := by decide +kernel
theorem dX2_squareSign_20 : decode cX2_squareSign 20 = .ok (.goto 4, 3) := by decide +kernel
theorem dX2_squareSign_23 : decode cX2_squareSign 23 = .ok (.iconst (-1), 1) := by decide +kernel
theorem dX2_squareSign_24 : decode cX2_squareSign 24 = .ok (.ireturn, 1) := by decide +kernel
theorem dX2_turnsOf_0 : decode cX2_turnsOf 0 = .ok (.iconst 1, 1) := by decide +kernel
theorem dX2_turnsOf_1 : decode cX2_turnsOf 1 = .ok (.istore_n 2, 1) := by decide +kernel
theorem dX2_turnsOf_2 : decode cX2_turnsOf 2 = .ok (.iload_n 2, 1) := by decide +kernel
theorem dX2_turnsOf_3 : decode cX2_turnsOf 3 = .ok (.aload_n 0, 1) := by decide +kernel
theorem dX2_turnsOf_4 : decode cX2_turnsOf 4 = .ok (.getfield 25, 3) := by decide +kernel
theorem dX2_turnsOf_7 : decode cX2_turnsOf 7 = .ok (.if_icmp .ge 27, 3) := by decide +kernel
theorem dX2_turnsOf_10 : decode cX2_turnsOf 10 = .ok (.aload_n 0, 1) := by decide +kernel
theorem dX2_turnsOf_11 : decode cX2_turnsOf 11 = .ok (.getfield 15, 3) := by decide +kernel
theorem dX2_turnsOf_14 : decode cX2_turnsOf 14 = .ok (.iload_n 1, 1) := by decide +kernel
theorem dX2_turnsOf_15 : decode cX2_turnsOf 15 = .ok (.invokestatic 60, 3) := by decide +kernel
theorem dX2_turnsOf_18 : decode cX2_turnsOf 18 = .ok (.iload_n 2, 1) := by decide +kernel
theorem dX2_turnsOf_19 : decode cX2_turnsOf 19 = .ok (.imul, 1) := by decide +kernel
theorem dX2_turnsOf_20 : decode cX2_turnsOf 20 = .ok (.aload_n 0, 1) := by decide +kernel
theorem dX2_turnsOf_21 : decode cX2_turnsOf 21 = .ok (.getfield 25, 3) := by decide +kernel
theorem dX2_turnsOf_24 : decode cX2_turnsOf 24 = .ok (.irem, 1) := by decide +kernel
theorem dX2_turnsOf_25 : decode cX2_turnsOf 25 = .ok (.ifCond .eq 9, 3) := by decide +kernel
theorem dX2_turnsOf_28 : decode cX2_turnsOf 28 = .ok (.iinc 2 1, 3) := by decide +kernel
theorem dX2_turnsOf_31 : decode cX2_turnsOf 31 = .ok (.goto (-29), 3) := by decide +kernel
theorem dX2_turnsOf_34 : decode cX2_turnsOf 34 = .ok (.iload_n 2, 1) := by decide +kernel
theorem dX2_turnsOf_35 : decode cX2_turnsOf 35 = .ok (.ireturn, 1) := by decide +kernel
theorem dX2_valueOf_0 : decode cX2_valueOf 0 = .ok (.iconst 0, 1) := by decide +kernel
theorem dX2_valueOf_1 : decode cX2_valueOf 1 = .ok (.istore_n 3, 1) := by decide +kernel
theorem dX2_valueOf_2 : decode cX2_valueOf 2 = .ok (.aload_n 0, 1) := by decide +kernel
theorem dX2_valueOf_3 : decode cX2_valueOf 3 = .ok (.getfield 31, 3) := by decide +kernel
theorem dX2_valueOf_6 : decode cX2_valueOf 6 = .ok (.iload_n 1, 1) := by decide +kernel
theorem dX2_valueOf_7 : decode cX2_valueOf 7 = .ok (.invokevirtual 74, 3) := by decide +kernel
theorem dX2_valueOf_10 : decode cX2_valueOf 10 = .ok (.istore 4, 2) := by decide +kernel
theorem dX2_valueOf_12 : decode cX2_valueOf 12 = .ok (.iload 4, 2) := by decide +kernel
theorem dX2_valueOf_14 : decode cX2_valueOf 14 = .ok (.ifCond .lt 33, 3) := by decide +kernel
theorem dX2_valueOf_17 : decode cX2_valueOf 17 = .ok (.aload_n 0, 1) := by decide +kernel
theorem dX2_valueOf_18 : decode cX2_valueOf 18 = .ok (.getfield 31, 3) := by decide +kernel
theorem dX2_valueOf_21 : decode cX2_valueOf 21 = .ok (.aload_n 0, 1) := by decide +kernel
theorem dX2_valueOf_22 : decode cX2_valueOf 22 = .ok (.iload_n 3, 1) := by decide +kernel
theorem dX2_valueOf_23 : decode cX2_valueOf 23 = .ok (.iload_n 2, 1) := by decide +kernel
theorem dX2_valueOf_24 : decode cX2_valueOf 24 = .ok (.invokevirtual 77, 3) := by decide +kernel
theorem dX2_valueOf_27 : decode cX2_valueOf 27 = .ok (.aload_n 0, 1) := by decide +kernel
theorem dX2_valueOf_28 : decode cX2_valueOf 28 = .ok (.getfield 31, 3) := by decide +kernel
theorem dX2_valueOf_31 : decode cX2_valueOf 31 = .ok (.iload_n 1, 1) := by decide +kernel
theorem dX2_valueOf_32 : decode cX2_valueOf 32 = .ok (.iload 4, 2) := by decide +kernel
theorem dX2_valueOf_34 : decode cX2_valueOf 34 = .ok (.invokevirtual 78, 3) := by decide +kernel
theorem dX2_valueOf_37 : decode cX2_valueOf 37 = .ok (.invokevirtual 81, 3) := by decide +kernel
theorem dX2_valueOf_40 : decode cX2_valueOf 40 = .ok (.istore_n 3, 1) := by decide +kernel
theorem dX2_valueOf_41 : decode cX2_valueOf 41 = .ok (.iinc 4 (-1), 3) := by decide +kernel
theorem dX2_valueOf_44 : decode cX2_valueOf 44 = .ok (.goto (-32), 3) := by decide +kernel
theorem dX2_valueOf_47 : decode cX2_valueOf 47 = .ok (.iload_n 3, 1) := by decide +kernel
theorem dX2_valueOf_48 : decode cX2_valueOf 48 = .ok (.ireturn, 1) := by decide +kernel
theorem dX2_signSum_0 : decode cX2_signSum 0 = .ok (.iconst 0, 1) := by decide +kernel
theorem dX2_signSum_1 : decode cX2_signSum 1 = .ok (.istore_n 2, 1) := by decide +kernel
theorem dX2_signSum_2 : decode cX2_signSum 2 = .ok (.iconst 0, 1) := by decide +kernel
theorem dX2_signSum_3 : decode cX2_signSum 3 = .ok (.istore_n 3, 1) := by decide +kernel
theorem dX2_signSum_4 : decode cX2_signSum 4 = .ok (.iload_n 3, 1) := by decide +kernel
theorem dX2_signSum_5 : decode cX2_signSum 5 = .ok (.aload_n 0, 1) := by decide +kernel
theorem dX2_signSum_6 : decode cX2_signSum 6 = .ok (.getfield 22, 3) := by decide +kernel
theorem dX2_signSum_9 : decode cX2_signSum 9 = .ok (.if_icmp .ge 22, 3) := by decide +kernel
theorem dX2_signSum_12 : decode cX2_signSum 12 = .ok (.iload_n 2, 1) := by decide +kernel
theorem dX2_signSum_13 : decode cX2_signSum 13 = .ok (.aload_n 0, 1) := by decide +kernel
theorem dX2_signSum_14 : decode cX2_signSum 14 = .ok (.aload_n 0, 1) := by decide +kernel
theorem dX2_signSum_15 : decode cX2_signSum 15 = .ok (.iload_n 1, 1) := by decide +kernel
theorem dX2_signSum_16 : decode cX2_signSum 16 = .ok (.iload_n 3, 1) := by decide +kernel
theorem dX2_signSum_17 : decode cX2_signSum 17 = .ok (.invokevirtual 84, 3) := by decide +kernel
theorem dX2_signSum_20 : decode cX2_signSum 20 = .ok (.invokevirtual 87, 3) := by decide +kernel
theorem dX2_signSum_23 : decode cX2_signSum 23 = .ok (.iadd, 1) := by decide +kernel
theorem dX2_signSum_24 : decode cX2_signSum 24 = .ok (.istore_n 2, 1) := by decide +kernel
theorem dX2_signSum_25 : decode cX2_signSum 25 = .ok (.iinc 3 1, 3) := by decide +kernel
theorem dX2_signSum_28 : decode cX2_signSum 28 = .ok (.goto (-24), 3) := by decide +kernel
theorem dX2_signSum_31 : decode cX2_signSum 31 = .ok (.iload_n 2, 1) := by decide +kernel
theorem dX2_signSum_32 : decode cX2_signSum 32 = .ok (.ireturn, 1) := by decide +kernel
theorem dX2_pointsBeyond_0 : decode cX2_pointsBeyond 0 = .ok (.aload_n 0, 1) := by decide +kernel
theorem dX2_pointsBeyond_1 : decode cX2_pointsBeyond 1 = .ok (.getfield 31, 3) := by decide +kernel
theorem dX2_pointsBeyond_4 : decode cX2_pointsBeyond 4 = .ok (.iload_n 1, 1) := by decide +kernel
theorem dX2_pointsBeyond_5 : decode cX2_pointsBeyond 5 = .ok (.invokevirtual 74, 3) := by decide +kernel
theorem dX2_pointsBeyond_8 : decode cX2_pointsBeyond 8 = .ok (.iconst 2, 1) := by decide +kernel
theorem dX2_pointsBeyond_9 : decode cX2_pointsBeyond 9 = .ok (.irem, 1) := by decide +kernel
theorem dX2_pointsBeyond_10 : decode cX2_pointsBeyond 10 = .ok (.iconst 1, 1) := by decide +kernel
theorem dX2_pointsBeyond_11 : decode cX2_pointsBeyond 11 = .ok (.if_icmp .ne 5, 3) := by decide +kernel
theorem dX2_pointsBeyond_14 : decode cX2_pointsBeyond 14 = .ok (.iconst 1, 1) := by decide +kernel
theorem dX2_pointsBeyond_15 : decode cX2_pointsBeyond 15 = .ok (.ireturn, 1) := by decide +kernel
theorem dX2_pointsBeyond_16 : decode cX2_pointsBeyond 16 = .ok (.aload_n 0, 1) := by decide +kernel
theorem dX2_pointsBeyond_17 : decode cX2_pointsBeyond 17 = .ok (.aload_n 0, 1) := by decide +kernel
theorem dX2_pointsBeyond_18 : decode cX2_pointsBeyond 18 = .ok (.getfield 31, 3) := by decide +kernel
theorem dX2_pointsBeyond_21 : decode cX2_pointsBeyond 21 = .ok (.iload_n 1, 1) := by decide +kernel
theorem dX2_pointsBeyond_22 : decode cX2_pointsBeyond 22 = .ok (.invokevirtual 90, 3) := by decide +kernel
theorem dX2_pointsBeyond_25 : decode cX2_pointsBeyond 25 = .ok (.invokevirtual 87, 3) := by decide +kernel
theorem dX2_pointsBeyond_28 : decode cX2_pointsBeyond 28 = .ok (.iconst 1, 1) := by decide +kernel
theorem dX2_pointsBeyond_29 : decode cX2_pointsBeyond 29 = .ok (.if_icmp .ne 7, 3) := by decide +kernel
theorem dX2_pointsBeyond_32 : decode cX2_pointsBeyond 32 = .ok (.iconst 2, 1) := by decide +kernel
theorem dX2_pointsBeyond_33 : decode cX2_pointsBeyond 33 = .ok (.goto 4, 3) := by decide +kernel
theorem dX2_pointsBeyond_36 : decode cX2_pointsBeyond 36 = .ok (.iconst 0, 1) := by decide +kernel
theorem dX2_pointsBeyond_37 : decode cX2_pointsBeyond 37 = .ok (.ireturn, 1) := by decide +kernel
theorem dX2_pointsOf_0 : decode cX2_pointsOf 0 = .ok (.aload_n 0, 1) := by decide +kernel
theorem dX2_pointsOf_1 : decode cX2_pointsOf 1 = .ok (.getfield 22, 3) := by decide +kernel
theorem dX2_pointsOf_4 : decode cX2_pointsOf 4 = .ok (.aload_n 0, 1) := by decide +kernel
theorem dX2_pointsOf_5 : decode cX2_pointsOf 5 = .ok (.iload_n 1, 1) := by decide +kernel
theorem dX2_pointsOf_6 : decode cX2_pointsOf 6 = .ok (.invokevirtual 93, 3) := by decide +kernel
theorem dX2_pointsOf_9 : decode cX2_pointsOf 9 = .ok (.iadd, 1) := by decide +kernel
theorem dX2_pointsOf_10 : decode cX2_pointsOf 10 = .ok (.aload_n 0, 1) := by decide +kernel
theorem dX2_pointsOf_11 : decode cX2_pointsOf 11 = .ok (.iload_n 1, 1) := by decide +kernel
theorem dX2_pointsOf_12 : decode cX2_pointsOf 12 = .ok (.invokevirtual 96, 3) := by decide +kernel
theorem dX2_pointsOf_15 : decode cX2_pointsOf 15 = .ok (.iadd, 1) := by decide +kernel
theorem dX2_pointsOf_16 : decode cX2_pointsOf 16 = .ok (.ireturn, 1) := by decide +kernel
theorem dX3_init_0 : decode cX3_init 0 = .ok (.aload_n 0, 1) := by decide +kernel
theorem dX3_init_1 : decode cX3_init 1 = .ok (.invokespecial 3, 3) := by decide +kernel
theorem dX3_init_4 : decode cX3_init 4 = .ok (.aload_n 0, 1) := by decide +kernel
theorem dX3_init_5 : decode cX3_init 5 = .ok (.iconst 3, 1) := by decide +kernel
theorem dX3_init_6 : decode cX3_init 6 = .ok (.putfield 9, 3) := by decide +kernel
theorem dX3_init_9 : decode cX3_init 9 = .ok (.return_, 1) := by decide +kernel
theorem dX3_begin_0 : decode cX3_begin 0 = .ok (.aload_n 0, 1) := by decide +kernel
theorem dX3_begin_1 : decode cX3_begin 1 = .ok (.iconst 2, 1) := by decide +kernel
theorem dX3_begin_2 : decode cX3_begin 2 = .ok (.iload_n 1, 1) := by decide +kernel
theorem dX3_begin_3 : decode cX3_begin 3 = .ok (.invokestatic 15, 3) := by decide +kernel
theorem dX3_begin_6 : decode cX3_begin 6 = .ok (.putfield 9, 3) := by decide +kernel
theorem dX3_begin_9 : decode cX3_begin 9 = .ok (.return_, 1) := by decide +kernel
theorem dX3_place_0 : decode cX3_place 0 = .ok (.iconst 1, 1) := by decide +kernel
theorem dX3_place_1 : decode cX3_place 1 = .ok (.istore_n 2, 1) := by decide +kernel
theorem dX3_place_2 : decode cX3_place 2 = .ok (.iconst 0, 1) := by decide +kernel
theorem dX3_place_3 : decode cX3_place 3 = .ok (.istore_n 3, 1) := by decide +kernel
theorem dX3_place_4 : decode cX3_place 4 = .ok (.iload_n 3, 1) := by decide +kernel
theorem dX3_place_5 : decode cX3_place 5 = .ok (.iload_n 1, 1) := by decide +kernel
theorem dX3_place_6 : decode cX3_place 6 = .ok (.if_icmp .ge 16, 3) := by decide +kernel
theorem dX3_place_9 : decode cX3_place 9 = .ok (.iload_n 2, 1) := by decide +kernel
theorem dX3_place_10 : decode cX3_place 10 = .ok (.aload_n 0, 1) := by decide +kernel
theorem dX3_place_11 : decode cX3_place 11 = .ok (.getfield 9, 3) := by decide +kernel
theorem dX3_place_14 : decode cX3_place 14 = .ok (.imul, 1) := by decide +kernel
theorem dX3_place_15 : decode cX3_place 15 = .ok (.istore_n 2, 1) := by decide +kernel
theorem dX3_place_16 : decode cX3_place 16 = .ok (.iinc 3 1, 3) := by decide +kernel
theorem dX3_place_19 : decode cX3_place 19 = .ok (.goto (-15), 3) := by decide +kernel
theorem dX3_place_22 : decode cX3_place 22 = .ok (.iload_n 2, 1) := by decide +kernel
theorem dX3_place_23 : decode cX3_place 23 = .ok (.ireturn, 1) := by decide +kernel
theorem dX3_coefficient_0 : decode cX3_coefficient 0 = .ok (.iload_n 1, 1) := by decide +kernel
theorem dX3_coefficient_1 : decode cX3_coefficient 1 = .ok (.istore_n 3, 1) := by decide +kernel
theorem dX3_coefficient_2 : decode cX3_coefficient 2 = .ok (.iconst 0, 1) := by decide +kernel
theorem dX3_coefficient_3 : decode cX3_coefficient 3 = .ok (.istore 4, 2) := by decide +kernel
theorem dX3_coefficient_5 : decode cX3_coefficient 5 = .ok (.iload 4, 2) := by decide +kernel
theorem dX3_coefficient_7 : decode cX3_coefficient 7 = .ok (.iload_n 2, 1) := by decide +kernel
theorem dX3_coefficient_8 : decode cX3_coefficient 8 = .ok (.if_icmp .ge 16, 3) := by decide +kernel
theorem dX3_coefficient_11 : decode cX3_coefficient 11 = .ok (.iload_n 3, 1) := by decide +kernel
theorem dX3_coefficient_12 : decode cX3_coefficient 12 = .ok (.aload_n 0, 1) := by decide +kernel
theorem dX3_coefficient_13 : decode cX3_coefficient 13 = .ok (.getfield 9, 3) := by decide +kernel
theorem dX3_coefficient_16 : decode cX3_coefficient 16 = .ok (.idiv, 1) := by decide +kernel
theorem dX3_coefficient_17 : decode cX3_coefficient 17 = .ok (.istore_n 3, 1) := by decide +kernel
theorem dX3_coefficient_18 : decode cX3_coefficient 18 = .ok (.iinc 4 1, 3) := by decide +kernel
theorem dX3_coefficient_21 : decode cX3_coefficient 21 = .ok (.goto (-16), 3) := by decide +kernel
theorem dX3_coefficient_24 : decode cX3_coefficient 24 = .ok (.iload_n 3, 1) := by decide +kernel
theorem dX3_coefficient_25 : decode cX3_coefficient 25 = .ok (.aload_n 0, 1) := by decide +kernel
theorem dX3_coefficient_26 : decode cX3_coefficient 26 = .ok (.getfield 9, 3) := by decide +kernel
theorem dX3_coefficient_29 : decode cX3_coefficient 29 = .ok (.irem, 1) := by decide +kernel
theorem dX3_coefficient_30 : decode cX3_coefficient 30 = .ok (.ireturn, 1) := by decide +kernel
theorem dX3_degree_0 : decode cX3_degree 0 = .ok (.iconst 0, 1) := by decide +kernel
theorem dX3_degree_1 : decode cX3_degree 1 = .ok (.istore_n 2, 1) := by decide +kernel
theorem dX3_degree_2 : decode cX3_degree 2 = .ok (.iload_n 1, 1) := by decide +kernel
theorem dX3_degree_3 : decode cX3_degree 3 = .ok (.aload_n 0, 1) := by decide +kernel
theorem dX3_degree_4 : decode cX3_degree 4 = .ok (.getfield 9, 3) := by decide +kernel
theorem dX3_degree_7 : decode cX3_degree 7 = .ok (.idiv, 1) := by decide +kernel
theorem dX3_degree_8 : decode cX3_degree 8 = .ok (.istore_n 3, 1) := by decide +kernel
theorem dX3_degree_9 : decode cX3_degree 9 = .ok (.iload_n 3, 1) := by decide +kernel
theorem dX3_degree_10 : decode cX3_degree 10 = .ok (.ifCond .le 22, 3) := by decide +kernel
theorem dX3_degree_13 : decode cX3_degree 13 = .ok (.iload_n 2, 1) := by decide +kernel
theorem dX3_degree_14 : decode cX3_degree 14 = .ok (.bipush 20, 2) := by decide +kernel
theorem dX3_degree_16 : decode cX3_degree 16 = .ok (.if_icmp .ge 16, 3) := by decide +kernel
theorem dX3_degree_19 : decode cX3_degree 19 = .ok (.iinc 2 1, 3) := by decide +kernel
theorem dX3_degree_22 : decode cX3_degree 22 = .ok (.iload_n 3, 1) := by decide +kernel
theorem dX3_degree_23 : decode cX3_degree 23 = .ok (.aload_n 0, 1) := by decide +kernel
theorem dX3_degree_24 : decode cX3_degree 24 = .ok (.getfield 9, 3) := by decide +kernel
theorem dX3_degree_27 : decode cX3_degree 27 = .ok (.idiv, 1) := by decide +kernel
theorem dX3_degree_28 : decode cX3_degree 28 = .ok (.istore_n 3, 1) := by decide +kernel
theorem dX3_degree_29 : decode cX3_degree 29 = .ok (.goto (-20), 3) := by decide +kernel
theorem dX3_degree_32 : decode cX3_degree 32 = .ok (.iload_n 2, 1) := by decide +kernel
theorem dX3_degree_33 : decode cX3_degree 33 = .ok (.ireturn, 1) := by decide +kernel
theorem dX3_lead_0 : decode cX3_lead 0 = .ok (.iload_n 1, 1) := by decide +kernel
theorem dX3_lead_1 : decode cX3_lead 1 = .ok (.istore_n 2, 1) := by decide +kernel
theorem dX3_lead_2 : decode cX3_lead 2 = .ok (.iconst 0, 1) := by decide +kernel
theorem dX3_lead_3 : decode cX3_lead 3 = .ok (.istore_n 3, 1) := by decide +kernel
theorem dX3_lead_4 : decode cX3_lead 4 = .ok (.iload_n 3, 1) := by decide +kernel
theorem dX3_lead_5 : decode cX3_lead 5 = .ok (.bipush 20, 2) := by decide +kernel
theorem dX3_lead_7 : decode cX3_lead 7 = .ok (.if_icmp .ge 24, 3) := by decide +kernel
theorem dX3_lead_10 : decode cX3_lead 10 = .ok (.iload_n 2, 1) := by decide +kernel
theorem dX3_lead_11 : decode cX3_lead 11 = .ok (.aload_n 0, 1) := by decide +kernel
theorem dX3_lead_12 : decode cX3_lead 12 = .ok (.getfield 9, 3) := by decide +kernel
theorem dX3_lead_15 : decode cX3_lead 15 = .ok (.if_icmp .lt 16, 3) := by decide +kernel
theorem dX3_lead_18 : decode cX3_lead 18 = .ok (.iload_n 2, 1) := by decide +kernel
theorem dX3_lead_19 : decode cX3_lead 19 = .ok (.aload_n 0, 1) := by decide +kernel
theorem dX3_lead_20 : decode cX3_lead 20 = .ok (.getfield 9, 3) := by decide +kernel
theorem dX3_lead_23 : decode cX3_lead 23 = .ok (.idiv, 1) := by decide +kernel
theorem dX3_lead_24 : decode cX3_lead 24 = .ok (.istore_n 2, 1) := by decide +kernel
theorem dX3_lead_25 : decode cX3_lead 25 = .ok (.iinc 3 1, 3) := by decide +kernel
theorem dX3_lead_28 : decode cX3_lead 28 = .ok (.goto (-24), 3) := by decide +kernel
theorem dX3_lead_31 : decode cX3_lead 31 = .ok (.iload_n 2, 1) := by decide +kernel
theorem dX3_lead_32 : decode cX3_lead 32 = .ok (.ireturn, 1) := by decide +kernel
theorem dX3_sum_0 : decode cX3_sum 0 = .ok (.iload_n 1, 1) := by decide +kernel
theorem dX3_sum_1 : decode cX3_sum 1 = .ok (.istore_n 3, 1) := by decide +kernel
theorem dX3_sum_2 : decode cX3_sum 2 = .ok (.iload_n 2, 1) := by decide +kernel
theorem dX3_sum_3 : decode cX3_sum 3 = .ok (.istore 4, 2) := by decide +kernel
theorem dX3_sum_5 : decode cX3_sum 5 = .ok (.iconst 1, 1) := by decide +kernel
theorem dX3_sum_6 : decode cX3_sum 6 = .ok (.istore 5, 2) := by decide +kernel
theorem dX3_sum_8 : decode cX3_sum 8 = .ok (.iconst 0, 1) := by decide +kernel
theorem dX3_sum_9 : decode cX3_sum 9 = .ok (.istore 6, 2) := by decide +kernel
theorem dX3_sum_11 : decode cX3_sum 11 = .ok (.iconst 0, 1) := by decide +kernel
theorem dX3_sum_12 : decode cX3_sum 12 = .ok (.istore 7, 2) := by decide +kernel
theorem dX3_sum_14 : decode cX3_sum 14 = .ok (.iload 7, 2) := by decide +kernel
theorem dX3_sum_16 : decode cX3_sum 16 = .ok (.bipush 20, 2) := by decide +kernel
theorem dX3_sum_18 : decode cX3_sum 18 = .ok (.if_icmp .ge 70, 3) := by decide +kernel
theorem dX3_sum_21 : decode cX3_sum 21 = .ok (.iload_n 3, 1) := by decide +kernel
theorem dX3_sum_22 : decode cX3_sum 22 = .ok (.ifCond .le 66, 3) := by decide +kernel
theorem dX3_sum_25 : decode cX3_sum 25 = .ok (.iload 4, 2) := by decide +kernel
theorem dX3_sum_27 : decode cX3_sum 27 = .ok (.ifCond .le 61, 3) := by decide +kernel
theorem dX3_sum_30 : decode cX3_sum 30 = .ok (.iload 6, 2) := by decide +kernel
theorem dX3_sum_32 : decode cX3_sum 32 = .ok (.iload_n 3, 1) := by decide +kernel
theorem dX3_sum_33 : decode cX3_sum 33 = .ok (.aload_n 0, 1) := by decide +kernel
theorem dX3_sum_34 : decode cX3_sum 34 = .ok (.getfield 9, 3) := by decide +kernel
theorem dX3_sum_37 : decode cX3_sum 37 = .ok (.irem, 1) := by decide +kernel
theorem dX3_sum_38 : decode cX3_sum 38 = .ok (.iload 4, 2) := by decide +kernel
theorem dX3_sum_40 : decode cX3_sum 40 = .ok (.aload_n 0, 1) := by decide +kernel
theorem dX3_sum_41 : decode cX3_sum 41 = .ok (.getfield 9, 3) := by decide +kernel
theorem dX3_sum_44 : decode cX3_sum 44 = .ok (.irem, 1) := by decide +kernel
theorem dX3_sum_45 : decode cX3_sum 45 = .ok (.iadd, 1) := by decide +kernel
theorem dX3_sum_46 : decode cX3_sum 46 = .ok (.aload_n 0, 1) := by decide +kernel
theorem dX3_sum_47 : decode cX3_sum 47 = .ok (.getfield 9, 3) := by decide +kernel
theorem dX3_sum_50 : decode cX3_sum 50 = .ok (.irem, 1) := by decide +kernel
theorem dX3_sum_51 : decode cX3_sum 51 = .ok (.iload 5, 2) := by decide +kernel
theorem dX3_sum_53 : decode cX3_sum 53 = .ok (.imul, 1) := by decide +kernel
theorem dX3_sum_54 : decode cX3_sum 54 = .ok (.iadd, 1) := by decide +kernel
theorem dX3_sum_55 : decode cX3_sum 55 = .ok (.istore 6, 2) := by decide +kernel
theorem dX3_sum_57 : decode cX3_sum 57 = .ok (.iload_n 3, 1) := by decide +kernel
theorem dX3_sum_58 : decode cX3_sum 58 = .ok (.aload_n 0, 1) := by decide +kernel
theorem dX3_sum_59 : decode cX3_sum 59 = .ok (.getfield 9, 3) := by decide +kernel
theorem dX3_sum_62 : decode cX3_sum 62 = .ok (.idiv, 1) := by decide +kernel
theorem dX3_sum_63 : decode cX3_sum 63 = .ok (.istore_n 3, 1) := by decide +kernel
theorem dX3_sum_64 : decode cX3_sum 64 = .ok (.iload 4, 2) := by decide +kernel
theorem dX3_sum_66 : decode cX3_sum 66 = .ok (.aload_n 0, 1) := by decide +kernel
theorem dX3_sum_67 : decode cX3_sum 67 = .ok (.getfield 9, 3) := by decide +kernel
theorem dX3_sum_70 : decode cX3_sum 70 = .ok (.idiv, 1) := by decide +kernel
theorem dX3_sum_71 : decode cX3_sum 71 = .ok (.istore 4, 2) := by decide +kernel
theorem dX3_sum_73 : decode cX3_sum 73 = .ok (.iload 5, 2) := by decide +kernel
theorem dX3_sum_75 : decode cX3_sum 75 = .ok (.aload_n 0, 1) := by decide +kernel
theorem dX3_sum_76 : decode cX3_sum 76 = .ok (.getfield 9, 3) := by decide +kernel
theorem dX3_sum_79 : decode cX3_sum 79 = .ok (.imul, 1) := by decide +kernel
theorem dX3_sum_80 : decode cX3_sum 80 = .ok (.istore 5, 2) := by decide +kernel
theorem dX3_sum_82 : decode cX3_sum 82 = .ok (.iinc 7 1, 3) := by decide +kernel
theorem dX3_sum_85 : decode cX3_sum 85 = .ok (.goto (-71), 3) := by decide +kernel
theorem dX3_sum_88 : decode cX3_sum 88 = .ok (.iload 6, 2) := by decide +kernel
theorem dX3_sum_90 : decode cX3_sum 90 = .ok (.iload_n 3, 1) := by decide +kernel
theorem dX3_sum_91 : decode cX3_sum 91 = .ok (.iload 4, 2) := by decide +kernel
theorem dX3_sum_93 : decode cX3_sum 93 = .ok (.iadd, 1) := by decide +kernel
theorem dX3_sum_94 : decode cX3_sum 94 = .ok (.iload 5, 2) := by decide +kernel
theorem dX3_sum_96 : decode cX3_sum 96 = .ok (.imul, 1) := by decide +kernel
theorem dX3_sum_97 : decode cX3_sum 97 = .ok (.iadd, 1) := by decide +kernel
theorem dX3_sum_98 : decode cX3_sum 98 = .ok (.ireturn, 1) := by decide +kernel
theorem dX3_difference_0 : decode cX3_difference 0 = .ok (.iload_n 1, 1) := by decide +kernel
theorem dX3_difference_1 : decode cX3_difference 1 = .ok (.istore_n 3, 1) := by decide +kernel
theorem dX3_difference_2 : decode cX3_difference 2 = .ok (.iload_n 2, 1) := by decide +kernel
theorem dX3_difference_3 : decode cX3_difference 3 = .ok (.istore 4, 2) := by decide +kernel
theorem dX3_difference_5 : decode cX3_difference 5 = .ok (.iconst 1, 1) := by decide +kernel
theorem dX3_difference_6 : decode cX3_difference 6 = .ok (.istore 5, 2) := by decide +kernel
theorem dX3_difference_8 : decode cX3_difference 8 = .ok (.iconst 0, 1) := by decide +kernel
theorem dX3_difference_9 : decode cX3_difference 9 = .ok (.istore 6, 2) := by decide +kernel
theorem dX3_difference_11 : decode cX3_difference 11 = .ok (.iconst 0, 1) := by decide +kernel
theorem dX3_difference_12 : decode cX3_difference 12 = .ok (.istore 7, 2) := by decide +kernel
theorem dX3_difference_14 : decode cX3_difference 14 = .ok (.iload 7, 2) := by decide +kernel
theorem dX3_difference_16 : decode cX3_difference 16 = .ok (.bipush 20, 2) := by decide +kernel
theorem dX3_difference_18 : decode cX3_difference 18 = .ok (.if_icmp .ge 71, 3) := by decide +kernel
theorem dX3_difference_21 : decode cX3_difference 21 = .ok (.iload 4, 2) := by decide +kernel
theorem dX3_difference_23 : decode cX3_difference 23 = .ok (.ifCond .le 66, 3) := by decide +kernel
theorem dX3_difference_26 : decode cX3_difference 26 = .ok (.iload 6, 2) := by decide +kernel
theorem dX3_difference_28 : decode cX3_difference 28 = .ok (.iload_n 3, 1) := by decide +kernel
theorem dX3_difference_29 : decode cX3_difference 29 = .ok (.aload_n 0, 1) := by decide +kernel
theorem dX3_difference_30 : decode cX3_difference 30 = .ok (.getfield 9, 3) := by decide +kernel
theorem dX3_difference_33 : decode cX3_difference 33 = .ok (.irem, 1) := by decide +kernel
theorem dX3_difference_34 : decode cX3_difference 34 = .ok (.aload_n 0, 1) := by decide +kernel
theorem dX3_difference_35 : decode cX3_difference 35 = .ok (.getfield 9, 3) := by decide +kernel
theorem dX3_difference_38 : decode cX3_difference 38 = .ok (.iadd, 1) := by decide +kernel
theorem dX3_difference_39 : decode cX3_difference 39 = .ok (.iload 4, 2) := by decide +kernel
theorem dX3_difference_41 : decode cX3_difference 41 = .ok (.aload_n 0, 1) := by decide +kernel
theorem dX3_difference_42 : decode cX3_difference 42 = .ok (.getfield 9, 3) := by decide +kernel
theorem dX3_difference_45 : decode cX3_difference 45 = .ok (.irem, 1) := by decide +kernel
theorem dX3_difference_46 : decode cX3_difference 46 = .ok (.isub, 1) := by decide +kernel
theorem dX3_difference_47 : decode cX3_difference 47 = .ok (.aload_n 0, 1) := by decide +kernel
