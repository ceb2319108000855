theorem dX7_at_0 : decode cX7_at 0 = .ok (.iload_n 1, 1) := by decide +kernel
theorem dX7_at_1 : decode cX7_at 1 = .ok (.ifCond .lt 15, 3) := by decide +kernel
theorem dX7_at_4 : decode cX7_at 4 = .ok (.iload_n 1, 1) := by decide +kernel
theorem dX7_at_5 : decode cX7_at 5 = .ok (.aload_n 0, 1) := by decide +kernel
theorem dX7_at_6 : decode cX7_at 6 = .ok (.arraylength, 1) := by decide +kernel
theorem dX7_at_7 : decode cX7_at 7 = .ok (.if_icmp .ge 9, 3) := by decide +kernel
theorem dX7_at_10 : decode cX7_at 10 = .ok (.aload_n 0, 1) := by decide +kernel
theorem dX7_at_11 : decode cX7_at 11 = .ok (.iload_n 1, 1) := by decide +kernel
theorem dX7_at_12 : decode cX7_at 12 = .ok (.iaload, 1) := by decide +kernel
theorem dX7_at_13 : decode cX7_at 13 = .ok (.goto 4, 3) := by decide +kernel
theorem dX7_at_16 : decode cX7_at 16 = .ok (.iconst 0, 1) := by decide +kernel
theorem dX7_at_17 : decode cX7_at 17 = .ok (.ireturn, 1) := by decide +kernel
theorem dX7_at__0 : decode cX7_at_ 0 = .ok (.iload_n 1, 1) := by decide +kernel
theorem dX7_at__1 : decode cX7_at_ 1 = .ok (.ifCond .lt 15, 3) := by decide +kernel
theorem dX7_at__4 : decode cX7_at_ 4 = .ok (.iload_n 1, 1) := by decide +kernel
theorem dX7_at__5 : decode cX7_at_ 5 = .ok (.aload_n 0, 1) := by decide +kernel
theorem dX7_at__6 : decode cX7_at_ 6 = .ok (.arraylength, 1) := by decide +kernel
theorem dX7_at__7 : decode cX7_at_ 7 = .ok (.if_icmp .ge 9, 3) := by decide +kernel
theorem dX7_at__10 : decode cX7_at_ 10 = .ok (.aload_n 0, 1) := by decide +kernel
theorem dX7_at__11 : decode cX7_at_ 11 = .ok (.iload_n 1, 1) := by decide +kernel
theorem dX7_at__12 : decode cX7_at_ 12 = .ok (.laload, 1) := by decide +kernel
theorem dX7_at__13 : decode cX7_at_ 13 = .ok (.goto 4, 3) := by decide +kernel
theorem dX7_at__16 : decode cX7_at_ 16 = .ok (.lconst 0, 1) := by decide +kernel
theorem dX7_at__17 : decode cX7_at_ 17 = .ok (.lreturn, 1) := by decide +kernel
theorem dX7_put_0 : decode cX7_put 0 = .ok (.iload_n 1, 1) := by decide +kernel
theorem dX7_put_1 : decode cX7_put 1 = .ok (.ifCond .lt 13, 3) := by decide +kernel
theorem dX7_put_4 : decode cX7_put 4 = .ok (.iload_n 1, 1) := by decide +kernel
theorem dX7_put_5 : decode cX7_put 5 = .ok (.aload_n 0, 1) := by decide +kernel
theorem dX7_put_6 : decode cX7_put 6 = .ok (.arraylength, 1) := by decide +kernel
theorem dX7_put_7 : decode cX7_put 7 = .ok (.if_icmp .ge 7, 3) := by decide +kernel
theorem dX7_put_10 : decode cX7_put 10 = .ok (.aload_n 0, 1) := by decide +kernel
theorem dX7_put_11 : decode cX7_put 11 = .ok (.iload_n 1, 1) := by decide +kernel
theorem dX7_put_12 : decode cX7_put 12 = .ok (.iload_n 2, 1) := by decide +kernel
theorem dX7_put_13 : decode cX7_put 13 = .ok (.iastore, 1) := by decide +kernel
theorem dX7_put_14 : decode cX7_put 14 = .ok (.return_, 1) := by decide +kernel
theorem dX7_put__0 : decode cX7_put_ 0 = .ok (.iload_n 1, 1) := by decide +kernel
theorem dX7_put__1 : decode cX7_put_ 1 = .ok (.ifCond .lt 13, 3) := by decide +kernel
theorem dX7_put__4 : decode cX7_put_ 4 = .ok (.iload_n 1, 1) := by decide +kernel
theorem dX7_put__5 : decode cX7_put_ 5 = .ok (.aload_n 0, 1) := by decide +kernel
theorem dX7_put__6 : decode cX7_put_ 6 = .ok (.arraylength, 1) := by decide +kernel
theorem dX7_put__7 : decode cX7_put_ 7 = .ok (.if_icmp .ge 7, 3) := by decide +kernel
theorem dX7_put__10 : decode cX7_put_ 10 = .ok (.aload_n 0, 1) := by decide +kernel
theorem dX7_put__11 : decode cX7_put_ 11 = .ok (.iload_n 1, 1) := by decide +kernel
theorem dX7_put__12 : decode cX7_put_ 12 = .ok (.lload_n 2, 1) := by decide +kernel
theorem dX7_put__13 : decode cX7_put_ 13 = .ok (.lastore, 1) := by decide +kernel
theorem dX7_put__14 : decode cX7_put_ 14 = .ok (.return_, 1) := by decide +kernel
theorem dX7_fill_0 : decode cX7_fill 0 = .ok (.aload_n 1, 1) := by decide +kernel
theorem dX7_fill_1 : decode cX7_fill 1 = .ok (.iconst 0, 1) := by decide +kernel
theorem dX7_fill_2 : decode cX7_fill 2 = .ok (.aload_n 0, 1) := by decide +kernel
theorem dX7_fill_3 : decode cX7_fill 3 = .ok (.iconst 0, 1) := by decide +kernel
theorem dX7_fill_4 : decode cX7_fill 4 = .ok (.aload_n 1, 1) := by decide +kernel
theorem dX7_fill_5 : decode cX7_fill 5 = .ok (.arraylength, 1) := by decide +kernel
theorem dX7_fill_6 : decode cX7_fill 6 = .ok (.aload_n 0, 1) := by decide +kernel
theorem dX7_fill_7 : decode cX7_fill 7 = .ok (.arraylength, 1) := by decide +kernel
theorem dX7_fill_8 : decode cX7_fill 8 = .ok (.invokestatic 7, 3) := by decide +kernel
theorem dX7_fill_11 : decode cX7_fill 11 = .ok (.invokestatic 13, 3) := by decide +kernel
theorem dX7_fill_14 : decode cX7_fill 14 = .ok (.return_, 1) := by decide +kernel
theorem dX7_quotient_0 : decode cX7_quotient 0 = .ok (.lload_n 2, 1) := by decide +kernel
theorem dX7_quotient_1 : decode cX7_quotient 1 = .ok (.lconst 0, 1) := by decide +kernel
theorem dX7_quotient_2 : decode cX7_quotient 2 = .ok (.lcmp, 1) := by decide +kernel
theorem dX7_quotient_3 : decode cX7_quotient 3 = .ok (.ifCond .ne 7, 3) := by decide +kernel
theorem dX7_quotient_6 : decode cX7_quotient 6 = .ok (.lconst 0, 1) := by decide +kernel
theorem dX7_quotient_7 : decode cX7_quotient 7 = .ok (.goto 6, 3) := by decide +kernel
theorem dX7_quotient_10 : decode cX7_quotient 10 = .ok (.lload_n 0, 1) := by decide +kernel
theorem dX7_quotient_11 : decode cX7_quotient 11 = .ok (.lload_n 2, 1) := by decide +kernel
theorem dX7_quotient_12 : decode cX7_quotient 12 = .ok (.ldiv, 1) := by decide +kernel
theorem dX7_quotient_13 : decode cX7_quotient 13 = .ok (.lreturn, 1) := by decide +kernel
theorem dX7_divides_0 : decode cX7_divides 0 = .ok (.lload_n 0, 1) := by decide +kernel
theorem dX7_divides_1 : decode cX7_divides 1 = .ok (.lconst 0, 1) := by decide +kernel
theorem dX7_divides_2 : decode cX7_divides 2 = .ok (.lcmp, 1) := by decide +kernel
theorem dX7_divides_3 : decode cX7_divides 3 = .ok (.ifCond .eq 15, 3) := by decide +kernel
theorem dX7_divides_6 : decode cX7_divides 6 = .ok (.lload_n 2, 1) := by decide +kernel
theorem dX7_divides_7 : decode cX7_divides 7 = .ok (.lload_n 0, 1) := by decide +kernel
theorem dX7_divides_8 : decode cX7_divides 8 = .ok (.lrem, 1) := by decide +kernel
theorem dX7_divides_9 : decode cX7_divides 9 = .ok (.lconst 0, 1) := by decide +kernel
theorem dX7_divides_10 : decode cX7_divides 10 = .ok (.lcmp, 1) := by decide +kernel
theorem dX7_divides_11 : decode cX7_divides 11 = .ok (.ifCond .ne 7, 3) := by decide +kernel
theorem dX7_divides_14 : decode cX7_divides 14 = .ok (.iconst 1, 1) := by decide +kernel
theorem dX7_divides_15 : decode cX7_divides 15 = .ok (.goto 4, 3) := by decide +kernel
theorem dX7_divides_18 : decode cX7_divides 18 = .ok (.iconst 0, 1) := by decide +kernel
theorem dX7_divides_19 : decode cX7_divides 19 = .ok (.ireturn, 1) := by decide +kernel
theorem dX7_greatestCommon_0 : decode cX7_greatestCommon 0 = .ok (.lload_n 0, 1) := by decide +kernel
theorem dX7_greatestCommon_1 : decode cX7_greatestCommon 1 = .ok (.lstore 4, 2) := by decide +kernel
theorem dX7_greatestCommon_3 : decode cX7_greatestCommon 3 = .ok (.lload_n 2, 1) := by decide +kernel
theorem dX7_greatestCommon_4 : decode cX7_greatestCommon 4 = .ok (.lstore 6, 2) := by decide +kernel
theorem dX7_greatestCommon_6 : decode cX7_greatestCommon 6 = .ok (.iconst 0, 1) := by decide +kernel
theorem dX7_greatestCommon_7 : decode cX7_greatestCommon 7 = .ok (.istore 8, 2) := by decide +kernel
theorem dX7_greatestCommon_9 : decode cX7_greatestCommon 9 = .ok (.iload 8, 2) := by decide +kernel
theorem dX7_greatestCommon_11 : decode cX7_greatestCommon 11 = .ok (.sipush 200, 3) := by decide +kernel
theorem dX7_greatestCommon_14 : decode cX7_greatestCommon 14 = .ok (.if_icmp .ge 31, 3) := by decide +kernel
theorem dX7_greatestCommon_17 : decode cX7_greatestCommon 17 = .ok (.lload 6, 2) := by decide +kernel
theorem dX7_greatestCommon_19 : decode cX7_greatestCommon 19 = .ok (.lconst 0, 1) := by decide +kernel
theorem dX7_greatestCommon_20 : decode cX7_greatestCommon 20 = .ok (.lcmp, 1) := by decide +kernel
theorem dX7_greatestCommon_21 : decode cX7_greatestCommon 21 = .ok (.ifCond .eq 24, 3) := by decide +kernel
theorem dX7_greatestCommon_24 : decode cX7_greatestCommon 24 = .ok (.lload 4, 2) := by decide +kernel
theorem dX7_greatestCommon_26 : decode cX7_greatestCommon 26 = .ok (.lload 6, 2) := by decide +kernel
theorem dX7_greatestCommon_28 : decode cX7_greatestCommon 28 = .ok (.lrem, 1) := by decide +kernel
theorem dX7_greatestCommon_29 : decode cX7_greatestCommon 29 = .ok (.lstore 9, 2) := by decide +kernel
theorem dX7_greatestCommon_31 : decode cX7_greatestCommon 31 = .ok (.lload 6, 2) := by decide +kernel
theorem dX7_greatestCommon_33 : decode cX7_greatestCommon 33 = .ok (.lstore 4, 2) := by decide +kernel
theorem dX7_greatestCommon_35 : decode cX7_greatestCommon 35 = .ok (.lload 9, 2) := by decide +kernel
theorem dX7_greatestCommon_37 : decode cX7_greatestCommon 37 = .ok (.lstore 6, 2) := by decide +kernel
theorem dX7_greatestCommon_39 : decode cX7_greatestCommon 39 = .ok (.iinc 8 1, 3) := by decide +kernel
theorem dX7_greatestCommon_42 : decode cX7_greatestCommon 42 = .ok (.goto (-33), 3) := by decide +kernel
theorem dX7_greatestCommon_45 : decode cX7_greatestCommon 45 = .ok (.lload 4, 2) := by decide +kernel
theorem dX7_greatestCommon_47 : decode cX7_greatestCommon 47 = .ok (.lreturn, 1) := by decide +kernel
theorem dX7_leastCommon_0 : decode cX7_leastCommon 0 = .ok (.lload_n 0, 1) := by decide +kernel
theorem dX7_leastCommon_1 : decode cX7_leastCommon 1 = .ok (.lload_n 0, 1) := by decide +kernel
theorem dX7_leastCommon_2 : decode cX7_leastCommon 2 = .ok (.lload_n 2, 1) := by decide +kernel
theorem dX7_leastCommon_3 : decode cX7_leastCommon 3 = .ok (.invokestatic 21, 3) := by decide +kernel
theorem dX7_leastCommon_6 : decode cX7_leastCommon 6 = .ok (.invokestatic 25, 3) := by decide +kernel
theorem dX7_leastCommon_9 : decode cX7_leastCommon 9 = .ok (.lload_n 2, 1) := by decide +kernel
theorem dX7_leastCommon_10 : decode cX7_leastCommon 10 = .ok (.lmul, 1) := by decide +kernel
theorem dX7_leastCommon_11 : decode cX7_leastCommon 11 = .ok (.lreturn, 1) := by decide +kernel
theorem dJ6_bitCount_0f7a4_0 : decode cJ6_bitCount_0f7a4 0 = .ok (.iload_n 0, 1) := by decide +kernel
theorem dJ6_bitCount_0f7a4_1 : decode cJ6_bitCount_0f7a4 1 = .ok (.iload_n 0, 1) := by decide +kernel
theorem dJ6_bitCount_0f7a4_2 : decode cJ6_bitCount_0f7a4 2 = .ok (.iconst 1, 1) := by decide +kernel
theorem dJ6_bitCount_0f7a4_3 : decode cJ6_bitCount_0f7a4 3 = .ok (.iushr, 1) := by decide +kernel
theorem dJ6_bitCount_0f7a4_4 : decode cJ6_bitCount_0f7a4 4 = .ok (.ldc_w 265, 3) := by decide +kernel
theorem dJ6_bitCount_0f7a4_7 : decode cJ6_bitCount_0f7a4 7 = .ok (.iand, 1) := by decide +kernel
theorem dJ6_bitCount_0f7a4_8 : decode cJ6_bitCount_0f7a4 8 = .ok (.isub, 1) := by decide +kernel
theorem dJ6_bitCount_0f7a4_9 : decode cJ6_bitCount_0f7a4 9 = .ok (.istore_n 0, 1) := by decide +kernel
theorem dJ6_bitCount_0f7a4_10 : decode cJ6_bitCount_0f7a4 10 = .ok (.iload_n 0, 1) := by decide +kernel
theorem dJ6_bitCount_0f7a4_11 : decode cJ6_bitCount_0f7a4 11 = .ok (.ldc_w 266, 3) := by decide +kernel
theorem dJ6_bitCount_0f7a4_14 : decode cJ6_bitCount_0f7a4 14 = .ok (.iand, 1) := by decide +kernel
theorem dJ6_bitCount_0f7a4_15 : decode cJ6_bitCount_0f7a4 15 = .ok (.iload_n 0, 1) := by decide +kernel
theorem dJ6_bitCount_0f7a4_16 : decode cJ6_bitCount_0f7a4 16 = .ok (.iconst 2, 1) := by decide +kernel
theorem dJ6_bitCount_0f7a4_17 : decode cJ6_bitCount_0f7a4 17 = .ok (.iushr, 1) := by decide +kernel
theorem dJ6_bitCount_0f7a4_18 : decode cJ6_bitCount_0f7a4 18 = .ok (.ldc_w 266, 3) := by decide +kernel
theorem dJ6_bitCount_0f7a4_21 : decode cJ6_bitCount_0f7a4 21 = .ok (.iand, 1) := by decide +kernel
theorem dJ6_bitCount_0f7a4_22 : decode cJ6_bitCount_0f7a4 22 = .ok (.iadd, 1) := by decide +kernel
theorem dJ6_bitCount_0f7a4_23 : decode cJ6_bitCount_0f7a4 23 = .ok (.istore_n 0, 1) := by decide +kernel
theorem dJ6_bitCount_0f7a4_24 : decode cJ6_bitCount_0f7a4 24 = .ok (.iload_n 0, 1) := by decide +kernel
theorem dJ6_bitCount_0f7a4_25 : decode cJ6_bitCount_0f7a4 25 = .ok (.iload_n 0, 1) := by decide +kernel
theorem dJ6_bitCount_0f7a4_26 : decode cJ6_bitCount_0f7a4 26 = .ok (.iconst 4, 1) := by decide +kernel
theorem dJ6_bitCount_0f7a4_27 : decode cJ6_bitCount_0f7a4 27 = .ok (.iushr, 1) := by decide +kernel
theorem dJ6_bitCount_0f7a4_28 : decode cJ6_bitCount_0f7a4 28 = .ok (.iadd, 1) := by decide +kernel
theorem dJ6_bitCount_0f7a4_29 : decode cJ6_bitCount_0f7a4 29 = .ok (.ldc_w 267, 3) := by decide +kernel
theorem dJ6_bitCount_0f7a4_32 : decode cJ6_bitCount_0f7a4 32 = .ok (.iand, 1) := by decide +kernel
theorem dJ6_bitCount_0f7a4_33 : decode cJ6_bitCount_0f7a4 33 = .ok (.istore_n 0, 1) := by decide +kernel
theorem dJ6_bitCount_0f7a4_34 : decode cJ6_bitCount_0f7a4 34 = .ok (.iload_n 0, 1) := by decide +kernel
theorem dJ6_bitCount_0f7a4_35 : decode cJ6_bitCount_0f7a4 35 = .ok (.iload_n 0, 1) := by decide +kernel
theorem dJ6_bitCount_0f7a4_36 : decode cJ6_bitCount_0f7a4 36 = .ok (.bipush 8, 2) := by decide +kernel
theorem dJ6_bitCount_0f7a4_38 : decode cJ6_bitCount_0f7a4 38 = .ok (.iushr, 1) := by decide +kernel
theorem dJ6_bitCount_0f7a4_39 : decode cJ6_bitCount_0f7a4 39 = .ok (.iadd, 1) := by decide +kernel
theorem dJ6_bitCount_0f7a4_40 : decode cJ6_bitCount_0f7a4 40 = .ok (.istore_n 0, 1) := by decide +kernel
theorem dJ6_bitCount_0f7a4_41 : decode cJ6_bitCount_0f7a4 41 = .ok (.iload_n 0, 1) := by decide +kernel
theorem dJ6_bitCount_0f7a4_42 : decode cJ6_bitCount_0f7a4 42 = .ok (.iload_n 0, 1) := by decide +kernel
theorem dJ6_bitCount_0f7a4_43 : decode cJ6_bitCount_0f7a4 43 = .ok (.bipush 16, 2) := by decide +kernel
theorem dJ6_bitCount_0f7a4_45 : decode cJ6_bitCount_0f7a4 45 = .ok (.iushr, 1) := by decide +kernel
theorem dJ6_bitCount_0f7a4_46 : decode cJ6_bitCount_0f7a4 46 = .ok (.iadd, 1) := by decide +kernel
theorem dJ6_bitCount_0f7a4_47 : decode cJ6_bitCount_0f7a4 47 = .ok (.istore_n 0, 1) := by decide +kernel
theorem dJ6_bitCount_0f7a4_48 : decode cJ6_bitCount_0f7a4 48 = .ok (.iload_n 0, 1) := by decide +kernel
theorem dJ6_bitCount_0f7a4_49 : decode cJ6_bitCount_0f7a4 49 = .ok (.bipush 63, 2) := by decide +kernel
theorem dJ6_bitCount_0f7a4_51 : decode cJ6_bitCount_0f7a4 51 = .ok (.iand, 1) := by decide +kernel
theorem dJ6_bitCount_0f7a4_52 : decode cJ6_bitCount_0f7a4 52 = .ok (.ireturn, 1) := by decide +kernel
theorem dX6_meetEvery_0 : decode cX6_meetEvery 0 = .ok (.aload_n 0, 1) := by decide +kernel
theorem dX6_meetEvery_1 : decode cX6_meetEvery 1 = .ok (.getfield 9, 3) := by decide +kernel
theorem dX6_meetEvery_4 : decode cX6_meetEvery 4 = .ok (.iconst 0, 1) := by decide +kernel
theorem dX6_meetEvery_5 : decode cX6_meetEvery 5 = .ok (.lload_n 1, 1) := by decide +kernel
theorem dX6_meetEvery_6 : decode cX6_meetEvery 6 = .ok (.invokestatic 15, 3) := by decide +kernel
theorem dX6_meetEvery_9 : decode cX6_meetEvery 9 = .ok (.aload_n 0, 1) := by decide +kernel
theorem dX6_meetEvery_10 : decode cX6_meetEvery 10 = .ok (.iconst 1, 1) := by decide +kernel
theorem dX6_meetEvery_11 : decode cX6_meetEvery 11 = .ok (.putfield 21, 3) := by decide +kernel
theorem dX6_meetEvery_14 : decode cX6_meetEvery 14 = .ok (.aload_n 0, 1) := by decide +kernel
theorem dX6_meetEvery_15 : decode cX6_meetEvery 15 = .ok (.lload_n 1, 1) := by decide +kernel
theorem dX6_meetEvery_16 : decode cX6_meetEvery 16 = .ok (.putfield 25, 3) := by decide +kernel
theorem dX6_meetEvery_19 : decode cX6_meetEvery 19 = .ok (.return_, 1) := by decide +kernel
theorem dX6_meetTwoOfThree_0 : decode cX6_meetTwoOfThree 0 = .ok (.aload_n 0, 1) := by decide +kernel
theorem dX6_meetTwoOfThree_1 : decode cX6_meetTwoOfThree 1 = .ok (.getfield 9, 3) := by decide +kernel
theorem dX6_meetTwoOfThree_4 : decode cX6_meetTwoOfThree 4 = .ok (.iconst 0, 1) := by decide +kernel
theorem dX6_meetTwoOfThree_5 : decode cX6_meetTwoOfThree 5 = .ok (.iload_n 1, 1) := by decide +kernel
theorem dX6_meetTwoOfThree_6 : decode cX6_meetTwoOfThree 6 = .ok (.i2l, 1) := by decide +kernel
theorem dX6_meetTwoOfThree_7 : decode cX6_meetTwoOfThree 7 = .ok (.iload_n 2, 1) := by decide +kernel
theorem dX6_meetTwoOfThree_8 : decode cX6_meetTwoOfThree 8 = .ok (.i2l, 1) := by decide +kernel
theorem dX6_meetTwoOfThree_9 : decode cX6_meetTwoOfThree 9 = .ok (.invokestatic 29, 3) := by decide +kernel
theorem dX6_meetTwoOfThree_12 : decode cX6_meetTwoOfThree 12 = .ok (.invokestatic 15, 3) := by decide +kernel
theorem dX6_meetTwoOfThree_15 : decode cX6_meetTwoOfThree 15 = .ok (.aload_n 0, 1) := by decide +kernel
theorem dX6_meetTwoOfThree_16 : decode cX6_meetTwoOfThree 16 = .ok (.getfield 9, 3) := by decide +kernel
theorem dX6_meetTwoOfThree_19 : decode cX6_meetTwoOfThree 19 = .ok (.iconst 1, 1) := by decide +kernel
theorem dX6_meetTwoOfThree_20 : decode cX6_meetTwoOfThree 20 = .ok (.iload_n 1, 1) := by decide +kernel
theorem dX6_meetTwoOfThree_21 : decode cX6_meetTwoOfThree 21 = .ok (.i2l, 1) := by decide +kernel
theorem dX6_meetTwoOfThree_22 : decode cX6_meetTwoOfThree 22 = .ok (.iload_n 3, 1) := by decide +kernel
theorem dX6_meetTwoOfThree_23 : decode cX6_meetTwoOfThree 23 = .ok (.i2l, 1) := by decide +kernel
theorem dX6_meetTwoOfThree_24 : decode cX6_meetTwoOfThree 24 = .ok (.invokestatic 29, 3) := by decide +kernel
theorem dX6_meetTwoOfThree_27 : decode cX6_meetTwoOfThree 27 = .ok (.invokestatic 15, 3) := by decide +kernel
theorem dX6_meetTwoOfThree_30 : decode cX6_meetTwoOfThree 30 = .ok (.aload_n 0, 1) := by decide +kernel
theorem dX6_meetTwoOfThree_31 : decode cX6_meetTwoOfThree 31 = .ok (.getfield 9, 3) := by decide +kernel
theorem dX6_meetTwoOfThree_34 : decode cX6_meetTwoOfThree 34 = .ok (.iconst 2, 1) := by decide +kernel
theorem dX6_meetTwoOfThree_35 : decode cX6_meetTwoOfThree 35 = .ok (.iload_n 2, 1) := by decide +kernel
theorem dX6_meetTwoOfThree_36 : decode cX6_meetTwoOfThree 36 = .ok (.i2l, 1) := by decide +kernel
theorem dX6_meetTwoOfThree_37 : decode cX6_meetTwoOfThree 37 = .ok (.iload_n 3, 1) := by decide +kernel
theorem dX6_meetTwoOfThree_38 : decode cX6_meetTwoOfThree 38 = .ok (.i2l, 1) := by decide +kernel
theorem dX6_meetTwoOfThree_39 : decode cX6_meetTwoOfThree 39 = .ok (.invokestatic 29, 3) := by decide +kernel
theorem dX6_meetTwoOfThree_42 : decode cX6_meetTwoOfThree 42 = .ok (.invokestatic 15, 3) := by decide +kernel
theorem dX6_meetTwoOfThree_45 : decode cX6_meetTwoOfThree 45 = .ok (.aload_n 0, 1) := by decide +kernel
theorem dX6_meetTwoOfThree_46 : decode cX6_meetTwoOfThree 46 = .ok (.iconst 3, 1) := by decide +kernel
theorem dX6_meetTwoOfThree_47 : decode cX6_meetTwoOfThree 47 = .ok (.putfield 21, 3) := by decide +kernel
theorem dX6_meetTwoOfThree_50 : decode cX6_meetTwoOfThree 50 = .ok (.aload_n 0, 1) := by decide +kernel
theorem dX6_meetTwoOfThree_51 : decode cX6_meetTwoOfThree 51 = .ok (.aload_n 0, 1) := by decide +kernel
theorem dX6_meetTwoOfThree_52 : decode cX6_meetTwoOfThree 52 = .ok (.getfield 9, 3) := by decide +kernel
theorem dX6_meetTwoOfThree_55 : decode cX6_meetTwoOfThree 55 = .ok (.iconst 0, 1) := by decide +kernel
theorem dX6_meetTwoOfThree_56 : decode cX6_meetTwoOfThree 56 = .ok (.invokestatic 33, 3) := by decide +kernel
theorem dX6_meetTwoOfThree_59 : decode cX6_meetTwoOfThree 59 = .ok (.iload_n 3, 1) := by decide +kernel
theorem dX6_meetTwoOfThree_60 : decode cX6_meetTwoOfThree 60 = .ok (.i2l, 1) := by decide +kernel
theorem dX6_meetTwoOfThree_61 : decode cX6_meetTwoOfThree 61 = .ok (.invokestatic 29, 3) := by decide +kernel
theorem dX6_meetTwoOfThree_64 : decode cX6_meetTwoOfThree 64 = .ok (.putfield 25, 3) := by decide +kernel
theorem dX6_meetTwoOfThree_67 : decode cX6_meetTwoOfThree 67 = .ok (.return_, 1) := by decide +kernel
theorem dX6_howManyTo_0 : decode cX6_howManyTo 0 = .ok (.lconst 0, 1) := by decide +kernel
theorem dX6_howManyTo_1 : decode cX6_howManyTo 1 = .ok (.lstore_n 3, 1) := by decide +kernel
theorem dX6_howManyTo_2 : decode cX6_howManyTo 2 = .ok (.iconst 0, 1) := by decide +kernel
theorem dX6_howManyTo_3 : decode cX6_howManyTo 3 = .ok (.istore 5, 2) := by decide +kernel
theorem dX6_howManyTo_5 : decode cX6_howManyTo 5 = .ok (.iload 5, 2) := by decide +kernel
theorem dX6_howManyTo_7 : decode cX6_howManyTo 7 = .ok (.aload_n 0, 1) := by decide +kernel
theorem dX6_howManyTo_8 : decode cX6_howManyTo 8 = .ok (.getfield 21, 3) := by decide +kernel
theorem dX6_howManyTo_11 : decode cX6_howManyTo 11 = .ok (.if_icmp .ge 25, 3) := by decide +kernel
theorem dX6_howManyTo_14 : decode cX6_howManyTo 14 = .ok (.lload_n 3, 1) := by decide +kernel
theorem dX6_howManyTo_15 : decode cX6_howManyTo 15 = .ok (.lload_n 1, 1) := by decide +kernel
theorem dX6_howManyTo_16 : decode cX6_howManyTo 16 = .ok (.aload_n 0, 1) := by decide +kernel
theorem dX6_howManyTo_17 : decode cX6_howManyTo 17 = .ok (.getfield 9, 3) := by decide +kernel
theorem dX6_howManyTo_20 : decode cX6_howManyTo 20 = .ok (.iload 5, 2) := by decide +kernel
theorem dX6_howManyTo_22 : decode cX6_howManyTo 22 = .ok (.invokestatic 33, 3) := by decide +kernel
theorem dX6_howManyTo_25 : decode cX6_howManyTo 25 = .ok (.invokestatic 37, 3) := by decide +kernel
theorem dX6_howManyTo_28 : decode cX6_howManyTo 28 = .ok (.ladd, 1) := by decide +kernel
theorem dX6_howManyTo_29 : decode cX6_howManyTo 29 = .ok (.lstore_n 3, 1) := by decide +kernel
theorem dX6_howManyTo_30 : decode cX6_howManyTo 30 = .ok (.iinc 5 1, 3) := by decide +kernel
theorem dX6_howManyTo_33 : decode cX6_howManyTo 33 = .ok (.goto (-28), 3) := by decide +kernel
theorem dX6_howManyTo_36 : decode cX6_howManyTo 36 = .ok (.lload_n 3, 1) := by decide +kernel
theorem dX6_howManyTo_37 : decode cX6_howManyTo 37 = .ok (.aload_n 0, 1) := by decide +kernel
theorem dX6_howManyTo_38 : decode cX6_howManyTo 38 = .ok (.getfield 21, 3) := by decide +kernel
theorem dX6_howManyTo_41 : decode cX6_howManyTo 41 = .ok (.iconst 1, 1) := by decide +kernel
theorem dX6_howManyTo_42 : decode cX6_howManyTo 42 = .ok (.isub, 1) := by decide +kernel
theorem dX6_howManyTo_43 : decode cX6_howManyTo 43 = .ok (.i2l, 1) := by decide +kernel
theorem dX6_howManyTo_44 : decode cX6_howManyTo 44 = .ok (.lload_n 1, 1) := by decide +kernel
theorem dX6_howManyTo_45 : decode cX6_howManyTo 45 = .ok (.aload_n 0, 1) := by decide +kernel
theorem dX6_howManyTo_46 : decode cX6_howManyTo 46 = .ok (.getfield 25, 3) := by decide +kernel
theorem dX6_howManyTo_49 : decode cX6_howManyTo 49 = .ok (.invokestatic 37, 3) := by decide +kernel
theorem dX6_howManyTo_52 : decode cX6_howManyTo 52 = .ok (.lmul, 1) := by decide +kernel
theorem dX6_howManyTo_53 : decode cX6_howManyTo 53 = .ok (.lsub, 1) := by decide +kernel
theorem dX6_howManyTo_54 : decode cX6_howManyTo 54 = .ok (.lreturn, 1) := by decide +kernel
theorem dX6_lastTo_0 : decode cX6_lastTo 0 = .ok (.lconst 0, 1) := by decide +kernel
theorem dX6_lastTo_1 : decode cX6_lastTo 1 = .ok (.lstore_n 3, 1) := by decide +kernel
theorem dX6_lastTo_2 : decode cX6_lastTo 2 = .ok (.iconst 0, 1) := by decide +kernel
theorem dX6_lastTo_3 : decode cX6_lastTo 3 = .ok (.istore 5, 2) := by decide +kernel
theorem dX6_lastTo_5 : decode cX6_lastTo 5 = .ok (.iload 5, 2) := by decide +kernel
theorem dX6_lastTo_7 : decode cX6_lastTo 7 = .ok (.aload_n 0, 1) := by decide +kernel
theorem dX6_lastTo_8 : decode cX6_lastTo 8 = .ok (.getfield 21, 3) := by decide +kernel
theorem dX6_lastTo_11 : decode cX6_lastTo 11 = .ok (.if_icmp .ge 34, 3) := by decide +kernel
theorem dX6_lastTo_14 : decode cX6_lastTo 14 = .ok (.aload_n 0, 1) := by decide +kernel
theorem dX6_lastTo_15 : decode cX6_lastTo 15 = .ok (.getfield 9, 3) := by decide +kernel
theorem dX6_lastTo_18 : decode cX6_lastTo 18 = .ok (.iload 5, 2) := by decide +kernel
theorem dX6_lastTo_20 : decode cX6_lastTo 20 = .ok (.invokestatic 33, 3) := by decide +kernel
theorem dX6_lastTo_23 : decode cX6_lastTo 23 = .ok (.lstore 6, 2) := by decide +kernel
theorem dX6_lastTo_25 : decode cX6_lastTo 25 = .ok (.lload_n 3, 1) := by decide +kernel
theorem dX6_lastTo_26 : decode cX6_lastTo 26 = .ok (.lload_n 1, 1) := by decide +kernel
theorem dX6_lastTo_27 : decode cX6_lastTo 27 = .ok (.lload 6, 2) := by decide +kernel
theorem dX6_lastTo_29 : decode cX6_lastTo 29 = .ok (.invokestatic 37, 3) := by decide +kernel
theorem dX6_lastTo_32 : decode cX6_lastTo 32 = .ok (.lload 6, 2) := by decide +kernel
theorem dX6_lastTo_34 : decode cX6_lastTo 34 = .ok (.lmul, 1) := by decide +kernel
theorem dX6_lastTo_35 : decode cX6_lastTo 35 = .ok (.invokestatic 40, 3) := by decide +kernel
theorem dX6_lastTo_38 : decode cX6_lastTo 38 = .ok (.lstore_n 3, 1) := by decide +kernel
theorem dX6_lastTo_39 : decode cX6_lastTo 39 = .ok (.iinc 5 1, 3) := by decide +kernel
theorem dX6_lastTo_42 : decode cX6_lastTo 42 = .ok (.goto (-37), 3) := by decide +kernel
theorem dX6_lastTo_45 : decode cX6_lastTo 45 = .ok (.lload_n 3, 1) := by decide +kernel
theorem dX6_lastTo_46 : decode cX6_lastTo 46 = .ok (.lreturn, 1) := by decide +kernel
theorem dX6_firstFrom_0 : decode cX6_firstFrom 0 = .ok (.ldc2_w 45, 3) := by decide +kernel
theorem dX6_firstFrom_3 : decode cX6_firstFrom 3 = .ok (.lstore_n 3, 1) := by decide +kernel
theorem dX6_firstFrom_4 : decode cX6_firstFrom 4 = .ok (.iconst 0, 1) := by decide +kernel
theorem dX6_firstFrom_5 : decode cX6_firstFrom 5 = .ok (.istore 5, 2) := by decide +kernel
theorem dX6_firstFrom_7 : decode cX6_firstFrom 7 = .ok (.iload 5, 2) := by decide +kernel
theorem dX6_firstFrom_9 : decode cX6_firstFrom 9 = .ok (.aload_n 0, 1) := by decide +kernel
theorem dX6_firstFrom_10 : decode cX6_firstFrom 10 = .ok (.getfield 21, 3) := by decide +kernel
theorem dX6_firstFrom_13 : decode cX6_firstFrom 13 = .ok (.if_icmp .ge 39, 3) := by decide +kernel
theorem dX6_firstFrom_16 : decode cX6_firstFrom 16 = .ok (.aload_n 0, 1) := by decide +kernel
theorem dX6_firstFrom_17 : decode cX6_firstFrom 17 = .ok (.getfield 9, 3) := by decide +kernel
theorem dX6_firstFrom_20 : decode cX6_firstFrom 20 = .ok (.iload 5, 2) := by decide +kernel
theorem dX6_firstFrom_22 : decode cX6_firstFrom 22 = .ok (.invokestatic 33, 3) := by decide +kernel
theorem dX6_firstFrom_25 : decode cX6_firstFrom 25 = .ok (.lstore 6, 2) := by decide +kernel
theorem dX6_firstFrom_27 : decode cX6_firstFrom 27 = .ok (.lload_n 3, 1) := by decide +kernel
theorem dX6_firstFrom_28 : decode cX6_firstFrom 28 = .ok (.lload_n 1, 1) := by decide +kernel
theorem dX6_firstFrom_29 : decode cX6_firstFrom 29 = .ok (.lload 6, 2) := by decide +kernel
theorem dX6_firstFrom_31 : decode cX6_firstFrom 31 = .ok (.ladd, 1) := by decide +kernel
theorem dX6_firstFrom_32 : decode cX6_firstFrom 32 = .ok (.lconst 1, 1) := by decide +kernel
theorem dX6_firstFrom_33 : decode cX6_firstFrom 33 = .ok (.lsub, 1) := by decide +kernel
theorem dX6_firstFrom_34 : decode cX6_firstFrom 34 = .ok (.lload 6, 2) := by decide +kernel
theorem dX6_firstFrom_36 : decode cX6_firstFrom 36 = .ok (.invokestatic 37, 3) := by decide +kernel
theorem dX6_firstFrom_39 : decode cX6_firstFrom 39 = .ok (.lload 6, 2) := by decide +kernel
theorem dX6_firstFrom_41 : decode cX6_firstFrom 41 = .ok (.lmul, 1) := by decide +kernel
theorem dX6_firstFrom_42 : decode cX6_firstFrom 42 = .ok (.invokestatic 47, 3) := by decide +kernel
theorem dX6_firstFrom_45 : decode cX6_firstFrom 45 = .ok (.lstore_n 3, 1) := by decide +kernel
theorem dX6_firstFrom_46 : decode cX6_firstFrom 46 = .ok (.iinc 5 1, 3) := by decide +kernel
theorem dX6_firstFrom_49 : decode cX6_firstFrom 49 = .ok (.goto (-42), 3) := by decide +kernel
theorem dX6_firstFrom_52 : decode cX6_firstFrom 52 = .ok (.lload_n 3, 1) := by decide +kernel
theorem dX6_firstFrom_53 : decode cX6_firstFrom 53 = .ok (.lreturn, 1) := by decide +kernel
theorem dX6_areMetAt_0 : decode cX6_areMetAt 0 = .ok (.lload_n 1, 1) := by decide +kernel
theorem dX6_areMetAt_1 : decode cX6_areMetAt 1 = .ok (.lconst 0, 1) := by decide +kernel
theorem dX6_areMetAt_2 : decode cX6_areMetAt 2 = .ok (.lcmp, 1) := by decide +kernel
theorem dX6_areMetAt_3 : decode cX6_areMetAt 3 = .ok (.ifCond .le 17, 3) := by decide +kernel
theorem dX6_areMetAt_6 : decode cX6_areMetAt 6 = .ok (.aload_n 0, 1) := by decide +kernel
theorem dX6_areMetAt_7 : decode cX6_areMetAt 7 = .ok (.lload_n 1, 1) := by decide +kernel
theorem dX6_areMetAt_8 : decode cX6_areMetAt 8 = .ok (.invokevirtual 50, 3) := by decide +kernel
theorem dX6_areMetAt_11 : decode cX6_areMetAt 11 = .ok (.lload_n 1, 1) := by decide +kernel
theorem dX6_areMetAt_12 : decode cX6_areMetAt 12 = .ok (.lcmp, 1) := by decide +kernel
theorem dX6_areMetAt_13 : decode cX6_areMetAt 13 = .ok (.ifCond .ne 7, 3) := by decide +kernel
theorem dX6_areMetAt_16 : decode cX6_areMetAt 16 = .ok (.iconst 1, 1) := by decide +kernel
theorem dX6_areMetAt_17 : decode cX6_areMetAt 17 = .ok (.goto 4, 3) := by decide +kernel
theorem dX6_areMetAt_20 : decode cX6_areMetAt 20 = .ok (.iconst 0, 1) := by decide +kernel
theorem dX6_areMetAt_21 : decode cX6_areMetAt 21 = .ok (.ireturn, 1) := by decide +kernel
theorem dX6_nth_0 : decode cX6_nth 0 = .ok (.lconst 1, 1) := by decide +kernel
theorem dX6_nth_1 : decode cX6_nth 1 = .ok (.lstore_n 2, 1) := by decide +kernel
theorem dX6_nth_2 : decode cX6_nth 2 = .ok (.ldc2_w 45, 3) := by decide +kernel
theorem dX6_nth_5 : decode cX6_nth 5 = .ok (.lstore 4, 2) := by decide +kernel
theorem dX6_nth_7 : decode cX6_nth 7 = .ok (.iconst 0, 1) := by decide +kernel
theorem dX6_nth_8 : decode cX6_nth 8 = .ok (.istore 6, 2) := by decide +kernel
theorem dX6_nth_10 : decode cX6_nth 10 = .ok (.iload 6, 2) := by decide +kernel
theorem dX6_nth_12 : decode cX6_nth 12 = .ok (.aload_n 0, 1) := by decide +kernel
theorem dX6_nth_13 : decode cX6_nth 13 = .ok (.getfield 21, 3) := by decide +kernel
theorem dX6_nth_16 : decode cX6_nth 16 = .ok (.if_icmp .ge 28, 3) := by decide +kernel
theorem dX6_nth_19 : decode cX6_nth 19 = .ok (.lload 4, 2) := by decide +kernel
theorem dX6_nth_21 : decode cX6_nth 21 = .ok (.iload_n 1, 1) := by decide +kernel
theorem dX6_nth_22 : decode cX6_nth 22 = .ok (.i2l, 1) := by decide +kernel
theorem dX6_nth_23 : decode cX6_nth 23 = .ok (.aload_n 0, 1) := by decide +kernel
theorem dX6_nth_24 : decode cX6_nth 24 = .ok (.getfield 9, 3) := by decide +kernel
theorem dX6_nth_27 : decode cX6_nth 27 = .ok (.iload 6, 2) := by decide +kernel
theorem dX6_nth_29 : decode cX6_nth 29 = .ok (.invokestatic 33, 3) := by decide +kernel
theorem dX6_nth_32 : decode cX6_nth 32 = .ok (.lmul, 1) := by decide +kernel
theorem dX6_nth_33 : decode cX6_nth 33 = .ok (.invokestatic 47, 3) := by decide +kernel
theorem dX6_nth_36 : decode cX6_nth 36 = .ok (.lstore 4, 2) := by decide +kernel
theorem dX6_nth_38 : decode cX6_nth 38 = .ok (.iinc 6 1, 3) := by decide +kernel
theorem dX6_nth_41 : decode cX6_nth 41 = .ok (.goto (-31), 3) := by decide +kernel
theorem dX6_nth_44 : decode cX6_nth 44 = .ok (.iconst 0, 1) := by decide +kernel
theorem dX6_nth_45 : decode cX6_nth 45 = .ok (.istore 6, 2) := by decide +kernel
theorem dX6_nth_47 : decode cX6_nth 47 = .ok (.iload 6, 2) := by decide +kernel
theorem dX6_nth_49 : decode cX6_nth 49 = .ok (.bipush 64, 2) := by decide +kernel
theorem dX6_nth_51 : decode cX6_nth 51 = .ok (.if_icmp .ge 52, 3) := by decide +kernel
theorem dX6_nth_54 : decode cX6_nth 54 = .ok (.lload_n 2, 1) := by decide +kernel
theorem dX6_nth_55 : decode cX6_nth 55 = .ok (.lload 4, 2) := by decide +kernel
theorem dX6_nth_57 : decode cX6_nth 57 = .ok (.lcmp, 1) := by decide +kernel
theorem dX6_nth_58 : decode cX6_nth 58 = .ok (.ifCond .ge 45, 3) := by decide +kernel
theorem dX6_nth_61 : decode cX6_nth 61 = .ok (.lload_n 2, 1) := by decide +kernel
theorem dX6_nth_62 : decode cX6_nth 62 = .ok (.lload 4, 2) := by decide +kernel
theorem dX6_nth_64 : decode cX6_nth 64 = .ok (.lload_n 2, 1) := by decide +kernel
theorem dX6_nth_65 : decode cX6_nth 65 = .ok (.lsub, 1) := by decide +kernel
theorem dX6_nth_66 : decode cX6_nth 66 = .ok (.ldc2_w 54, 3) := by decide +kernel
theorem dX6_nth_69 : decode cX6_nth 69 = .ok (.ldiv, 1) := by decide +kernel
theorem dX6_nth_70 : decode cX6_nth 70 = .ok (.ladd, 1) := by decide +kernel
theorem dX6_nth_71 : decode cX6_nth 71 = .ok (.lstore 7, 2) := by decide +kernel
theorem dX6_nth_73 : decode cX6_nth 73 = .ok (.aload_n 0, 1) := by decide +kernel
theorem dX6_nth_74 : decode cX6_nth 74 = .ok (.lload 7, 2) := by decide +kernel
theorem dX6_nth_76 : decode cX6_nth 76 = .ok (.invokevirtual 56, 3) := by decide +kernel
theorem dX6_nth_79 : decode cX6_nth 79 = .ok (.iload_n 1, 1) := by decide +kernel
theorem dX6_nth_80 : decode cX6_nth 80 = .ok (.i2l, 1) := by decide +kernel
theorem dX6_nth_81 : decode cX6_nth 81 = .ok (.lcmp, 1) := by decide +kernel
theorem dX6_nth_82 : decode cX6_nth 82 = .ok (.ifCond .lt 10, 3) := by decide +kernel
theorem dX6_nth_85 : decode cX6_nth 85 = .ok (.lload 7, 2) := by decide +kernel
theorem dX6_nth_87 : decode cX6_nth 87 = .ok (.lstore 4, 2) := by decide +kernel
theorem dX6_nth_89 : decode cX6_nth 89 = .ok (.goto 8, 3) := by decide +kernel
theorem dX6_nth_92 : decode cX6_nth 92 = .ok (.lload 7, 2) := by decide +kernel
theorem dX6_nth_94 : decode cX6_nth 94 = .ok (.lconst 1, 1) := by decide +kernel
theorem dX6_nth_95 : decode cX6_nth 95 = .ok (.ladd, 1) := by decide +kernel
theorem dX6_nth_96 : decode cX6_nth 96 = .ok (.lstore_n 2, 1) := by decide +kernel
theorem dX6_nth_97 : decode cX6_nth 97 = .ok (.iinc 6 1, 3) := by decide +kernel
theorem dX6_nth_100 : decode cX6_nth 100 = .ok (.goto (-53), 3) := by decide +kernel
theorem dX6_nth_103 : decode cX6_nth 103 = .ok (.lload 4, 2) := by decide +kernel
theorem dX6_nth_105 : decode cX6_nth 105 = .ok (.lreturn, 1) := by decide +kernel
theorem dX1_add_0 : decode cX1_add 0 = .ok (.aload_n 0, 1) := by decide +kernel
theorem dX1_add_1 : decode cX1_add 1 = .ok (.getfield 9, 3) := by decide +kernel
theorem dX1_add_4 : decode cX1_add 4 = .ok (.aload_n 0, 1) := by decide +kernel
theorem dX1_add_5 : decode cX1_add 5 = .ok (.getfield 21, 3) := by decide +kernel
theorem dX1_add_8 : decode cX1_add 8 = .ok (.iload_n 1, 1) := by decide +kernel
theorem dX1_add_9 : decode cX1_add 9 = .ok (.invokestatic 25, 3) := by decide +kernel
theorem dX1_add_12 : decode cX1_add 12 = .ok (.aload_n 0, 1) := by decide +kernel
theorem dX1_add_13 : decode cX1_add 13 = .ok (.dup, 1) := by decide +kernel
theorem dX1_add_14 : decode cX1_add 14 = .ok (.getfield 21, 3) := by decide +kernel
theorem dX1_add_17 : decode cX1_add 17 = .ok (.dup_x1, 1) := by decide +kernel
theorem dX1_add_18 : decode cX1_add 18 = .ok (.iconst 1, 1) := by decide +kernel
theorem dX1_add_19 : decode cX1_add 19 = .ok (.iadd, 1) := by decide +kernel
theorem dX1_add_20 : decode cX1_add 20 = .ok (.putfield 21, 3) := by decide +kernel
theorem dX1_add_23 : decode cX1_add 23 = .ok (.ireturn, 1) := by decide +kernel
theorem dX1_everyone_0 : decode cX1_everyone 0 = .ok (.iconst 1, 1) := by decide +kernel
theorem dX1_everyone_1 : decode cX1_everyone 1 = .ok (.aload_n 0, 1) := by decide +kernel
theorem dX1_everyone_2 : decode cX1_everyone 2 = .ok (.getfield 21, 3) := by decide +kernel
theorem dX1_everyone_5 : decode cX1_everyone 5 = .ok (.ishl, 1) := by decide +kernel
theorem dX1_everyone_6 : decode cX1_everyone 6 = .ok (.iconst 1, 1) := by decide +kernel
theorem dX1_everyone_7 : decode cX1_everyone 7 = .ok (.isub, 1) := by decide +kernel
theorem dX1_everyone_8 : decode cX1_everyone 8 = .ok (.ireturn, 1) := by decide +kernel
theorem dX1_wantedBy_0 : decode cX1_wantedBy 0 = .ok (.iconst 0, 1) := by decide +kernel
theorem dX1_wantedBy_1 : decode cX1_wantedBy 1 = .ok (.istore_n 2, 1) := by decide +kernel
theorem dX1_wantedBy_2 : decode cX1_wantedBy 2 = .ok (.iconst 0, 1) := by decide +kernel
theorem dX1_wantedBy_3 : decode cX1_wantedBy 3 = .ok (.istore_n 3, 1) := by decide +kernel
theorem dX1_wantedBy_4 : decode cX1_wantedBy 4 = .ok (.iload_n 3, 1) := by decide +kernel
theorem dX1_wantedBy_5 : decode cX1_wantedBy 5 = .ok (.aload_n 0, 1) := by decide +kernel
theorem dX1_wantedBy_6 : decode cX1_wantedBy 6 = .ok (.getfield 21, 3) := by decide +kernel
theorem dX1_wantedBy_9 : decode cX1_wantedBy 9 = .ok (.if_icmp .ge 29, 3) := by decide +kernel
theorem dX1_wantedBy_12 : decode cX1_wantedBy 12 = .ok (.iload_n 1, 1) := by decide +kernel
theorem dX1_wantedBy_13 : decode cX1_wantedBy 13 = .ok (.iload_n 3, 1) := by decide +kernel
theorem dX1_wantedBy_14 : decode cX1_wantedBy 14 = .ok (.ishr, 1) := by decide +kernel
theorem dX1_wantedBy_15 : decode cX1_wantedBy 15 = .ok (.iconst 1, 1) := by decide +kernel
theorem dX1_wantedBy_16 : decode cX1_wantedBy 16 = .ok (.iand, 1) := by decide +kernel
theorem dX1_wantedBy_17 : decode cX1_wantedBy 17 = .ok (.iconst 1, 1) := by decide +kernel
theorem dX1_wantedBy_18 : decode cX1_wantedBy 18 = .ok (.if_icmp .ne 14, 3) := by decide +kernel
theorem dX1_wantedBy_21 : decode cX1_wantedBy 21 = .ok (.iload_n 2, 1) := by decide +kernel
theorem dX1_wantedBy_22 : decode cX1_wantedBy 22 = .ok (.aload_n 0, 1) := by decide +kernel
theorem dX1_wantedBy_23 : decode cX1_wantedBy 23 = .ok (.getfield 9, 3) := by decide +kernel
theorem dX1_wantedBy_26 : decode cX1_wantedBy 26 = .ok (.iload_n 3, 1) := by decide +kernel
theorem dX1_wantedBy_27 : decode cX1_wantedBy 27 = .ok (.invokestatic 29, 3) := by decide +kernel
theorem dX1_wantedBy_30 : decode cX1_wantedBy 30 = .ok (.iadd, 1) := by decide +kernel
theorem dX1_wantedBy_31 : decode cX1_wantedBy 31 = .ok (.istore_n 2, 1) := by decide +kernel
theorem dX1_wantedBy_32 : decode cX1_wantedBy 32 = .ok (.iinc 3 1, 3) := by decide +kernel
theorem dX1_wantedBy_35 : decode cX1_wantedBy 35 = .ok (.goto (-31), 3) := by decide +kernel
theorem dX1_wantedBy_38 : decode cX1_wantedBy 38 = .ok (.iload_n 2, 1) := by decide +kernel
theorem dX1_wantedBy_39 : decode cX1_wantedBy 39 = .ok (.ireturn, 1) := by decide +kernel
theorem dX1_becomeLike_0 : decode cX1_becomeLike 0 = .ok (.aload_n 0, 1) := by decide +kernel
theorem dX1_becomeLike_1 : decode cX1_becomeLike 1 = .ok (.getfield 9, 3) := by decide +kernel
theorem dX1_becomeLike_4 : decode cX1_becomeLike 4 = .ok (.aload_n 1, 1) := by decide +kernel
theorem dX1_becomeLike_5 : decode cX1_becomeLike 5 = .ok (.getfield 9, 3) := by decide +kernel
theorem dX1_becomeLike_8 : decode cX1_becomeLike 8 = .ok (.invokestatic 15, 3) := by decide +kernel
theorem dX1_becomeLike_11 : decode cX1_becomeLike 11 = .ok (.aload_n 0, 1) := by decide +kernel
theorem dX1_becomeLike_12 : decode cX1_becomeLike 12 = .ok (.aload_n 1, 1) := by decide +kernel
theorem dX1_becomeLike_13 : decode cX1_becomeLike 13 = .ok (.getfield 21, 3) := by decide +kernel
theorem dX1_becomeLike_16 : decode cX1_becomeLike 16 = .ok (.putfield 21, 3) := by decide +kernel
theorem dX1_becomeLike_19 : decode cX1_becomeLike 19 = .ok (.return_, 1) := by decide +kernel
theorem dX3_agree_0 : decode cX3_agree 0 = .ok (.iconst 4, 1) := by decide +kernel
theorem dX3_agree_1 : decode cX3_agree 1 = .ok (.iload_n 1, 1) := by decide +kernel
theorem dX3_agree_2 : decode cX3_agree 2 = .ok (.imul, 1) := by decide +kernel
theorem dX3_agree_3 : decode cX3_agree 3 = .ok (.iload_n 2, 1) := by decide +kernel
theorem dX3_agree_4 : decode cX3_agree 4 = .ok (.iadd, 1) := by decide +kernel
theorem dX3_agree_5 : decode cX3_agree 5 = .ok (.istore 5, 2) := by decide +kernel
theorem dX3_agree_7 : decode cX3_agree 7 = .ok (.bipush 100, 2) := by decide +kernel
theorem dX3_agree_9 : decode cX3_agree 9 = .ok (.aload_n 0, 1) := by decide +kernel
theorem dX3_agree_10 : decode cX3_agree 10 = .ok (.getfield 9, 3) := by decide +kernel
theorem dX3_agree_13 : decode cX3_agree 13 = .ok (.iload 5, 2) := by decide +kernel
theorem dX3_agree_15 : decode cX3_agree 15 = .ok (.invokestatic 28, 3) := by decide +kernel
theorem dX3_agree_18 : decode cX3_agree 18 = .ok (.imul, 1) := by decide +kernel
theorem dX3_agree_19 : decode cX3_agree 19 = .ok (.aload_n 0, 1) := by decide +kernel
theorem dX3_agree_20 : decode cX3_agree 20 = .ok (.getfield 15, 3) := by decide +kernel
theorem dX3_agree_23 : decode cX3_agree 23 = .ok (.iload 5, 2) := by decide +kernel
theorem dX3_agree_25 : decode cX3_agree 25 = .ok (.invokestatic 28, 3) := by decide +kernel
theorem dX3_agree_28 : decode cX3_agree 28 = .ok (.iadd, 1) := by decide +kernel
theorem dX3_agree_29 : decode cX3_agree 29 = .ok (.istore 6, 2) := by decide +kernel
theorem dX3_agree_31 : decode cX3_agree 31 = .ok (.aload_n 0, 1) := by decide +kernel
theorem dX3_agree_32 : decode cX3_agree 32 = .ok (.getfield 9, 3) := by decide +kernel
theorem dX3_agree_35 : decode cX3_agree 35 = .ok (.iload 5, 2) := by decide +kernel
theorem dX3_agree_37 : decode cX3_agree 37 = .ok (.iload_n 3, 1) := by decide +kernel
theorem dX3_agree_38 : decode cX3_agree 38 = .ok (.invokestatic 18, 3) := by decide +kernel
theorem dX3_agree_41 : decode cX3_agree 41 = .ok (.aload_n 0, 1) := by decide +kernel
theorem dX3_agree_42 : decode cX3_agree 42 = .ok (.getfield 15, 3) := by decide +kernel
theorem dX3_agree_45 : decode cX3_agree 45 = .ok (.iload 5, 2) := by decide +kernel
theorem dX3_agree_47 : decode cX3_agree 47 = .ok (.iload 4, 2) := by decide +kernel
theorem dX3_agree_49 : decode cX3_agree 49 = .ok (.invokestatic 18, 3) := by decide +kernel
theorem dX3_agree_52 : decode cX3_agree 52 = .ok (.iload 6, 2) := by decide +kernel
theorem dX3_agree_54 : decode cX3_agree 54 = .ok (.ireturn, 1) := by decide +kernel
theorem dX3_digit_0 : decode cX3_digit 0 = .ok (.iload_n 0, 1) := by decide +kernel
theorem dX3_digit_1 : decode cX3_digit 1 = .ok (.iconst 2, 1) := by decide +kernel
theorem dX3_digit_2 : decode cX3_digit 2 = .ok (.iload_n 1, 1) := by decide +kernel
theorem dX3_digit_3 : decode cX3_digit 3 = .ok (.iconst 1, 1) := by decide +kernel
theorem dX3_digit_4 : decode cX3_digit 4 = .ok (.isub, 1) := by decide +kernel
theorem dX3_digit_5 : decode cX3_digit 5 = .ok (.iload_n 2, 1) := by decide +kernel
theorem dX3_digit_6 : decode cX3_digit 6 = .ok (.isub, 1) := by decide +kernel
theorem dX3_digit_7 : decode cX3_digit 7 = .ok (.imul, 1) := by decide +kernel
theorem dX3_digit_8 : decode cX3_digit 8 = .ok (.ishr, 1) := by decide +kernel
theorem dX3_digit_9 : decode cX3_digit 9 = .ok (.iconst 3, 1) := by decide +kernel
theorem dX3_digit_10 : decode cX3_digit 10 = .ok (.iand, 1) := by decide +kernel
theorem dX3_digit_11 : decode cX3_digit 11 = .ok (.ireturn, 1) := by decide +kernel
theorem dX3_isRing_0 : decode cX3_isRing 0 = .ok (.iconst 0, 1) := by decide +kernel
theorem dX3_isRing_1 : decode cX3_isRing 1 = .ok (.istore_n 3, 1) := by decide +kernel
theorem dX3_isRing_2 : decode cX3_isRing 2 = .ok (.iconst 0, 1) := by decide +kernel
theorem dX3_isRing_3 : decode cX3_isRing 3 = .ok (.istore 4, 2) := by decide +kernel
theorem dX3_isRing_5 : decode cX3_isRing 5 = .ok (.iload 4, 2) := by decide +kernel
theorem dX3_isRing_7 : decode cX3_isRing 7 = .ok (.iload_n 2, 1) := by decide +kernel
theorem dX3_isRing_8 : decode cX3_isRing 8 = .ok (.if_icmp .ge 48, 3) := by decide +kernel
theorem dX3_isRing_11 : decode cX3_isRing 11 = .ok (.iload_n 1, 1) := by decide +kernel
theorem dX3_isRing_12 : decode cX3_isRing 12 = .ok (.iload_n 2, 1) := by decide +kernel
theorem dX3_isRing_13 : decode cX3_isRing 13 = .ok (.iload 4, 2) := by decide +kernel
theorem dX3_isRing_15 : decode cX3_isRing 15 = .ok (.invokestatic 32, 3) := by decide +kernel
theorem dX3_isRing_18 : decode cX3_isRing 18 = .ok (.istore 5, 2) := by decide +kernel
theorem dX3_isRing_20 : decode cX3_isRing 20 = .ok (.iload_n 3, 1) := by decide +kernel
theorem dX3_isRing_21 : decode cX3_isRing 21 = .ok (.iload 5, 2) := by decide +kernel
theorem dX3_isRing_23 : decode cX3_isRing 23 = .ok (.ishr, 1) := by decide +kernel
theorem dX3_isRing_24 : decode cX3_isRing 24 = .ok (.iconst 1, 1) := by decide +kernel
theorem dX3_isRing_25 : decode cX3_isRing 25 = .ok (.iand, 1) := by decide +kernel
theorem dX3_isRing_26 : decode cX3_isRing 26 = .ok (.iconst 1, 1) := by decide +kernel
theorem dX3_isRing_27 : decode cX3_isRing 27 = .ok (.if_icmp .eq 14, 3) := by decide +kernel
theorem dX3_isRing_30 : decode cX3_isRing 30 = .ok (.iload 5, 2) := by decide +kernel
theorem dX3_isRing_32 : decode cX3_isRing 32 = .ok (.iload_n 1, 1) := by decide +kernel
theorem dX3_isRing_33 : decode cX3_isRing 33 = .ok (.iload_n 2, 1) := by decide +kernel
theorem dX3_isRing_34 : decode cX3_isRing 34 = .ok (.iconst 0, 1) := by decide +kernel
theorem dX3_isRing_35 : decode cX3_isRing 35 = .ok (.invokestatic 32, 3) := by decide +kernel
theorem dX3_isRing_38 : decode cX3_isRing 38 = .ok (.if_icmp .ge 5, 3) := by decide +kernel
theorem dX3_isRing_41 : decode cX3_isRing 41 = .ok (.iconst 0, 1) := by decide +kernel
theorem dX3_isRing_42 : decode cX3_isRing 42 = .ok (.ireturn, 1) := by decide +kernel
theorem dX3_isRing_43 : decode cX3_isRing 43 = .ok (.iload_n 3, 1) := by decide +kernel
theorem dX3_isRing_44 : decode cX3_isRing 44 = .ok (.iconst 1, 1) := by decide +kernel
theorem dX3_isRing_45 : decode cX3_isRing 45 = .ok (.iload 5, 2) := by decide +kernel
theorem dX3_isRing_47 : decode cX3_isRing 47 = .ok (.ishl, 1) := by decide +kernel
theorem dX3_isRing_48 : decode cX3_isRing 48 = .ok (.ior, 1) := by decide +kernel
theorem dX3_isRing_49 : decode cX3_isRing 49 = .ok (.istore_n 3, 1) := by decide +kernel
theorem dX3_isRing_50 : decode cX3_isRing 50 = .ok (.iinc 4 1, 3) := by decide +kernel
theorem dX3_isRing_53 : decode cX3_isRing 53 = .ok (.goto (-48), 3) := by decide +kernel
theorem dX3_isRing_56 : decode cX3_isRing 56 = .ok (.iconst 1, 1) := by decide +kernel
theorem dX3_isRing_57 : decode cX3_isRing 57 = .ok (.ireturn, 1) := by decide +kernel
theorem dX3_gains_0 : decode cX3_gains 0 = .ok (.lconst 1, 1) := by decide +kernel
theorem dX3_gains_1 : decode cX3_gains 1 = .ok (.lstore_n 3, 1) := by decide +kernel
theorem dX3_gains_2 : decode cX3_gains 2 = .ok (.lconst 1, 1) := by decide +kernel
theorem dX3_gains_3 : decode cX3_gains 3 = .ok (.lstore 5, 2) := by decide +kernel
theorem dX3_gains_5 : decode cX3_gains 5 = .ok (.iload_n 1, 1) := by decide +kernel
theorem dX3_gains_6 : decode cX3_gains 6 = .ok (.iload_n 2, 1) := by decide +kernel
theorem dX3_gains_7 : decode cX3_gains 7 = .ok (.iload_n 2, 1) := by decide +kernel
theorem dX3_gains_8 : decode cX3_gains 8 = .ok (.iconst 1, 1) := by decide +kernel
theorem dX3_gains_9 : decode cX3_gains 9 = .ok (.isub, 1) := by decide +kernel
theorem dX3_gains_10 : decode cX3_gains 10 = .ok (.invokestatic 32, 3) := by decide +kernel
theorem dX3_gains_13 : decode cX3_gains 13 = .ok (.istore 7, 2) := by decide +kernel
theorem dX3_gains_15 : decode cX3_gains 15 = .ok (.iconst 0, 1) := by decide +kernel
theorem dX3_gains_16 : decode cX3_gains 16 = .ok (.istore 8, 2) := by decide +kernel
theorem dX3_gains_18 : decode cX3_gains 18 = .ok (.iload 8, 2) := by decide +kernel
theorem dX3_gains_20 : decode cX3_gains 20 = .ok (.iload_n 2, 1) := by decide +kernel
theorem dX3_gains_21 : decode cX3_gains 21 = .ok (.if_icmp .ge 60, 3) := by decide +kernel
theorem dX3_gains_24 : decode cX3_gains 24 = .ok (.iload_n 1, 1) := by decide +kernel
theorem dX3_gains_25 : decode cX3_gains 25 = .ok (.iload_n 2, 1) := by decide +kernel
theorem dX3_gains_26 : decode cX3_gains 26 = .ok (.iload 8, 2) := by decide +kernel
theorem dX3_gains_28 : decode cX3_gains 28 = .ok (.invokestatic 32, 3) := by decide +kernel
theorem dX3_gains_31 : decode cX3_gains 31 = .ok (.istore 9, 2) := by decide +kernel
theorem dX3_gains_33 : decode cX3_gains 33 = .ok (.lload_n 3, 1) := by decide +kernel
theorem dX3_gains_34 : decode cX3_gains 34 = .ok (.aload_n 0, 1) := by decide +kernel
theorem dX3_gains_35 : decode cX3_gains 35 = .ok (.getfield 9, 3) := by decide +kernel
theorem dX3_gains_38 : decode cX3_gains 38 = .ok (.iconst 4, 1) := by decide +kernel
theorem dX3_gains_39 : decode cX3_gains 39 = .ok (.iload 7, 2) := by decide +kernel
theorem dX3_gains_41 : decode cX3_gains 41 = .ok (.imul, 1) := by decide +kernel
theorem dX3_gains_42 : decode cX3_gains 42 = .ok (.iload 9, 2) := by decide +kernel
theorem dX3_gains_44 : decode cX3_gains 44 = .ok (.iadd, 1) := by decide +kernel
theorem dX3_gains_45 : decode cX3_gains 45 = .ok (.invokestatic 28, 3) := by decide +kernel
theorem dX3_gains_48 : decode cX3_gains 48 = .ok (.i2l, 1) := by decide +kernel
theorem dX3_gains_49 : decode cX3_gains 49 = .ok (.lmul, 1) := by decide +kernel
theorem dX3_gains_50 : decode cX3_gains 50 = .ok (.lstore_n 3, 1) := by decide +kernel
theorem dX3_gains_51 : decode cX3_gains 51 = .ok (.lload 5, 2) := by decide +kernel
theorem dX3_gains_53 : decode cX3_gains 53 = .ok (.aload_n 0, 1) := by decide +kernel
theorem dX3_gains_54 : decode cX3_gains 54 = .ok (.getfield 15, 3) := by decide +kernel
theorem dX3_gains_57 : decode cX3_gains 57 = .ok (.iconst 4, 1) := by decide +kernel
theorem dX3_gains_58 : decode cX3_gains 58 = .ok (.iload 7, 2) := by decide +kernel
theorem dX3_gains_60 : decode cX3_gains 60 = .ok (.imul, 1) := by decide +kernel
theorem dX3_gains_61 : decode cX3_gains 61 = .ok (.iload 9, 2) := by decide +kernel
theorem dX3_gains_63 : decode cX3_gains 63 = .ok (.iadd, 1) := by decide +kernel
theorem dX3_gains_64 : decode cX3_gains 64 = .ok (.invokestatic 28, 3) := by decide +kernel
theorem dX3_gains_67 : decode cX3_gains 67 = .ok (.i2l, 1) := by decide +kernel
theorem dX3_gains_68 : decode cX3_gains 68 = .ok (.lmul, 1) := by decide +kernel
theorem dX3_gains_69 : decode cX3_gains 69 = .ok (.lstore 5, 2) := by decide +kernel
theorem dX3_gains_71 : decode cX3_gains 71 = .ok (.iload 9, 2) := by decide +kernel
theorem dX3_gains_73 : decode cX3_gains 73 = .ok (.istore 7, 2) := by decide +kernel
theorem dX3_gains_75 : decode cX3_gains 75 = .ok (.iinc 8 1, 3) := by decide +kernel
theorem dX3_gains_78 : decode cX3_gains 78 = .ok (.goto (-60), 3) := by decide +kernel
theorem dX3_gains_81 : decode cX3_gains 81 = .ok (.lload_n 3, 1) := by decide +kernel
theorem dX3_gains_82 : decode cX3_gains 82 = .ok (.lload 5, 2) := by decide +kernel
theorem dX3_gains_84 : decode cX3_gains 84 = .ok (.lcmp, 1) := by decide +kernel
theorem dX3_gains_85 : decode cX3_gains 85 = .ok (.ifCond .le 7, 3) := by decide +kernel
theorem dX3_gains_88 : decode cX3_gains 88 = .ok (.iconst 1, 1) := by decide +kernel
theorem dX3_gains_89 : decode cX3_gains 89 = .ok (.goto 4, 3) := by decide +kernel
theorem dX3_gains_92 : decode cX3_gains 92 = .ok (.iconst 0, 1) := by decide +kernel
theorem dX3_gains_93 : decode cX3_gains 93 = .ok (.ireturn, 1) := by decide +kernel
theorem dX3_named_0 : decode cX3_named 0 = .ok (.iconst 0, 1) := by decide +kernel
theorem dX3_named_1 : decode cX3_named 1 = .ok (.istore_n 3, 1) := by decide +kernel
theorem dX3_named_2 : decode cX3_named 2 = .ok (.iconst 0, 1) := by decide +kernel
theorem dX3_named_3 : decode cX3_named 3 = .ok (.istore 4, 2) := by decide +kernel
theorem dX3_named_5 : decode cX3_named 5 = .ok (.iload 4, 2) := by decide +kernel
theorem dX3_named_7 : decode cX3_named 7 = .ok (.iload_n 2, 1) := by decide +kernel
theorem dX3_named_8 : decode cX3_named 8 = .ok (.if_icmp .ge 24, 3) := by decide +kernel
theorem dX3_named_11 : decode cX3_named 11 = .ok (.bipush 10, 2) := by decide +kernel
theorem dX3_named_13 : decode cX3_named 13 = .ok (.iload_n 3, 1) := by decide +kernel
theorem dX3_named_14 : decode cX3_named 14 = .ok (.imul, 1) := by decide +kernel
theorem dX3_named_15 : decode cX3_named 15 = .ok (.iload_n 1, 1) := by decide +kernel
theorem dX3_named_16 : decode cX3_named 16 = .ok (.iload_n 2, 1) := by decide +kernel
theorem dX3_named_17 : decode cX3_named 17 = .ok (.iload 4, 2) := by decide +kernel
theorem dX3_named_19 : decode cX3_named 19 = .ok (.invokestatic 32, 3) := by decide +kernel
theorem dX3_named_22 : decode cX3_named 22 = .ok (.iadd, 1) := by decide +kernel
theorem dX3_named_23 : decode cX3_named 23 = .ok (.iconst 1, 1) := by decide +kernel
theorem dX3_named_24 : decode cX3_named 24 = .ok (.iadd, 1) := by decide +kernel
theorem dX3_named_25 : decode cX3_named 25 = .ok (.istore_n 3, 1) := by decide +kernel
theorem dX3_named_26 : decode cX3_named 26 = .ok (.iinc 4 1, 3) := by decide +kernel
theorem dX3_named_29 : decode cX3_named 29 = .ok (.goto (-24), 3) := by decide +kernel
theorem dX3_named_32 : decode cX3_named 32 = .ok (.iload_n 3, 1) := by decide +kernel
theorem dX3_named_33 : decode cX3_named 33 = .ok (.ireturn, 1) := by decide +kernel
theorem dX3_changed_0 : decode cX3_changed 0 = .ok (.iload_n 2, 1) := by decide +kernel
theorem dX3_changed_1 : decode cX3_changed 1 = .ok (.i2l, 1) := by decide +kernel
theorem dX3_changed_2 : decode cX3_changed 2 = .ok (.lstore 5, 2) := by decide +kernel
theorem dX3_changed_4 : decode cX3_changed 4 = .ok (.iload_n 1, 1) := by decide +kernel
theorem dX3_changed_5 : decode cX3_changed 5 = .ok (.istore 7, 2) := by decide +kernel
theorem dX3_changed_7 : decode cX3_changed 7 = .ok (.iconst 0, 1) := by decide +kernel
theorem dX3_changed_8 : decode cX3_changed 8 = .ok (.istore 8, 2) := by decide +kernel
theorem dX3_changed_10 : decode cX3_changed 10 = .ok (.iload 8, 2) := by decide +kernel
theorem dX3_changed_12 : decode cX3_changed 12 = .ok (.iload 4, 2) := by decide +kernel
theorem dX3_changed_14 : decode cX3_changed 14 = .ok (.if_icmp .ge 71, 3) := by decide +kernel
theorem dX3_changed_17 : decode cX3_changed 17 = .ok (.iload_n 3, 1) := by decide +kernel
theorem dX3_changed_18 : decode cX3_changed 18 = .ok (.iload 4, 2) := by decide +kernel
theorem dX3_changed_20 : decode cX3_changed 20 = .ok (.iload 8, 2) := by decide +kernel
theorem dX3_changed_22 : decode cX3_changed 22 = .ok (.invokestatic 32, 3) := by decide +kernel
theorem dX3_changed_25 : decode cX3_changed 25 = .ok (.istore 9, 2) := by decide +kernel
theorem dX3_changed_27 : decode cX3_changed 27 = .ok (.iload 9, 2) := by decide +kernel
theorem dX3_changed_29 : decode cX3_changed 29 = .ok (.iload 7, 2) := by decide +kernel
theorem dX3_changed_31 : decode cX3_changed 31 = .ok (.if_icmp .ne 7, 3) := by decide +kernel
theorem dX3_changed_34 : decode cX3_changed 34 = .ok (.ldc2_w 36, 3) := by decide +kernel
theorem dX3_changed_37 : decode cX3_changed 37 = .ok (.lreturn, 1) := by decide +kernel
theorem dX3_changed_38 : decode cX3_changed 38 = .ok (.iconst 4, 1) := by decide +kernel
theorem dX3_changed_39 : decode cX3_changed 39 = .ok (.iload 7, 2) := by decide +kernel
theorem dX3_changed_41 : decode cX3_changed 41 = .ok (.imul, 1) := by decide +kernel
theorem dX3_changed_42 : decode cX3_changed 42 = .ok (.iload 9, 2) := by decide +kernel
theorem dX3_changed_44 : decode cX3_changed 44 = .ok (.iadd, 1) := by decide +kernel
theorem dX3_changed_45 : decode cX3_changed 45 = .ok (.istore 10, 2) := by decide +kernel
theorem dX3_changed_47 : decode cX3_changed 47 = .ok (.lload 5, 2) := by decide +kernel
theorem dX3_changed_49 : decode cX3_changed 49 = .ok (.aload_n 0, 1) := by decide +kernel
theorem dX3_changed_50 : decode cX3_changed 50 = .ok (.getfield 9, 3) := by decide +kernel
theorem dX3_changed_53 : decode cX3_changed 53 = .ok (.iload 10, 2) := by decide +kernel
theorem dX3_changed_55 : decode cX3_changed 55 = .ok (.invokestatic 28, 3) := by decide +kernel
theorem dX3_changed_58 : decode cX3_changed 58 = .ok (.i2l, 1) := by decide +kernel
theorem dX3_changed_59 : decode cX3_changed 59 = .ok (.lmul, 1) := by decide +kernel
theorem dX3_changed_60 : decode cX3_changed 60 = .ok (.aload_n 0, 1) := by decide +kernel
theorem dX3_changed_61 : decode cX3_changed 61 = .ok (.getfield 15, 3) := by decide +kernel
theorem dX3_changed_64 : decode cX3_changed 64 = .ok (.iload 10, 2) := by decide +kernel
theorem dX3_changed_66 : decode cX3_changed 66 = .ok (.invokestatic 28, 3) := by decide +kernel
theorem dX3_changed_69 : decode cX3_changed 69 = .ok (.i2l, 1) := by decide +kernel
theorem dX3_changed_70 : decode cX3_changed 70 = .ok (.invokestatic 38, 3) := by decide +kernel
theorem dX3_changed_73 : decode cX3_changed 73 = .ok (.lstore 5, 2) := by decide +kernel
theorem dX3_changed_75 : decode cX3_changed 75 = .ok (.iload 9, 2) := by decide +kernel
theorem dX3_changed_77 : decode cX3_changed 77 = .ok (.istore 7, 2) := by decide +kernel
theorem dX3_changed_79 : decode cX3_changed 79 = .ok (.iinc 8 1, 3) := by decide +kernel
theorem dX3_changed_82 : decode cX3_changed 82 = .ok (.goto (-72), 3) := by decide +kernel
theorem dX3_changed_85 : decode cX3_changed 85 = .ok (.lload 5, 2) := by decide +kernel
theorem dX3_changed_87 : decode cX3_changed 87 = .ok (.lreturn, 1) := by decide +kernel
theorem dX3_becomeLike_0 : decode cX3_becomeLike 0 = .ok (.aload_n 0, 1) := by decide +kernel
theorem dX3_becomeLike_1 : decode cX3_becomeLike 1 = .ok (.getfield 9, 3) := by decide +kernel
theorem dX3_becomeLike_4 : decode cX3_becomeLike 4 = .ok (.aload_n 1, 1) := by decide +kernel
theorem dX3_becomeLike_5 : decode cX3_becomeLike 5 = .ok (.getfield 9, 3) := by decide +kernel
theorem dX3_becomeLike_8 : decode cX3_becomeLike 8 = .ok (.invokestatic 24, 3) := by decide +kernel
theorem dX3_becomeLike_11 : decode cX3_becomeLike 11 = .ok (.aload_n 0, 1) := by decide +kernel
theorem dX3_becomeLike_12 : decode cX3_becomeLike 12 = .ok (.getfield 15, 3) := by decide +kernel
theorem dX3_becomeLike_15 : decode cX3_becomeLike 15 = .ok (.aload_n 1, 1) := by decide +kernel
theorem dX3_becomeLike_16 : decode cX3_becomeLike 16 = .ok (.getfield 15, 3) := by decide +kernel
theorem dX3_becomeLike_19 : decode cX3_becomeLike 19 = .ok (.invokestatic 24, 3) := by decide +kernel
theorem dX3_becomeLike_22 : decode cX3_becomeLike 22 = .ok (.return_, 1) := by decide +kernel
theorem dX4_setWorth_0 : decode cX4_setWorth 0 = .ok (.aload_n 0, 1) := by decide +kernel
theorem dX4_setWorth_1 : decode cX4_setWorth 1 = .ok (.getfield 9, 3) := by decide +kernel
theorem dX4_setWorth_4 : decode cX4_setWorth 4 = .ok (.iload_n 1, 1) := by decide +kernel
theorem dX4_setWorth_5 : decode cX4_setWorth 5 = .ok (.invokestatic 25, 3) := by decide +kernel
theorem dX4_setWorth_8 : decode cX4_setWorth 8 = .ok (.lload_n 2, 1) := by decide +kernel
theorem dX4_setWorth_9 : decode cX4_setWorth 9 = .ok (.lcmp, 1) := by decide +kernel
theorem dX4_setWorth_10 : decode cX4_setWorth 10 = .ok (.ifCond .eq 17, 3) := by decide +kernel
theorem dX4_setWorth_13 : decode cX4_setWorth 13 = .ok (.aload_n 0, 1) := by decide +kernel
theorem dX4_setWorth_14 : decode cX4_setWorth 14 = .ok (.getfield 9, 3) := by decide +kernel
theorem dX4_setWorth_17 : decode cX4_setWorth 17 = .ok (.iload_n 1, 1) := by decide +kernel
theorem dX4_setWorth_18 : decode cX4_setWorth 18 = .ok (.lload_n 2, 1) := by decide +kernel
theorem dX4_setWorth_19 : decode cX4_setWorth 19 = .ok (.invokestatic 31, 3) := by decide +kernel
theorem dX4_setWorth_22 : decode cX4_setWorth 22 = .ok (.aload_n 0, 1) := by decide +kernel
theorem dX4_setWorth_23 : decode cX4_setWorth 23 = .ok (.iconst 0, 1) := by decide +kernel
theorem dX4_setWorth_24 : decode cX4_setWorth 24 = .ok (.putfield 35, 3) := by decide +kernel
theorem dX4_setWorth_27 : decode cX4_setWorth 27 = .ok (.return_, 1) := by decide +kernel
theorem dX4_solve_0 : decode cX4_solve 0 = .ok (.aload_n 0, 1) := by decide +kernel
theorem dX4_solve_1 : decode cX4_solve 1 = .ok (.getfield 35, 3) := by decide +kernel
theorem dX4_solve_4 : decode cX4_solve 4 = .ok (.ifCond .eq 20, 3) := by decide +kernel
theorem dX4_solve_7 : decode cX4_solve 7 = .ok (.aload_n 0, 1) := by decide +kernel
theorem dX4_solve_8 : decode cX4_solve 8 = .ok (.getfield 39, 3) := by decide +kernel
theorem dX4_solve_11 : decode cX4_solve 11 = .ok (.iload_n 1, 1) := by decide +kernel
theorem dX4_solve_12 : decode cX4_solve 12 = .ok (.if_icmp .ne 12, 3) := by decide +kernel
theorem dX4_solve_15 : decode cX4_solve 15 = .ok (.aload_n 0, 1) := by decide +kernel
theorem dX4_solve_16 : decode cX4_solve 16 = .ok (.getfield 43, 3) := by decide +kernel
theorem dX4_solve_19 : decode cX4_solve 19 = .ok (.iload_n 2, 1) := by decide +kernel
theorem dX4_solve_20 : decode cX4_solve 20 = .ok (.if_icmp .ne 4, 3) := by decide +kernel
theorem dX4_solve_23 : decode cX4_solve 23 = .ok (.return_, 1) := by decide +kernel
theorem dX4_solve_24 : decode cX4_solve 24 = .ok (.aload_n 0, 1) := by decide +kernel
theorem dX4_solve_25 : decode cX4_solve 25 = .ok (.iload_n 1, 1) := by decide +kernel
theorem dX4_solve_26 : decode cX4_solve 26 = .ok (.putfield 39, 3) := by decide +kernel
theorem dX4_solve_29 : decode cX4_solve 29 = .ok (.aload_n 0, 1) := by decide +kernel
theorem dX4_solve_30 : decode cX4_solve 30 = .ok (.iload_n 2, 1) := by decide +kernel
theorem dX4_solve_31 : decode cX4_solve 31 = .ok (.putfield 43, 3) := by decide +kernel
theorem dX4_solve_34 : decode cX4_solve 34 = .ok (.aload_n 0, 1) := by decide +kernel
theorem dX4_solve_35 : decode cX4_solve 35 = .ok (.iconst (-1), 1) := by decide +kernel
theorem dX4_solve_36 : decode cX4_solve 36 = .ok (.putfield 46, 3) := by decide +kernel
theorem dX4_solve_39 : decode cX4_solve 39 = .ok (.aload_n 0, 1) := by decide +kernel
theorem dX4_solve_40 : decode cX4_solve 40 = .ok (.iconst 0, 1) := by decide +kernel
theorem dX4_solve_41 : decode cX4_solve 41 = .ok (.iconst 0, 1) := by decide +kernel
theorem dX4_solve_42 : decode cX4_solve 42 = .ok (.lconst 0, 1) := by decide +kernel
theorem dX4_solve_43 : decode cX4_solve 43 = .ok (.invokestatic 49, 3) := by decide +kernel
theorem dX4_solve_46 : decode cX4_solve 46 = .ok (.aload_n 0, 1) := by decide +kernel
theorem dX4_solve_47 : decode cX4_solve 47 = .ok (.iconst 1, 1) := by decide +kernel
theorem dX4_solve_48 : decode cX4_solve 48 = .ok (.putfield 35, 3) := by decide +kernel
theorem dX4_solve_51 : decode cX4_solve 51 = .ok (.return_, 1) := by decide +kernel
theorem dX4_keepIfBetter_0 : decode cX4_keepIfBetter 0 = .ok (.aload_n 0, 1) := by decide +kernel
theorem dX4_keepIfBetter_1 : decode cX4_keepIfBetter 1 = .ok (.getfield 46, 3) := by decide +kernel
theorem dX4_keepIfBetter_4 : decode cX4_keepIfBetter 4 = .ok (.ifCond .lt 29, 3) := by decide +kernel
theorem dX4_keepIfBetter_7 : decode cX4_keepIfBetter 7 = .ok (.lload_n 2, 1) := by decide +kernel
theorem dX4_keepIfBetter_8 : decode cX4_keepIfBetter 8 = .ok (.aload_n 0, 1) := by decide +kernel
theorem dX4_keepIfBetter_9 : decode cX4_keepIfBetter 9 = .ok (.getfield 75, 3) := by decide +kernel
theorem dX4_keepIfBetter_12 : decode cX4_keepIfBetter 12 = .ok (.lcmp, 1) := by decide +kernel
theorem dX4_keepIfBetter_13 : decode cX4_keepIfBetter 13 = .ok (.ifCond .gt 20, 3) := by decide +kernel
theorem dX4_keepIfBetter_16 : decode cX4_keepIfBetter 16 = .ok (.lload_n 2, 1) := by decide +kernel
theorem dX4_keepIfBetter_17 : decode cX4_keepIfBetter 17 = .ok (.aload_n 0, 1) := by decide +kernel
theorem dX4_keepIfBetter_18 : decode cX4_keepIfBetter 18 = .ok (.getfield 75, 3) := by decide +kernel
theorem dX4_keepIfBetter_21 : decode cX4_keepIfBetter 21 = .ok (.lcmp, 1) := by decide +kernel
theorem dX4_keepIfBetter_22 : decode cX4_keepIfBetter 22 = .ok (.ifCond .ne 32, 3) := by decide +kernel
theorem dX4_keepIfBetter_25 : decode cX4_keepIfBetter 25 = .ok (.iload_n 1, 1) := by decide +kernel
theorem dX4_keepIfBetter_26 : decode cX4_keepIfBetter 26 = .ok (.aload_n 0, 1) := by decide +kernel
theorem dX4_keepIfBetter_27 : decode cX4_keepIfBetter 27 = .ok (.getfield 46, 3) := by decide +kernel
theorem dX4_keepIfBetter_30 : decode cX4_keepIfBetter 30 = .ok (.if_icmp .le 24, 3) := by decide +kernel
theorem dX4_keepIfBetter_33 : decode cX4_keepIfBetter 33 = .ok (.aload_n 0, 1) := by decide +kernel
theorem dX4_keepIfBetter_34 : decode cX4_keepIfBetter 34 = .ok (.lload_n 2, 1) := by decide +kernel
theorem dX4_keepIfBetter_35 : decode cX4_keepIfBetter 35 = .ok (.putfield 75, 3) := by decide +kernel
theorem dX4_keepIfBetter_38 : decode cX4_keepIfBetter 38 = .ok (.aload_n 0, 1) := by decide +kernel
theorem dX4_keepIfBetter_39 : decode cX4_keepIfBetter 39 = .ok (.iload_n 1, 1) := by decide +kernel
theorem dX4_keepIfBetter_40 : decode cX4_keepIfBetter 40 = .ok (.putfield 46, 3) := by decide +kernel
theorem dX4_keepIfBetter_43 : decode cX4_keepIfBetter 43 = .ok (.aload_n 0, 1) := by decide +kernel
theorem dX4_keepIfBetter_44 : decode cX4_keepIfBetter 44 = .ok (.getfield 22, 3) := by decide +kernel
theorem dX4_keepIfBetter_47 : decode cX4_keepIfBetter 47 = .ok (.aload_n 0, 1) := by decide +kernel
theorem dX4_keepIfBetter_48 : decode cX4_keepIfBetter 48 = .ok (.getfield 19, 3) := by decide +kernel
theorem dX4_keepIfBetter_51 : decode cX4_keepIfBetter 51 = .ok (.invokestatic 79, 3) := by decide +kernel
theorem dX4_keepIfBetter_54 : decode cX4_keepIfBetter 54 = .ok (.return_, 1) := by decide +kernel
theorem dX4_seat_0 : decode cX4_seat 0 = .ok (.iload_n 1, 1) := by decide +kernel
theorem dX4_seat_1 : decode cX4_seat 1 = .ok (.aload_n 0, 1) := by decide +kernel
theorem dX4_seat_2 : decode cX4_seat 2 = .ok (.getfield 39, 3) := by decide +kernel
theorem dX4_seat_5 : decode cX4_seat 5 = .ok (.if_icmp .ge 9, 3) := by decide +kernel
theorem dX4_seat_8 : decode cX4_seat 8 = .ok (.iload_n 1, 1) := by decide +kernel
theorem dX4_seat_9 : decode cX4_seat 9 = .ok (.bipush 8, 2) := by decide +kernel
theorem dX4_seat_11 : decode cX4_seat 11 = .ok (.if_icmp .lt 10, 3) := by decide +kernel
theorem dX4_seat_14 : decode cX4_seat 14 = .ok (.aload_n 0, 1) := by decide +kernel
theorem dX4_seat_15 : decode cX4_seat 15 = .ok (.iload_n 2, 1) := by decide +kernel
theorem dX4_seat_16 : decode cX4_seat 16 = .ok (.lload_n 3, 1) := by decide +kernel
theorem dX4_seat_17 : decode cX4_seat 17 = .ok (.invokevirtual 53, 3) := by decide +kernel
theorem dX4_seat_20 : decode cX4_seat 20 = .ok (.return_, 1) := by decide +kernel
theorem dX4_seat_21 : decode cX4_seat 21 = .ok (.iconst 0, 1) := by decide +kernel
theorem dX4_seat_22 : decode cX4_seat 22 = .ok (.istore 5, 2) := by decide +kernel
theorem dX4_seat_24 : decode cX4_seat 24 = .ok (.iload 5, 2) := by decide +kernel
theorem dX4_seat_26 : decode cX4_seat 26 = .ok (.iload_n 2, 1) := by decide +kernel
theorem dX4_seat_27 : decode cX4_seat 27 = .ok (.if_icmp .gt 119, 3) := by decide +kernel
theorem dX4_seat_30 : decode cX4_seat 30 = .ok (.iload 5, 2) := by decide +kernel
theorem dX4_seat_32 : decode cX4_seat 32 = .ok (.bipush 8, 2) := by decide +kernel
theorem dX4_seat_34 : decode cX4_seat 34 = .ok (.if_icmp .ge 112, 3) := by decide +kernel
theorem dX4_seat_37 : decode cX4_seat 37 = .ok (.aload_n 0, 1) := by decide +kernel
theorem dX4_seat_38 : decode cX4_seat 38 = .ok (.getfield 15, 3) := by decide +kernel
theorem dX4_seat_41 : decode cX4_seat 41 = .ok (.iload 5, 2) := by decide +kernel
theorem dX4_seat_43 : decode cX4_seat 43 = .ok (.invokestatic 57, 3) := by decide +kernel
theorem dX4_seat_46 : decode cX4_seat 46 = .ok (.istore 6, 2) := by decide +kernel
theorem dX4_seat_48 : decode cX4_seat 48 = .ok (.iload 6, 2) := by decide +kernel
theorem dX4_seat_50 : decode cX4_seat 50 = .ok (.iconst 1, 1) := by decide +kernel
theorem dX4_seat_51 : decode cX4_seat 51 = .ok (.iload_n 1, 1) := by decide +kernel
theorem dX4_seat_52 : decode cX4_seat 52 = .ok (.ishl, 1) := by decide +kernel
theorem dX4_seat_53 : decode cX4_seat 53 = .ok (.ior, 1) := by decide +kernel
theorem dX4_seat_54 : decode cX4_seat 54 = .ok (.istore 7, 2) := by decide +kernel
theorem dX4_seat_56 : decode cX4_seat 56 = .ok (.iload 7, 2) := by decide +kernel
theorem dX4_seat_58 : decode cX4_seat 58 = .ok (.invokestatic 60, 3) := by decide +kernel
theorem dX4_seat_61 : decode cX4_seat 61 = .ok (.aload_n 0, 1) := by decide +kernel
theorem dX4_seat_62 : decode cX4_seat 62 = .ok (.getfield 43, 3) := by decide +kernel
theorem dX4_seat_65 : decode cX4_seat 65 = .ok (.if_icmp .gt 75, 3) := by decide +kernel
theorem dX4_seat_68 : decode cX4_seat 68 = .ok (.aload_n 0, 1) := by decide +kernel
theorem dX4_seat_69 : decode cX4_seat 69 = .ok (.getfield 15, 3) := by decide +kernel
theorem dX4_seat_72 : decode cX4_seat 72 = .ok (.iload 5, 2) := by decide +kernel
theorem dX4_seat_74 : decode cX4_seat 74 = .ok (.iload 7, 2) := by decide +kernel
theorem dX4_seat_76 : decode cX4_seat 76 = .ok (.invokestatic 66, 3) := by decide +kernel
theorem dX4_seat_79 : decode cX4_seat 79 = .ok (.aload_n 0, 1) := by decide +kernel
theorem dX4_seat_80 : decode cX4_seat 80 = .ok (.getfield 19, 3) := by decide +kernel
theorem dX4_seat_83 : decode cX4_seat 83 = .ok (.iload_n 1, 1) := by decide +kernel
theorem dX4_seat_84 : decode cX4_seat 84 = .ok (.iload 5, 2) := by decide +kernel
theorem dX4_seat_86 : decode cX4_seat 86 = .ok (.invokestatic 66, 3) := by decide +kernel
theorem dX4_seat_89 : decode cX4_seat 89 = .ok (.aload_n 0, 1) := by decide +kernel
theorem dX4_seat_90 : decode cX4_seat 90 = .ok (.getfield 9, 3) := by decide +kernel
theorem dX4_seat_93 : decode cX4_seat 93 = .ok (.iload 7, 2) := by decide +kernel
theorem dX4_seat_95 : decode cX4_seat 95 = .ok (.invokestatic 25, 3) := by decide +kernel
theorem dX4_seat_98 : decode cX4_seat 98 = .ok (.aload_n 0, 1) := by decide +kernel
theorem dX4_seat_99 : decode cX4_seat 99 = .ok (.getfield 9, 3) := by decide +kernel
theorem dX4_seat_102 : decode cX4_seat 102 = .ok (.iload 6, 2) := by decide +kernel
theorem dX4_seat_104 : decode cX4_seat 104 = .ok (.invokestatic 25, 3) := by decide +kernel
theorem dX4_seat_107 : decode cX4_seat 107 = .ok (.lsub, 1) := by decide +kernel
theorem dX4_seat_108 : decode cX4_seat 108 = .ok (.lstore 8, 2) := by decide +kernel
theorem dX4_seat_110 : decode cX4_seat 110 = .ok (.aload_n 0, 1) := by decide +kernel
theorem dX4_seat_111 : decode cX4_seat 111 = .ok (.iload_n 1, 1) := by decide +kernel
theorem dX4_seat_112 : decode cX4_seat 112 = .ok (.iconst 1, 1) := by decide +kernel
theorem dX4_seat_113 : decode cX4_seat 113 = .ok (.iadd, 1) := by decide +kernel
theorem dX4_seat_114 : decode cX4_seat 114 = .ok (.iload_n 2, 1) := by decide +kernel
theorem dX4_seat_115 : decode cX4_seat 115 = .ok (.iload 5, 2) := by decide +kernel
theorem dX4_seat_117 : decode cX4_seat 117 = .ok (.iconst 1, 1) := by decide +kernel
theorem dX4_seat_118 : decode cX4_seat 118 = .ok (.iadd, 1) := by decide +kernel
theorem dX4_seat_119 : decode cX4_seat 119 = .ok (.invokestatic 69, 3) := by decide +kernel
theorem dX4_seat_122 : decode cX4_seat 122 = .ok (.lload_n 3, 1) := by decide +kernel
theorem dX4_seat_123 : decode cX4_seat 123 = .ok (.lload 8, 2) := by decide +kernel
theorem dX4_seat_125 : decode cX4_seat 125 = .ok (.ladd, 1) := by decide +kernel
theorem dX4_seat_126 : decode cX4_seat 126 = .ok (.invokestatic 49, 3) := by decide +kernel
theorem dX4_seat_129 : decode cX4_seat 129 = .ok (.aload_n 0, 1) := by decide +kernel
theorem dX4_seat_130 : decode cX4_seat 130 = .ok (.getfield 15, 3) := by decide +kernel
theorem dX4_seat_133 : decode cX4_seat 133 = .ok (.iload 5, 2) := by decide +kernel
theorem dX4_seat_135 : decode cX4_seat 135 = .ok (.iload 6, 2) := by decide +kernel
theorem dX4_seat_137 : decode cX4_seat 137 = .ok (.invokestatic 66, 3) := by decide +kernel
theorem dX4_seat_140 : decode cX4_seat 140 = .ok (.iinc 5 1, 3) := by decide +kernel
theorem dX4_seat_143 : decode cX4_seat 143 = .ok (.goto (-119), 3) := by decide +kernel
theorem dX4_seat_146 : decode cX4_seat 146 = .ok (.return_, 1) := by decide +kernel
theorem dX8_begin_0 : decode cX8_begin 0 = .ok (.iconst 0, 1) := by decide +kernel
theorem dX8_begin_1 : decode cX8_begin 1 = .ok (.istore_n 3, 1) := by decide +kernel
theorem dX8_begin_2 : decode cX8_begin 2 = .ok (.iload_n 3, 1) := by decide +kernel
theorem dX8_begin_3 : decode cX8_begin 3 = .ok (.aload_n 0, 1) := by decide +kernel
theorem dX8_begin_4 : decode cX8_begin 4 = .ok (.getfield 9, 3) := by decide +kernel
theorem dX8_begin_7 : decode cX8_begin 7 = .ok (.arraylength, 1) := by decide +kernel
theorem dX8_begin_8 : decode cX8_begin 8 = .ok (.if_icmp .ge 16, 3) := by decide +kernel
theorem dX8_begin_11 : decode cX8_begin 11 = .ok (.aload_n 0, 1) := by decide +kernel
theorem dX8_begin_12 : decode cX8_begin 12 = .ok (.getfield 9, 3) := by decide +kernel
theorem dX8_begin_15 : decode cX8_begin 15 = .ok (.iload_n 3, 1) := by decide +kernel
theorem dX8_begin_16 : decode cX8_begin 16 = .ok (.lconst 0, 1) := by decide +kernel
theorem dX8_begin_17 : decode cX8_begin 17 = .ok (.lastore, 1) := by decide +kernel
theorem dX8_begin_18 : decode cX8_begin 18 = .ok (.iinc 3 1, 3) := by decide +kernel
theorem dX8_begin_21 : decode cX8_begin 21 = .ok (.goto (-19), 3) := by decide +kernel
theorem dX8_begin_24 : decode cX8_begin 24 = .ok (.aload_n 0, 1) := by decide +kernel
theorem dX8_begin_25 : decode cX8_begin 25 = .ok (.iconst 1, 1) := by decide +kernel
theorem dX8_begin_26 : decode cX8_begin 26 = .ok (.putfield 15, 3) := by decide +kernel
theorem dX8_begin_29 : decode cX8_begin 29 = .ok (.aload_n 0, 1) := by decide +kernel
theorem dX8_begin_30 : decode cX8_begin 30 = .ok (.iload_n 1, 1) := by decide +kernel
theorem dX8_begin_31 : decode cX8_begin 31 = .ok (.putfield 19, 3) := by decide +kernel
theorem dX8_begin_34 : decode cX8_begin 34 = .ok (.aload_n 0, 1) := by decide +kernel
theorem dX8_begin_35 : decode cX8_begin 35 = .ok (.iload_n 2, 1) := by decide +kernel
theorem dX8_begin_36 : decode cX8_begin 36 = .ok (.putfield 23, 3) := by decide +kernel
theorem dX8_begin_39 : decode cX8_begin 39 = .ok (.return_, 1) := by decide +kernel
theorem dX8_spans_0 : decode cX8_spans 0 = .ok (.iload_n 1, 1) := by decide +kernel
theorem dX8_spans_1 : decode cX8_spans 1 = .ok (.ifCond .lt 41, 3) := by decide +kernel
theorem dX8_spans_4 : decode cX8_spans 4 = .ok (.iload_n 2, 1) := by decide +kernel
theorem dX8_spans_5 : decode cX8_spans 5 = .ok (.ifCond .lt 37, 3) := by decide +kernel
theorem dX8_spans_8 : decode cX8_spans 8 = .ok (.iload_n 2, 1) := by decide +kernel
theorem dX8_spans_9 : decode cX8_spans 9 = .ok (.aload_n 0, 1) := by decide +kernel
theorem dX8_spans_10 : decode cX8_spans 10 = .ok (.getfield 23, 3) := by decide +kernel
theorem dX8_spans_13 : decode cX8_spans 13 = .ok (.if_icmp .gt 29, 3) := by decide +kernel
theorem dX8_spans_16 : decode cX8_spans 16 = .ok (.iload_n 1, 1) := by decide +kernel
theorem dX8_spans_17 : decode cX8_spans 17 = .ok (.aload_n 0, 1) := by decide +kernel
theorem dX8_spans_18 : decode cX8_spans 18 = .ok (.getfield 23, 3) := by decide +kernel
theorem dX8_spans_21 : decode cX8_spans 21 = .ok (.iload_n 2, 1) := by decide +kernel
theorem dX8_spans_22 : decode cX8_spans 22 = .ok (.isub, 1) := by decide +kernel
theorem dX8_spans_23 : decode cX8_spans 23 = .ok (.if_icmp .gt 19, 3) := by decide +kernel
theorem dX8_spans_26 : decode cX8_spans 26 = .ok (.aload_n 0, 1) := by decide +kernel
theorem dX8_spans_27 : decode cX8_spans 27 = .ok (.getfield 23, 3) := by decide +kernel
theorem dX8_spans_30 : decode cX8_spans 30 = .ok (.aload_n 0, 1) := by decide +kernel
theorem dX8_spans_31 : decode cX8_spans 31 = .ok (.getfield 9, 3) := by decide +kernel
theorem dX8_spans_34 : decode cX8_spans 34 = .ok (.arraylength, 1) := by decide +kernel
theorem dX8_spans_35 : decode cX8_spans 35 = .ok (.if_icmp .gt 7, 3) := by decide +kernel
theorem dX8_spans_38 : decode cX8_spans 38 = .ok (.iconst 1, 1) := by decide +kernel
theorem dX8_spans_39 : decode cX8_spans 39 = .ok (.goto 4, 3) := by decide +kernel
theorem dX8_spans_42 : decode cX8_spans 42 = .ok (.iconst 0, 1) := by decide +kernel
theorem dX8_spans_43 : decode cX8_spans 43 = .ok (.ireturn, 1) := by decide +kernel
theorem dX8_write_0 : decode cX8_write 0 = .ok (.aload_n 0, 1) := by decide +kernel
theorem dX8_write_1 : decode cX8_write 1 = .ok (.getfield 9, 3) := by decide +kernel
theorem dX8_write_4 : decode cX8_write 4 = .ok (.iload_n 1, 1) := by decide +kernel
theorem dX8_write_5 : decode cX8_write 5 = .ok (.aload_n 0, 1) := by decide +kernel
theorem dX8_write_6 : decode cX8_write 6 = .ok (.getfield 19, 3) := by decide +kernel
theorem dX8_write_9 : decode cX8_write 9 = .ok (.ifCond .ne 10, 3) := by decide +kernel
theorem dX8_write_12 : decode cX8_write 12 = .ok (.lload_n 2, 1) := by decide +kernel
theorem dX8_write_13 : decode cX8_write 13 = .ok (.l2i, 1) := by decide +kernel
theorem dX8_write_14 : decode cX8_write 14 = .ok (.i2s, 1) := by decide +kernel
theorem dX8_write_15 : decode cX8_write 15 = .ok (.i2l, 1) := by decide +kernel
theorem dX8_write_16 : decode cX8_write 16 = .ok (.goto 18, 3) := by decide +kernel
theorem dX8_write_19 : decode cX8_write 19 = .ok (.aload_n 0, 1) := by decide +kernel
theorem dX8_write_20 : decode cX8_write 20 = .ok (.getfield 19, 3) := by decide +kernel
theorem dX8_write_23 : decode cX8_write 23 = .ok (.iconst 1, 1) := by decide +kernel
theorem dX8_write_24 : decode cX8_write 24 = .ok (.if_icmp .ne 9, 3) := by decide +kernel
theorem dX8_write_27 : decode cX8_write 27 = .ok (.lload_n 2, 1) := by decide +kernel
theorem dX8_write_28 : decode cX8_write 28 = .ok (.l2i, 1) := by decide +kernel
theorem dX8_write_29 : decode cX8_write 29 = .ok (.i2l, 1) := by decide +kernel
theorem dX8_write_30 : decode cX8_write 30 = .ok (.goto 4, 3) := by decide +kernel
theorem dX8_write_33 : decode cX8_write 33 = .ok (.lload_n 2, 1) := by decide +kernel
theorem dX8_write_34 : decode cX8_write 34 = .ok (.invokestatic 26, 3) := by decide +kernel
theorem dX8_write_37 : decode cX8_write 37 = .ok (.return_, 1) := by decide +kernel
theorem dX8_allWithin_0 : decode cX8_allWithin 0 = .ok (.iload_n 1, 1) := by decide +kernel
theorem dX8_allWithin_1 : decode cX8_allWithin 1 = .ok (.istore 5, 2) := by decide +kernel
theorem dX8_allWithin_3 : decode cX8_allWithin 3 = .ok (.iload 5, 2) := by decide +kernel
theorem dX8_allWithin_5 : decode cX8_allWithin 5 = .ok (.iload_n 1, 1) := by decide +kernel
theorem dX8_allWithin_6 : decode cX8_allWithin 6 = .ok (.iload_n 2, 1) := by decide +kernel
theorem dX8_allWithin_7 : decode cX8_allWithin 7 = .ok (.iadd, 1) := by decide +kernel
theorem dX8_allWithin_8 : decode cX8_allWithin 8 = .ok (.if_icmp .ge 42, 3) := by decide +kernel
theorem dX8_allWithin_11 : decode cX8_allWithin 11 = .ok (.aload_n 0, 1) := by decide +kernel
theorem dX8_allWithin_12 : decode cX8_allWithin 12 = .ok (.getfield 9, 3) := by decide +kernel
theorem dX8_allWithin_15 : decode cX8_allWithin 15 = .ok (.iload 5, 2) := by decide +kernel
theorem dX8_allWithin_17 : decode cX8_allWithin 17 = .ok (.invokestatic 32, 3) := by decide +kernel
theorem dX8_allWithin_20 : decode cX8_allWithin 20 = .ok (.iload_n 3, 1) := by decide +kernel
theorem dX8_allWithin_21 : decode cX8_allWithin 21 = .ok (.i2l, 1) := by decide +kernel
theorem dX8_allWithin_22 : decode cX8_allWithin 22 = .ok (.lcmp, 1) := by decide +kernel
theorem dX8_allWithin_23 : decode cX8_allWithin 23 = .ok (.ifCond .lt 19, 3) := by decide +kernel
theorem dX8_allWithin_26 : decode cX8_allWithin 26 = .ok (.aload_n 0, 1) := by decide +kernel
theorem dX8_allWithin_27 : decode cX8_allWithin 27 = .ok (.getfield 9, 3) := by decide +kernel
theorem dX8_allWithin_30 : decode cX8_allWithin 30 = .ok (.iload 5, 2) := by decide +kernel
theorem dX8_allWithin_32 : decode cX8_allWithin 32 = .ok (.invokestatic 32, 3) := by decide +kernel
theorem dX8_allWithin_35 : decode cX8_allWithin 35 = .ok (.iload 4, 2) := by decide +kernel
theorem dX8_allWithin_37 : decode cX8_allWithin 37 = .ok (.i2l, 1) := by decide +kernel
theorem dX8_allWithin_38 : decode cX8_allWithin 38 = .ok (.lcmp, 1) := by decide +kernel
theorem dX8_allWithin_39 : decode cX8_allWithin 39 = .ok (.ifCond .le 5, 3) := by decide +kernel
theorem dX8_allWithin_42 : decode cX8_allWithin 42 = .ok (.iconst 0, 1) := by decide +kernel
theorem dX8_allWithin_43 : decode cX8_allWithin 43 = .ok (.ireturn, 1) := by decide +kernel
theorem dX8_allWithin_44 : decode cX8_allWithin 44 = .ok (.iinc 5 1, 3) := by decide +kernel
theorem dX8_allWithin_47 : decode cX8_allWithin 47 = .ok (.goto (-44), 3) := by decide +kernel
theorem dX8_allWithin_50 : decode cX8_allWithin 50 = .ok (.iconst 1, 1) := by decide +kernel
theorem dX8_allWithin_51 : decode cX8_allWithin 51 = .ok (.ireturn, 1) := by decide +kernel
theorem dX8_sumOf_0 : decode cX8_sumOf 0 = .ok (.lconst 0, 1) := by decide +kernel
theorem dX8_sumOf_1 : decode cX8_sumOf 1 = .ok (.lstore_n 3, 1) := by decide +kernel
theorem dX8_sumOf_2 : decode cX8_sumOf 2 = .ok (.iconst 0, 1) := by decide +kernel
theorem dX8_sumOf_3 : decode cX8_sumOf 3 = .ok (.istore 5, 2) := by decide +kernel
theorem dX8_sumOf_5 : decode cX8_sumOf 5 = .ok (.iload 5, 2) := by decide +kernel
theorem dX8_sumOf_7 : decode cX8_sumOf 7 = .ok (.bipush 6, 2) := by decide +kernel
theorem dX8_sumOf_9 : decode cX8_sumOf 9 = .ok (.if_icmp .ge 33, 3) := by decide +kernel
theorem dX8_sumOf_12 : decode cX8_sumOf 12 = .ok (.iload_n 2, 1) := by decide +kernel
theorem dX8_sumOf_13 : decode cX8_sumOf 13 = .ok (.iload 5, 2) := by decide +kernel
theorem dX8_sumOf_15 : decode cX8_sumOf 15 = .ok (.ishr, 1) := by decide +kernel
theorem dX8_sumOf_16 : decode cX8_sumOf 16 = .ok (.iconst 1, 1) := by decide +kernel
theorem dX8_sumOf_17 : decode cX8_sumOf 17 = .ok (.iand, 1) := by decide +kernel
theorem dX8_sumOf_18 : decode cX8_sumOf 18 = .ok (.iconst 1, 1) := by decide +kernel
theorem dX8_sumOf_19 : decode cX8_sumOf 19 = .ok (.if_icmp .ne 17, 3) := by decide +kernel
theorem dX8_sumOf_22 : decode cX8_sumOf 22 = .ok (.lload_n 3, 1) := by decide +kernel
theorem dX8_sumOf_23 : decode cX8_sumOf 23 = .ok (.aload_n 0, 1) := by decide +kernel
theorem dX8_sumOf_24 : decode cX8_sumOf 24 = .ok (.getfield 9, 3) := by decide +kernel
theorem dX8_sumOf_27 : decode cX8_sumOf 27 = .ok (.iload_n 1, 1) := by decide +kernel
theorem dX8_sumOf_28 : decode cX8_sumOf 28 = .ok (.iload 5, 2) := by decide +kernel
theorem dX8_sumOf_30 : decode cX8_sumOf 30 = .ok (.iadd, 1) := by decide +kernel
theorem dX8_sumOf_31 : decode cX8_sumOf 31 = .ok (.invokestatic 32, 3) := by decide +kernel
theorem dX8_sumOf_34 : decode cX8_sumOf 34 = .ok (.ladd, 1) := by decide +kernel
theorem dX8_sumOf_35 : decode cX8_sumOf 35 = .ok (.lstore_n 3, 1) := by decide +kernel
theorem dX8_sumOf_36 : decode cX8_sumOf 36 = .ok (.iinc 5 1, 3) := by decide +kernel
theorem dX8_sumOf_39 : decode cX8_sumOf 39 = .ok (.goto (-34), 3) := by decide +kernel
theorem dX8_sumOf_42 : decode cX8_sumOf 42 = .ok (.lload_n 3, 1) := by decide +kernel
theorem dX8_sumOf_43 : decode cX8_sumOf 43 = .ok (.lreturn, 1) := by decide +kernel
theorem dX8_commonOf_0 : decode cX8_commonOf 0 = .ok (.lconst 0, 1) := by decide +kernel
theorem dX8_commonOf_1 : decode cX8_commonOf 1 = .ok (.lstore_n 3, 1) := by decide +kernel
theorem dX8_commonOf_2 : decode cX8_commonOf 2 = .ok (.iload_n 1, 1) := by decide +kernel
theorem dX8_commonOf_3 : decode cX8_commonOf 3 = .ok (.istore 5, 2) := by decide +kernel
theorem dX8_commonOf_5 : decode cX8_commonOf 5 = .ok (.iload 5, 2) := by decide +kernel
theorem dX8_commonOf_7 : decode cX8_commonOf 7 = .ok (.iload_n 1, 1) := by decide +kernel
theorem dX8_commonOf_8 : decode cX8_commonOf 8 = .ok (.iload_n 2, 1) := by decide +kernel
theorem dX8_commonOf_9 : decode cX8_commonOf 9 = .ok (.iadd, 1) := by decide +kernel
theorem dX8_commonOf_10 : decode cX8_commonOf 10 = .ok (.if_icmp .ge 23, 3) := by decide +kernel
theorem dX8_commonOf_13 : decode cX8_commonOf 13 = .ok (.aload_n 0, 1) := by decide +kernel
theorem dX8_commonOf_14 : decode cX8_commonOf 14 = .ok (.getfield 9, 3) := by decide +kernel
theorem dX8_commonOf_17 : decode cX8_commonOf 17 = .ok (.iload 5, 2) := by decide +kernel
theorem dX8_commonOf_19 : decode cX8_commonOf 19 = .ok (.invokestatic 32, 3) := by decide +kernel
theorem dX8_commonOf_22 : decode cX8_commonOf 22 = .ok (.lload_n 3, 1) := by decide +kernel
theorem dX8_commonOf_23 : decode cX8_commonOf 23 = .ok (.invokestatic 36, 3) := by decide +kernel
theorem dX8_commonOf_26 : decode cX8_commonOf 26 = .ok (.lstore_n 3, 1) := by decide +kernel
theorem dX8_commonOf_27 : decode cX8_commonOf 27 = .ok (.iinc 5 1, 3) := by decide +kernel
theorem dX8_commonOf_30 : decode cX8_commonOf 30 = .ok (.goto (-25), 3) := by decide +kernel
theorem dX8_commonOf_33 : decode cX8_commonOf 33 = .ok (.lload_n 3, 1) := by decide +kernel
theorem dX8_commonOf_34 : decode cX8_commonOf 34 = .ok (.lreturn, 1) := by decide +kernel
theorem dX9_add_0 : decode cX9_add 0 = .ok (.aload_n 0, 1) := by decide +kernel
theorem dX9_add_1 : decode cX9_add 1 = .ok (.getfield 9, 3) := by decide +kernel
theorem dX9_add_4 : decode cX9_add 4 = .ok (.aload_n 0, 1) := by decide +kernel
theorem dX9_add_5 : decode cX9_add 5 = .ok (.getfield 18, 3) := by decide +kernel
theorem dX9_add_8 : decode cX9_add 8 = .ok (.iload_n 1, 1) := by decide +kernel
theorem dX9_add_9 : decode cX9_add 9 = .ok (.invokestatic 22, 3) := by decide +kernel
theorem dX9_add_12 : decode cX9_add 12 = .ok (.aload_n 0, 1) := by decide +kernel
theorem dX9_add_13 : decode cX9_add 13 = .ok (.dup, 1) := by decide +kernel
theorem dX9_add_14 : decode cX9_add 14 = .ok (.getfield 18, 3) := by decide +kernel
theorem dX9_add_17 : decode cX9_add 17 = .ok (.iconst 1, 1) := by decide +kernel
theorem dX9_add_18 : decode cX9_add 18 = .ok (.iadd, 1) := by decide +kernel
theorem dX9_add_19 : decode cX9_add 19 = .ok (.putfield 18, 3) := by decide +kernel
theorem dX9_add_22 : decode cX9_add 22 = .ok (.return_, 1) := by decide +kernel
theorem dX9_read_0 : decode cX9_read 0 = .ok (.aload_n 0, 1) := by decide +kernel
theorem dX9_read_1 : decode cX9_read 1 = .ok (.iconst 0, 1) := by decide +kernel
theorem dX9_read_2 : decode cX9_read 2 = .ok (.putfield 28, 3) := by decide +kernel
theorem dX9_read_5 : decode cX9_read 5 = .ok (.aload_n 0, 1) := by decide +kernel
theorem dX9_read_6 : decode cX9_read 6 = .ok (.iconst 3, 1) := by decide +kernel
theorem dX9_read_7 : decode cX9_read 7 = .ok (.putfield 31, 3) := by decide +kernel
theorem dX9_read_10 : decode cX9_read 10 = .ok (.aload_n 0, 1) := by decide +kernel
theorem dX9_read_11 : decode cX9_read 11 = .ok (.iconst 0, 1) := by decide +kernel
theorem dX9_read_12 : decode cX9_read 12 = .ok (.putfield 34, 3) := by decide +kernel
theorem dX9_read_15 : decode cX9_read 15 = .ok (.aload_n 0, 1) := by decide +kernel
theorem dX9_read_16 : decode cX9_read 16 = .ok (.invokevirtual 37, 3) := by decide +kernel
theorem dX9_read_19 : decode cX9_read 19 = .ok (.ifCond .eq 19, 3) := by decide +kernel
theorem dX9_read_22 : decode cX9_read 22 = .ok (.aload_n 0, 1) := by decide +kernel
theorem dX9_read_23 : decode cX9_read 23 = .ok (.invokevirtual 41, 3) := by decide +kernel
theorem dX9_read_26 : decode cX9_read 26 = .ok (.bipush 59, 2) := by decide +kernel
theorem dX9_read_28 : decode cX9_read 28 = .ok (.if_icmp .ne 18, 3) := by decide +kernel
theorem dX9_read_31 : decode cX9_read 31 = .ok (.aload_n 0, 1) := by decide +kernel
theorem dX9_read_32 : decode cX9_read 32 = .ok (.invokevirtual 45, 3) := by decide +kernel
theorem dX9_read_35 : decode cX9_read 35 = .ok (.ifCond .ne 11, 3) := by decide +kernel
theorem dX9_read_38 : decode cX9_read 38 = .ok (.bipush (-20), 2) := by decide +kernel
theorem dX9_read_40 : decode cX9_read 40 = .ok (.aload_n 0, 1) := by decide +kernel
theorem dX9_read_41 : decode cX9_read 41 = .ok (.getfield 28, 3) := by decide +kernel
theorem dX9_read_44 : decode cX9_read 44 = .ok (.isub, 1) := by decide +kernel
theorem dX9_read_45 : decode cX9_read 45 = .ok (.ireturn, 1) := by decide +kernel
theorem dX9_read_46 : decode cX9_read 46 = .ok (.aload_n 0, 1) := by decide +kernel
theorem dX9_read_47 : decode cX9_read 47 = .ok (.invokevirtual 41, 3) := by decide +kernel
theorem dX9_read_50 : decode cX9_read 50 = .ok (.bipush 116, 2) := by decide +kernel
theorem dX9_read_52 : decode cX9_read 52 = .ok (.if_icmp .ne 18, 3) := by decide +kernel
theorem dX9_read_55 : decode cX9_read 55 = .ok (.aload_n 0, 1) := by decide +kernel
theorem dX9_read_56 : decode cX9_read 56 = .ok (.iconst 1, 1) := by decide +kernel
theorem dX9_read_57 : decode cX9_read 57 = .ok (.putfield 34, 3) := by decide +kernel
theorem dX9_read_60 : decode cX9_read 60 = .ok (.aload_n 0, 1) := by decide +kernel
theorem dX9_read_61 : decode cX9_read 61 = .ok (.dup, 1) := by decide +kernel
theorem dX9_read_62 : decode cX9_read 62 = .ok (.getfield 28, 3) := by decide +kernel
theorem dX9_read_65 : decode cX9_read 65 = .ok (.iconst 1, 1) := by decide +kernel
theorem dX9_read_66 : decode cX9_read 66 = .ok (.iadd, 1) := by decide +kernel
theorem dX9_read_67 : decode cX9_read 67 = .ok (.putfield 28, 3) := by decide +kernel
theorem dX9_read_70 : decode cX9_read 70 = .ok (.aload_n 0, 1) := by decide +kernel
theorem dX9_read_71 : decode cX9_read 71 = .ok (.invokevirtual 41, 3) := by decide +kernel
theorem dX9_read_74 : decode cX9_read 74 = .ok (.ifCond .ge 13, 3) := by decide +kernel
theorem dX9_read_77 : decode cX9_read 77 = .ok (.aload_n 0, 1) := by decide +kernel
theorem dX9_read_78 : decode cX9_read 78 = .ok (.getfield 31, 3) := by decide +kernel
theorem dX9_read_81 : decode cX9_read 81 = .ok (.invokestatic 48, 3) := by decide +kernel
theorem dX9_read_84 : decode cX9_read 84 = .ok (.goto 10, 3) := by decide +kernel
theorem dX9_read_87 : decode cX9_read 87 = .ok (.bipush (-20), 2) := by decide +kernel
theorem dX9_read_89 : decode cX9_read 89 = .ok (.aload_n 0, 1) := by decide +kernel
theorem dX9_read_90 : decode cX9_read 90 = .ok (.getfield 28, 3) := by decide +kernel
theorem dX9_read_93 : decode cX9_read 93 = .ok (.isub, 1) := by decide +kernel
theorem dX9_read_94 : decode cX9_read 94 = .ok (.ireturn, 1) := by decide +kernel
theorem dX9_peek_0 : decode cX9_peek 0 = .ok (.aload_n 0, 1) := by decide +kernel
theorem dX9_peek_1 : decode cX9_peek 1 = .ok (.getfield 28, 3) := by decide +kernel
theorem dX9_peek_4 : decode cX9_peek 4 = .ok (.aload_n 0, 1) := by decide +kernel
theorem dX9_peek_5 : decode cX9_peek 5 = .ok (.getfield 18, 3) := by decide +kernel
theorem dX9_peek_8 : decode cX9_peek 8 = .ok (.if_icmp .ge 32, 3) := by decide +kernel
theorem dX9_peek_11 : decode cX9_peek 11 = .ok (.aload_n 0, 1) := by decide +kernel
theorem dX9_peek_12 : decode cX9_peek 12 = .ok (.getfield 9, 3) := by decide +kernel
theorem dX9_peek_15 : decode cX9_peek 15 = .ok (.aload_n 0, 1) := by decide +kernel
theorem dX9_peek_16 : decode cX9_peek 16 = .ok (.getfield 28, 3) := by decide +kernel
theorem dX9_peek_19 : decode cX9_peek 19 = .ok (.invokestatic 54, 3) := by decide +kernel
theorem dX9_peek_22 : decode cX9_peek 22 = .ok (.bipush 32, 2) := by decide +kernel
theorem dX9_peek_24 : decode cX9_peek 24 = .ok (.if_icmp .ne 16, 3) := by decide +kernel
theorem dX9_peek_27 : decode cX9_peek 27 = .ok (.aload_n 0, 1) := by decide +kernel
theorem dX9_peek_28 : decode cX9_peek 28 = .ok (.dup, 1) := by decide +kernel
theorem dX9_peek_29 : decode cX9_peek 29 = .ok (.getfield 28, 3) := by decide +kernel
theorem dX9_peek_32 : decode cX9_peek 32 = .ok (.iconst 1, 1) := by decide +kernel
theorem dX9_peek_33 : decode cX9_peek 33 = .ok (.iadd, 1) := by decide +kernel
theorem dX9_peek_34 : decode cX9_peek 34 = .ok (.putfield 28, 3) := by decide +kernel
theorem dX9_peek_37 : decode cX9_peek 37 = .ok (.goto (-37), 3) := by decide +kernel
theorem dX9_peek_40 : decode cX9_peek 40 = .ok (.aload_n 0, 1) := by decide +kernel
theorem dX9_peek_41 : decode cX9_peek 41 = .ok (.getfield 28, 3) := by decide +kernel
theorem dX9_peek_44 : decode cX9_peek 44 = .ok (.aload_n 0, 1) := by decide +kernel
theorem dX9_peek_45 : decode cX9_peek 45 = .ok (.getfield 18, 3) := by decide +kernel
theorem dX9_peek_48 : decode cX9_peek 48 = .ok (.if_icmp .ge 17, 3) := by decide +kernel
theorem dX9_peek_51 : decode cX9_peek 51 = .ok (.aload_n 0, 1) := by decide +kernel
theorem dX9_peek_52 : decode cX9_peek 52 = .ok (.getfield 9, 3) := by decide +kernel
theorem dX9_peek_55 : decode cX9_peek 55 = .ok (.aload_n 0, 1) := by decide +kernel
theorem dX9_peek_56 : decode cX9_peek 56 = .ok (.getfield 28, 3) := by decide +kernel
theorem dX9_peek_59 : decode cX9_peek 59 = .ok (.invokestatic 54, 3) := by decide +kernel
theorem dX9_peek_62 : decode cX9_peek 62 = .ok (.goto 4, 3) := by decide +kernel
theorem dX9_peek_65 : decode cX9_peek 65 = .ok (.iconst (-1), 1) := by decide +kernel
theorem dX9_peek_66 : decode cX9_peek 66 = .ok (.ireturn, 1) := by decide +kernel
theorem dX9_readMeasures_0 : decode cX9_readMeasures 0 = .ok (.iconst 0, 1) := by decide +kernel
theorem dX9_readMeasures_1 : decode cX9_readMeasures 1 = .ok (.istore_n 1, 1) := by decide +kernel
theorem dX9_readMeasures_2 : decode cX9_readMeasures 2 = .ok (.iload_n 1, 1) := by decide +kernel
theorem dX9_readMeasures_3 : decode cX9_readMeasures 3 = .ok (.iconst 3, 1) := by decide +kernel
theorem dX9_readMeasures_4 : decode cX9_readMeasures 4 = .ok (.if_icmp .ge 55, 3) := by decide +kernel
theorem dX9_readMeasures_7 : decode cX9_readMeasures 7 = .ok (.iload_n 1, 1) := by decide +kernel
theorem dX9_readMeasures_8 : decode cX9_readMeasures 8 = .ok (.ifCond .le 24, 3) := by decide +kernel
theorem dX9_readMeasures_11 : decode cX9_readMeasures 11 = .ok (.aload_n 0, 1) := by decide +kernel
theorem dX9_readMeasures_12 : decode cX9_readMeasures 12 = .ok (.invokevirtual 41, 3) := by decide +kernel
theorem dX9_readMeasures_15 : decode cX9_readMeasures 15 = .ok (.bipush 44, 2) := by decide +kernel
theorem dX9_readMeasures_17 : decode cX9_readMeasures 17 = .ok (.if_icmp .eq 5, 3) := by decide +kernel
theorem dX9_readMeasures_20 : decode cX9_readMeasures 20 = .ok (.iconst 0, 1) := by decide +kernel
theorem dX9_readMeasures_21 : decode cX9_readMeasures 21 = .ok (.ireturn, 1) := by decide +kernel
theorem dX9_readMeasures_22 : decode cX9_readMeasures 22 = .ok (.aload_n 0, 1) := by decide +kernel
theorem dX9_readMeasures_23 : decode cX9_readMeasures 23 = .ok (.dup, 1) := by decide +kernel
theorem dX9_readMeasures_24 : decode cX9_readMeasures 24 = .ok (.getfield 28, 3) := by decide +kernel
theorem dX9_readMeasures_27 : decode cX9_readMeasures 27 = .ok (.iconst 1, 1) := by decide +kernel
theorem dX9_readMeasures_28 : decode cX9_readMeasures 28 = .ok (.iadd, 1) := by decide +kernel
theorem dX9_readMeasures_29 : decode cX9_readMeasures 29 = .ok (.putfield 28, 3) := by decide +kernel
theorem dX9_readMeasures_32 : decode cX9_readMeasures 32 = .ok (.aload_n 0, 1) := by decide +kernel
theorem dX9_readMeasures_33 : decode cX9_readMeasures 33 = .ok (.invokevirtual 57, 3) := by decide +kernel
theorem dX9_readMeasures_36 : decode cX9_readMeasures 36 = .ok (.istore_n 2, 1) := by decide +kernel
theorem dX9_readMeasures_37 : decode cX9_readMeasures 37 = .ok (.iload_n 2, 1) := by decide +kernel
theorem dX9_readMeasures_38 : decode cX9_readMeasures 38 = .ok (.iconst 1, 1) := by decide +kernel
theorem dX9_readMeasures_39 : decode cX9_readMeasures 39 = .ok (.if_icmp .ge 5, 3) := by decide +kernel
theorem dX9_readMeasures_42 : decode cX9_readMeasures 42 = .ok (.iconst 0, 1) := by decide +kernel
theorem dX9_readMeasures_43 : decode cX9_readMeasures 43 = .ok (.ireturn, 1) := by decide +kernel
theorem dX9_readMeasures_44 : decode cX9_readMeasures 44 = .ok (.aload_n 0, 1) := by decide +kernel
theorem dX9_readMeasures_45 : decode cX9_readMeasures 45 = .ok (.getfield 15, 3) := by decide +kernel
theorem dX9_readMeasures_48 : decode cX9_readMeasures 48 = .ok (.iload_n 1, 1) := by decide +kernel
theorem dX9_readMeasures_49 : decode cX9_readMeasures 49 = .ok (.iload_n 2, 1) := by decide +kernel
theorem dX9_readMeasures_50 : decode cX9_readMeasures 50 = .ok (.invokestatic 22, 3) := by decide +kernel
theorem dX9_readMeasures_53 : decode cX9_readMeasures 53 = .ok (.iinc 1 1, 3) := by decide +kernel
theorem dX9_readMeasures_56 : decode cX9_readMeasures 56 = .ok (.goto (-54), 3) := by decide +kernel
theorem dX9_readMeasures_59 : decode cX9_readMeasures 59 = .ok (.iconst 1, 1) := by decide +kernel
theorem dX9_readMeasures_60 : decode cX9_readMeasures 60 = .ok (.ireturn, 1) := by decide +kernel
theorem dX9_readNumber_0 : decode cX9_readNumber 0 = .ok (.aload_n 0, 1) := by decide +kernel
theorem dX9_readNumber_1 : decode cX9_readNumber 1 = .ok (.invokevirtual 41, 3) := by decide +kernel
theorem dX9_readNumber_4 : decode cX9_readNumber 4 = .ok (.pop, 1) := by decide +kernel
theorem dX9_readNumber_5 : decode cX9_readNumber 5 = .ok (.aload_n 0, 1) := by decide +kernel
theorem dX9_readNumber_6 : decode cX9_readNumber 6 = .ok (.getfield 28, 3) := by decide +kernel
theorem dX9_readNumber_9 : decode cX9_readNumber 9 = .ok (.istore_n 1, 1) := by decide +kernel
theorem dX9_readNumber_10 : decode cX9_readNumber 10 = .ok (.iconst 0, 1) := by decide +kernel
theorem dX9_readNumber_11 : decode cX9_readNumber 11 = .ok (.istore_n 2, 1) := by decide +kernel
theorem dX9_readNumber_12 : decode cX9_readNumber 12 = .ok (.aload_n 0, 1) := by decide +kernel
theorem dX9_readNumber_13 : decode cX9_readNumber 13 = .ok (.getfield 28, 3) := by decide +kernel
theorem dX9_readNumber_16 : decode cX9_readNumber 16 = .ok (.aload_n 0, 1) := by decide +kernel
theorem dX9_readNumber_17 : decode cX9_readNumber 17 = .ok (.getfield 18, 3) := by decide +kernel
theorem dX9_readNumber_20 : decode cX9_readNumber 20 = .ok (.if_icmp .ge 59, 3) := by decide +kernel
theorem dX9_readNumber_23 : decode cX9_readNumber 23 = .ok (.aload_n 0, 1) := by decide +kernel
theorem dX9_readNumber_24 : decode cX9_readNumber 24 = .ok (.getfield 9, 3) := by decide +kernel
theorem dX9_readNumber_27 : decode cX9_readNumber 27 = .ok (.aload_n 0, 1) := by decide +kernel
theorem dX9_readNumber_28 : decode cX9_readNumber 28 = .ok (.getfield 28, 3) := by decide +kernel
theorem dX9_readNumber_31 : decode cX9_readNumber 31 = .ok (.invokestatic 54, 3) := by decide +kernel
theorem dX9_readNumber_34 : decode cX9_readNumber 34 = .ok (.invokestatic 60, 3) := by decide +kernel
theorem dX9_readNumber_37 : decode cX9_readNumber 37 = .ok (.ifCond .eq 42, 3) := by decide +kernel
theorem dX9_readNumber_40 : decode cX9_readNumber 40 = .ok (.sipush 1000, 3) := by decide +kernel
theorem dX9_readNumber_43 : decode cX9_readNumber 43 = .ok (.bipush 10, 2) := by decide +kernel
theorem dX9_readNumber_45 : decode cX9_readNumber 45 = .ok (.iload_n 2, 1) := by decide +kernel
theorem dX9_readNumber_46 : decode cX9_readNumber 46 = .ok (.imul, 1) := by decide +kernel
theorem dX9_readNumber_47 : decode cX9_readNumber 47 = .ok (.aload_n 0, 1) := by decide +kernel
theorem dX9_readNumber_48 : decode cX9_readNumber 48 = .ok (.getfield 9, 3) := by decide +kernel
theorem dX9_readNumber_51 : decode cX9_readNumber 51 = .ok (.aload_n 0, 1) := by decide +kernel
theorem dX9_readNumber_52 : decode cX9_readNumber 52 = .ok (.getfield 28, 3) := by decide +kernel
theorem dX9_readNumber_55 : decode cX9_readNumber 55 = .ok (.invokestatic 54, 3) := by decide +kernel
theorem dX9_readNumber_58 : decode cX9_readNumber 58 = .ok (.iadd, 1) := by decide +kernel
theorem dX9_readNumber_59 : decode cX9_readNumber 59 = .ok (.bipush 48, 2) := by decide +kernel
theorem dX9_readNumber_61 : decode cX9_readNumber 61 = .ok (.isub, 1) := by decide +kernel
theorem dX9_readNumber_62 : decode cX9_readNumber 62 = .ok (.invokestatic 64, 3) := by decide +kernel
theorem dX9_readNumber_65 : decode cX9_readNumber 65 = .ok (.istore_n 2, 1) := by decide +kernel
theorem dX9_readNumber_66 : decode cX9_readNumber 66 = .ok (.aload_n 0, 1) := by decide +kernel
theorem dX9_readNumber_67 : decode cX9_readNumber 67 = .ok (.dup, 1) := by decide +kernel
theorem dX9_readNumber_68 : decode cX9_readNumber 68 = .ok (.getfield 28, 3) := by decide +kernel
theorem dX9_readNumber_71 : decode cX9_readNumber 71 = .ok (.iconst 1, 1) := by decide +kernel
theorem dX9_readNumber_72 : decode cX9_readNumber 72 = .ok (.iadd, 1) := by decide +kernel
theorem dX9_readNumber_73 : decode cX9_readNumber 73 = .ok (.putfield 28, 3) := by decide +kernel
theorem dX9_readNumber_76 : decode cX9_readNumber 76 = .ok (.goto (-64), 3) := by decide +kernel
theorem dX9_readNumber_79 : decode cX9_readNumber 79 = .ok (.iload_n 2, 1) := by decide +kernel
theorem dX9_readNumber_80 : decode cX9_readNumber 80 = .ok (.iconst 1, 1) := by decide +kernel
theorem dX9_readNumber_81 : decode cX9_readNumber 81 = .ok (.if_icmp .lt 10, 3) := by decide +kernel
theorem dX9_readNumber_84 : decode cX9_readNumber 84 = .ok (.iload_n 2, 1) := by decide +kernel
theorem dX9_readNumber_85 : decode cX9_readNumber 85 = .ok (.sipush 999, 3) := by decide +kernel
theorem dX9_readNumber_88 : decode cX9_readNumber 88 = .ok (.if_icmp .le 10, 3) := by decide +kernel
theorem dX9_readNumber_91 : decode cX9_readNumber 91 = .ok (.aload_n 0, 1) := by decide +kernel
theorem dX9_readNumber_92 : decode cX9_readNumber 92 = .ok (.iload_n 1, 1) := by decide +kernel
theorem dX9_readNumber_93 : decode cX9_readNumber 93 = .ok (.putfield 28, 3) := by decide +kernel
theorem dX9_readNumber_96 : decode cX9_readNumber 96 = .ok (.iconst 0, 1) := by decide +kernel
theorem dX9_readNumber_97 : decode cX9_readNumber 97 = .ok (.ireturn, 1) := by decide +kernel
theorem dX9_readNumber_98 : decode cX9_readNumber 98 = .ok (.iload_n 2, 1) := by decide +kernel
theorem dX9_readNumber_99 : decode cX9_readNumber 99 = .ok (.ireturn, 1) := by decide +kernel
theorem dX9_isDigit_0 : decode cX9_isDigit 0 = .ok (.iload_n 0, 1) := by decide +kernel
theorem dX9_isDigit_1 : decode cX9_isDigit 1 = .ok (.bipush 48, 2) := by decide +kernel
theorem dX9_isDigit_3 : decode cX9_isDigit 3 = .ok (.if_icmp .lt 13, 3) := by decide +kernel
theorem dX9_isDigit_6 : decode cX9_isDigit 6 = .ok (.iload_n 0, 1) := by decide +kernel
theorem dX9_isDigit_7 : decode cX9_isDigit 7 = .ok (.bipush 57, 2) := by decide +kernel
theorem dX9_isDigit_9 : decode cX9_isDigit 9 = .ok (.if_icmp .gt 7, 3) := by decide +kernel
theorem dX9_isDigit_12 : decode cX9_isDigit 12 = .ok (.iconst 1, 1) := by decide +kernel
theorem dX9_isDigit_13 : decode cX9_isDigit 13 = .ok (.goto 4, 3) := by decide +kernel
theorem dX9_isDigit_16 : decode cX9_isDigit 16 = .ok (.iconst 0, 1) := by decide +kernel
theorem dX9_isDigit_17 : decode cX9_isDigit 17 = .ok (.ireturn, 1) := by decide +kernel
theorem dX9_readCounting_0 : decode cX9_readCounting 0 = .ok (.aload_n 0, 1) := by decide +kernel
theorem dX9_readCounting_1 : decode cX9_readCounting 1 = .ok (.dup, 1) := by decide +kernel
theorem dX9_readCounting_2 : decode cX9_readCounting 2 = .ok (.getfield 28, 3) := by decide +kernel
theorem dX9_readCounting_5 : decode cX9_readCounting 5 = .ok (.iconst 1, 1) := by decide +kernel
theorem dX9_readCounting_6 : decode cX9_readCounting 6 = .ok (.iadd, 1) := by decide +kernel
theorem dX9_readCounting_7 : decode cX9_readCounting 7 = .ok (.putfield 28, 3) := by decide +kernel
theorem dX9_readCounting_10 : decode cX9_readCounting 10 = .ok (.iconst 0, 1) := by decide +kernel
theorem dX9_readCounting_11 : decode cX9_readCounting 11 = .ok (.istore_n 1, 1) := by decide +kernel
theorem dX9_readCounting_12 : decode cX9_readCounting 12 = .ok (.iconst 0, 1) := by decide +kernel
theorem dX9_readCounting_13 : decode cX9_readCounting 13 = .ok (.istore_n 2, 1) := by decide +kernel
theorem dX9_readCounting_14 : decode cX9_readCounting 14 = .ok (.iload_n 2, 1) := by decide +kernel
theorem dX9_readCounting_15 : decode cX9_readCounting 15 = .ok (.iconst 3, 1) := by decide +kernel
theorem dX9_readCounting_16 : decode cX9_readCounting 16 = .ok (.if_icmp .ge 54, 3) := by decide +kernel
theorem dX9_readCounting_19 : decode cX9_readCounting 19 = .ok (.aload_n 0, 1) := by decide +kernel
theorem dX9_readCounting_20 : decode cX9_readCounting 20 = .ok (.invokevirtual 41, 3) := by decide +kernel
theorem dX9_readCounting_23 : decode cX9_readCounting 23 = .ok (.bipush 48, 2) := by decide +kernel
theorem dX9_readCounting_25 : decode cX9_readCounting 25 = .ok (.isub, 1) := by decide +kernel
theorem dX9_readCounting_26 : decode cX9_readCounting 26 = .ok (.istore_n 3, 1) := by decide +kernel
theorem dX9_readCounting_27 : decode cX9_readCounting 27 = .ok (.iload_n 3, 1) := by decide +kernel
theorem dX9_readCounting_28 : decode cX9_readCounting 28 = .ok (.ifCond .lt 42, 3) := by decide +kernel
theorem dX9_readCounting_31 : decode cX9_readCounting 31 = .ok (.iload_n 3, 1) := by decide +kernel
theorem dX9_readCounting_32 : decode cX9_readCounting 32 = .ok (.iconst 3, 1) := by decide +kernel
theorem dX9_readCounting_33 : decode cX9_readCounting 33 = .ok (.if_icmp .ge 37, 3) := by decide +kernel
theorem dX9_readCounting_36 : decode cX9_readCounting 36 = .ok (.iload_n 1, 1) := by decide +kernel
theorem dX9_readCounting_37 : decode cX9_readCounting 37 = .ok (.iload_n 3, 1) := by decide +kernel
theorem dX9_readCounting_38 : decode cX9_readCounting 38 = .ok (.ishr, 1) := by decide +kernel
theorem dX9_readCounting_39 : decode cX9_readCounting 39 = .ok (.iconst 1, 1) := by decide +kernel
theorem dX9_readCounting_40 : decode cX9_readCounting 40 = .ok (.iand, 1) := by decide +kernel
theorem dX9_readCounting_41 : decode cX9_readCounting 41 = .ok (.iconst 1, 1) := by decide +kernel
theorem dX9_readCounting_42 : decode cX9_readCounting 42 = .ok (.if_icmp .ne 6, 3) := by decide +kernel
theorem dX9_readCounting_45 : decode cX9_readCounting 45 = .ok (.goto 25, 3) := by decide +kernel
theorem dX9_readCounting_48 : decode cX9_readCounting 48 = .ok (.iload_n 1, 1) := by decide +kernel
theorem dX9_readCounting_49 : decode cX9_readCounting 49 = .ok (.iconst 1, 1) := by decide +kernel
theorem dX9_readCounting_50 : decode cX9_readCounting 50 = .ok (.iload_n 3, 1) := by decide +kernel
theorem dX9_readCounting_51 : decode cX9_readCounting 51 = .ok (.ishl, 1) := by decide +kernel
theorem dX9_readCounting_52 : decode cX9_readCounting 52 = .ok (.ior, 1) := by decide +kernel
theorem dX9_readCounting_53 : decode cX9_readCounting 53 = .ok (.istore_n 1, 1) := by decide +kernel
theorem dX9_readCounting_54 : decode cX9_readCounting 54 = .ok (.aload_n 0, 1) := by decide +kernel
theorem dX9_readCounting_55 : decode cX9_readCounting 55 = .ok (.dup, 1) := by decide +kernel
theorem dX9_readCounting_56 : decode cX9_readCounting 56 = .ok (.getfield 28, 3) := by decide +kernel
theorem dX9_readCounting_59 : decode cX9_readCounting 59 = .ok (.iconst 1, 1) := by decide +kernel
theorem dX9_readCounting_60 : decode cX9_readCounting 60 = .ok (.iadd, 1) := by decide +kernel
theorem dX9_readCounting_61 : decode cX9_readCounting 61 = .ok (.putfield 28, 3) := by decide +kernel
theorem dX9_readCounting_64 : decode cX9_readCounting 64 = .ok (.iinc 2 1, 3) := by decide +kernel
theorem dX9_readCounting_67 : decode cX9_readCounting 67 = .ok (.goto (-53), 3) := by decide +kernel
theorem dX9_readCounting_70 : decode cX9_readCounting 70 = .ok (.aload_n 0, 1) := by decide +kernel
theorem dX9_readCounting_71 : decode cX9_readCounting 71 = .ok (.iload_n 1, 1) := by decide +kernel
theorem dX9_readCounting_72 : decode cX9_readCounting 72 = .ok (.putfield 31, 3) := by decide +kernel
theorem dX9_readCounting_75 : decode cX9_readCounting 75 = .ok (.iload_n 1, 1) := by decide +kernel
theorem dX9_readCounting_76 : decode cX9_readCounting 76 = .ok (.invokestatic 48, 3) := by decide +kernel
theorem dX9_readCounting_79 : decode cX9_readCounting 79 = .ok (.iconst 2, 1) := by decide +kernel
theorem dX9_readCounting_80 : decode cX9_readCounting 80 = .ok (.if_icmp .lt 7, 3) := by decide +kernel
theorem dX9_readCounting_83 : decode cX9_readCounting 83 = .ok (.iconst 1, 1) := by decide +kernel
theorem dX9_readCounting_84 : decode cX9_readCounting 84 = .ok (.goto 4, 3) := by decide +kernel
theorem dX9_readCounting_87 : decode cX9_readCounting 87 = .ok (.iconst 0, 1) := by decide +kernel
theorem dX9_readCounting_88 : decode cX9_readCounting 88 = .ok (.ireturn, 1) := by decide +kernel
theorem dX0_has_0 : decode cX0_has 0 = .ok (.iload_n 1, 1) := by decide +kernel
theorem dX0_has_1 : decode cX0_has 1 = .ok (.ifCond .lt 15, 3) := by decide +kernel
theorem dX0_has_4 : decode cX0_has 4 = .ok (.iload_n 1, 1) := by decide +kernel
theorem dX0_has_5 : decode cX0_has 5 = .ok (.aload_n 0, 1) := by decide +kernel
theorem dX0_has_6 : decode cX0_has 6 = .ok (.getfield 31, 3) := by decide +kernel
theorem dX0_has_9 : decode cX0_has 9 = .ok (.if_icmp .ge 7, 3) := by decide +kernel
theorem dX0_has_12 : decode cX0_has 12 = .ok (.iconst 1, 1) := by decide +kernel
theorem dX0_has_13 : decode cX0_has 13 = .ok (.goto 4, 3) := by decide +kernel
theorem dX0_has_16 : decode cX0_has 16 = .ok (.iconst 0, 1) := by decide +kernel
theorem dX0_has_17 : decode cX0_has 17 = .ok (.ireturn, 1) := by decide +kernel
theorem dX0_add_0 : decode cX0_add 0 = .ok (.aload_n 0, 1) := by decide +kernel
theorem dX0_add_1 : decode cX0_add 1 = .ok (.getfield 9, 3) := by decide +kernel
theorem dX0_add_4 : decode cX0_add 4 = .ok (.aload_n 0, 1) := by decide +kernel
theorem dX0_add_5 : decode cX0_add 5 = .ok (.getfield 31, 3) := by decide +kernel
theorem dX0_add_8 : decode cX0_add 8 = .ok (.iload_n 1, 1) := by decide +kernel
theorem dX0_add_9 : decode cX0_add 9 = .ok (.invokestatic 37, 3) := by decide +kernel
theorem dX0_add_12 : decode cX0_add 12 = .ok (.aload_n 0, 1) := by decide +kernel
theorem dX0_add_13 : decode cX0_add 13 = .ok (.getfield 15, 3) := by decide +kernel
theorem dX0_add_16 : decode cX0_add 16 = .ok (.aload_n 0, 1) := by decide +kernel
theorem dX0_add_17 : decode cX0_add 17 = .ok (.getfield 31, 3) := by decide +kernel
theorem dX0_add_20 : decode cX0_add 20 = .ok (.iload_n 2, 1) := by decide +kernel
theorem dX0_add_21 : decode cX0_add 21 = .ok (.invokestatic 37, 3) := by decide +kernel
theorem dX0_add_24 : decode cX0_add 24 = .ok (.aload_n 0, 1) := by decide +kernel
theorem dX0_add_25 : decode cX0_add 25 = .ok (.dup, 1) := by decide +kernel
theorem dX0_add_26 : decode cX0_add 26 = .ok (.getfield 31, 3) := by decide +kernel
theorem dX0_add_29 : decode cX0_add 29 = .ok (.dup_x1, 1) := by decide +kernel
theorem dX0_add_30 : decode cX0_add 30 = .ok (.iconst 1, 1) := by decide +kernel
theorem dX0_add_31 : decode cX0_add 31 = .ok (.iadd, 1) := by decide +kernel
theorem dX0_add_32 : decode cX0_add 32 = .ok (.putfield 31, 3) := by decide +kernel
theorem dX0_add_35 : decode cX0_add 35 = .ok (.ireturn, 1) := by decide +kernel
theorem dX0_inches_0 : decode cX0_inches 0 = .ok (.iconst 0, 1) := by decide +kernel
theorem dX0_inches_1 : decode cX0_inches 1 = .ok (.istore_n 1, 1) := by decide +kernel
theorem dX0_inches_2 : decode cX0_inches 2 = .ok (.iconst 0, 1) := by decide +kernel
theorem dX0_inches_3 : decode cX0_inches 3 = .ok (.istore_n 2, 1) := by decide +kernel
theorem dX0_inches_4 : decode cX0_inches 4 = .ok (.iload_n 2, 1) := by decide +kernel
theorem dX0_inches_5 : decode cX0_inches 5 = .ok (.aload_n 0, 1) := by decide +kernel
theorem dX0_inches_6 : decode cX0_inches 6 = .ok (.getfield 31, 3) := by decide +kernel
theorem dX0_inches_9 : decode cX0_inches 9 = .ok (.if_icmp .ge 20, 3) := by decide +kernel
theorem dX0_inches_12 : decode cX0_inches 12 = .ok (.iload_n 1, 1) := by decide +kernel
theorem dX0_inches_13 : decode cX0_inches 13 = .ok (.aload_n 0, 1) := by decide +kernel
theorem dX0_inches_14 : decode cX0_inches 14 = .ok (.getfield 15, 3) := by decide +kernel
theorem dX0_inches_17 : decode cX0_inches 17 = .ok (.iload_n 2, 1) := by decide +kernel
theorem dX0_inches_18 : decode cX0_inches 18 = .ok (.invokestatic 41, 3) := by decide +kernel
theorem dX0_inches_21 : decode cX0_inches 21 = .ok (.iadd, 1) := by decide +kernel
theorem dX0_inches_22 : decode cX0_inches 22 = .ok (.istore_n 1, 1) := by decide +kernel
theorem dX0_inches_23 : decode cX0_inches 23 = .ok (.iinc 2 1, 3) := by decide +kernel
theorem dX0_inches_26 : decode cX0_inches 26 = .ok (.goto (-22), 3) := by decide +kernel
theorem dX0_inches_29 : decode cX0_inches 29 = .ok (.iload_n 1, 1) := by decide +kernel
theorem dX0_inches_30 : decode cX0_inches 30 = .ok (.ireturn, 1) := by decide +kernel
theorem dX0_waste_0 : decode cX0_waste 0 = .ok (.iconst 0, 1) := by decide +kernel
theorem dX0_waste_1 : decode cX0_waste 1 = .ok (.istore_n 2, 1) := by decide +kernel
theorem dX0_waste_2 : decode cX0_waste 2 = .ok (.iconst 0, 1) := by decide +kernel
theorem dX0_waste_3 : decode cX0_waste 3 = .ok (.istore_n 3, 1) := by decide +kernel
theorem dX0_waste_4 : decode cX0_waste 4 = .ok (.iload_n 3, 1) := by decide +kernel
theorem dX0_waste_5 : decode cX0_waste 5 = .ok (.aload_n 0, 1) := by decide +kernel
theorem dX0_waste_6 : decode cX0_waste 6 = .ok (.getfield 31, 3) := by decide +kernel
theorem dX0_waste_9 : decode cX0_waste 9 = .ok (.if_icmp .ge 33, 3) := by decide +kernel
theorem dX0_waste_12 : decode cX0_waste 12 = .ok (.aload_n 0, 1) := by decide +kernel
theorem dX0_waste_13 : decode cX0_waste 13 = .ok (.getfield 15, 3) := by decide +kernel
theorem dX0_waste_16 : decode cX0_waste 16 = .ok (.iload_n 3, 1) := by decide +kernel
theorem dX0_waste_17 : decode cX0_waste 17 = .ok (.invokestatic 41, 3) := by decide +kernel
theorem dX0_waste_20 : decode cX0_waste 20 = .ok (.istore 4, 2) := by decide +kernel
theorem dX0_waste_22 : decode cX0_waste 22 = .ok (.iload_n 2, 1) := by decide +kernel
theorem dX0_waste_23 : decode cX0_waste 23 = .ok (.iload 4, 2) := by decide +kernel
theorem dX0_waste_25 : decode cX0_waste 25 = .ok (.aload_n 1, 1) := by decide +kernel
theorem dX0_waste_26 : decode cX0_waste 26 = .ok (.iload 4, 2) := by decide +kernel
theorem dX0_waste_28 : decode cX0_waste 28 = .ok (.i2l, 1) := by decide +kernel
theorem dX0_waste_29 : decode cX0_waste 29 = .ok (.invokevirtual 45, 3) := by decide +kernel
theorem dX0_waste_32 : decode cX0_waste 32 = .ok (.l2i, 1) := by decide +kernel
theorem dX0_waste_33 : decode cX0_waste 33 = .ok (.isub, 1) := by decide +kernel
theorem dX0_waste_34 : decode cX0_waste 34 = .ok (.iadd, 1) := by decide +kernel
theorem dX0_waste_35 : decode cX0_waste 35 = .ok (.istore_n 2, 1) := by decide +kernel
theorem dX0_waste_36 : decode cX0_waste 36 = .ok (.iinc 3 1, 3) := by decide +kernel
theorem dX0_waste_39 : decode cX0_waste 39 = .ok (.goto (-35), 3) := by decide +kernel
theorem dX0_waste_42 : decode cX0_waste 42 = .ok (.iload_n 2, 1) := by decide +kernel
theorem dX0_waste_43 : decode cX0_waste 43 = .ok (.ireturn, 1) := by decide +kernel
theorem dX0_sell_0 : decode cX0_sell 0 = .ok (.aload_n 0, 1) := by decide +kernel
theorem dX0_sell_1 : decode cX0_sell 1 = .ok (.getfield 15, 3) := by decide +kernel
theorem dX0_sell_4 : decode cX0_sell 4 = .ok (.iload_n 1, 1) := by decide +kernel
theorem dX0_sell_5 : decode cX0_sell 5 = .ok (.invokestatic 41, 3) := by decide +kernel
theorem dX0_sell_8 : decode cX0_sell 8 = .ok (.iload_n 2, 1) := by decide +kernel
theorem dX0_sell_9 : decode cX0_sell 9 = .ok (.isub, 1) := by decide +kernel
theorem dX0_sell_10 : decode cX0_sell 10 = .ok (.istore_n 3, 1) := by decide +kernel
theorem dX0_sell_11 : decode cX0_sell 11 = .ok (.iconst 0, 1) := by decide +kernel
theorem dX0_sell_12 : decode cX0_sell 12 = .ok (.iload_n 3, 1) := by decide +kernel
theorem dX0_sell_13 : decode cX0_sell 13 = .ok (.aload_n 0, 1) := by decide +kernel
theorem dX0_sell_14 : decode cX0_sell 14 = .ok (.getfield 9, 3) := by decide +kernel
theorem dX0_sell_17 : decode cX0_sell 17 = .ok (.iload_n 1, 1) := by decide +kernel
theorem dX0_sell_18 : decode cX0_sell 18 = .ok (.invokestatic 41, 3) := by decide +kernel
theorem dX0_sell_21 : decode cX0_sell 21 = .ok (.invokestatic 51, 3) := by decide +kernel
theorem dX0_sell_24 : decode cX0_sell 24 = .ok (.getfield 55, 3) := by decide +kernel
theorem dX0_sell_27 : decode cX0_sell 27 = .ok (.isub, 1) := by decide +kernel
theorem dX0_sell_28 : decode cX0_sell 28 = .ok (.invokestatic 60, 3) := by decide +kernel
theorem dX0_sell_31 : decode cX0_sell 31 = .ok (.istore_n 3, 1) := by decide +kernel
theorem dX0_sell_32 : decode cX0_sell 32 = .ok (.aload_n 0, 1) := by decide +kernel
theorem dX0_sell_33 : decode cX0_sell 33 = .ok (.getfield 15, 3) := by decide +kernel
theorem dX0_sell_36 : decode cX0_sell 36 = .ok (.iload_n 1, 1) := by decide +kernel
theorem dX0_sell_37 : decode cX0_sell 37 = .ok (.iload_n 3, 1) := by decide +kernel
theorem dX0_sell_38 : decode cX0_sell 38 = .ok (.invokestatic 37, 3) := by decide +kernel
theorem dX0_sell_41 : decode cX0_sell 41 = .ok (.aload_n 0, 1) := by decide +kernel
theorem dX0_sell_42 : decode cX0_sell 42 = .ok (.dup, 1) := by decide +kernel
theorem dX0_sell_43 : decode cX0_sell 43 = .ok (.getfield 34, 3) := by decide +kernel
theorem dX0_sell_46 : decode cX0_sell 46 = .ok (.iload_n 2, 1) := by decide +kernel
theorem dX0_sell_47 : decode cX0_sell 47 = .ok (.iadd, 1) := by decide +kernel
theorem dX0_sell_48 : decode cX0_sell 48 = .ok (.putfield 34, 3) := by decide +kernel
theorem dX0_sell_51 : decode cX0_sell 51 = .ok (.iload_n 3, 1) := by decide +kernel
theorem dX0_sell_52 : decode cX0_sell 52 = .ok (.ireturn, 1) := by decide +kernel
theorem dX0_canBeSewn_0 : decode cX0_canBeSewn 0 = .ok (.aload_n 0, 1) := by decide +kernel
theorem dX0_canBeSewn_1 : decode cX0_canBeSewn 1 = .ok (.getfield 9, 3) := by decide +kernel
theorem dX0_canBeSewn_4 : decode cX0_canBeSewn 4 = .ok (.iload_n 1, 1) := by decide +kernel
theorem dX0_canBeSewn_5 : decode cX0_canBeSewn 5 = .ok (.invokestatic 41, 3) := by decide +kernel
theorem dX0_canBeSewn_8 : decode cX0_canBeSewn 8 = .ok (.aload_n 0, 1) := by decide +kernel
theorem dX0_canBeSewn_9 : decode cX0_canBeSewn 9 = .ok (.getfield 9, 3) := by decide +kernel
theorem dX0_canBeSewn_12 : decode cX0_canBeSewn 12 = .ok (.iload_n 2, 1) := by decide +kernel
theorem dX0_canBeSewn_13 : decode cX0_canBeSewn 13 = .ok (.invokestatic 41, 3) := by decide +kernel
theorem dX0_canBeSewn_16 : decode cX0_canBeSewn 16 = .ok (.if_icmp .ne 7, 3) := by decide +kernel
theorem dX0_canBeSewn_19 : decode cX0_canBeSewn 19 = .ok (.iconst 1, 1) := by decide +kernel
theorem dX0_canBeSewn_20 : decode cX0_canBeSewn 20 = .ok (.goto 4, 3) := by decide +kernel
theorem dX0_canBeSewn_23 : decode cX0_canBeSewn 23 = .ok (.iconst 0, 1) := by decide +kernel
theorem dX0_canBeSewn_24 : decode cX0_canBeSewn 24 = .ok (.istore_n 3, 1) := by decide +kernel
theorem dX0_canBeSewn_25 : decode cX0_canBeSewn 25 = .ok (.iload_n 3, 1) := by decide +kernel
theorem dX0_canBeSewn_26 : decode cX0_canBeSewn 26 = .ok (.ifCond .eq 29, 3) := by decide +kernel
theorem dX0_canBeSewn_29 : decode cX0_canBeSewn 29 = .ok (.aload_n 0, 1) := by decide +kernel
theorem dX0_canBeSewn_30 : decode cX0_canBeSewn 30 = .ok (.getfield 15, 3) := by decide +kernel
theorem dX0_canBeSewn_33 : decode cX0_canBeSewn 33 = .ok (.iload_n 1, 1) := by decide +kernel
theorem dX0_canBeSewn_34 : decode cX0_canBeSewn 34 = .ok (.invokestatic 41, 3) := by decide +kernel
theorem dX0_canBeSewn_37 : decode cX0_canBeSewn 37 = .ok (.ifCond .le 18, 3) := by decide +kernel
theorem dX0_canBeSewn_40 : decode cX0_canBeSewn 40 = .ok (.aload_n 0, 1) := by decide +kernel
theorem dX0_canBeSewn_41 : decode cX0_canBeSewn 41 = .ok (.getfield 15, 3) := by decide +kernel
theorem dX0_canBeSewn_44 : decode cX0_canBeSewn 44 = .ok (.iload_n 2, 1) := by decide +kernel
theorem dX0_canBeSewn_45 : decode cX0_canBeSewn 45 = .ok (.invokestatic 41, 3) := by decide +kernel
theorem dX0_canBeSewn_48 : decode cX0_canBeSewn 48 = .ok (.ifCond .le 7, 3) := by decide +kernel
theorem dX0_canBeSewn_51 : decode cX0_canBeSewn 51 = .ok (.iconst 1, 1) := by decide +kernel
theorem dX0_canBeSewn_52 : decode cX0_canBeSewn 52 = .ok (.goto 4, 3) := by decide +kernel
theorem dX0_canBeSewn_55 : decode cX0_canBeSewn 55 = .ok (.iconst 0, 1) := by decide +kernel
theorem dX0_canBeSewn_56 : decode cX0_canBeSewn 56 = .ok (.ireturn, 1) := by decide +kernel
theorem dX0_sew_0 : decode cX0_sew 0 = .ok (.aload_n 0, 1) := by decide +kernel
theorem dX0_sew_1 : decode cX0_sew 1 = .ok (.getfield 15, 3) := by decide +kernel
theorem dX0_sew_4 : decode cX0_sew 4 = .ok (.iload_n 1, 1) := by decide +kernel
theorem dX0_sew_5 : decode cX0_sew 5 = .ok (.iload_n 3, 1) := by decide +kernel
theorem dX0_sew_6 : decode cX0_sew 6 = .ok (.invokestatic 37, 3) := by decide +kernel
theorem dX0_sew_9 : decode cX0_sew 9 = .ok (.aload_n 0, 1) := by decide +kernel
theorem dX0_sew_10 : decode cX0_sew 10 = .ok (.getfield 15, 3) := by decide +kernel
theorem dX0_sew_13 : decode cX0_sew 13 = .ok (.iload_n 2, 1) := by decide +kernel
theorem dX0_sew_14 : decode cX0_sew 14 = .ok (.iconst 0, 1) := by decide +kernel
theorem dX0_sew_15 : decode cX0_sew 15 = .ok (.invokestatic 37, 3) := by decide +kernel
theorem dX0_sew_18 : decode cX0_sew 18 = .ok (.return_, 1) := by decide +kernel
theorem dX0_pick_0 : decode cX0_pick 0 = .ok (.iconst 0, 1) := by decide +kernel
theorem dX0_pick_1 : decode cX0_pick 1 = .ok (.istore_n 2, 1) := by decide +kernel
theorem dX0_pick_2 : decode cX0_pick 2 = .ok (.iconst 0, 1) := by decide +kernel
theorem dX0_pick_3 : decode cX0_pick 3 = .ok (.istore_n 3, 1) := by decide +kernel
theorem dX0_pick_4 : decode cX0_pick 4 = .ok (.iload_n 3, 1) := by decide +kernel
theorem dX0_pick_5 : decode cX0_pick 5 = .ok (.aload_n 0, 1) := by decide +kernel
theorem dX0_pick_6 : decode cX0_pick 6 = .ok (.getfield 31, 3) := by decide +kernel
theorem dX0_pick_9 : decode cX0_pick 9 = .ok (.if_icmp .ge 44, 3) := by decide +kernel
theorem dX0_pick_12 : decode cX0_pick 12 = .ok (.aload_n 0, 1) := by decide +kernel
theorem dX0_pick_13 : decode cX0_pick 13 = .ok (.getfield 9, 3) := by decide +kernel
theorem dX0_pick_16 : decode cX0_pick 16 = .ok (.iload_n 3, 1) := by decide +kernel
theorem dX0_pick_17 : decode cX0_pick 17 = .ok (.invokestatic 41, 3) := by decide +kernel
theorem dX0_pick_20 : decode cX0_pick 20 = .ok (.iload_n 1, 1) := by decide +kernel
theorem dX0_pick_21 : decode cX0_pick 21 = .ok (.if_icmp .ne 26, 3) := by decide +kernel
theorem dX0_pick_24 : decode cX0_pick 24 = .ok (.aload_n 0, 1) := by decide +kernel
theorem dX0_pick_25 : decode cX0_pick 25 = .ok (.getfield 15, 3) := by decide +kernel
theorem dX0_pick_28 : decode cX0_pick 28 = .ok (.iload_n 3, 1) := by decide +kernel
theorem dX0_pick_29 : decode cX0_pick 29 = .ok (.invokestatic 41, 3) := by decide +kernel
theorem dX0_pick_32 : decode cX0_pick 32 = .ok (.ifCond .le 15, 3) := by decide +kernel
theorem dX0_pick_35 : decode cX0_pick 35 = .ok (.aload_n 0, 1) := by decide +kernel
theorem dX0_pick_36 : decode cX0_pick 36 = .ok (.getfield 18, 3) := by decide +kernel
theorem dX0_pick_39 : decode cX0_pick 39 = .ok (.iload_n 2, 1) := by decide +kernel
theorem dX0_pick_40 : decode cX0_pick 40 = .ok (.iload_n 3, 1) := by decide +kernel
theorem dX0_pick_41 : decode cX0_pick 41 = .ok (.invokestatic 37, 3) := by decide +kernel
theorem dX0_pick_44 : decode cX0_pick 44 = .ok (.iinc 2 1, 3) := by decide +kernel
theorem dX0_pick_47 : decode cX0_pick 47 = .ok (.iinc 3 1, 3) := by decide +kernel
theorem dX0_pick_50 : decode cX0_pick 50 = .ok (.goto (-46), 3) := by decide +kernel
theorem dX0_pick_53 : decode cX0_pick 53 = .ok (.iload_n 2, 1) := by decide +kernel
theorem dX0_pick_54 : decode cX0_pick 54 = .ok (.ireturn, 1) := by decide +kernel
theorem dX0_lengthOfPicked_0 : decode cX0_lengthOfPicked 0 = .ok (.iconst 0, 1) := by decide +kernel
theorem dX0_lengthOfPicked_1 : decode cX0_lengthOfPicked 1 = .ok (.istore_n 3, 1) := by decide +kernel
theorem dX0_lengthOfPicked_2 : decode cX0_lengthOfPicked 2 = .ok (.iconst 0, 1) := by decide +kernel
theorem dX0_lengthOfPicked_3 : decode cX0_lengthOfPicked 3 = .ok (.istore 4, 2) := by decide +kernel
theorem dX0_lengthOfPicked_5 : decode cX0_lengthOfPicked 5 = .ok (.iload 4, 2) := by decide +kernel
theorem dX0_lengthOfPicked_7 : decode cX0_lengthOfPicked 7 = .ok (.bipush 8, 2) := by decide +kernel
theorem dX0_lengthOfPicked_9 : decode cX0_lengthOfPicked 9 = .ok (.if_icmp .ge 33, 3) := by decide +kernel
theorem dX0_lengthOfPicked_12 : decode cX0_lengthOfPicked 12 = .ok (.iload_n 1, 1) := by decide +kernel
theorem dX0_lengthOfPicked_13 : decode cX0_lengthOfPicked 13 = .ok (.iload 4, 2) := by decide +kernel
theorem dX0_lengthOfPicked_15 : decode cX0_lengthOfPicked 15 = .ok (.ishr, 1) := by decide +kernel
theorem dX0_lengthOfPicked_16 : decode cX0_lengthOfPicked 16 = .ok (.iconst 1, 1) := by decide +kernel
theorem dX0_lengthOfPicked_17 : decode cX0_lengthOfPicked 17 = .ok (.iand, 1) := by decide +kernel
theorem dX0_lengthOfPicked_18 : decode cX0_lengthOfPicked 18 = .ok (.iconst 1, 1) := by decide +kernel
theorem dX0_lengthOfPicked_19 : decode cX0_lengthOfPicked 19 = .ok (.if_icmp .ne 17, 3) := by decide +kernel
theorem dX0_lengthOfPicked_22 : decode cX0_lengthOfPicked 22 = .ok (.iload_n 3, 1) := by decide +kernel
theorem dX0_lengthOfPicked_23 : decode cX0_lengthOfPicked 23 = .ok (.iconst 1, 1) := by decide +kernel
theorem dX0_lengthOfPicked_24 : decode cX0_lengthOfPicked 24 = .ok (.aload_n 0, 1) := by decide +kernel
theorem dX0_lengthOfPicked_25 : decode cX0_lengthOfPicked 25 = .ok (.getfield 18, 3) := by decide +kernel
theorem dX0_lengthOfPicked_28 : decode cX0_lengthOfPicked 28 = .ok (.iload 4, 2) := by decide +kernel
theorem dX0_lengthOfPicked_30 : decode cX0_lengthOfPicked 30 = .ok (.invokestatic 41, 3) := by decide +kernel
theorem dX0_lengthOfPicked_33 : decode cX0_lengthOfPicked 33 = .ok (.ishl, 1) := by decide +kernel
theorem dX0_lengthOfPicked_34 : decode cX0_lengthOfPicked 34 = .ok (.ior, 1) := by decide +kernel
theorem dX0_lengthOfPicked_35 : decode cX0_lengthOfPicked 35 = .ok (.istore_n 3, 1) := by decide +kernel
theorem dX0_lengthOfPicked_36 : decode cX0_lengthOfPicked 36 = .ok (.iinc 4 1, 3) := by decide +kernel
theorem dX0_lengthOfPicked_39 : decode cX0_lengthOfPicked 39 = .ok (.goto (-34), 3) := by decide +kernel
theorem dX0_lengthOfPicked_42 : decode cX0_lengthOfPicked 42 = .ok (.aload_n 0, 1) := by decide +kernel
theorem dX0_lengthOfPicked_43 : decode cX0_lengthOfPicked 43 = .ok (.iload_n 3, 1) := by decide +kernel
theorem dX0_lengthOfPicked_44 : decode cX0_lengthOfPicked 44 = .ok (.iload_n 2, 1) := by decide +kernel
theorem dX0_lengthOfPicked_45 : decode cX0_lengthOfPicked 45 = .ok (.invokevirtual 66, 3) := by decide +kernel
theorem dX0_lengthOfPicked_48 : decode cX0_lengthOfPicked 48 = .ok (.ireturn, 1) := by decide +kernel
theorem dX0_lengthOfAll_0 : decode cX0_lengthOfAll 0 = .ok (.iload_n 2, 1) := by decide +kernel
theorem dX0_lengthOfAll_1 : decode cX0_lengthOfAll 1 = .ok (.invokestatic 51, 3) := by decide +kernel
theorem dX0_lengthOfAll_4 : decode cX0_lengthOfAll 4 = .ok (.getfield 69, 3) := by decide +kernel
theorem dX0_lengthOfAll_7 : decode cX0_lengthOfAll 7 = .ok (.ifCond .eq 10, 3) := by decide +kernel
theorem dX0_lengthOfAll_10 : decode cX0_lengthOfAll 10 = .ok (.aload_n 0, 1) := by decide +kernel
theorem dX0_lengthOfAll_11 : decode cX0_lengthOfAll 11 = .ok (.getfield 21, 3) := by decide +kernel
theorem dX0_lengthOfAll_14 : decode cX0_lengthOfAll 14 = .ok (.goto 4, 3) := by decide +kernel
theorem dX0_lengthOfAll_17 : decode cX0_lengthOfAll 17 = .ok (.iconst 0, 1) := by decide +kernel
theorem dX0_lengthOfAll_18 : decode cX0_lengthOfAll 18 = .ok (.istore_n 3, 1) := by decide +kernel
theorem dX0_lengthOfAll_19 : decode cX0_lengthOfAll 19 = .ok (.iload_n 3, 1) := by decide +kernel
theorem dX0_lengthOfAll_20 : decode cX0_lengthOfAll 20 = .ok (.ineg, 1) := by decide +kernel
theorem dX0_lengthOfAll_21 : decode cX0_lengthOfAll 21 = .ok (.iload_n 1, 1) := by decide +kernel
theorem dX0_lengthOfAll_22 : decode cX0_lengthOfAll 22 = .ok (.invokestatic 73, 3) := by decide +kernel
theorem dX0_lengthOfAll_25 : decode cX0_lengthOfAll 25 = .ok (.iconst 1, 1) := by decide +kernel
theorem dX0_lengthOfAll_26 : decode cX0_lengthOfAll 26 = .ok (.isub, 1) := by decide +kernel
theorem dX0_lengthOfAll_27 : decode cX0_lengthOfAll 27 = .ok (.imul, 1) := by decide +kernel
theorem dX0_lengthOfAll_28 : decode cX0_lengthOfAll 28 = .ok (.istore 4, 2) := by decide +kernel
theorem dX0_lengthOfAll_30 : decode cX0_lengthOfAll 30 = .ok (.iconst 0, 1) := by decide +kernel
theorem dX0_lengthOfAll_31 : decode cX0_lengthOfAll 31 = .ok (.istore 5, 2) := by decide +kernel
theorem dX0_lengthOfAll_33 : decode cX0_lengthOfAll 33 = .ok (.iload 5, 2) := by decide +kernel
theorem dX0_lengthOfAll_35 : decode cX0_lengthOfAll 35 = .ok (.aload_n 0, 1) := by decide +kernel
theorem dX0_lengthOfAll_36 : decode cX0_lengthOfAll 36 = .ok (.getfield 31, 3) := by decide +kernel
theorem dX0_lengthOfAll_39 : decode cX0_lengthOfAll 39 = .ok (.if_icmp .ge 33, 3) := by decide +kernel
theorem dX0_lengthOfAll_42 : decode cX0_lengthOfAll 42 = .ok (.iload_n 1, 1) := by decide +kernel
theorem dX0_lengthOfAll_43 : decode cX0_lengthOfAll 43 = .ok (.iload 5, 2) := by decide +kernel
theorem dX0_lengthOfAll_45 : decode cX0_lengthOfAll 45 = .ok (.ishr, 1) := by decide +kernel
theorem dX0_lengthOfAll_46 : decode cX0_lengthOfAll 46 = .ok (.iconst 1, 1) := by decide +kernel
theorem dX0_lengthOfAll_47 : decode cX0_lengthOfAll 47 = .ok (.iand, 1) := by decide +kernel
theorem dX0_lengthOfAll_48 : decode cX0_lengthOfAll 48 = .ok (.iconst 1, 1) := by decide +kernel
theorem dX0_lengthOfAll_49 : decode cX0_lengthOfAll 49 = .ok (.if_icmp .ne 17, 3) := by decide +kernel
theorem dX0_lengthOfAll_52 : decode cX0_lengthOfAll 52 = .ok (.iload 4, 2) := by decide +kernel
theorem dX0_lengthOfAll_54 : decode cX0_lengthOfAll 54 = .ok (.aload_n 0, 1) := by decide +kernel
theorem dX0_lengthOfAll_55 : decode cX0_lengthOfAll 55 = .ok (.getfield 15, 3) := by decide +kernel
theorem dX0_lengthOfAll_58 : decode cX0_lengthOfAll 58 = .ok (.iload 5, 2) := by decide +kernel
theorem dX0_lengthOfAll_60 : decode cX0_lengthOfAll 60 = .ok (.invokestatic 41, 3) := by decide +kernel
theorem dX0_lengthOfAll_63 : decode cX0_lengthOfAll 63 = .ok (.iadd, 1) := by decide +kernel
theorem dX0_lengthOfAll_64 : decode cX0_lengthOfAll 64 = .ok (.istore 4, 2) := by decide +kernel
theorem dX0_lengthOfAll_66 : decode cX0_lengthOfAll 66 = .ok (.iinc 5 1, 3) := by decide +kernel
theorem dX0_lengthOfAll_69 : decode cX0_lengthOfAll 69 = .ok (.goto (-36), 3) := by decide +kernel
theorem dX0_lengthOfAll_72 : decode cX0_lengthOfAll 72 = .ok (.iconst 0, 1) := by decide +kernel
theorem dX0_lengthOfAll_73 : decode cX0_lengthOfAll 73 = .ok (.iload 4, 2) := by decide +kernel
theorem dX0_lengthOfAll_75 : decode cX0_lengthOfAll 75 = .ok (.invokestatic 60, 3) := by decide +kernel
theorem dX0_lengthOfAll_78 : decode cX0_lengthOfAll 78 = .ok (.ireturn, 1) := by decide +kernel
theorem dX0_clothOf_0 : decode cX0_clothOf 0 = .ok (.iload_n 0, 1) := by decide +kernel
theorem dX0_clothOf_1 : decode cX0_clothOf 1 = .ok (.ifCond .lt 19, 3) := by decide +kernel
theorem dX0_clothOf_4 : decode cX0_clothOf 4 = .ok (.iload_n 0, 1) := by decide +kernel
theorem dX0_clothOf_5 : decode cX0_clothOf 5 = .ok (.getstatic 79, 3) := by decide +kernel
theorem dX0_clothOf_8 : decode cX0_clothOf 8 = .ok (.arraylength, 1) := by decide +kernel
theorem dX0_clothOf_9 : decode cX0_clothOf 9 = .ok (.if_icmp .ge 11, 3) := by decide +kernel
theorem dX0_clothOf_12 : decode cX0_clothOf 12 = .ok (.getstatic 79, 3) := by decide +kernel
theorem dX0_clothOf_15 : decode cX0_clothOf 15 = .ok (.iload_n 0, 1) := by decide +kernel
theorem dX0_clothOf_16 : decode cX0_clothOf 16 = .ok (.aaload, 1) := by decide +kernel
theorem dX0_clothOf_17 : decode cX0_clothOf 17 = .ok (.goto 6, 3) := by decide +kernel
theorem dX0_clothOf_20 : decode cX0_clothOf 20 = .ok (.getstatic 83, 3) := by decide +kernel
theorem dX0_clothOf_23 : decode cX0_clothOf 23 = .ok (.areturn, 1) := by decide +kernel
theorem dX0_becomeLike_0 : decode cX0_becomeLike 0 = .ok (.aload_n 0, 1) := by decide +kernel
theorem dX0_becomeLike_1 : decode cX0_becomeLike 1 = .ok (.getfield 9, 3) := by decide +kernel
theorem dX0_becomeLike_4 : decode cX0_becomeLike 4 = .ok (.aload_n 1, 1) := by decide +kernel
theorem dX0_becomeLike_5 : decode cX0_becomeLike 5 = .ok (.getfield 9, 3) := by decide +kernel
theorem dX0_becomeLike_8 : decode cX0_becomeLike 8 = .ok (.invokestatic 25, 3) := by decide +kernel
theorem dX0_becomeLike_11 : decode cX0_becomeLike 11 = .ok (.aload_n 0, 1) := by decide +kernel
theorem dX0_becomeLike_12 : decode cX0_becomeLike 12 = .ok (.getfield 15, 3) := by decide +kernel
theorem dX0_becomeLike_15 : decode cX0_becomeLike 15 = .ok (.aload_n 1, 1) := by decide +kernel
theorem dX0_becomeLike_16 : decode cX0_becomeLike 16 = .ok (.getfield 15, 3) := by decide +kernel
theorem dX0_becomeLike_19 : decode cX0_becomeLike 19 = .ok (.invokestatic 25, 3) := by decide +kernel
theorem dX0_becomeLike_22 : decode cX0_becomeLike 22 = .ok (.aload_n 0, 1) := by decide +kernel
theorem dX0_becomeLike_23 : decode cX0_becomeLike 23 = .ok (.aload_n 1, 1) := by decide +kernel
theorem dX0_becomeLike_24 : decode cX0_becomeLike 24 = .ok (.getfield 31, 3) := by decide +kernel
theorem dX0_becomeLike_27 : decode cX0_becomeLike 27 = .ok (.putfield 31, 3) := by decide +kernel
theorem dX0_becomeLike_30 : decode cX0_becomeLike 30 = .ok (.aload_n 0, 1) := by decide +kernel
theorem dX0_becomeLike_31 : decode cX0_becomeLike 31 = .ok (.aload_n 1, 1) := by decide +kernel
theorem dX0_becomeLike_32 : decode cX0_becomeLike 32 = .ok (.getfield 34, 3) := by decide +kernel
theorem dX0_becomeLike_35 : decode cX0_becomeLike 35 = .ok (.putfield 34, 3) := by decide +kernel
theorem dX0_becomeLike_38 : decode cX0_becomeLike 38 = .ok (.aload_n 0, 1) := by decide +kernel
theorem dX0_becomeLike_39 : decode cX0_becomeLike 39 = .ok (.aload_n 1, 1) := by decide +kernel
theorem dX0_becomeLike_40 : decode cX0_becomeLike 40 = .ok (.getfield 21, 3) := by decide +kernel
theorem dX0_becomeLike_43 : decode cX0_becomeLike 43 = .ok (.putfield 21, 3) := by decide +kernel
theorem dX0_becomeLike_46 : decode cX0_becomeLike 46 = .ok (.return_, 1) := by decide +kernel
theorem dX10_take_0 : decode cX10_take 0 = .ok (.aload_n 0, 1) := by decide +kernel
theorem dX10_take_1 : decode cX10_take 1 = .ok (.getfield 9, 3) := by decide +kernel
theorem dX10_take_4 : decode cX10_take 4 = .ok (.aload_n 1, 1) := by decide +kernel
theorem dX10_take_5 : decode cX10_take 5 = .ok (.getfield 28, 3) := by decide +kernel
theorem dX10_take_8 : decode cX10_take 8 = .ok (.invokestatic 19, 3) := by decide +kernel
theorem dX10_take_11 : decode cX10_take 11 = .ok (.aload_n 0, 1) := by decide +kernel
theorem dX10_take_12 : decode cX10_take 12 = .ok (.aload_n 1, 1) := by decide +kernel
theorem dX10_take_13 : decode cX10_take 13 = .ok (.getfield 31, 3) := by decide +kernel
theorem dX10_take_16 : decode cX10_take 16 = .ok (.putfield 15, 3) := by decide +kernel
theorem dX10_take_19 : decode cX10_take 19 = .ok (.aload_n 0, 1) := by decide +kernel
theorem dX10_take_20 : decode cX10_take 20 = .ok (.aload_n 1, 1) := by decide +kernel
theorem dX10_take_21 : decode cX10_take 21 = .ok (.getfield 32, 3) := by decide +kernel
theorem dX10_take_24 : decode cX10_take 24 = .ok (.putfield 25, 3) := by decide +kernel
theorem dX10_take_27 : decode cX10_take 27 = .ok (.return_, 1) := by decide +kernel
theorem dX10_lay_0 : decode cX10_lay 0 = .ok (.aload_n 0, 1) := by decide +kernel
theorem dX10_lay_1 : decode cX10_lay 1 = .ok (.getfield 25, 3) := by decide +kernel
theorem dX10_lay_4 : decode cX10_lay 4 = .ok (.iconst 1, 1) := by decide +kernel
theorem dX10_lay_5 : decode cX10_lay 5 = .ok (.if_icmp .ne 41, 3) := by decide +kernel
theorem dX10_lay_8 : decode cX10_lay 8 = .ok (.aload_n 0, 1) := by decide +kernel
theorem dX10_lay_9 : decode cX10_lay 9 = .ok (.getfield 15, 3) := by decide +kernel
theorem dX10_lay_12 : decode cX10_lay 12 = .ok (.bipush 7, 2) := by decide +kernel
theorem dX10_lay_14 : decode cX10_lay 14 = .ok (.if_icmp .ne 32, 3) := by decide +kernel
theorem dX10_lay_17 : decode cX10_lay 17 = .ok (.aload_n 1, 1) := by decide +kernel
theorem dX10_lay_18 : decode cX10_lay 18 = .ok (.aload_n 0, 1) := by decide +kernel
theorem dX10_lay_19 : decode cX10_lay 19 = .ok (.getfield 9, 3) := by decide +kernel
theorem dX10_lay_22 : decode cX10_lay 22 = .ok (.iconst 0, 1) := by decide +kernel
theorem dX10_lay_23 : decode cX10_lay 23 = .ok (.invokestatic 33, 3) := by decide +kernel
theorem dX10_lay_26 : decode cX10_lay 26 = .ok (.aload_n 0, 1) := by decide +kernel
theorem dX10_lay_27 : decode cX10_lay 27 = .ok (.getfield 9, 3) := by decide +kernel
theorem dX10_lay_30 : decode cX10_lay 30 = .ok (.iconst 1, 1) := by decide +kernel
theorem dX10_lay_31 : decode cX10_lay 31 = .ok (.invokestatic 33, 3) := by decide +kernel
theorem dX10_lay_34 : decode cX10_lay 34 = .ok (.aload_n 0, 1) := by decide +kernel
theorem dX10_lay_35 : decode cX10_lay 35 = .ok (.getfield 9, 3) := by decide +kernel
theorem dX10_lay_38 : decode cX10_lay 38 = .ok (.iconst 2, 1) := by decide +kernel
theorem dX10_lay_39 : decode cX10_lay 39 = .ok (.invokestatic 33, 3) := by decide +kernel
theorem dX10_lay_42 : decode cX10_lay 42 = .ok (.invokevirtual 37, 3) := by decide +kernel
theorem dX10_lay_45 : decode cX10_lay 45 = .ok (.return_, 1) := by decide +kernel
theorem dX10_lay_46 : decode cX10_lay 46 = .ok (.lconst 1, 1) := by decide +kernel
theorem dX10_lay_47 : decode cX10_lay 47 = .ok (.lstore_n 2, 1) := by decide +kernel
theorem dX10_lay_48 : decode cX10_lay 48 = .ok (.iconst 0, 1) := by decide +kernel
theorem dX10_lay_49 : decode cX10_lay 49 = .ok (.istore 4, 2) := by decide +kernel
theorem dX10_lay_51 : decode cX10_lay 51 = .ok (.iload 4, 2) := by decide +kernel
theorem dX10_lay_53 : decode cX10_lay 53 = .ok (.iconst 3, 1) := by decide +kernel
theorem dX10_lay_54 : decode cX10_lay 54 = .ok (.if_icmp .ge 37, 3) := by decide +kernel
theorem dX10_lay_57 : decode cX10_lay 57 = .ok (.aload_n 0, 1) := by decide +kernel
theorem dX10_lay_58 : decode cX10_lay 58 = .ok (.getfield 15, 3) := by decide +kernel
theorem dX10_lay_61 : decode cX10_lay 61 = .ok (.iload 4, 2) := by decide +kernel
theorem dX10_lay_63 : decode cX10_lay 63 = .ok (.ishr, 1) := by decide +kernel
theorem dX10_lay_64 : decode cX10_lay 64 = .ok (.iconst 1, 1) := by decide +kernel
theorem dX10_lay_65 : decode cX10_lay 65 = .ok (.iand, 1) := by decide +kernel
theorem dX10_lay_66 : decode cX10_lay 66 = .ok (.iconst 1, 1) := by decide +kernel
theorem dX10_lay_67 : decode cX10_lay 67 = .ok (.if_icmp .ne 18, 3) := by decide +kernel
theorem dX10_lay_70 : decode cX10_lay 70 = .ok (.lload_n 2, 1) := by decide +kernel
theorem dX10_lay_71 : decode cX10_lay 71 = .ok (.aload_n 0, 1) := by decide +kernel
theorem dX10_lay_72 : decode cX10_lay 72 = .ok (.getfield 9, 3) := by decide +kernel
theorem dX10_lay_75 : decode cX10_lay 75 = .ok (.iload 4, 2) := by decide +kernel
theorem dX10_lay_77 : decode cX10_lay 77 = .ok (.invokestatic 33, 3) := by decide +kernel
theorem dX10_lay_80 : decode cX10_lay 80 = .ok (.i2l, 1) := by decide +kernel
theorem dX10_lay_81 : decode cX10_lay 81 = .ok (.invokestatic 43, 3) := by decide +kernel
theorem dX10_lay_84 : decode cX10_lay 84 = .ok (.lstore_n 2, 1) := by decide +kernel
theorem dX10_lay_85 : decode cX10_lay 85 = .ok (.iinc 4 1, 3) := by decide +kernel
theorem dX10_lay_88 : decode cX10_lay 88 = .ok (.goto (-37), 3) := by decide +kernel
theorem dX10_lay_91 : decode cX10_lay 91 = .ok (.aload_n 1, 1) := by decide +kernel
theorem dX10_lay_92 : decode cX10_lay 92 = .ok (.lload_n 2, 1) := by decide +kernel
theorem dX10_lay_93 : decode cX10_lay 93 = .ok (.invokevirtual 47, 3) := by decide +kernel
theorem dX10_lay_96 : decode cX10_lay 96 = .ok (.return_, 1) := by decide +kernel
theorem dX10_becomeLike_0 : decode cX10_becomeLike 0 = .ok (.aload_n 0, 1) := by decide +kernel
theorem dX10_becomeLike_1 : decode cX10_becomeLike 1 = .ok (.getfield 9, 3) := by decide +kernel
theorem dX10_becomeLike_4 : decode cX10_becomeLike 4 = .ok (.aload_n 1, 1) := by decide +kernel
theorem dX10_becomeLike_5 : decode cX10_becomeLike 5 = .ok (.getfield 9, 3) := by decide +kernel
theorem dX10_becomeLike_8 : decode cX10_becomeLike 8 = .ok (.invokestatic 19, 3) := by decide +kernel
theorem dX10_becomeLike_11 : decode cX10_becomeLike 11 = .ok (.aload_n 0, 1) := by decide +kernel
theorem dX10_becomeLike_12 : decode cX10_becomeLike 12 = .ok (.aload_n 1, 1) := by decide +kernel
theorem dX10_becomeLike_13 : decode cX10_becomeLike 13 = .ok (.getfield 15, 3) := by decide +kernel
theorem dX10_becomeLike_16 : decode cX10_becomeLike 16 = .ok (.putfield 15, 3) := by decide +kernel
theorem dX10_becomeLike_19 : decode cX10_becomeLike 19 = .ok (.aload_n 0, 1) := by decide +kernel
theorem dX10_becomeLike_20 : decode cX10_becomeLike 20 = .ok (.aload_n 1, 1) := by decide +kernel
theorem dX10_becomeLike_21 : decode cX10_becomeLike 21 = .ok (.getfield 25, 3) := by decide +kernel
theorem dX10_becomeLike_24 : decode cX10_becomeLike 24 = .ok (.putfield 25, 3) := by decide +kernel
theorem dX10_becomeLike_27 : decode cX10_becomeLike 27 = .ok (.return_, 1) := by decide +kernel
theorem dX5_becomeLike_0 : decode cX5_becomeLike 0 = .ok (.aload_n 0, 1) := by decide +kernel
theorem dX5_becomeLike_1 : decode cX5_becomeLike 1 = .ok (.getfield 10, 3) := by decide +kernel
theorem dX5_becomeLike_4 : decode cX5_becomeLike 4 = .ok (.aload_n 1, 1) := by decide +kernel
theorem dX5_becomeLike_5 : decode cX5_becomeLike 5 = .ok (.getfield 10, 3) := by decide +kernel
theorem dX5_becomeLike_8 : decode cX5_becomeLike 8 = .ok (.invokevirtual 37, 3) := by decide +kernel
theorem dX5_becomeLike_11 : decode cX5_becomeLike 11 = .ok (.aload_n 0, 1) := by decide +kernel
theorem dX5_becomeLike_12 : decode cX5_becomeLike 12 = .ok (.getfield 19, 3) := by decide +kernel
theorem dX5_becomeLike_15 : decode cX5_becomeLike 15 = .ok (.aload_n 1, 1) := by decide +kernel
theorem dX5_becomeLike_16 : decode cX5_becomeLike 16 = .ok (.getfield 19, 3) := by decide +kernel
theorem dX5_becomeLike_19 : decode cX5_becomeLike 19 = .ok (.invokevirtual 41, 3) := by decide +kernel
theorem dX5_becomeLike_22 : decode cX5_becomeLike 22 = .ok (.aload_n 0, 1) := by decide +kernel
theorem dX5_becomeLike_23 : decode cX5_becomeLike 23 = .ok (.getfield 26, 3) := by decide +kernel
theorem dX5_becomeLike_26 : decode cX5_becomeLike 26 = .ok (.aload_n 1, 1) := by decide +kernel
theorem dX5_becomeLike_27 : decode cX5_becomeLike 27 = .ok (.getfield 26, 3) := by decide +kernel
theorem dX5_becomeLike_30 : decode cX5_becomeLike 30 = .ok (.invokevirtual 44, 3) := by decide +kernel
theorem dX5_becomeLike_33 : decode cX5_becomeLike 33 = .ok (.aload_n 0, 1) := by decide +kernel
theorem dX5_becomeLike_34 : decode cX5_becomeLike 34 = .ok (.getfield 33, 3) := by decide +kernel
theorem dX5_becomeLike_37 : decode cX5_becomeLike 37 = .ok (.aload_n 1, 1) := by decide +kernel
theorem dX5_becomeLike_38 : decode cX5_becomeLike 38 = .ok (.getfield 33, 3) := by decide +kernel
theorem dX5_becomeLike_41 : decode cX5_becomeLike 41 = .ok (.invokevirtual 47, 3) := by decide +kernel
theorem dX5_becomeLike_44 : decode cX5_becomeLike 44 = .ok (.return_, 1) := by decide +kernel
