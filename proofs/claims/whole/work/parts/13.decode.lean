theorem dX12_in_0 : decode cX12_in 0 = .ok (.lload_n 0, 1) := by decide +kernel
theorem dX12_in_1 : decode cX12_in 1 = .ok (.lload_n 2, 1) := by decide +kernel
theorem dX12_in_2 : decode cX12_in 2 = .ok (.lcmp, 1) := by decide +kernel
theorem dX12_in_3 : decode cX12_in 3 = .ok (.ifCond .lt 14, 3) := by decide +kernel
theorem dX12_in_6 : decode cX12_in 6 = .ok (.lload_n 0, 1) := by decide +kernel
theorem dX12_in_7 : decode cX12_in 7 = .ok (.lload 4, 2) := by decide +kernel
theorem dX12_in_9 : decode cX12_in 9 = .ok (.lcmp, 1) := by decide +kernel
theorem dX12_in_10 : decode cX12_in 10 = .ok (.ifCond .gt 7, 3) := by decide +kernel
theorem dX12_in_13 : decode cX12_in 13 = .ok (.iconst 1, 1) := by decide +kernel
theorem dX12_in_14 : decode cX12_in 14 = .ok (.goto 4, 3) := by decide +kernel
theorem dX12_in_17 : decode cX12_in 17 = .ok (.iconst 0, 1) := by decide +kernel
theorem dX12_in_18 : decode cX12_in 18 = .ok (.ireturn, 1) := by decide +kernel
theorem dX12_has_0 : decode cX12_has 0 = .ok (.iload_n 0, 1) := by decide +kernel
theorem dX12_has_1 : decode cX12_has 1 = .ok (.iload_n 1, 1) := by decide +kernel
theorem dX12_has_2 : decode cX12_has 2 = .ok (.ishr, 1) := by decide +kernel
theorem dX12_has_3 : decode cX12_has 3 = .ok (.iconst 1, 1) := by decide +kernel
theorem dX12_has_4 : decode cX12_has 4 = .ok (.iand, 1) := by decide +kernel
theorem dX12_has_5 : decode cX12_has 5 = .ok (.iconst 1, 1) := by decide +kernel
theorem dX12_has_6 : decode cX12_has 6 = .ok (.if_icmp .ne 7, 3) := by decide +kernel
theorem dX12_has_9 : decode cX12_has 9 = .ok (.iconst 1, 1) := by decide +kernel
theorem dX12_has_10 : decode cX12_has 10 = .ok (.goto 4, 3) := by decide +kernel
theorem dX12_has_13 : decode cX12_has 13 = .ok (.iconst 0, 1) := by decide +kernel
theorem dX12_has_14 : decode cX12_has 14 = .ok (.ireturn, 1) := by decide +kernel
theorem dX12_lesser_0 : decode cX12_lesser 0 = .ok (.lload_n 0, 1) := by decide +kernel
theorem dX12_lesser_1 : decode cX12_lesser 1 = .ok (.lload_n 2, 1) := by decide +kernel
theorem dX12_lesser_2 : decode cX12_lesser 2 = .ok (.lcmp, 1) := by decide +kernel
theorem dX12_lesser_3 : decode cX12_lesser 3 = .ok (.ifCond .ge 7, 3) := by decide +kernel
theorem dX12_lesser_6 : decode cX12_lesser 6 = .ok (.lload_n 0, 1) := by decide +kernel
theorem dX12_lesser_7 : decode cX12_lesser 7 = .ok (.goto 4, 3) := by decide +kernel
theorem dX12_lesser_10 : decode cX12_lesser 10 = .ok (.lload_n 2, 1) := by decide +kernel
theorem dX12_lesser_11 : decode cX12_lesser 11 = .ok (.lreturn, 1) := by decide +kernel
theorem dX12_greater_0 : decode cX12_greater 0 = .ok (.lload_n 0, 1) := by decide +kernel
theorem dX12_greater_1 : decode cX12_greater 1 = .ok (.lload_n 2, 1) := by decide +kernel
theorem dX12_greater_2 : decode cX12_greater 2 = .ok (.lcmp, 1) := by decide +kernel
theorem dX12_greater_3 : decode cX12_greater 3 = .ok (.ifCond .le 7, 3) := by decide +kernel
theorem dX12_greater_6 : decode cX12_greater 6 = .ok (.lload_n 0, 1) := by decide +kernel
theorem dX12_greater_7 : decode cX12_greater 7 = .ok (.goto 4, 3) := by decide +kernel
theorem dX12_greater_10 : decode cX12_greater 10 = .ok (.lload_n 2, 1) := by decide +kernel
theorem dX12_greater_11 : decode cX12_greater 11 = .ok (.lreturn, 1) := by decide +kernel
theorem dX12_ones_0 : decode cX12_ones 0 = .ok (.iconst 0, 1) := by decide +kernel
theorem dX12_ones_1 : decode cX12_ones 1 = .ok (.istore_n 1, 1) := by decide +kernel
theorem dX12_ones_2 : decode cX12_ones 2 = .ok (.iconst 0, 1) := by decide +kernel
theorem dX12_ones_3 : decode cX12_ones 3 = .ok (.istore_n 2, 1) := by decide +kernel
theorem dX12_ones_4 : decode cX12_ones 4 = .ok (.iload_n 2, 1) := by decide +kernel
theorem dX12_ones_5 : decode cX12_ones 5 = .ok (.bipush 6, 2) := by decide +kernel
theorem dX12_ones_7 : decode cX12_ones 7 = .ok (.if_icmp .ge 17, 3) := by decide +kernel
theorem dX12_ones_10 : decode cX12_ones 10 = .ok (.iload_n 1, 1) := by decide +kernel
theorem dX12_ones_11 : decode cX12_ones 11 = .ok (.iload_n 0, 1) := by decide +kernel
theorem dX12_ones_12 : decode cX12_ones 12 = .ok (.iload_n 2, 1) := by decide +kernel
theorem dX12_ones_13 : decode cX12_ones 13 = .ok (.ishr, 1) := by decide +kernel
theorem dX12_ones_14 : decode cX12_ones 14 = .ok (.iconst 1, 1) := by decide +kernel
theorem dX12_ones_15 : decode cX12_ones 15 = .ok (.iand, 1) := by decide +kernel
theorem dX12_ones_16 : decode cX12_ones 16 = .ok (.iadd, 1) := by decide +kernel
theorem dX12_ones_17 : decode cX12_ones 17 = .ok (.istore_n 1, 1) := by decide +kernel
theorem dX12_ones_18 : decode cX12_ones 18 = .ok (.iinc 2 1, 3) := by decide +kernel
theorem dX12_ones_21 : decode cX12_ones 21 = .ok (.goto (-17), 3) := by decide +kernel
theorem dX12_ones_24 : decode cX12_ones 24 = .ok (.iload_n 1, 1) := by decide +kernel
theorem dX12_ones_25 : decode cX12_ones 25 = .ok (.ireturn, 1) := by decide +kernel
theorem dX12_divisor_0 : decode cX12_divisor 0 = .ok (.lload_n 0, 1) := by decide +kernel
theorem dX12_divisor_1 : decode cX12_divisor 1 = .ok (.lstore 4, 2) := by decide +kernel
theorem dX12_divisor_3 : decode cX12_divisor 3 = .ok (.lload_n 2, 1) := by decide +kernel
theorem dX12_divisor_4 : decode cX12_divisor 4 = .ok (.lstore 6, 2) := by decide +kernel
theorem dX12_divisor_6 : decode cX12_divisor 6 = .ok (.lload 6, 2) := by decide +kernel
theorem dX12_divisor_8 : decode cX12_divisor 8 = .ok (.lconst 0, 1) := by decide +kernel
theorem dX12_divisor_9 : decode cX12_divisor 9 = .ok (.lcmp, 1) := by decide +kernel
theorem dX12_divisor_10 : decode cX12_divisor 10 = .ok (.ifCond .eq 21, 3) := by decide +kernel
theorem dX12_divisor_13 : decode cX12_divisor 13 = .ok (.lload 4, 2) := by decide +kernel
theorem dX12_divisor_15 : decode cX12_divisor 15 = .ok (.lload 6, 2) := by decide +kernel
theorem dX12_divisor_17 : decode cX12_divisor 17 = .ok (.lrem, 1) := by decide +kernel
theorem dX12_divisor_18 : decode cX12_divisor 18 = .ok (.lstore 8, 2) := by decide +kernel
theorem dX12_divisor_20 : decode cX12_divisor 20 = .ok (.lload 6, 2) := by decide +kernel
theorem dX12_divisor_22 : decode cX12_divisor 22 = .ok (.lstore 4, 2) := by decide +kernel
theorem dX12_divisor_24 : decode cX12_divisor 24 = .ok (.lload 8, 2) := by decide +kernel
theorem dX12_divisor_26 : decode cX12_divisor 26 = .ok (.lstore 6, 2) := by decide +kernel
theorem dX12_divisor_28 : decode cX12_divisor 28 = .ok (.goto (-22), 3) := by decide +kernel
theorem dX12_divisor_31 : decode cX12_divisor 31 = .ok (.lload 4, 2) := by decide +kernel
theorem dX12_divisor_33 : decode cX12_divisor 33 = .ok (.lreturn, 1) := by decide +kernel
theorem dX12_common_0 : decode cX12_common 0 = .ok (.lload_n 0, 1) := by decide +kernel
theorem dX12_common_1 : decode cX12_common 1 = .ok (.lload_n 0, 1) := by decide +kernel
theorem dX12_common_2 : decode cX12_common 2 = .ok (.lload_n 2, 1) := by decide +kernel
theorem dX12_common_3 : decode cX12_common 3 = .ok (.invokestatic 44, 3) := by decide +kernel
theorem dX12_common_6 : decode cX12_common 6 = .ok (.ldiv, 1) := by decide +kernel
theorem dX12_common_7 : decode cX12_common 7 = .ok (.lload_n 2, 1) := by decide +kernel
theorem dX12_common_8 : decode cX12_common 8 = .ok (.lmul, 1) := by decide +kernel
theorem dX12_common_9 : decode cX12_common 9 = .ok (.lreturn, 1) := by decide +kernel
theorem dX12_lay_0 : decode cX12_lay 0 = .ok (.aload_n 0, 1) := by decide +kernel
theorem dX12_lay_1 : decode cX12_lay 1 = .ok (.getfield 7, 3) := by decide +kernel
theorem dX12_lay_4 : decode cX12_lay 4 = .ok (.iconst 0, 1) := by decide +kernel
theorem dX12_lay_5 : decode cX12_lay 5 = .ok (.iaload, 1) := by decide +kernel
theorem dX12_lay_6 : decode cX12_lay 6 = .ok (.i2l, 1) := by decide +kernel
theorem dX12_lay_7 : decode cX12_lay 7 = .ok (.lstore 4, 2) := by decide +kernel
theorem dX12_lay_9 : decode cX12_lay 9 = .ok (.aload_n 0, 1) := by decide +kernel
theorem dX12_lay_10 : decode cX12_lay 10 = .ok (.getfield 7, 3) := by decide +kernel
theorem dX12_lay_13 : decode cX12_lay 13 = .ok (.iconst 1, 1) := by decide +kernel
theorem dX12_lay_14 : decode cX12_lay 14 = .ok (.iaload, 1) := by decide +kernel
theorem dX12_lay_15 : decode cX12_lay 15 = .ok (.i2l, 1) := by decide +kernel
theorem dX12_lay_16 : decode cX12_lay 16 = .ok (.lstore 6, 2) := by decide +kernel
theorem dX12_lay_18 : decode cX12_lay 18 = .ok (.aload_n 0, 1) := by decide +kernel
theorem dX12_lay_19 : decode cX12_lay 19 = .ok (.iconst 1, 1) := by decide +kernel
theorem dX12_lay_20 : decode cX12_lay 20 = .ok (.putfield 48, 3) := by decide +kernel
theorem dX12_lay_23 : decode cX12_lay 23 = .ok (.iload_n 1, 1) := by decide +kernel
theorem dX12_lay_24 : decode cX12_lay 24 = .ok (.bipush 7, 2) := by decide +kernel
theorem dX12_lay_26 : decode cX12_lay 26 = .ok (.if_icmp .ne 85, 3) := by decide +kernel
theorem dX12_lay_29 : decode cX12_lay 29 = .ok (.aload_n 0, 1) := by decide +kernel
theorem dX12_lay_30 : decode cX12_lay 30 = .ok (.lload 4, 2) := by decide +kernel
theorem dX12_lay_32 : decode cX12_lay 32 = .ok (.lload 6, 2) := by decide +kernel
theorem dX12_lay_34 : decode cX12_lay 34 = .ok (.invokestatic 52, 3) := by decide +kernel
theorem dX12_lay_37 : decode cX12_lay 37 = .ok (.iload_n 3, 1) := by decide +kernel
theorem dX12_lay_38 : decode cX12_lay 38 = .ok (.i2l, 1) := by decide +kernel
theorem dX12_lay_39 : decode cX12_lay 39 = .ok (.invokestatic 52, 3) := by decide +kernel
theorem dX12_lay_42 : decode cX12_lay 42 = .ok (.putfield 55, 3) := by decide +kernel
theorem dX12_lay_45 : decode cX12_lay 45 = .ok (.aload_n 0, 1) := by decide +kernel
theorem dX12_lay_46 : decode cX12_lay 46 = .ok (.getfield 16, 3) := by decide +kernel
theorem dX12_lay_49 : decode cX12_lay 49 = .ok (.iconst 0, 1) := by decide +kernel
theorem dX12_lay_50 : decode cX12_lay 50 = .ok (.iload_n 2, 1) := by decide +kernel
theorem dX12_lay_51 : decode cX12_lay 51 = .ok (.ifCond .ne 10, 3) := by decide +kernel
theorem dX12_lay_54 : decode cX12_lay 54 = .ok (.aload_n 0, 1) := by decide +kernel
theorem dX12_lay_55 : decode cX12_lay 55 = .ok (.getfield 55, 3) := by decide +kernel
theorem dX12_lay_58 : decode cX12_lay 58 = .ok (.goto 10, 3) := by decide +kernel
theorem dX12_lay_61 : decode cX12_lay 61 = .ok (.lload 4, 2) := by decide +kernel
theorem dX12_lay_63 : decode cX12_lay 63 = .ok (.lload 6, 2) := by decide +kernel
theorem dX12_lay_65 : decode cX12_lay 65 = .ok (.invokestatic 52, 3) := by decide +kernel
theorem dX12_lay_68 : decode cX12_lay 68 = .ok (.lastore, 1) := by decide +kernel
theorem dX12_lay_69 : decode cX12_lay 69 = .ok (.aload_n 0, 1) := by decide +kernel
theorem dX12_lay_70 : decode cX12_lay 70 = .ok (.getfield 16, 3) := by decide +kernel
theorem dX12_lay_73 : decode cX12_lay 73 = .ok (.iconst 1, 1) := by decide +kernel
theorem dX12_lay_74 : decode cX12_lay 74 = .ok (.lload 4, 2) := by decide +kernel
theorem dX12_lay_76 : decode cX12_lay 76 = .ok (.iload_n 3, 1) := by decide +kernel
theorem dX12_lay_77 : decode cX12_lay 77 = .ok (.i2l, 1) := by decide +kernel
theorem dX12_lay_78 : decode cX12_lay 78 = .ok (.invokestatic 52, 3) := by decide +kernel
theorem dX12_lay_81 : decode cX12_lay 81 = .ok (.lastore, 1) := by decide +kernel
theorem dX12_lay_82 : decode cX12_lay 82 = .ok (.aload_n 0, 1) := by decide +kernel
theorem dX12_lay_83 : decode cX12_lay 83 = .ok (.getfield 16, 3) := by decide +kernel
theorem dX12_lay_86 : decode cX12_lay 86 = .ok (.iconst 2, 1) := by decide +kernel
theorem dX12_lay_87 : decode cX12_lay 87 = .ok (.lload 6, 2) := by decide +kernel
theorem dX12_lay_89 : decode cX12_lay 89 = .ok (.iload_n 3, 1) := by decide +kernel
theorem dX12_lay_90 : decode cX12_lay 90 = .ok (.i2l, 1) := by decide +kernel
theorem dX12_lay_91 : decode cX12_lay 91 = .ok (.invokestatic 52, 3) := by decide +kernel
theorem dX12_lay_94 : decode cX12_lay 94 = .ok (.lastore, 1) := by decide +kernel
theorem dX12_lay_95 : decode cX12_lay 95 = .ok (.aload_n 0, 1) := by decide +kernel
theorem dX12_lay_96 : decode cX12_lay 96 = .ok (.iload_n 2, 1) := by decide +kernel
theorem dX12_lay_97 : decode cX12_lay 97 = .ok (.ifCond .ne 7, 3) := by decide +kernel
theorem dX12_lay_100 : decode cX12_lay 100 = .ok (.iconst 1, 1) := by decide +kernel
theorem dX12_lay_101 : decode cX12_lay 101 = .ok (.goto 4, 3) := by decide +kernel
theorem dX12_lay_104 : decode cX12_lay 104 = .ok (.iconst 3, 1) := by decide +kernel
theorem dX12_lay_105 : decode cX12_lay 105 = .ok (.putfield 48, 3) := by decide +kernel
theorem dX12_lay_108 : decode cX12_lay 108 = .ok (.goto 49, 3) := by decide +kernel
theorem dX12_lay_111 : decode cX12_lay 111 = .ok (.aload_n 0, 1) := by decide +kernel
theorem dX12_lay_112 : decode cX12_lay 112 = .ok (.iload_n 1, 1) := by decide +kernel
theorem dX12_lay_113 : decode cX12_lay 113 = .ok (.iconst 3, 1) := by decide +kernel
theorem dX12_lay_114 : decode cX12_lay 114 = .ok (.if_icmp .ne 13, 3) := by decide +kernel
theorem dX12_lay_117 : decode cX12_lay 117 = .ok (.lload 4, 2) := by decide +kernel
theorem dX12_lay_119 : decode cX12_lay 119 = .ok (.lload 6, 2) := by decide +kernel
theorem dX12_lay_121 : decode cX12_lay 121 = .ok (.invokestatic 52, 3) := by decide +kernel
theorem dX12_lay_124 : decode cX12_lay 124 = .ok (.goto 20, 3) := by decide +kernel
theorem dX12_lay_127 : decode cX12_lay 127 = .ok (.iload_n 1, 1) := by decide +kernel
theorem dX12_lay_128 : decode cX12_lay 128 = .ok (.iconst 5, 1) := by decide +kernel
theorem dX12_lay_129 : decode cX12_lay 129 = .ok (.if_icmp .ne 8, 3) := by decide +kernel
theorem dX12_lay_132 : decode cX12_lay 132 = .ok (.lload 4, 2) := by decide +kernel
theorem dX12_lay_134 : decode cX12_lay 134 = .ok (.goto 5, 3) := by decide +kernel
theorem dX12_lay_137 : decode cX12_lay 137 = .ok (.lload 6, 2) := by decide +kernel
theorem dX12_lay_139 : decode cX12_lay 139 = .ok (.iload_n 3, 1) := by decide +kernel
theorem dX12_lay_140 : decode cX12_lay 140 = .ok (.i2l, 1) := by decide +kernel
theorem dX12_lay_141 : decode cX12_lay 141 = .ok (.invokestatic 52, 3) := by decide +kernel
theorem dX12_lay_144 : decode cX12_lay 144 = .ok (.putfield 55, 3) := by decide +kernel
theorem dX12_lay_147 : decode cX12_lay 147 = .ok (.aload_n 0, 1) := by decide +kernel
theorem dX12_lay_148 : decode cX12_lay 148 = .ok (.getfield 16, 3) := by decide +kernel
theorem dX12_lay_151 : decode cX12_lay 151 = .ok (.iconst 0, 1) := by decide +kernel
theorem dX12_lay_152 : decode cX12_lay 152 = .ok (.aload_n 0, 1) := by decide +kernel
theorem dX12_lay_153 : decode cX12_lay 153 = .ok (.getfield 55, 3) := by decide +kernel
theorem dX12_lay_156 : decode cX12_lay 156 = .ok (.lastore, 1) := by decide +kernel
theorem dX12_lay_157 : decode cX12_lay 157 = .ok (.return_, 1) := by decide +kernel
theorem dX12_layNow_0 : decode cX12_layNow 0 = .ok (.aload_n 0, 1) := by decide +kernel
theorem dX12_layNow_1 : decode cX12_layNow 1 = .ok (.aload_n 0, 1) := by decide +kernel
theorem dX12_layNow_2 : decode cX12_layNow 2 = .ok (.getfield 7, 3) := by decide +kernel
theorem dX12_layNow_5 : decode cX12_layNow 5 = .ok (.iconst 3, 1) := by decide +kernel
theorem dX12_layNow_6 : decode cX12_layNow 6 = .ok (.iaload, 1) := by decide +kernel
theorem dX12_layNow_7 : decode cX12_layNow 7 = .ok (.aload_n 0, 1) := by decide +kernel
theorem dX12_layNow_8 : decode cX12_layNow 8 = .ok (.getfield 7, 3) := by decide +kernel
theorem dX12_layNow_11 : decode cX12_layNow 11 = .ok (.iconst 4, 1) := by decide +kernel
theorem dX12_layNow_12 : decode cX12_layNow 12 = .ok (.iaload, 1) := by decide +kernel
theorem dX12_layNow_13 : decode cX12_layNow 13 = .ok (.aload_n 0, 1) := by decide +kernel
theorem dX12_layNow_14 : decode cX12_layNow 14 = .ok (.getfield 7, 3) := by decide +kernel
theorem dX12_layNow_17 : decode cX12_layNow 17 = .ok (.iconst 2, 1) := by decide +kernel
theorem dX12_layNow_18 : decode cX12_layNow 18 = .ok (.iaload, 1) := by decide +kernel
theorem dX12_layNow_19 : decode cX12_layNow 19 = .ok (.invokevirtual 59, 3) := by decide +kernel
theorem dX12_layNow_22 : decode cX12_layNow 22 = .ok (.return_, 1) := by decide +kernel
theorem dX12_below_0 : decode cX12_below 0 = .ok (.lconst 0, 1) := by decide +kernel
theorem dX12_below_1 : decode cX12_below 1 = .ok (.lstore_n 3, 1) := by decide +kernel
theorem dX12_below_2 : decode cX12_below 2 = .ok (.iconst 0, 1) := by decide +kernel
theorem dX12_below_3 : decode cX12_below 3 = .ok (.istore 5, 2) := by decide +kernel
theorem dX12_below_5 : decode cX12_below 5 = .ok (.iload 5, 2) := by decide +kernel
theorem dX12_below_7 : decode cX12_below 7 = .ok (.aload_n 0, 1) := by decide +kernel
theorem dX12_below_8 : decode cX12_below 8 = .ok (.getfield 48, 3) := by decide +kernel
theorem dX12_below_11 : decode cX12_below 11 = .ok (.if_icmp .ge 31, 3) := by decide +kernel
theorem dX12_below_14 : decode cX12_below 14 = .ok (.lload_n 3, 1) := by decide +kernel
theorem dX12_below_15 : decode cX12_below 15 = .ok (.lload_n 1, 1) := by decide +kernel
theorem dX12_below_16 : decode cX12_below 16 = .ok (.aload_n 0, 1) := by decide +kernel
theorem dX12_below_17 : decode cX12_below 17 = .ok (.getfield 16, 3) := by decide +kernel
theorem dX12_below_20 : decode cX12_below 20 = .ok (.iload 5, 2) := by decide +kernel
theorem dX12_below_22 : decode cX12_below 22 = .ok (.laload, 1) := by decide +kernel
theorem dX12_below_23 : decode cX12_below 23 = .ok (.ldiv, 1) := by decide +kernel
theorem dX12_below_24 : decode cX12_below 24 = .ok (.aload_n 0, 1) := by decide +kernel
theorem dX12_below_25 : decode cX12_below 25 = .ok (.getfield 16, 3) := by decide +kernel
theorem dX12_below_28 : decode cX12_below 28 = .ok (.iload 5, 2) := by decide +kernel
theorem dX12_below_30 : decode cX12_below 30 = .ok (.laload, 1) := by decide +kernel
theorem dX12_below_31 : decode cX12_below 31 = .ok (.lmul, 1) := by decide +kernel
theorem dX12_below_32 : decode cX12_below 32 = .ok (.invokestatic 63, 3) := by decide +kernel
theorem dX12_below_35 : decode cX12_below 35 = .ok (.lstore_n 3, 1) := by decide +kernel
theorem dX12_below_36 : decode cX12_below 36 = .ok (.iinc 5 1, 3) := by decide +kernel
theorem dX12_below_39 : decode cX12_below 39 = .ok (.goto (-34), 3) := by decide +kernel
theorem dX12_below_42 : decode cX12_below 42 = .ok (.lload_n 3, 1) := by decide +kernel
theorem dX12_below_43 : decode cX12_below 43 = .ok (.lreturn, 1) := by decide +kernel
theorem dX12_above_0 : decode cX12_above 0 = .ok (.lload_n 1, 1) := by decide +kernel
theorem dX12_above_1 : decode cX12_above 1 = .ok (.aload_n 0, 1) := by decide +kernel
theorem dX12_above_2 : decode cX12_above 2 = .ok (.getfield 16, 3) := by decide +kernel
theorem dX12_above_5 : decode cX12_above 5 = .ok (.iconst 0, 1) := by decide +kernel
theorem dX12_above_6 : decode cX12_above 6 = .ok (.laload, 1) := by decide +kernel
theorem dX12_above_7 : decode cX12_above 7 = .ok (.ladd, 1) := by decide +kernel
theorem dX12_above_8 : decode cX12_above 8 = .ok (.lconst 1, 1) := by decide +kernel
theorem dX12_above_9 : decode cX12_above 9 = .ok (.lsub, 1) := by decide +kernel
theorem dX12_above_10 : decode cX12_above 10 = .ok (.aload_n 0, 1) := by decide +kernel
theorem dX12_above_11 : decode cX12_above 11 = .ok (.getfield 16, 3) := by decide +kernel
theorem dX12_above_14 : decode cX12_above 14 = .ok (.iconst 0, 1) := by decide +kernel
theorem dX12_above_15 : decode cX12_above 15 = .ok (.laload, 1) := by decide +kernel
theorem dX12_above_16 : decode cX12_above 16 = .ok (.ldiv, 1) := by decide +kernel
theorem dX12_above_17 : decode cX12_above 17 = .ok (.aload_n 0, 1) := by decide +kernel
theorem dX12_above_18 : decode cX12_above 18 = .ok (.getfield 16, 3) := by decide +kernel
theorem dX12_above_21 : decode cX12_above 21 = .ok (.iconst 0, 1) := by decide +kernel
theorem dX12_above_22 : decode cX12_above 22 = .ok (.laload, 1) := by decide +kernel
theorem dX12_above_23 : decode cX12_above 23 = .ok (.lmul, 1) := by decide +kernel
theorem dX12_above_24 : decode cX12_above 24 = .ok (.lstore_n 3, 1) := by decide +kernel
theorem dX12_above_25 : decode cX12_above 25 = .ok (.iconst 1, 1) := by decide +kernel
theorem dX12_above_26 : decode cX12_above 26 = .ok (.istore 5, 2) := by decide +kernel
theorem dX12_above_28 : decode cX12_above 28 = .ok (.iload 5, 2) := by decide +kernel
theorem dX12_above_30 : decode cX12_above 30 = .ok (.aload_n 0, 1) := by decide +kernel
theorem dX12_above_31 : decode cX12_above 31 = .ok (.getfield 48, 3) := by decide +kernel
theorem dX12_above_34 : decode cX12_above 34 = .ok (.if_icmp .ge 41, 3) := by decide +kernel
theorem dX12_above_37 : decode cX12_above 37 = .ok (.lload_n 3, 1) := by decide +kernel
theorem dX12_above_38 : decode cX12_above 38 = .ok (.lload_n 1, 1) := by decide +kernel
theorem dX12_above_39 : decode cX12_above 39 = .ok (.aload_n 0, 1) := by decide +kernel
theorem dX12_above_40 : decode cX12_above 40 = .ok (.getfield 16, 3) := by decide +kernel
theorem dX12_above_43 : decode cX12_above 43 = .ok (.iload 5, 2) := by decide +kernel
theorem dX12_above_45 : decode cX12_above 45 = .ok (.laload, 1) := by decide +kernel
theorem dX12_above_46 : decode cX12_above 46 = .ok (.ladd, 1) := by decide +kernel
theorem dX12_above_47 : decode cX12_above 47 = .ok (.lconst 1, 1) := by decide +kernel
theorem dX12_above_48 : decode cX12_above 48 = .ok (.lsub, 1) := by decide +kernel
theorem dX12_above_49 : decode cX12_above 49 = .ok (.aload_n 0, 1) := by decide +kernel
theorem dX12_above_50 : decode cX12_above 50 = .ok (.getfield 16, 3) := by decide +kernel
theorem dX12_above_53 : decode cX12_above 53 = .ok (.iload 5, 2) := by decide +kernel
theorem dX12_above_55 : decode cX12_above 55 = .ok (.laload, 1) := by decide +kernel
theorem dX12_above_56 : decode cX12_above 56 = .ok (.ldiv, 1) := by decide +kernel
theorem dX12_above_57 : decode cX12_above 57 = .ok (.aload_n 0, 1) := by decide +kernel
theorem dX12_above_58 : decode cX12_above 58 = .ok (.getfield 16, 3) := by decide +kernel
theorem dX12_above_61 : decode cX12_above 61 = .ok (.iload 5, 2) := by decide +kernel
theorem dX12_above_63 : decode cX12_above 63 = .ok (.laload, 1) := by decide +kernel
theorem dX12_above_64 : decode cX12_above 64 = .ok (.lmul, 1) := by decide +kernel
theorem dX12_above_65 : decode cX12_above 65 = .ok (.invokestatic 66, 3) := by decide +kernel
theorem dX12_above_68 : decode cX12_above 68 = .ok (.lstore_n 3, 1) := by decide +kernel
theorem dX12_above_69 : decode cX12_above 69 = .ok (.iinc 5 1, 3) := by decide +kernel
theorem dX12_above_72 : decode cX12_above 72 = .ok (.goto (-44), 3) := by decide +kernel
theorem dX12_above_75 : decode cX12_above 75 = .ok (.lload_n 3, 1) := by decide +kernel
theorem dX12_above_76 : decode cX12_above 76 = .ok (.lreturn, 1) := by decide +kernel
theorem dX12_manyUpTo_0 : decode cX12_manyUpTo 0 = .ok (.lconst 0, 1) := by decide +kernel
theorem dX12_manyUpTo_1 : decode cX12_manyUpTo 1 = .ok (.lstore_n 3, 1) := by decide +kernel
theorem dX12_manyUpTo_2 : decode cX12_manyUpTo 2 = .ok (.iconst 0, 1) := by decide +kernel
theorem dX12_manyUpTo_3 : decode cX12_manyUpTo 3 = .ok (.istore 5, 2) := by decide +kernel
theorem dX12_manyUpTo_5 : decode cX12_manyUpTo 5 = .ok (.iload 5, 2) := by decide +kernel
theorem dX12_manyUpTo_7 : decode cX12_manyUpTo 7 = .ok (.aload_n 0, 1) := by decide +kernel
theorem dX12_manyUpTo_8 : decode cX12_manyUpTo 8 = .ok (.getfield 48, 3) := by decide +kernel
theorem dX12_manyUpTo_11 : decode cX12_manyUpTo 11 = .ok (.if_icmp .ge 21, 3) := by decide +kernel
theorem dX12_manyUpTo_14 : decode cX12_manyUpTo 14 = .ok (.lload_n 3, 1) := by decide +kernel
theorem dX12_manyUpTo_15 : decode cX12_manyUpTo 15 = .ok (.lload_n 1, 1) := by decide +kernel
theorem dX12_manyUpTo_16 : decode cX12_manyUpTo 16 = .ok (.aload_n 0, 1) := by decide +kernel
theorem dX12_manyUpTo_17 : decode cX12_manyUpTo 17 = .ok (.getfield 16, 3) := by decide +kernel
theorem dX12_manyUpTo_20 : decode cX12_manyUpTo 20 = .ok (.iload 5, 2) := by decide +kernel
theorem dX12_manyUpTo_22 : decode cX12_manyUpTo 22 = .ok (.laload, 1) := by decide +kernel
theorem dX12_manyUpTo_23 : decode cX12_manyUpTo 23 = .ok (.ldiv, 1) := by decide +kernel
theorem dX12_manyUpTo_24 : decode cX12_manyUpTo 24 = .ok (.ladd, 1) := by decide +kernel
theorem dX12_manyUpTo_25 : decode cX12_manyUpTo 25 = .ok (.lstore_n 3, 1) := by decide +kernel
theorem dX12_manyUpTo_26 : decode cX12_manyUpTo 26 = .ok (.iinc 5 1, 3) := by decide +kernel
theorem dX12_manyUpTo_29 : decode cX12_manyUpTo 29 = .ok (.goto (-24), 3) := by decide +kernel
theorem dX12_manyUpTo_32 : decode cX12_manyUpTo 32 = .ok (.aload_n 0, 1) := by decide +kernel
theorem dX12_manyUpTo_33 : decode cX12_manyUpTo 33 = .ok (.getfield 48, 3) := by decide +kernel
theorem dX12_manyUpTo_36 : decode cX12_manyUpTo 36 = .ok (.iconst 1, 1) := by decide +kernel
theorem dX12_manyUpTo_37 : decode cX12_manyUpTo 37 = .ok (.if_icmp .ne 7, 3) := by decide +kernel
theorem dX12_manyUpTo_40 : decode cX12_manyUpTo 40 = .ok (.lload_n 3, 1) := by decide +kernel
theorem dX12_manyUpTo_41 : decode cX12_manyUpTo 41 = .ok (.goto 15, 3) := by decide +kernel
theorem dX12_manyUpTo_44 : decode cX12_manyUpTo 44 = .ok (.lload_n 3, 1) := by decide +kernel
theorem dX12_manyUpTo_45 : decode cX12_manyUpTo 45 = .ok (.ldc2_w 69, 3) := by decide +kernel
theorem dX12_manyUpTo_48 : decode cX12_manyUpTo 48 = .ok (.lload_n 1, 1) := by decide +kernel
theorem dX12_manyUpTo_49 : decode cX12_manyUpTo 49 = .ok (.aload_n 0, 1) := by decide +kernel
theorem dX12_manyUpTo_50 : decode cX12_manyUpTo 50 = .ok (.getfield 55, 3) := by decide +kernel
theorem dX12_manyUpTo_53 : decode cX12_manyUpTo 53 = .ok (.ldiv, 1) := by decide +kernel
theorem dX12_manyUpTo_54 : decode cX12_manyUpTo 54 = .ok (.lmul, 1) := by decide +kernel
theorem dX12_manyUpTo_55 : decode cX12_manyUpTo 55 = .ok (.lsub, 1) := by decide +kernel
theorem dX12_manyUpTo_56 : decode cX12_manyUpTo 56 = .ok (.lreturn, 1) := by decide +kernel
theorem dX12_measure_0 : decode cX12_measure 0 = .ok (.iload_n 1, 1) := by decide +kernel
theorem dX12_measure_1 : decode cX12_measure 1 = .ok (.i2l, 1) := by decide +kernel
theorem dX12_measure_2 : decode cX12_measure 2 = .ok (.lconst 0, 1) := by decide +kernel
theorem dX12_measure_3 : decode cX12_measure 3 = .ok (.ldc2_w 69, 3) := by decide +kernel
theorem dX12_measure_6 : decode cX12_measure 6 = .ok (.invokestatic 71, 3) := by decide +kernel
theorem dX12_measure_9 : decode cX12_measure 9 = .ok (.ifCond .eq 15, 3) := by decide +kernel
theorem dX12_measure_12 : decode cX12_measure 12 = .ok (.iload_n 2, 1) := by decide +kernel
theorem dX12_measure_13 : decode cX12_measure 13 = .ok (.i2l, 1) := by decide +kernel
theorem dX12_measure_14 : decode cX12_measure 14 = .ok (.lconst 1, 1) := by decide +kernel
theorem dX12_measure_15 : decode cX12_measure 15 = .ok (.ldc2_w 75, 3) := by decide +kernel
theorem dX12_measure_18 : decode cX12_measure 18 = .ok (.invokestatic 71, 3) := by decide +kernel
theorem dX12_measure_21 : decode cX12_measure 21 = .ok (.ifCond .ne 5, 3) := by decide +kernel
theorem dX12_measure_24 : decode cX12_measure 24 = .ok (.iconst (-1), 1) := by decide +kernel
theorem dX12_measure_25 : decode cX12_measure 25 = .ok (.ireturn, 1) := by decide +kernel
theorem dX12_measure_26 : decode cX12_measure 26 = .ok (.aload_n 0, 1) := by decide +kernel
theorem dX12_measure_27 : decode cX12_measure 27 = .ok (.getfield 7, 3) := by decide +kernel
theorem dX12_measure_30 : decode cX12_measure 30 = .ok (.iconst 0, 1) := by decide +kernel
theorem dX12_measure_31 : decode cX12_measure 31 = .ok (.iload_n 1, 1) := by decide +kernel
theorem dX12_measure_32 : decode cX12_measure 32 = .ok (.iadd, 1) := by decide +kernel
theorem dX12_measure_33 : decode cX12_measure 33 = .ok (.iaload, 1) := by decide +kernel
theorem dX12_measure_34 : decode cX12_measure 34 = .ok (.istore_n 3, 1) := by decide +kernel
theorem dX12_measure_35 : decode cX12_measure 35 = .ok (.aload_n 0, 1) := by decide +kernel
theorem dX12_measure_36 : decode cX12_measure 36 = .ok (.getfield 7, 3) := by decide +kernel
theorem dX12_measure_39 : decode cX12_measure 39 = .ok (.iconst 0, 1) := by decide +kernel
theorem dX12_measure_40 : decode cX12_measure 40 = .ok (.iload_n 1, 1) := by decide +kernel
theorem dX12_measure_41 : decode cX12_measure 41 = .ok (.iadd, 1) := by decide +kernel
theorem dX12_measure_42 : decode cX12_measure 42 = .ok (.iload_n 2, 1) := by decide +kernel
theorem dX12_measure_43 : decode cX12_measure 43 = .ok (.iastore, 1) := by decide +kernel
theorem dX12_measure_44 : decode cX12_measure 44 = .ok (.iload_n 3, 1) := by decide +kernel
theorem dX12_measure_45 : decode cX12_measure 45 = .ok (.ireturn, 1) := by decide +kernel
theorem dX12_rule_0 : decode cX12_rule 0 = .ok (.iload_n 1, 1) := by decide +kernel
theorem dX12_rule_1 : decode cX12_rule 1 = .ok (.iconst 3, 1) := by decide +kernel
theorem dX12_rule_2 : decode cX12_rule 2 = .ok (.if_icmp .eq 17, 3) := by decide +kernel
theorem dX12_rule_5 : decode cX12_rule 5 = .ok (.iload_n 1, 1) := by decide +kernel
theorem dX12_rule_6 : decode cX12_rule 6 = .ok (.i2l, 1) := by decide +kernel
theorem dX12_rule_7 : decode cX12_rule 7 = .ok (.ldc2_w 77, 3) := by decide +kernel
theorem dX12_rule_10 : decode cX12_rule 10 = .ok (.ldc2_w 79, 3) := by decide +kernel
theorem dX12_rule_13 : decode cX12_rule 13 = .ok (.invokestatic 71, 3) := by decide +kernel
theorem dX12_rule_16 : decode cX12_rule 16 = .ok (.ifCond .eq 13, 3) := by decide +kernel
theorem dX12_rule_19 : decode cX12_rule 19 = .ok (.iload_n 2, 1) := by decide +kernel
theorem dX12_rule_20 : decode cX12_rule 20 = .ok (.i2l, 1) := by decide +kernel
theorem dX12_rule_21 : decode cX12_rule 21 = .ok (.lconst 0, 1) := by decide +kernel
theorem dX12_rule_22 : decode cX12_rule 22 = .ok (.lconst 1, 1) := by decide +kernel
theorem dX12_rule_23 : decode cX12_rule 23 = .ok (.invokestatic 71, 3) := by decide +kernel
theorem dX12_rule_26 : decode cX12_rule 26 = .ok (.ifCond .ne 5, 3) := by decide +kernel
theorem dX12_rule_29 : decode cX12_rule 29 = .ok (.iconst (-1), 1) := by decide +kernel
theorem dX12_rule_30 : decode cX12_rule 30 = .ok (.ireturn, 1) := by decide +kernel
theorem dX12_rule_31 : decode cX12_rule 31 = .ok (.bipush 10, 2) := by decide +kernel
theorem dX12_rule_33 : decode cX12_rule 33 = .ok (.aload_n 0, 1) := by decide +kernel
theorem dX12_rule_34 : decode cX12_rule 34 = .ok (.getfield 7, 3) := by decide +kernel
theorem dX12_rule_37 : decode cX12_rule 37 = .ok (.iconst 3, 1) := by decide +kernel
theorem dX12_rule_38 : decode cX12_rule 38 = .ok (.iaload, 1) := by decide +kernel
theorem dX12_rule_39 : decode cX12_rule 39 = .ok (.imul, 1) := by decide +kernel
theorem dX12_rule_40 : decode cX12_rule 40 = .ok (.aload_n 0, 1) := by decide +kernel
theorem dX12_rule_41 : decode cX12_rule 41 = .ok (.getfield 7, 3) := by decide +kernel
theorem dX12_rule_44 : decode cX12_rule 44 = .ok (.iconst 4, 1) := by decide +kernel
theorem dX12_rule_45 : decode cX12_rule 45 = .ok (.iaload, 1) := by decide +kernel
theorem dX12_rule_46 : decode cX12_rule 46 = .ok (.iadd, 1) := by decide +kernel
theorem dX12_rule_47 : decode cX12_rule 47 = .ok (.istore_n 3, 1) := by decide +kernel
theorem dX12_rule_48 : decode cX12_rule 48 = .ok (.aload_n 0, 1) := by decide +kernel
theorem dX12_rule_49 : decode cX12_rule 49 = .ok (.getfield 7, 3) := by decide +kernel
theorem dX12_rule_52 : decode cX12_rule 52 = .ok (.iconst 3, 1) := by decide +kernel
theorem dX12_rule_53 : decode cX12_rule 53 = .ok (.iload_n 1, 1) := by decide +kernel
theorem dX12_rule_54 : decode cX12_rule 54 = .ok (.iastore, 1) := by decide +kernel
theorem dX12_rule_55 : decode cX12_rule 55 = .ok (.aload_n 0, 1) := by decide +kernel
theorem dX12_rule_56 : decode cX12_rule 56 = .ok (.getfield 7, 3) := by decide +kernel
theorem dX12_rule_59 : decode cX12_rule 59 = .ok (.iconst 4, 1) := by decide +kernel
theorem dX12_rule_60 : decode cX12_rule 60 = .ok (.iload_n 2, 1) := by decide +kernel
theorem dX12_rule_61 : decode cX12_rule 61 = .ok (.iastore, 1) := by decide +kernel
theorem dX12_rule_62 : decode cX12_rule 62 = .ok (.iload_n 3, 1) := by decide +kernel
theorem dX12_rule_63 : decode cX12_rule 63 = .ok (.ireturn, 1) := by decide +kernel
theorem dX12_seam_0 : decode cX12_seam 0 = .ok (.iload_n 1, 1) := by decide +kernel
theorem dX12_seam_1 : decode cX12_seam 1 = .ok (.i2l, 1) := by decide +kernel
theorem dX12_seam_2 : decode cX12_seam 2 = .ok (.lconst 0, 1) := by decide +kernel
theorem dX12_seam_3 : decode cX12_seam 3 = .ok (.ldc2_w 81, 3) := by decide +kernel
theorem dX12_seam_6 : decode cX12_seam 6 = .ok (.invokestatic 71, 3) := by decide +kernel
theorem dX12_seam_9 : decode cX12_seam 9 = .ok (.ifCond .ne 5, 3) := by decide +kernel
theorem dX12_seam_12 : decode cX12_seam 12 = .ok (.iconst (-1), 1) := by decide +kernel
theorem dX12_seam_13 : decode cX12_seam 13 = .ok (.ireturn, 1) := by decide +kernel
theorem dX12_seam_14 : decode cX12_seam 14 = .ok (.aload_n 0, 1) := by decide +kernel
theorem dX12_seam_15 : decode cX12_seam 15 = .ok (.getfield 7, 3) := by decide +kernel
theorem dX12_seam_18 : decode cX12_seam 18 = .ok (.iconst 5, 1) := by decide +kernel
theorem dX12_seam_19 : decode cX12_seam 19 = .ok (.iaload, 1) := by decide +kernel
theorem dX12_seam_20 : decode cX12_seam 20 = .ok (.istore_n 2, 1) := by decide +kernel
theorem dX12_seam_21 : decode cX12_seam 21 = .ok (.aload_n 0, 1) := by decide +kernel
theorem dX12_seam_22 : decode cX12_seam 22 = .ok (.getfield 7, 3) := by decide +kernel
theorem dX12_seam_25 : decode cX12_seam 25 = .ok (.iconst 5, 1) := by decide +kernel
theorem dX12_seam_26 : decode cX12_seam 26 = .ok (.iload_n 1, 1) := by decide +kernel
theorem dX12_seam_27 : decode cX12_seam 27 = .ok (.iastore, 1) := by decide +kernel
theorem dX12_seam_28 : decode cX12_seam 28 = .ok (.iload_n 2, 1) := by decide +kernel
theorem dX12_seam_29 : decode cX12_seam 29 = .ok (.ireturn, 1) := by decide +kernel
theorem dX12_place_0 : decode cX12_place 0 = .ok (.iload_n 1, 1) := by decide +kernel
theorem dX12_place_1 : decode cX12_place 1 = .ok (.i2l, 1) := by decide +kernel
theorem dX12_place_2 : decode cX12_place 2 = .ok (.lconst 1, 1) := by decide +kernel
theorem dX12_place_3 : decode cX12_place 3 = .ok (.ldc2_w 83, 3) := by decide +kernel
theorem dX12_place_6 : decode cX12_place 6 = .ok (.invokestatic 71, 3) := by decide +kernel
theorem dX12_place_9 : decode cX12_place 9 = .ok (.ifCond .ne 7, 3) := by decide +kernel
theorem dX12_place_12 : decode cX12_place 12 = .ok (.ldc2_w 85, 3) := by decide +kernel
theorem dX12_place_15 : decode cX12_place 15 = .ok (.lreturn, 1) := by decide +kernel
theorem dX12_place_16 : decode cX12_place 16 = .ok (.aload_n 0, 1) := by decide +kernel
theorem dX12_place_17 : decode cX12_place 17 = .ok (.invokevirtual 87, 3) := by decide +kernel
theorem dX12_place_20 : decode cX12_place 20 = .ok (.lconst 0, 1) := by decide +kernel
theorem dX12_place_21 : decode cX12_place 21 = .ok (.lstore_n 2, 1) := by decide +kernel
theorem dX12_place_22 : decode cX12_place 22 = .ok (.iload_n 1, 1) := by decide +kernel
theorem dX12_place_23 : decode cX12_place 23 = .ok (.i2l, 1) := by decide +kernel
theorem dX12_place_24 : decode cX12_place 24 = .ok (.aload_n 0, 1) := by decide +kernel
theorem dX12_place_25 : decode cX12_place 25 = .ok (.getfield 16, 3) := by decide +kernel
theorem dX12_place_28 : decode cX12_place 28 = .ok (.iconst 0, 1) := by decide +kernel
theorem dX12_place_29 : decode cX12_place 29 = .ok (.laload, 1) := by decide +kernel
theorem dX12_place_30 : decode cX12_place 30 = .ok (.lmul, 1) := by decide +kernel
theorem dX12_place_31 : decode cX12_place 31 = .ok (.lstore 4, 2) := by decide +kernel
theorem dX12_place_33 : decode cX12_place 33 = .ok (.lload 4, 2) := by decide +kernel
theorem dX12_place_35 : decode cX12_place 35 = .ok (.lload_n 2, 1) := by decide +kernel
theorem dX12_place_36 : decode cX12_place 36 = .ok (.lsub, 1) := by decide +kernel
theorem dX12_place_37 : decode cX12_place 37 = .ok (.lconst 1, 1) := by decide +kernel
theorem dX12_place_38 : decode cX12_place 38 = .ok (.lcmp, 1) := by decide +kernel
theorem dX12_place_39 : decode cX12_place 39 = .ok (.ifCond .le 38, 3) := by decide +kernel
theorem dX12_place_42 : decode cX12_place 42 = .ok (.lload_n 2, 1) := by decide +kernel
theorem dX12_place_43 : decode cX12_place 43 = .ok (.lload 4, 2) := by decide +kernel
theorem dX12_place_45 : decode cX12_place 45 = .ok (.ladd, 1) := by decide +kernel
theorem dX12_place_46 : decode cX12_place 46 = .ok (.ldc2_w 69, 3) := by decide +kernel
theorem dX12_place_49 : decode cX12_place 49 = .ok (.ldiv, 1) := by decide +kernel
theorem dX12_place_50 : decode cX12_place 50 = .ok (.lstore 6, 2) := by decide +kernel
theorem dX12_place_52 : decode cX12_place 52 = .ok (.aload_n 0, 1) := by decide +kernel
theorem dX12_place_53 : decode cX12_place 53 = .ok (.lload 6, 2) := by decide +kernel
theorem dX12_place_55 : decode cX12_place 55 = .ok (.invokevirtual 90, 3) := by decide +kernel
theorem dX12_place_58 : decode cX12_place 58 = .ok (.iload_n 1, 1) := by decide +kernel
theorem dX12_place_59 : decode cX12_place 59 = .ok (.i2l, 1) := by decide +kernel
theorem dX12_place_60 : decode cX12_place 60 = .ok (.lcmp, 1) := by decide +kernel
theorem dX12_place_61 : decode cX12_place 61 = .ok (.ifCond .lt 10, 3) := by decide +kernel
theorem dX12_place_64 : decode cX12_place 64 = .ok (.lload 6, 2) := by decide +kernel
theorem dX12_place_66 : decode cX12_place 66 = .ok (.lstore 4, 2) := by decide +kernel
theorem dX12_place_68 : decode cX12_place 68 = .ok (.goto 6, 3) := by decide +kernel
theorem dX12_place_71 : decode cX12_place 71 = .ok (.lload 6, 2) := by decide +kernel
theorem dX12_place_73 : decode cX12_place 73 = .ok (.lstore_n 2, 1) := by decide +kernel
theorem dX12_place_74 : decode cX12_place 74 = .ok (.goto (-41), 3) := by decide +kernel
theorem dX12_place_77 : decode cX12_place 77 = .ok (.lload 4, 2) := by decide +kernel
theorem dX12_place_79 : decode cX12_place 79 = .ok (.lreturn, 1) := by decide +kernel
theorem dX12_places_0 : decode cX12_places 0 = .ok (.lload_n 1, 1) := by decide +kernel
theorem dX12_places_1 : decode cX12_places 1 = .ok (.lconst 0, 1) := by decide +kernel
theorem dX12_places_2 : decode cX12_places 2 = .ok (.ldc2_w 94, 3) := by decide +kernel
theorem dX12_places_5 : decode cX12_places 5 = .ok (.invokestatic 71, 3) := by decide +kernel
theorem dX12_places_8 : decode cX12_places 8 = .ok (.ifCond .ne 7, 3) := by decide +kernel
theorem dX12_places_11 : decode cX12_places 11 = .ok (.ldc2_w 85, 3) := by decide +kernel
theorem dX12_places_14 : decode cX12_places 14 = .ok (.lreturn, 1) := by decide +kernel
theorem dX12_places_15 : decode cX12_places 15 = .ok (.aload_n 0, 1) := by decide +kernel
theorem dX12_places_16 : decode cX12_places 16 = .ok (.invokevirtual 87, 3) := by decide +kernel
theorem dX12_places_19 : decode cX12_places 19 = .ok (.aload_n 0, 1) := by decide +kernel
theorem dX12_places_20 : decode cX12_places 20 = .ok (.lload_n 1, 1) := by decide +kernel
theorem dX12_places_21 : decode cX12_places 21 = .ok (.invokevirtual 90, 3) := by decide +kernel
theorem dX12_places_24 : decode cX12_places 24 = .ok (.lreturn, 1) := by decide +kernel
theorem dX12_isBolt_0 : decode cX12_isBolt 0 = .ok (.iload_n 1, 1) := by decide +kernel
theorem dX12_isBolt_1 : decode cX12_isBolt 1 = .ok (.i2l, 1) := by decide +kernel
theorem dX12_isBolt_2 : decode cX12_isBolt 2 = .ok (.lconst 0, 1) := by decide +kernel
theorem dX12_isBolt_3 : decode cX12_isBolt 3 = .ok (.aload_n 0, 1) := by decide +kernel
theorem dX12_isBolt_4 : decode cX12_isBolt 4 = .ok (.getfield 7, 3) := by decide +kernel
theorem dX12_isBolt_7 : decode cX12_isBolt 7 = .ok (.bipush 6, 2) := by decide +kernel
theorem dX12_isBolt_9 : decode cX12_isBolt 9 = .ok (.iaload, 1) := by decide +kernel
theorem dX12_isBolt_10 : decode cX12_isBolt 10 = .ok (.iconst 1, 1) := by decide +kernel
theorem dX12_isBolt_11 : decode cX12_isBolt 11 = .ok (.isub, 1) := by decide +kernel
theorem dX12_isBolt_12 : decode cX12_isBolt 12 = .ok (.i2l, 1) := by decide +kernel
theorem dX12_isBolt_13 : decode cX12_isBolt 13 = .ok (.invokestatic 71, 3) := by decide +kernel
theorem dX12_isBolt_16 : decode cX12_isBolt 16 = .ok (.ireturn, 1) := by decide +kernel
theorem dX12_bolt_0 : decode cX12_bolt 0 = .ok (.iload_n 1, 1) := by decide +kernel
theorem dX12_bolt_1 : decode cX12_bolt 1 = .ok (.i2l, 1) := by decide +kernel
theorem dX12_bolt_2 : decode cX12_bolt 2 = .ok (.lconst 0, 1) := by decide +kernel
theorem dX12_bolt_3 : decode cX12_bolt 3 = .ok (.ldc2_w 96, 3) := by decide +kernel
theorem dX12_bolt_6 : decode cX12_bolt 6 = .ok (.invokestatic 71, 3) := by decide +kernel
theorem dX12_bolt_9 : decode cX12_bolt 9 = .ok (.ifCond .eq 15, 3) := by decide +kernel
theorem dX12_bolt_12 : decode cX12_bolt 12 = .ok (.iload_n 2, 1) := by decide +kernel
theorem dX12_bolt_13 : decode cX12_bolt 13 = .ok (.i2l, 1) := by decide +kernel
theorem dX12_bolt_14 : decode cX12_bolt 14 = .ok (.lconst 1, 1) := by decide +kernel
theorem dX12_bolt_15 : decode cX12_bolt 15 = .ok (.ldc2_w 98, 3) := by decide +kernel
theorem dX12_bolt_18 : decode cX12_bolt 18 = .ok (.invokestatic 71, 3) := by decide +kernel
theorem dX12_bolt_21 : decode cX12_bolt 21 = .ok (.ifCond .ne 5, 3) := by decide +kernel
theorem dX12_bolt_24 : decode cX12_bolt 24 = .ok (.iconst (-1), 1) := by decide +kernel
theorem dX12_bolt_25 : decode cX12_bolt 25 = .ok (.ireturn, 1) := by decide +kernel
theorem dX12_bolt_26 : decode cX12_bolt 26 = .ok (.aload_n 0, 1) := by decide +kernel
theorem dX12_bolt_27 : decode cX12_bolt 27 = .ok (.getfield 7, 3) := by decide +kernel
theorem dX12_bolt_30 : decode cX12_bolt 30 = .ok (.bipush 6, 2) := by decide +kernel
theorem dX12_bolt_32 : decode cX12_bolt 32 = .ok (.iaload, 1) := by decide +kernel
theorem dX12_bolt_33 : decode cX12_bolt 33 = .ok (.istore_n 3, 1) := by decide +kernel
theorem dX12_bolt_34 : decode cX12_bolt 34 = .ok (.iload_n 3, 1) := by decide +kernel
theorem dX12_bolt_35 : decode cX12_bolt 35 = .ok (.bipush 8, 2) := by decide +kernel
theorem dX12_bolt_37 : decode cX12_bolt 37 = .ok (.if_icmp .ne 6, 3) := by decide +kernel
theorem dX12_bolt_40 : decode cX12_bolt 40 = .ok (.bipush (-3), 2) := by decide +kernel
theorem dX12_bolt_42 : decode cX12_bolt 42 = .ok (.ireturn, 1) := by decide +kernel
theorem dX12_bolt_43 : decode cX12_bolt 43 = .ok (.aload_n 0, 1) := by decide +kernel
theorem dX12_bolt_44 : decode cX12_bolt 44 = .ok (.getfield 7, 3) := by decide +kernel
theorem dX12_bolt_47 : decode cX12_bolt 47 = .ok (.bipush 7, 2) := by decide +kernel
theorem dX12_bolt_49 : decode cX12_bolt 49 = .ok (.iload_n 3, 1) := by decide +kernel
theorem dX12_bolt_50 : decode cX12_bolt 50 = .ok (.iadd, 1) := by decide +kernel
theorem dX12_bolt_51 : decode cX12_bolt 51 = .ok (.iload_n 1, 1) := by decide +kernel
theorem dX12_bolt_52 : decode cX12_bolt 52 = .ok (.iastore, 1) := by decide +kernel
theorem dX12_bolt_53 : decode cX12_bolt 53 = .ok (.aload_n 0, 1) := by decide +kernel
theorem dX12_bolt_54 : decode cX12_bolt 54 = .ok (.getfield 7, 3) := by decide +kernel
theorem dX12_bolt_57 : decode cX12_bolt 57 = .ok (.bipush 15, 2) := by decide +kernel
theorem dX12_bolt_59 : decode cX12_bolt 59 = .ok (.iload_n 3, 1) := by decide +kernel
theorem dX12_bolt_60 : decode cX12_bolt 60 = .ok (.iadd, 1) := by decide +kernel
theorem dX12_bolt_61 : decode cX12_bolt 61 = .ok (.iload_n 2, 1) := by decide +kernel
theorem dX12_bolt_62 : decode cX12_bolt 62 = .ok (.iastore, 1) := by decide +kernel
theorem dX12_bolt_63 : decode cX12_bolt 63 = .ok (.aload_n 0, 1) := by decide +kernel
theorem dX12_bolt_64 : decode cX12_bolt 64 = .ok (.getfield 7, 3) := by decide +kernel
theorem dX12_bolt_67 : decode cX12_bolt 67 = .ok (.bipush 6, 2) := by decide +kernel
theorem dX12_bolt_69 : decode cX12_bolt 69 = .ok (.dup2, 1) := by decide +kernel
theorem dX12_bolt_70 : decode cX12_bolt 70 = .ok (.iaload, 1) := by decide +kernel
theorem dX12_bolt_71 : decode cX12_bolt 71 = .ok (.iconst 1, 1) := by decide +kernel
theorem dX12_bolt_72 : decode cX12_bolt 72 = .ok (.iadd, 1) := by decide +kernel
theorem dX12_bolt_73 : decode cX12_bolt 73 = .ok (.iastore, 1) := by decide +kernel
theorem dX12_bolt_74 : decode cX12_bolt 74 = .ok (.iload_n 3, 1) := by decide +kernel
theorem dX12_bolt_75 : decode cX12_bolt 75 = .ok (.ireturn, 1) := by decide +kernel
theorem dX12_told_0 : decode cX12_told 0 = .ok (.aload_n 0, 1) := by decide +kernel
theorem dX12_told_1 : decode cX12_told 1 = .ok (.iload_n 1, 1) := by decide +kernel
theorem dX12_told_2 : decode cX12_told 2 = .ok (.invokevirtual 100, 3) := by decide +kernel
theorem dX12_told_5 : decode cX12_told 5 = .ok (.ifCond .eq 15, 3) := by decide +kernel
theorem dX12_told_8 : decode cX12_told 8 = .ok (.iload_n 2, 1) := by decide +kernel
theorem dX12_told_9 : decode cX12_told 9 = .ok (.i2l, 1) := by decide +kernel
theorem dX12_told_10 : decode cX12_told 10 = .ok (.lconst 0, 1) := by decide +kernel
theorem dX12_told_11 : decode cX12_told 11 = .ok (.ldc2_w 69, 3) := by decide +kernel
theorem dX12_told_14 : decode cX12_told 14 = .ok (.invokestatic 71, 3) := by decide +kernel
theorem dX12_told_17 : decode cX12_told 17 = .ok (.ifCond .ne 5, 3) := by decide +kernel
theorem dX12_told_20 : decode cX12_told 20 = .ok (.iconst (-1), 1) := by decide +kernel
theorem dX12_told_21 : decode cX12_told 21 = .ok (.ireturn, 1) := by decide +kernel
theorem dX12_told_22 : decode cX12_told 22 = .ok (.aload_n 0, 1) := by decide +kernel
theorem dX12_told_23 : decode cX12_told 23 = .ok (.invokevirtual 87, 3) := by decide +kernel
theorem dX12_told_26 : decode cX12_told 26 = .ok (.iload_n 2, 1) := by decide +kernel
theorem dX12_told_27 : decode cX12_told 27 = .ok (.ifCond .ne 15, 3) := by decide +kernel
theorem dX12_told_30 : decode cX12_told 30 = .ok (.aload_n 0, 1) := by decide +kernel
theorem dX12_told_31 : decode cX12_told 31 = .ok (.getfield 7, 3) := by decide +kernel
theorem dX12_told_34 : decode cX12_told 34 = .ok (.bipush 7, 2) := by decide +kernel
theorem dX12_told_36 : decode cX12_told 36 = .ok (.iload_n 1, 1) := by decide +kernel
theorem dX12_told_37 : decode cX12_told 37 = .ok (.iadd, 1) := by decide +kernel
theorem dX12_told_38 : decode cX12_told 38 = .ok (.iaload, 1) := by decide +kernel
theorem dX12_told_39 : decode cX12_told 39 = .ok (.goto 35, 3) := by decide +kernel
theorem dX12_told_42 : decode cX12_told 42 = .ok (.iload_n 2, 1) := by decide +kernel
theorem dX12_told_43 : decode cX12_told 43 = .ok (.iconst 1, 1) := by decide +kernel
theorem dX12_told_44 : decode cX12_told 44 = .ok (.if_icmp .ne 15, 3) := by decide +kernel
theorem dX12_told_47 : decode cX12_told 47 = .ok (.aload_n 0, 1) := by decide +kernel
theorem dX12_told_48 : decode cX12_told 48 = .ok (.getfield 7, 3) := by decide +kernel
theorem dX12_told_51 : decode cX12_told 51 = .ok (.bipush 15, 2) := by decide +kernel
theorem dX12_told_53 : decode cX12_told 53 = .ok (.iload_n 1, 1) := by decide +kernel
theorem dX12_told_54 : decode cX12_told 54 = .ok (.iadd, 1) := by decide +kernel
theorem dX12_told_55 : decode cX12_told 55 = .ok (.iaload, 1) := by decide +kernel
theorem dX12_told_56 : decode cX12_told 56 = .ok (.goto 18, 3) := by decide +kernel
theorem dX12_told_59 : decode cX12_told 59 = .ok (.aload_n 0, 1) := by decide +kernel
theorem dX12_told_60 : decode cX12_told 60 = .ok (.aload_n 0, 1) := by decide +kernel
theorem dX12_told_61 : decode cX12_told 61 = .ok (.getfield 7, 3) := by decide +kernel
theorem dX12_told_64 : decode cX12_told 64 = .ok (.bipush 15, 2) := by decide +kernel
theorem dX12_told_66 : decode cX12_told 66 = .ok (.iload_n 1, 1) := by decide +kernel
theorem dX12_told_67 : decode cX12_told 67 = .ok (.iadd, 1) := by decide +kernel
theorem dX12_told_68 : decode cX12_told 68 = .ok (.iaload, 1) := by decide +kernel
theorem dX12_told_69 : decode cX12_told 69 = .ok (.i2l, 1) := by decide +kernel
theorem dX12_told_70 : decode cX12_told 70 = .ok (.invokevirtual 104, 3) := by decide +kernel
theorem dX12_told_73 : decode cX12_told 73 = .ok (.l2i, 1) := by decide +kernel
theorem dX12_told_74 : decode cX12_told 74 = .ok (.ireturn, 1) := by decide +kernel
theorem dX12_cut_0 : decode cX12_cut 0 = .ok (.aload_n 0, 1) := by decide +kernel
theorem dX12_cut_1 : decode cX12_cut 1 = .ok (.iload_n 1, 1) := by decide +kernel
theorem dX12_cut_2 : decode cX12_cut 2 = .ok (.invokevirtual 100, 3) := by decide +kernel
theorem dX12_cut_5 : decode cX12_cut 5 = .ok (.ifCond .ne 5, 3) := by decide +kernel
theorem dX12_cut_8 : decode cX12_cut 8 = .ok (.iconst (-1), 1) := by decide +kernel
theorem dX12_cut_9 : decode cX12_cut 9 = .ok (.ireturn, 1) := by decide +kernel
theorem dX12_cut_10 : decode cX12_cut 10 = .ok (.aload_n 0, 1) := by decide +kernel
theorem dX12_cut_11 : decode cX12_cut 11 = .ok (.invokevirtual 87, 3) := by decide +kernel
theorem dX12_cut_14 : decode cX12_cut 14 = .ok (.iload_n 2, 1) := by decide +kernel
theorem dX12_cut_15 : decode cX12_cut 15 = .ok (.iconst 1, 1) := by decide +kernel
theorem dX12_cut_16 : decode cX12_cut 16 = .ok (.if_icmp .lt 28, 3) := by decide +kernel
theorem dX12_cut_19 : decode cX12_cut 19 = .ok (.iload_n 2, 1) := by decide +kernel
theorem dX12_cut_20 : decode cX12_cut 20 = .ok (.aload_n 0, 1) := by decide +kernel
theorem dX12_cut_21 : decode cX12_cut 21 = .ok (.getfield 7, 3) := by decide +kernel
theorem dX12_cut_24 : decode cX12_cut 24 = .ok (.bipush 15, 2) := by decide +kernel
theorem dX12_cut_26 : decode cX12_cut 26 = .ok (.iload_n 1, 1) := by decide +kernel
theorem dX12_cut_27 : decode cX12_cut 27 = .ok (.iadd, 1) := by decide +kernel
theorem dX12_cut_28 : decode cX12_cut 28 = .ok (.iaload, 1) := by decide +kernel
theorem dX12_cut_29 : decode cX12_cut 29 = .ok (.if_icmp .gt 15, 3) := by decide +kernel
theorem dX12_cut_32 : decode cX12_cut 32 = .ok (.aload_n 0, 1) := by decide +kernel
theorem dX12_cut_33 : decode cX12_cut 33 = .ok (.iload_n 2, 1) := by decide +kernel
theorem dX12_cut_34 : decode cX12_cut 34 = .ok (.i2l, 1) := by decide +kernel
theorem dX12_cut_35 : decode cX12_cut 35 = .ok (.invokevirtual 104, 3) := by decide +kernel
theorem dX12_cut_38 : decode cX12_cut 38 = .ok (.iload_n 2, 1) := by decide +kernel
theorem dX12_cut_39 : decode cX12_cut 39 = .ok (.i2l, 1) := by decide +kernel
theorem dX12_cut_40 : decode cX12_cut 40 = .ok (.lcmp, 1) := by decide +kernel
theorem dX12_cut_41 : decode cX12_cut 41 = .ok (.ifCond .eq 6, 3) := by decide +kernel
theorem dX12_cut_44 : decode cX12_cut 44 = .ok (.bipush (-2), 2) := by decide +kernel
theorem dX12_cut_46 : decode cX12_cut 46 = .ok (.ireturn, 1) := by decide +kernel
theorem dX12_cut_47 : decode cX12_cut 47 = .ok (.aload_n 0, 1) := by decide +kernel
theorem dX12_cut_48 : decode cX12_cut 48 = .ok (.getfield 7, 3) := by decide +kernel
theorem dX12_cut_51 : decode cX12_cut 51 = .ok (.bipush 15, 2) := by decide +kernel
theorem dX12_cut_53 : decode cX12_cut 53 = .ok (.iload_n 1, 1) := by decide +kernel
theorem dX12_cut_54 : decode cX12_cut 54 = .ok (.iadd, 1) := by decide +kernel
theorem dX12_cut_55 : decode cX12_cut 55 = .ok (.iaload, 1) := by decide +kernel
theorem dX12_cut_56 : decode cX12_cut 56 = .ok (.iload_n 2, 1) := by decide +kernel
theorem dX12_cut_57 : decode cX12_cut 57 = .ok (.isub, 1) := by decide +kernel
theorem dX12_cut_58 : decode cX12_cut 58 = .ok (.istore_n 3, 1) := by decide +kernel
theorem dX12_cut_59 : decode cX12_cut 59 = .ok (.aload_n 0, 1) := by decide +kernel
theorem dX12_cut_60 : decode cX12_cut 60 = .ok (.getfield 7, 3) := by decide +kernel
theorem dX12_cut_63 : decode cX12_cut 63 = .ok (.bipush 7, 2) := by decide +kernel
theorem dX12_cut_65 : decode cX12_cut 65 = .ok (.iload_n 1, 1) := by decide +kernel
theorem dX12_cut_66 : decode cX12_cut 66 = .ok (.iadd, 1) := by decide +kernel
theorem dX12_cut_67 : decode cX12_cut 67 = .ok (.iaload, 1) := by decide +kernel
theorem dX12_cut_68 : decode cX12_cut 68 = .ok (.iconst 1, 1) := by decide +kernel
theorem dX12_cut_69 : decode cX12_cut 69 = .ok (.if_icmp .eq 16, 3) := by decide +kernel
theorem dX12_cut_72 : decode cX12_cut 72 = .ok (.aload_n 0, 1) := by decide +kernel
theorem dX12_cut_73 : decode cX12_cut 73 = .ok (.getfield 7, 3) := by decide +kernel
theorem dX12_cut_76 : decode cX12_cut 76 = .ok (.bipush 7, 2) := by decide +kernel
theorem dX12_cut_78 : decode cX12_cut 78 = .ok (.iload_n 1, 1) := by decide +kernel
theorem dX12_cut_79 : decode cX12_cut 79 = .ok (.iadd, 1) := by decide +kernel
theorem dX12_cut_80 : decode cX12_cut 80 = .ok (.iaload, 1) := by decide +kernel
theorem dX12_cut_81 : decode cX12_cut 81 = .ok (.iconst 3, 1) := by decide +kernel
theorem dX12_cut_82 : decode cX12_cut 82 = .ok (.if_icmp .ne 7, 3) := by decide +kernel
theorem dX12_cut_85 : decode cX12_cut 85 = .ok (.iconst 1, 1) := by decide +kernel
theorem dX12_cut_86 : decode cX12_cut 86 = .ok (.goto 4, 3) := by decide +kernel
theorem dX12_cut_89 : decode cX12_cut 89 = .ok (.iconst 0, 1) := by decide +kernel
theorem dX12_cut_90 : decode cX12_cut 90 = .ok (.istore 4, 2) := by decide +kernel
theorem dX12_cut_92 : decode cX12_cut 92 = .ok (.aload_n 0, 1) := by decide +kernel
theorem dX12_cut_93 : decode cX12_cut 93 = .ok (.getfield 7, 3) := by decide +kernel
theorem dX12_cut_96 : decode cX12_cut 96 = .ok (.bipush 15, 2) := by decide +kernel
theorem dX12_cut_98 : decode cX12_cut 98 = .ok (.iload_n 1, 1) := by decide +kernel
theorem dX12_cut_99 : decode cX12_cut 99 = .ok (.iadd, 1) := by decide +kernel
theorem dX12_cut_100 : decode cX12_cut 100 = .ok (.iload 4, 2) := by decide +kernel
theorem dX12_cut_102 : decode cX12_cut 102 = .ok (.ifCond .eq 13, 3) := by decide +kernel
theorem dX12_cut_105 : decode cX12_cut 105 = .ok (.iload_n 3, 1) := by decide +kernel
theorem dX12_cut_106 : decode cX12_cut 106 = .ok (.ifCond .le 9, 3) := by decide +kernel
theorem dX12_cut_109 : decode cX12_cut 109 = .ok (.iload_n 3, 1) := by decide +kernel
theorem dX12_cut_110 : decode cX12_cut 110 = .ok (.iconst 1, 1) := by decide +kernel
theorem dX12_cut_111 : decode cX12_cut 111 = .ok (.isub, 1) := by decide +kernel
theorem dX12_cut_112 : decode cX12_cut 112 = .ok (.goto 4, 3) := by decide +kernel
theorem dX12_cut_115 : decode cX12_cut 115 = .ok (.iload_n 3, 1) := by decide +kernel
theorem dX12_cut_116 : decode cX12_cut 116 = .ok (.iastore, 1) := by decide +kernel
theorem dX12_cut_117 : decode cX12_cut 117 = .ok (.aload_n 0, 1) := by decide +kernel
theorem dX12_cut_118 : decode cX12_cut 118 = .ok (.getfield 7, 3) := by decide +kernel
theorem dX12_cut_121 : decode cX12_cut 121 = .ok (.bipush 23, 2) := by decide +kernel
theorem dX12_cut_123 : decode cX12_cut 123 = .ok (.dup2, 1) := by decide +kernel
theorem dX12_cut_124 : decode cX12_cut 124 = .ok (.iaload, 1) := by decide +kernel
theorem dX12_cut_125 : decode cX12_cut 125 = .ok (.iload_n 2, 1) := by decide +kernel
theorem dX12_cut_126 : decode cX12_cut 126 = .ok (.iadd, 1) := by decide +kernel
theorem dX12_cut_127 : decode cX12_cut 127 = .ok (.iastore, 1) := by decide +kernel
theorem dX12_cut_128 : decode cX12_cut 128 = .ok (.aload_n 0, 1) := by decide +kernel
theorem dX12_cut_129 : decode cX12_cut 129 = .ok (.getfield 7, 3) := by decide +kernel
theorem dX12_cut_132 : decode cX12_cut 132 = .ok (.bipush 15, 2) := by decide +kernel
theorem dX12_cut_134 : decode cX12_cut 134 = .ok (.iload_n 1, 1) := by decide +kernel
theorem dX12_cut_135 : decode cX12_cut 135 = .ok (.iadd, 1) := by decide +kernel
theorem dX12_cut_136 : decode cX12_cut 136 = .ok (.iaload, 1) := by decide +kernel
theorem dX12_cut_137 : decode cX12_cut 137 = .ok (.ireturn, 1) := by decide +kernel
theorem dX12_seamOf_0 : decode cX12_seamOf 0 = .ok (.iload_n 1, 1) := by decide +kernel
theorem dX12_seamOf_1 : decode cX12_seamOf 1 = .ok (.iconst 2, 1) := by decide +kernel
theorem dX12_seamOf_2 : decode cX12_seamOf 2 = .ok (.if_icmp .ge 12, 3) := by decide +kernel
theorem dX12_seamOf_5 : decode cX12_seamOf 5 = .ok (.aload_n 0, 1) := by decide +kernel
theorem dX12_seamOf_6 : decode cX12_seamOf 6 = .ok (.getfield 7, 3) := by decide +kernel
theorem dX12_seamOf_9 : decode cX12_seamOf 9 = .ok (.iconst 5, 1) := by decide +kernel
theorem dX12_seamOf_10 : decode cX12_seamOf 10 = .ok (.iaload, 1) := by decide +kernel
theorem dX12_seamOf_11 : decode cX12_seamOf 11 = .ok (.goto 4, 3) := by decide +kernel
theorem dX12_seamOf_14 : decode cX12_seamOf 14 = .ok (.iconst 0, 1) := by decide +kernel
theorem dX12_seamOf_15 : decode cX12_seamOf 15 = .ok (.ireturn, 1) := by decide +kernel
theorem dX12_join_0 : decode cX12_join 0 = .ok (.aload_n 0, 1) := by decide +kernel
theorem dX12_join_1 : decode cX12_join 1 = .ok (.iload_n 1, 1) := by decide +kernel
theorem dX12_join_2 : decode cX12_join 2 = .ok (.invokevirtual 100, 3) := by decide +kernel
theorem dX12_join_5 : decode cX12_join 5 = .ok (.ifCond .eq 16, 3) := by decide +kernel
theorem dX12_join_8 : decode cX12_join 8 = .ok (.aload_n 0, 1) := by decide +kernel
theorem dX12_join_9 : decode cX12_join 9 = .ok (.iload_n 2, 1) := by decide +kernel
theorem dX12_join_10 : decode cX12_join 10 = .ok (.invokevirtual 100, 3) := by decide +kernel
theorem dX12_join_13 : decode cX12_join 13 = .ok (.ifCond .eq 8, 3) := by decide +kernel
theorem dX12_join_16 : decode cX12_join 16 = .ok (.iload_n 1, 1) := by decide +kernel
theorem dX12_join_17 : decode cX12_join 17 = .ok (.iload_n 2, 1) := by decide +kernel
theorem dX12_join_18 : decode cX12_join 18 = .ok (.if_icmp .ne 5, 3) := by decide +kernel
theorem dX12_join_21 : decode cX12_join 21 = .ok (.iconst (-1), 1) := by decide +kernel
theorem dX12_join_22 : decode cX12_join 22 = .ok (.ireturn, 1) := by decide +kernel
theorem dX12_join_23 : decode cX12_join 23 = .ok (.aload_n 0, 1) := by decide +kernel
theorem dX12_join_24 : decode cX12_join 24 = .ok (.getfield 7, 3) := by decide +kernel
theorem dX12_join_27 : decode cX12_join 27 = .ok (.bipush 15, 2) := by decide +kernel
theorem dX12_join_29 : decode cX12_join 29 = .ok (.iload_n 1, 1) := by decide +kernel
theorem dX12_join_30 : decode cX12_join 30 = .ok (.iadd, 1) := by decide +kernel
theorem dX12_join_31 : decode cX12_join 31 = .ok (.iaload, 1) := by decide +kernel
theorem dX12_join_32 : decode cX12_join 32 = .ok (.istore_n 3, 1) := by decide +kernel
theorem dX12_join_33 : decode cX12_join 33 = .ok (.aload_n 0, 1) := by decide +kernel
theorem dX12_join_34 : decode cX12_join 34 = .ok (.getfield 7, 3) := by decide +kernel
theorem dX12_join_37 : decode cX12_join 37 = .ok (.bipush 15, 2) := by decide +kernel
theorem dX12_join_39 : decode cX12_join 39 = .ok (.iload_n 2, 1) := by decide +kernel
theorem dX12_join_40 : decode cX12_join 40 = .ok (.iadd, 1) := by decide +kernel
theorem dX12_join_41 : decode cX12_join 41 = .ok (.iaload, 1) := by decide +kernel
theorem dX12_join_42 : decode cX12_join 42 = .ok (.istore 4, 2) := by decide +kernel
theorem dX12_join_44 : decode cX12_join 44 = .ok (.aload_n 0, 1) := by decide +kernel
theorem dX12_join_45 : decode cX12_join 45 = .ok (.getfield 7, 3) := by decide +kernel
theorem dX12_join_48 : decode cX12_join 48 = .ok (.bipush 7, 2) := by decide +kernel
theorem dX12_join_50 : decode cX12_join 50 = .ok (.iload_n 1, 1) := by decide +kernel
theorem dX12_join_51 : decode cX12_join 51 = .ok (.iadd, 1) := by decide +kernel
theorem dX12_join_52 : decode cX12_join 52 = .ok (.iaload, 1) := by decide +kernel
theorem dX12_join_53 : decode cX12_join 53 = .ok (.aload_n 0, 1) := by decide +kernel
theorem dX12_join_54 : decode cX12_join 54 = .ok (.getfield 7, 3) := by decide +kernel
theorem dX12_join_57 : decode cX12_join 57 = .ok (.bipush 7, 2) := by decide +kernel
theorem dX12_join_59 : decode cX12_join 59 = .ok (.iload_n 2, 1) := by decide +kernel
theorem dX12_join_60 : decode cX12_join 60 = .ok (.iadd, 1) := by decide +kernel
theorem dX12_join_61 : decode cX12_join 61 = .ok (.iaload, 1) := by decide +kernel
theorem dX12_join_62 : decode cX12_join 62 = .ok (.if_icmp .ne 12, 3) := by decide +kernel
theorem dX12_join_65 : decode cX12_join 65 = .ok (.iload_n 3, 1) := by decide +kernel
theorem dX12_join_66 : decode cX12_join 66 = .ok (.ifCond .eq 8, 3) := by decide +kernel
theorem dX12_join_69 : decode cX12_join 69 = .ok (.iload 4, 2) := by decide +kernel
theorem dX12_join_71 : decode cX12_join 71 = .ok (.ifCond .ne 6, 3) := by decide +kernel
theorem dX12_join_74 : decode cX12_join 74 = .ok (.bipush (-2), 2) := by decide +kernel
theorem dX12_join_76 : decode cX12_join 76 = .ok (.ireturn, 1) := by decide +kernel
theorem dX12_join_77 : decode cX12_join 77 = .ok (.lconst 0, 1) := by decide +kernel
theorem dX12_join_78 : decode cX12_join 78 = .ok (.iload_n 3, 1) := by decide +kernel
theorem dX12_join_79 : decode cX12_join 79 = .ok (.iload 4, 2) := by decide +kernel
theorem dX12_join_81 : decode cX12_join 81 = .ok (.iadd, 1) := by decide +kernel
theorem dX12_join_82 : decode cX12_join 82 = .ok (.aload_n 0, 1) := by decide +kernel
theorem dX12_join_83 : decode cX12_join 83 = .ok (.aload_n 0, 1) := by decide +kernel
theorem dX12_join_84 : decode cX12_join 84 = .ok (.getfield 7, 3) := by decide +kernel
theorem dX12_join_87 : decode cX12_join 87 = .ok (.bipush 7, 2) := by decide +kernel
theorem dX12_join_89 : decode cX12_join 89 = .ok (.iload_n 1, 1) := by decide +kernel
theorem dX12_join_90 : decode cX12_join 90 = .ok (.iadd, 1) := by decide +kernel
theorem dX12_join_91 : decode cX12_join 91 = .ok (.iaload, 1) := by decide +kernel
theorem dX12_join_92 : decode cX12_join 92 = .ok (.invokevirtual 107, 3) := by decide +kernel
theorem dX12_join_95 : decode cX12_join 95 = .ok (.isub, 1) := by decide +kernel
theorem dX12_join_96 : decode cX12_join 96 = .ok (.i2l, 1) := by decide +kernel
theorem dX12_join_97 : decode cX12_join 97 = .ok (.invokestatic 63, 3) := by decide +kernel
theorem dX12_join_100 : decode cX12_join 100 = .ok (.l2i, 1) := by decide +kernel
theorem dX12_join_101 : decode cX12_join 101 = .ok (.istore 5, 2) := by decide +kernel
theorem dX12_join_103 : decode cX12_join 103 = .ok (.iload 5, 2) := by decide +kernel
theorem dX12_join_105 : decode cX12_join 105 = .ok (.ldc 111, 2) := by decide +kernel
theorem dX12_join_107 : decode cX12_join 107 = .ok (.if_icmp .le 6, 3) := by decide +kernel
theorem dX12_join_110 : decode cX12_join 110 = .ok (.bipush (-3), 2) := by decide +kernel
theorem dX12_join_112 : decode cX12_join 112 = .ok (.ireturn, 1) := by decide +kernel
theorem dX12_join_113 : decode cX12_join 113 = .ok (.aload_n 0, 1) := by decide +kernel
theorem dX12_join_114 : decode cX12_join 114 = .ok (.getfield 7, 3) := by decide +kernel
theorem dX12_join_117 : decode cX12_join 117 = .ok (.bipush 15, 2) := by decide +kernel
theorem dX12_join_119 : decode cX12_join 119 = .ok (.iload_n 1, 1) := by decide +kernel
theorem dX12_join_120 : decode cX12_join 120 = .ok (.iadd, 1) := by decide +kernel
theorem dX12_join_121 : decode cX12_join 121 = .ok (.iload 5, 2) := by decide +kernel
theorem dX12_join_123 : decode cX12_join 123 = .ok (.iastore, 1) := by decide +kernel
theorem dX12_join_124 : decode cX12_join 124 = .ok (.aload_n 0, 1) := by decide +kernel
theorem dX12_join_125 : decode cX12_join 125 = .ok (.getfield 7, 3) := by decide +kernel
theorem dX12_join_128 : decode cX12_join 128 = .ok (.bipush 15, 2) := by decide +kernel
theorem dX12_join_130 : decode cX12_join 130 = .ok (.iload_n 2, 1) := by decide +kernel
theorem dX12_join_131 : decode cX12_join 131 = .ok (.iadd, 1) := by decide +kernel
theorem dX12_join_132 : decode cX12_join 132 = .ok (.iconst 0, 1) := by decide +kernel
theorem dX12_join_133 : decode cX12_join 133 = .ok (.iastore, 1) := by decide +kernel
theorem dX12_join_134 : decode cX12_join 134 = .ok (.iload 5, 2) := by decide +kernel
theorem dX12_join_136 : decode cX12_join 136 = .ok (.ireturn, 1) := by decide +kernel
theorem dX12_type_0 : decode cX12_type 0 = .ok (.iload_n 3, 1) := by decide +kernel
theorem dX12_type_1 : decode cX12_type 1 = .ok (.i2l, 1) := by decide +kernel
theorem dX12_type_2 : decode cX12_type 2 = .ok (.lconst 1, 1) := by decide +kernel
theorem dX12_type_3 : decode cX12_type 3 = .ok (.ldc2_w 112, 3) := by decide +kernel
theorem dX12_type_6 : decode cX12_type 6 = .ok (.invokestatic 71, 3) := by decide +kernel
theorem dX12_type_9 : decode cX12_type 9 = .ok (.ifCond .ne 5, 3) := by decide +kernel
theorem dX12_type_12 : decode cX12_type 12 = .ok (.iconst (-1), 1) := by decide +kernel
theorem dX12_type_13 : decode cX12_type 13 = .ok (.ireturn, 1) := by decide +kernel
theorem dX12_type_14 : decode cX12_type 14 = .ok (.iconst 0, 1) := by decide +kernel
theorem dX12_type_15 : decode cX12_type 15 = .ok (.istore 4, 2) := by decide +kernel
theorem dX12_type_17 : decode cX12_type 17 = .ok (.iload 4, 2) := by decide +kernel
theorem dX12_type_19 : decode cX12_type 19 = .ok (.iload_n 3, 1) := by decide +kernel
theorem dX12_type_20 : decode cX12_type 20 = .ok (.if_icmp .ge 34, 3) := by decide +kernel
theorem dX12_type_23 : decode cX12_type 23 = .ok (.lload_n 1, 1) := by decide +kernel
theorem dX12_type_24 : decode cX12_type 24 = .ok (.bipush 8, 2) := by decide +kernel
theorem dX12_type_26 : decode cX12_type 26 = .ok (.iload 4, 2) := by decide +kernel
theorem dX12_type_28 : decode cX12_type 28 = .ok (.imul, 1) := by decide +kernel
theorem dX12_type_29 : decode cX12_type 29 = .ok (.lshr, 1) := by decide +kernel
theorem dX12_type_30 : decode cX12_type 30 = .ok (.ldc2_w 114, 3) := by decide +kernel
theorem dX12_type_33 : decode cX12_type 33 = .ok (.land, 1) := by decide +kernel
theorem dX12_type_34 : decode cX12_type 34 = .ok (.ldc2_w 116, 3) := by decide +kernel
theorem dX12_type_37 : decode cX12_type 37 = .ok (.ldc2_w 118, 3) := by decide +kernel
theorem dX12_type_40 : decode cX12_type 40 = .ok (.invokestatic 71, 3) := by decide +kernel
theorem dX12_type_43 : decode cX12_type 43 = .ok (.ifCond .ne 5, 3) := by decide +kernel
theorem dX12_type_46 : decode cX12_type 46 = .ok (.iconst (-1), 1) := by decide +kernel
theorem dX12_type_47 : decode cX12_type 47 = .ok (.ireturn, 1) := by decide +kernel
theorem dX12_type_48 : decode cX12_type 48 = .ok (.iinc 4 1, 3) := by decide +kernel
theorem dX12_type_51 : decode cX12_type 51 = .ok (.goto (-34), 3) := by decide +kernel
theorem dX12_type_54 : decode cX12_type 54 = .ok (.aload_n 0, 1) := by decide +kernel
theorem dX12_type_55 : decode cX12_type 55 = .ok (.getfield 120, 3) := by decide +kernel
theorem dX12_type_58 : decode cX12_type 58 = .ok (.iload_n 3, 1) := by decide +kernel
theorem dX12_type_59 : decode cX12_type 59 = .ok (.iadd, 1) := by decide +kernel
theorem dX12_type_60 : decode cX12_type 60 = .ok (.bipush 40, 2) := by decide +kernel
theorem dX12_type_62 : decode cX12_type 62 = .ok (.if_icmp .le 6, 3) := by decide +kernel
theorem dX12_type_65 : decode cX12_type 65 = .ok (.bipush (-3), 2) := by decide +kernel
theorem dX12_type_67 : decode cX12_type 67 = .ok (.ireturn, 1) := by decide +kernel
theorem dX12_type_68 : decode cX12_type 68 = .ok (.iload_n 3, 1) := by decide +kernel
theorem dX12_type_69 : decode cX12_type 69 = .ok (.iconst 1, 1) := by decide +kernel
theorem dX12_type_70 : decode cX12_type 70 = .ok (.isub, 1) := by decide +kernel
theorem dX12_type_71 : decode cX12_type 71 = .ok (.istore 4, 2) := by decide +kernel
theorem dX12_type_73 : decode cX12_type 73 = .ok (.iload 4, 2) := by decide +kernel
theorem dX12_type_75 : decode cX12_type 75 = .ok (.ifCond .lt 40, 3) := by decide +kernel
theorem dX12_type_78 : decode cX12_type 78 = .ok (.aload_n 0, 1) := by decide +kernel
theorem dX12_type_79 : decode cX12_type 79 = .ok (.getfield 13, 3) := by decide +kernel
theorem dX12_type_82 : decode cX12_type 82 = .ok (.aload_n 0, 1) := by decide +kernel
theorem dX12_type_83 : decode cX12_type 83 = .ok (.getfield 120, 3) := by decide +kernel
theorem dX12_type_86 : decode cX12_type 86 = .ok (.lload_n 1, 1) := by decide +kernel
theorem dX12_type_87 : decode cX12_type 87 = .ok (.bipush 8, 2) := by decide +kernel
theorem dX12_type_89 : decode cX12_type 89 = .ok (.iload 4, 2) := by decide +kernel
theorem dX12_type_91 : decode cX12_type 91 = .ok (.imul, 1) := by decide +kernel
theorem dX12_type_92 : decode cX12_type 92 = .ok (.lshr, 1) := by decide +kernel
theorem dX12_type_93 : decode cX12_type 93 = .ok (.ldc2_w 114, 3) := by decide +kernel
theorem dX12_type_96 : decode cX12_type 96 = .ok (.land, 1) := by decide +kernel
theorem dX12_type_97 : decode cX12_type 97 = .ok (.l2i, 1) := by decide +kernel
theorem dX12_type_98 : decode cX12_type 98 = .ok (.iastore, 1) := by decide +kernel
theorem dX12_type_99 : decode cX12_type 99 = .ok (.aload_n 0, 1) := by decide +kernel
theorem dX12_type_100 : decode cX12_type 100 = .ok (.dup, 1) := by decide +kernel
theorem dX12_type_101 : decode cX12_type 101 = .ok (.getfield 120, 3) := by decide +kernel
theorem dX12_type_104 : decode cX12_type 104 = .ok (.iconst 1, 1) := by decide +kernel
theorem dX12_type_105 : decode cX12_type 105 = .ok (.iadd, 1) := by decide +kernel
theorem dX12_type_106 : decode cX12_type 106 = .ok (.putfield 120, 3) := by decide +kernel
theorem dX12_type_109 : decode cX12_type 109 = .ok (.iinc 4 (-1), 3) := by decide +kernel
theorem dX12_type_112 : decode cX12_type 112 = .ok (.goto (-39), 3) := by decide +kernel
theorem dX12_type_115 : decode cX12_type 115 = .ok (.aload_n 0, 1) := by decide +kernel
theorem dX12_type_116 : decode cX12_type 116 = .ok (.getfield 120, 3) := by decide +kernel
theorem dX12_type_119 : decode cX12_type 119 = .ok (.ireturn, 1) := by decide +kernel
theorem dX12_ahead_0 : decode cX12_ahead 0 = .ok (.aload_n 0, 1) := by decide +kernel
theorem dX12_ahead_1 : decode cX12_ahead 1 = .ok (.getfield 123, 3) := by decide +kernel
theorem dX12_ahead_4 : decode cX12_ahead 4 = .ok (.aload_n 0, 1) := by decide +kernel
theorem dX12_ahead_5 : decode cX12_ahead 5 = .ok (.getfield 120, 3) := by decide +kernel
theorem dX12_ahead_8 : decode cX12_ahead 8 = .ok (.if_icmp .ge 30, 3) := by decide +kernel
theorem dX12_ahead_11 : decode cX12_ahead 11 = .ok (.aload_n 0, 1) := by decide +kernel
theorem dX12_ahead_12 : decode cX12_ahead 12 = .ok (.getfield 13, 3) := by decide +kernel
theorem dX12_ahead_15 : decode cX12_ahead 15 = .ok (.aload_n 0, 1) := by decide +kernel
theorem dX12_ahead_16 : decode cX12_ahead 16 = .ok (.getfield 123, 3) := by decide +kernel
theorem dX12_ahead_19 : decode cX12_ahead 19 = .ok (.iaload, 1) := by decide +kernel
theorem dX12_ahead_20 : decode cX12_ahead 20 = .ok (.bipush 32, 2) := by decide +kernel
theorem dX12_ahead_22 : decode cX12_ahead 22 = .ok (.if_icmp .ne 16, 3) := by decide +kernel
theorem dX12_ahead_25 : decode cX12_ahead 25 = .ok (.aload_n 0, 1) := by decide +kernel
theorem dX12_ahead_26 : decode cX12_ahead 26 = .ok (.dup, 1) := by decide +kernel
theorem dX12_ahead_27 : decode cX12_ahead 27 = .ok (.getfield 123, 3) := by decide +kernel
theorem dX12_ahead_30 : decode cX12_ahead 30 = .ok (.iconst 1, 1) := by decide +kernel
theorem dX12_ahead_31 : decode cX12_ahead 31 = .ok (.iadd, 1) := by decide +kernel
theorem dX12_ahead_32 : decode cX12_ahead 32 = .ok (.putfield 123, 3) := by decide +kernel
theorem dX12_ahead_35 : decode cX12_ahead 35 = .ok (.goto (-35), 3) := by decide +kernel
theorem dX12_ahead_38 : decode cX12_ahead 38 = .ok (.aload_n 0, 1) := by decide +kernel
theorem dX12_ahead_39 : decode cX12_ahead 39 = .ok (.getfield 123, 3) := by decide +kernel
theorem dX12_ahead_42 : decode cX12_ahead 42 = .ok (.aload_n 0, 1) := by decide +kernel
theorem dX12_ahead_43 : decode cX12_ahead 43 = .ok (.getfield 120, 3) := by decide +kernel
theorem dX12_ahead_46 : decode cX12_ahead 46 = .ok (.if_icmp .ge 15, 3) := by decide +kernel
theorem dX12_ahead_49 : decode cX12_ahead 49 = .ok (.aload_n 0, 1) := by decide +kernel
theorem dX12_ahead_50 : decode cX12_ahead 50 = .ok (.getfield 13, 3) := by decide +kernel
theorem dX12_ahead_53 : decode cX12_ahead 53 = .ok (.aload_n 0, 1) := by decide +kernel
theorem dX12_ahead_54 : decode cX12_ahead 54 = .ok (.getfield 123, 3) := by decide +kernel
theorem dX12_ahead_57 : decode cX12_ahead 57 = .ok (.iaload, 1) := by decide +kernel
theorem dX12_ahead_58 : decode cX12_ahead 58 = .ok (.goto 4, 3) := by decide +kernel
theorem dX12_ahead_61 : decode cX12_ahead 61 = .ok (.iconst (-1), 1) := by decide +kernel
theorem dX12_ahead_62 : decode cX12_ahead 62 = .ok (.ireturn, 1) := by decide +kernel
theorem dX12_faultOf_0 : decode cX12_faultOf 0 = .ok (.aload_n 0, 1) := by decide +kernel
theorem dX12_faultOf_1 : decode cX12_faultOf 1 = .ok (.iconst 0, 1) := by decide +kernel
theorem dX12_faultOf_2 : decode cX12_faultOf 2 = .ok (.putfield 123, 3) := by decide +kernel
theorem dX12_faultOf_5 : decode cX12_faultOf 5 = .ok (.aload_n 0, 1) := by decide +kernel
theorem dX12_faultOf_6 : decode cX12_faultOf 6 = .ok (.iconst 0, 1) := by decide +kernel
theorem dX12_faultOf_7 : decode cX12_faultOf 7 = .ok (.putfield 126, 3) := by decide +kernel
theorem dX12_faultOf_10 : decode cX12_faultOf 10 = .ok (.aload_n 0, 1) := by decide +kernel
theorem dX12_faultOf_11 : decode cX12_faultOf 11 = .ok (.iconst 0, 1) := by decide +kernel
theorem dX12_faultOf_12 : decode cX12_faultOf 12 = .ok (.putfield 129, 3) := by decide +kernel
theorem dX12_faultOf_15 : decode cX12_faultOf 15 = .ok (.iconst 0, 1) := by decide +kernel
theorem dX12_faultOf_16 : decode cX12_faultOf 16 = .ok (.istore_n 1, 1) := by decide +kernel
theorem dX12_faultOf_17 : decode cX12_faultOf 17 = .ok (.iload_n 1, 1) := by decide +kernel
theorem dX12_faultOf_18 : decode cX12_faultOf 18 = .ok (.iconst 3, 1) := by decide +kernel
theorem dX12_faultOf_19 : decode cX12_faultOf 19 = .ok (.if_icmp .ge 153, 3) := by decide +kernel
theorem dX12_faultOf_22 : decode cX12_faultOf 22 = .ok (.iload_n 1, 1) := by decide +kernel
theorem dX12_faultOf_23 : decode cX12_faultOf 23 = .ok (.ifCond .le 17, 3) := by decide +kernel
theorem dX12_faultOf_26 : decode cX12_faultOf 26 = .ok (.aload_n 0, 1) := by decide +kernel
theorem dX12_faultOf_27 : decode cX12_faultOf 27 = .ok (.invokevirtual 132, 3) := by decide +kernel
theorem dX12_faultOf_30 : decode cX12_faultOf 30 = .ok (.bipush 44, 2) := by decide +kernel
theorem dX12_faultOf_32 : decode cX12_faultOf 32 = .ok (.if_icmp .eq 8, 3) := by decide +kernel
theorem dX12_faultOf_35 : decode cX12_faultOf 35 = .ok (.aload_n 0, 1) := by decide +kernel
theorem dX12_faultOf_36 : decode cX12_faultOf 36 = .ok (.getfield 123, 3) := by decide +kernel
theorem dX12_faultOf_39 : decode cX12_faultOf 39 = .ok (.ireturn, 1) := by decide +kernel
theorem dX12_faultOf_40 : decode cX12_faultOf 40 = .ok (.aload_n 0, 1) := by decide +kernel
theorem dX12_faultOf_41 : decode cX12_faultOf 41 = .ok (.dup, 1) := by decide +kernel
theorem dX12_faultOf_42 : decode cX12_faultOf 42 = .ok (.getfield 123, 3) := by decide +kernel
theorem dX12_faultOf_45 : decode cX12_faultOf 45 = .ok (.iload_n 1, 1) := by decide +kernel
theorem dX12_faultOf_46 : decode cX12_faultOf 46 = .ok (.ifCond .le 7, 3) := by decide +kernel
theorem dX12_faultOf_49 : decode cX12_faultOf 49 = .ok (.iconst 1, 1) := by decide +kernel
theorem dX12_faultOf_50 : decode cX12_faultOf 50 = .ok (.goto 4, 3) := by decide +kernel
theorem dX12_faultOf_53 : decode cX12_faultOf 53 = .ok (.iconst 0, 1) := by decide +kernel
theorem dX12_faultOf_54 : decode cX12_faultOf 54 = .ok (.iadd, 1) := by decide +kernel
theorem dX12_faultOf_55 : decode cX12_faultOf 55 = .ok (.putfield 123, 3) := by decide +kernel
theorem dX12_faultOf_58 : decode cX12_faultOf 58 = .ok (.aload_n 0, 1) := by decide +kernel
theorem dX12_faultOf_59 : decode cX12_faultOf 59 = .ok (.invokevirtual 132, 3) := by decide +kernel
theorem dX12_faultOf_62 : decode cX12_faultOf 62 = .ok (.pop, 1) := by decide +kernel
theorem dX12_faultOf_63 : decode cX12_faultOf 63 = .ok (.aload_n 0, 1) := by decide +kernel
theorem dX12_faultOf_64 : decode cX12_faultOf 64 = .ok (.getfield 123, 3) := by decide +kernel
theorem dX12_faultOf_67 : decode cX12_faultOf 67 = .ok (.istore_n 2, 1) := by decide +kernel
theorem dX12_faultOf_68 : decode cX12_faultOf 68 = .ok (.iconst 0, 1) := by decide +kernel
theorem dX12_faultOf_69 : decode cX12_faultOf 69 = .ok (.istore_n 3, 1) := by decide +kernel
theorem dX12_faultOf_70 : decode cX12_faultOf 70 = .ok (.aload_n 0, 1) := by decide +kernel
theorem dX12_faultOf_71 : decode cX12_faultOf 71 = .ok (.getfield 123, 3) := by decide +kernel
theorem dX12_faultOf_74 : decode cX12_faultOf 74 = .ok (.aload_n 0, 1) := by decide +kernel
theorem dX12_faultOf_75 : decode cX12_faultOf 75 = .ok (.getfield 120, 3) := by decide +kernel
theorem dX12_faultOf_78 : decode cX12_faultOf 78 = .ok (.if_icmp .ge 67, 3) := by decide +kernel
theorem dX12_faultOf_81 : decode cX12_faultOf 81 = .ok (.aload_n 0, 1) := by decide +kernel
theorem dX12_faultOf_82 : decode cX12_faultOf 82 = .ok (.getfield 13, 3) := by decide +kernel
theorem dX12_faultOf_85 : decode cX12_faultOf 85 = .ok (.aload_n 0, 1) := by decide +kernel
theorem dX12_faultOf_86 : decode cX12_faultOf 86 = .ok (.getfield 123, 3) := by decide +kernel
theorem dX12_faultOf_89 : decode cX12_faultOf 89 = .ok (.iaload, 1) := by decide +kernel
theorem dX12_faultOf_90 : decode cX12_faultOf 90 = .ok (.i2l, 1) := by decide +kernel
theorem dX12_faultOf_91 : decode cX12_faultOf 91 = .ok (.ldc2_w 136, 3) := by decide +kernel
theorem dX12_faultOf_94 : decode cX12_faultOf 94 = .ok (.ldc2_w 138, 3) := by decide +kernel
theorem dX12_faultOf_97 : decode cX12_faultOf 97 = .ok (.invokestatic 71, 3) := by decide +kernel
theorem dX12_faultOf_100 : decode cX12_faultOf 100 = .ok (.ifCond .eq 45, 3) := by decide +kernel
theorem dX12_faultOf_103 : decode cX12_faultOf 103 = .ok (.ldc2_w 140, 3) := by decide +kernel
theorem dX12_faultOf_106 : decode cX12_faultOf 106 = .ok (.iload_n 3, 1) := by decide +kernel
theorem dX12_faultOf_107 : decode cX12_faultOf 107 = .ok (.i2l, 1) := by decide +kernel
theorem dX12_faultOf_108 : decode cX12_faultOf 108 = .ok (.lmul, 1) := by decide +kernel
theorem dX12_faultOf_109 : decode cX12_faultOf 109 = .ok (.aload_n 0, 1) := by decide +kernel
theorem dX12_faultOf_110 : decode cX12_faultOf 110 = .ok (.getfield 13, 3) := by decide +kernel
theorem dX12_faultOf_113 : decode cX12_faultOf 113 = .ok (.aload_n 0, 1) := by decide +kernel
theorem dX12_faultOf_114 : decode cX12_faultOf 114 = .ok (.getfield 123, 3) := by decide +kernel
theorem dX12_faultOf_117 : decode cX12_faultOf 117 = .ok (.iaload, 1) := by decide +kernel
theorem dX12_faultOf_118 : decode cX12_faultOf 118 = .ok (.i2l, 1) := by decide +kernel
theorem dX12_faultOf_119 : decode cX12_faultOf 119 = .ok (.ladd, 1) := by decide +kernel
theorem dX12_faultOf_120 : decode cX12_faultOf 120 = .ok (.ldc2_w 136, 3) := by decide +kernel
theorem dX12_faultOf_123 : decode cX12_faultOf 123 = .ok (.lsub, 1) := by decide +kernel
theorem dX12_faultOf_124 : decode cX12_faultOf 124 = .ok (.ldc2_w 142, 3) := by decide +kernel
theorem dX12_faultOf_127 : decode cX12_faultOf 127 = .ok (.invokestatic 66, 3) := by decide +kernel
theorem dX12_faultOf_130 : decode cX12_faultOf 130 = .ok (.l2i, 1) := by decide +kernel
theorem dX12_faultOf_131 : decode cX12_faultOf 131 = .ok (.istore_n 3, 1) := by decide +kernel
theorem dX12_faultOf_132 : decode cX12_faultOf 132 = .ok (.aload_n 0, 1) := by decide +kernel
theorem dX12_faultOf_133 : decode cX12_faultOf 133 = .ok (.dup, 1) := by decide +kernel
theorem dX12_faultOf_134 : decode cX12_faultOf 134 = .ok (.getfield 123, 3) := by decide +kernel
theorem dX12_faultOf_137 : decode cX12_faultOf 137 = .ok (.iconst 1, 1) := by decide +kernel
theorem dX12_faultOf_138 : decode cX12_faultOf 138 = .ok (.iadd, 1) := by decide +kernel
theorem dX12_faultOf_139 : decode cX12_faultOf 139 = .ok (.putfield 123, 3) := by decide +kernel
theorem dX12_faultOf_142 : decode cX12_faultOf 142 = .ok (.goto (-72), 3) := by decide +kernel
theorem dX12_faultOf_145 : decode cX12_faultOf 145 = .ok (.iload_n 3, 1) := by decide +kernel
theorem dX12_faultOf_146 : decode cX12_faultOf 146 = .ok (.i2l, 1) := by decide +kernel
theorem dX12_faultOf_147 : decode cX12_faultOf 147 = .ok (.lconst 1, 1) := by decide +kernel
theorem dX12_faultOf_148 : decode cX12_faultOf 148 = .ok (.ldc2_w 75, 3) := by decide +kernel
theorem dX12_faultOf_151 : decode cX12_faultOf 151 = .ok (.invokestatic 71, 3) := by decide +kernel
theorem dX12_faultOf_154 : decode cX12_faultOf 154 = .ok (.ifCond .ne 5, 3) := by decide +kernel
theorem dX12_faultOf_157 : decode cX12_faultOf 157 = .ok (.iload_n 2, 1) := by decide +kernel
theorem dX12_faultOf_158 : decode cX12_faultOf 158 = .ok (.ireturn, 1) := by decide +kernel
theorem dX12_faultOf_159 : decode cX12_faultOf 159 = .ok (.aload_n 0, 1) := by decide +kernel
theorem dX12_faultOf_160 : decode cX12_faultOf 160 = .ok (.getfield 20, 3) := by decide +kernel
theorem dX12_faultOf_163 : decode cX12_faultOf 163 = .ok (.iload_n 1, 1) := by decide +kernel
theorem dX12_faultOf_164 : decode cX12_faultOf 164 = .ok (.iload_n 3, 1) := by decide +kernel
theorem dX12_faultOf_165 : decode cX12_faultOf 165 = .ok (.iastore, 1) := by decide +kernel
theorem dX12_faultOf_166 : decode cX12_faultOf 166 = .ok (.iinc 1 1, 3) := by decide +kernel
theorem dX12_faultOf_169 : decode cX12_faultOf 169 = .ok (.goto (-152), 3) := by decide +kernel
theorem dX12_faultOf_172 : decode cX12_faultOf 172 = .ok (.aload_n 0, 1) := by decide +kernel
theorem dX12_faultOf_173 : decode cX12_faultOf 173 = .ok (.invokevirtual 132, 3) := by decide +kernel
theorem dX12_faultOf_176 : decode cX12_faultOf 176 = .ok (.bipush 59, 2) := by decide +kernel
theorem dX12_faultOf_178 : decode cX12_faultOf 178 = .ok (.if_icmp .ne 94, 3) := by decide +kernel
theorem dX12_faultOf_181 : decode cX12_faultOf 181 = .ok (.aload_n 0, 1) := by decide +kernel
theorem dX12_faultOf_182 : decode cX12_faultOf 182 = .ok (.dup, 1) := by decide +kernel
theorem dX12_faultOf_183 : decode cX12_faultOf 183 = .ok (.getfield 123, 3) := by decide +kernel
theorem dX12_faultOf_186 : decode cX12_faultOf 186 = .ok (.iconst 1, 1) := by decide +kernel
theorem dX12_faultOf_187 : decode cX12_faultOf 187 = .ok (.iadd, 1) := by decide +kernel
theorem dX12_faultOf_188 : decode cX12_faultOf 188 = .ok (.putfield 123, 3) := by decide +kernel
theorem dX12_faultOf_191 : decode cX12_faultOf 191 = .ok (.aload_n 0, 1) := by decide +kernel
theorem dX12_faultOf_192 : decode cX12_faultOf 192 = .ok (.invokevirtual 132, 3) := by decide +kernel
theorem dX12_faultOf_195 : decode cX12_faultOf 195 = .ok (.i2l, 1) := by decide +kernel
theorem dX12_faultOf_196 : decode cX12_faultOf 196 = .ok (.ldc2_w 136, 3) := by decide +kernel
theorem dX12_faultOf_199 : decode cX12_faultOf 199 = .ok (.ldc2_w 144, 3) := by decide +kernel
theorem dX12_faultOf_202 : decode cX12_faultOf 202 = .ok (.invokestatic 71, 3) := by decide +kernel
theorem dX12_faultOf_205 : decode cX12_faultOf 205 = .ok (.ifCond .eq 51, 3) := by decide +kernel
theorem dX12_faultOf_208 : decode cX12_faultOf 208 = .ok (.aload_n 0, 1) := by decide +kernel
theorem dX12_faultOf_209 : decode cX12_faultOf 209 = .ok (.getfield 126, 3) := by decide +kernel
theorem dX12_faultOf_212 : decode cX12_faultOf 212 = .ok (.aload_n 0, 1) := by decide +kernel
theorem dX12_faultOf_213 : decode cX12_faultOf 213 = .ok (.invokevirtual 132, 3) := by decide +kernel
theorem dX12_faultOf_216 : decode cX12_faultOf 216 = .ok (.bipush 48, 2) := by decide +kernel
theorem dX12_faultOf_218 : decode cX12_faultOf 218 = .ok (.isub, 1) := by decide +kernel
theorem dX12_faultOf_219 : decode cX12_faultOf 219 = .ok (.invokestatic 146, 3) := by decide +kernel
theorem dX12_faultOf_222 : decode cX12_faultOf 222 = .ok (.ifCond .ne 34, 3) := by decide +kernel
theorem dX12_faultOf_225 : decode cX12_faultOf 225 = .ok (.aload_n 0, 1) := by decide +kernel
theorem dX12_faultOf_226 : decode cX12_faultOf 226 = .ok (.dup, 1) := by decide +kernel
theorem dX12_faultOf_227 : decode cX12_faultOf 227 = .ok (.getfield 126, 3) := by decide +kernel
theorem dX12_faultOf_230 : decode cX12_faultOf 230 = .ok (.iconst 1, 1) := by decide +kernel
theorem dX12_faultOf_231 : decode cX12_faultOf 231 = .ok (.aload_n 0, 1) := by decide +kernel
theorem dX12_faultOf_232 : decode cX12_faultOf 232 = .ok (.invokevirtual 132, 3) := by decide +kernel
theorem dX12_faultOf_235 : decode cX12_faultOf 235 = .ok (.bipush 48, 2) := by decide +kernel
theorem dX12_faultOf_237 : decode cX12_faultOf 237 = .ok (.isub, 1) := by decide +kernel
theorem dX12_faultOf_238 : decode cX12_faultOf 238 = .ok (.ishl, 1) := by decide +kernel
theorem dX12_faultOf_239 : decode cX12_faultOf 239 = .ok (.ior, 1) := by decide +kernel
theorem dX12_faultOf_240 : decode cX12_faultOf 240 = .ok (.putfield 126, 3) := by decide +kernel
theorem dX12_faultOf_243 : decode cX12_faultOf 243 = .ok (.aload_n 0, 1) := by decide +kernel
theorem dX12_faultOf_244 : decode cX12_faultOf 244 = .ok (.dup, 1) := by decide +kernel
theorem dX12_faultOf_245 : decode cX12_faultOf 245 = .ok (.getfield 123, 3) := by decide +kernel
theorem dX12_faultOf_248 : decode cX12_faultOf 248 = .ok (.iconst 1, 1) := by decide +kernel
theorem dX12_faultOf_249 : decode cX12_faultOf 249 = .ok (.iadd, 1) := by decide +kernel
theorem dX12_faultOf_250 : decode cX12_faultOf 250 = .ok (.putfield 123, 3) := by decide +kernel
theorem dX12_faultOf_253 : decode cX12_faultOf 253 = .ok (.goto (-62), 3) := by decide +kernel
theorem dX12_faultOf_256 : decode cX12_faultOf 256 = .ok (.aload_n 0, 1) := by decide +kernel
theorem dX12_faultOf_257 : decode cX12_faultOf 257 = .ok (.getfield 126, 3) := by decide +kernel
theorem dX12_faultOf_260 : decode cX12_faultOf 260 = .ok (.invokestatic 150, 3) := by decide +kernel
theorem dX12_faultOf_263 : decode cX12_faultOf 263 = .ok (.iconst 2, 1) := by decide +kernel
theorem dX12_faultOf_264 : decode cX12_faultOf 264 = .ok (.if_icmp .ge 8, 3) := by decide +kernel
theorem dX12_faultOf_267 : decode cX12_faultOf 267 = .ok (.aload_n 0, 1) := by decide +kernel
theorem dX12_faultOf_268 : decode cX12_faultOf 268 = .ok (.getfield 123, 3) := by decide +kernel
theorem dX12_faultOf_271 : decode cX12_faultOf 271 = .ok (.ireturn, 1) := by decide +kernel
theorem dX12_faultOf_272 : decode cX12_faultOf 272 = .ok (.aload_n 0, 1) := by decide +kernel
theorem dX12_faultOf_273 : decode cX12_faultOf 273 = .ok (.aload_n 0, 1) := by decide +kernel
theorem dX12_faultOf_274 : decode cX12_faultOf 274 = .ok (.getfield 126, 3) := by decide +kernel
theorem dX12_faultOf_277 : decode cX12_faultOf 277 = .ok (.ifCond .ne 7, 3) := by decide +kernel
theorem dX12_faultOf_280 : decode cX12_faultOf 280 = .ok (.iconst 3, 1) := by decide +kernel
theorem dX12_faultOf_281 : decode cX12_faultOf 281 = .ok (.goto 7, 3) := by decide +kernel
theorem dX12_faultOf_284 : decode cX12_faultOf 284 = .ok (.aload_n 0, 1) := by decide +kernel
theorem dX12_faultOf_285 : decode cX12_faultOf 285 = .ok (.getfield 126, 3) := by decide +kernel
theorem dX12_faultOf_288 : decode cX12_faultOf 288 = .ok (.putfield 126, 3) := by decide +kernel
theorem dX12_faultOf_291 : decode cX12_faultOf 291 = .ok (.aload_n 0, 1) := by decide +kernel
theorem dX12_faultOf_292 : decode cX12_faultOf 292 = .ok (.invokevirtual 132, 3) := by decide +kernel
theorem dX12_faultOf_295 : decode cX12_faultOf 295 = .ok (.bipush 116, 2) := by decide +kernel
theorem dX12_faultOf_297 : decode cX12_faultOf 297 = .ok (.if_icmp .ne 18, 3) := by decide +kernel
theorem dX12_faultOf_300 : decode cX12_faultOf 300 = .ok (.aload_n 0, 1) := by decide +kernel
theorem dX12_faultOf_301 : decode cX12_faultOf 301 = .ok (.iconst 1, 1) := by decide +kernel
theorem dX12_faultOf_302 : decode cX12_faultOf 302 = .ok (.putfield 129, 3) := by decide +kernel
theorem dX12_faultOf_305 : decode cX12_faultOf 305 = .ok (.aload_n 0, 1) := by decide +kernel
theorem dX12_faultOf_306 : decode cX12_faultOf 306 = .ok (.dup, 1) := by decide +kernel
theorem dX12_faultOf_307 : decode cX12_faultOf 307 = .ok (.getfield 123, 3) := by decide +kernel
theorem dX12_faultOf_310 : decode cX12_faultOf 310 = .ok (.iconst 1, 1) := by decide +kernel
theorem dX12_faultOf_311 : decode cX12_faultOf 311 = .ok (.iadd, 1) := by decide +kernel
theorem dX12_faultOf_312 : decode cX12_faultOf 312 = .ok (.putfield 123, 3) := by decide +kernel
theorem dX12_faultOf_315 : decode cX12_faultOf 315 = .ok (.aload_n 0, 1) := by decide +kernel
theorem dX12_faultOf_316 : decode cX12_faultOf 316 = .ok (.invokevirtual 132, 3) := by decide +kernel
theorem dX12_faultOf_319 : decode cX12_faultOf 319 = .ok (.ifCond .ge 7, 3) := by decide +kernel
theorem dX12_faultOf_322 : decode cX12_faultOf 322 = .ok (.iconst (-1), 1) := by decide +kernel
theorem dX12_faultOf_323 : decode cX12_faultOf 323 = .ok (.goto 7, 3) := by decide +kernel
theorem dX12_faultOf_326 : decode cX12_faultOf 326 = .ok (.aload_n 0, 1) := by decide +kernel
theorem dX12_faultOf_327 : decode cX12_faultOf 327 = .ok (.getfield 123, 3) := by decide +kernel
theorem dX12_faultOf_330 : decode cX12_faultOf 330 = .ok (.ireturn, 1) := by decide +kernel
theorem dX12_towns_0 : decode cX12_towns 0 = .ok (.aload_n 0, 1) := by decide +kernel
theorem dX12_towns_1 : decode cX12_towns 1 = .ok (.invokevirtual 153, 3) := by decide +kernel
theorem dX12_towns_4 : decode cX12_towns 4 = .ok (.istore_n 1, 1) := by decide +kernel
theorem dX12_towns_5 : decode cX12_towns 5 = .ok (.aload_n 0, 1) := by decide +kernel
theorem dX12_towns_6 : decode cX12_towns 6 = .ok (.iconst 0, 1) := by decide +kernel
theorem dX12_towns_7 : decode cX12_towns 7 = .ok (.putfield 120, 3) := by decide +kernel
theorem dX12_towns_10 : decode cX12_towns 10 = .ok (.iload_n 1, 1) := by decide +kernel
theorem dX12_towns_11 : decode cX12_towns 11 = .ok (.ifCond .lt 8, 3) := by decide +kernel
theorem dX12_towns_14 : decode cX12_towns 14 = .ok (.bipush (-20), 2) := by decide +kernel
theorem dX12_towns_16 : decode cX12_towns 16 = .ok (.iload_n 1, 1) := by decide +kernel
theorem dX12_towns_17 : decode cX12_towns 17 = .ok (.isub, 1) := by decide +kernel
theorem dX12_towns_18 : decode cX12_towns 18 = .ok (.ireturn, 1) := by decide +kernel
theorem dX12_towns_19 : decode cX12_towns 19 = .ok (.iconst 0, 1) := by decide +kernel
theorem dX12_towns_20 : decode cX12_towns 20 = .ok (.istore_n 2, 1) := by decide +kernel
theorem dX12_towns_21 : decode cX12_towns 21 = .ok (.iload_n 2, 1) := by decide +kernel
theorem dX12_towns_22 : decode cX12_towns 22 = .ok (.iconst 3, 1) := by decide +kernel
theorem dX12_towns_23 : decode cX12_towns 23 = .ok (.if_icmp .ge 23, 3) := by decide +kernel
theorem dX12_towns_26 : decode cX12_towns 26 = .ok (.aload_n 0, 1) := by decide +kernel
theorem dX12_towns_27 : decode cX12_towns 27 = .ok (.getfield 7, 3) := by decide +kernel
theorem dX12_towns_30 : decode cX12_towns 30 = .ok (.iconst 0, 1) := by decide +kernel
theorem dX12_towns_31 : decode cX12_towns 31 = .ok (.iload_n 2, 1) := by decide +kernel
theorem dX12_towns_32 : decode cX12_towns 32 = .ok (.iadd, 1) := by decide +kernel
theorem dX12_towns_33 : decode cX12_towns 33 = .ok (.aload_n 0, 1) := by decide +kernel
theorem dX12_towns_34 : decode cX12_towns 34 = .ok (.getfield 20, 3) := by decide +kernel
theorem dX12_towns_37 : decode cX12_towns 37 = .ok (.iload_n 2, 1) := by decide +kernel
theorem dX12_towns_38 : decode cX12_towns 38 = .ok (.iaload, 1) := by decide +kernel
theorem dX12_towns_39 : decode cX12_towns 39 = .ok (.iastore, 1) := by decide +kernel
theorem dX12_towns_40 : decode cX12_towns 40 = .ok (.iinc 2 1, 3) := by decide +kernel
theorem dX12_towns_43 : decode cX12_towns 43 = .ok (.goto (-22), 3) := by decide +kernel
theorem dX12_towns_46 : decode cX12_towns 46 = .ok (.aload_n 0, 1) := by decide +kernel
theorem dX12_towns_47 : decode cX12_towns 47 = .ok (.getfield 7, 3) := by decide +kernel
theorem dX12_towns_50 : decode cX12_towns 50 = .ok (.iconst 3, 1) := by decide +kernel
theorem dX12_towns_51 : decode cX12_towns 51 = .ok (.aload_n 0, 1) := by decide +kernel
theorem dX12_towns_52 : decode cX12_towns 52 = .ok (.getfield 126, 3) := by decide +kernel
theorem dX12_towns_55 : decode cX12_towns 55 = .ok (.iastore, 1) := by decide +kernel
theorem dX12_towns_56 : decode cX12_towns 56 = .ok (.aload_n 0, 1) := by decide +kernel
theorem dX12_towns_57 : decode cX12_towns 57 = .ok (.getfield 7, 3) := by decide +kernel
theorem dX12_towns_60 : decode cX12_towns 60 = .ok (.iconst 4, 1) := by decide +kernel
theorem dX12_towns_61 : decode cX12_towns 61 = .ok (.aload_n 0, 1) := by decide +kernel
theorem dX12_towns_62 : decode cX12_towns 62 = .ok (.getfield 129, 3) := by decide +kernel
theorem dX12_towns_65 : decode cX12_towns 65 = .ok (.iastore, 1) := by decide +kernel
theorem dX12_towns_66 : decode cX12_towns 66 = .ok (.aload_n 0, 1) := by decide +kernel
theorem dX12_towns_67 : decode cX12_towns 67 = .ok (.getfield 126, 3) := by decide +kernel
theorem dX12_towns_70 : decode cX12_towns 70 = .ok (.invokestatic 150, 3) := by decide +kernel
theorem dX12_towns_73 : decode cX12_towns 73 = .ok (.ireturn, 1) := by decide +kernel
theorem dX12_sumOf_0 : decode cX12_sumOf 0 = .ok (.iconst 0, 1) := by decide +kernel
theorem dX12_sumOf_1 : decode cX12_sumOf 1 = .ok (.istore_n 3, 1) := by decide +kernel
theorem dX12_sumOf_2 : decode cX12_sumOf 2 = .ok (.iconst 0, 1) := by decide +kernel
theorem dX12_sumOf_3 : decode cX12_sumOf 3 = .ok (.istore 4, 2) := by decide +kernel
theorem dX12_sumOf_5 : decode cX12_sumOf 5 = .ok (.iload 4, 2) := by decide +kernel
theorem dX12_sumOf_7 : decode cX12_sumOf 7 = .ok (.iload_n 2, 1) := by decide +kernel
theorem dX12_sumOf_8 : decode cX12_sumOf 8 = .ok (.if_icmp .ge 21, 3) := by decide +kernel
theorem dX12_sumOf_11 : decode cX12_sumOf 11 = .ok (.iload_n 3, 1) := by decide +kernel
theorem dX12_sumOf_12 : decode cX12_sumOf 12 = .ok (.aload_n 0, 1) := by decide +kernel
theorem dX12_sumOf_13 : decode cX12_sumOf 13 = .ok (.getfield 7, 3) := by decide +kernel
theorem dX12_sumOf_16 : decode cX12_sumOf 16 = .ok (.iload_n 1, 1) := by decide +kernel
theorem dX12_sumOf_17 : decode cX12_sumOf 17 = .ok (.iload 4, 2) := by decide +kernel
theorem dX12_sumOf_19 : decode cX12_sumOf 19 = .ok (.iadd, 1) := by decide +kernel
theorem dX12_sumOf_20 : decode cX12_sumOf 20 = .ok (.iaload, 1) := by decide +kernel
theorem dX12_sumOf_21 : decode cX12_sumOf 21 = .ok (.iadd, 1) := by decide +kernel
theorem dX12_sumOf_22 : decode cX12_sumOf 22 = .ok (.istore_n 3, 1) := by decide +kernel
theorem dX12_sumOf_23 : decode cX12_sumOf 23 = .ok (.iinc 4 1, 3) := by decide +kernel
theorem dX12_sumOf_26 : decode cX12_sumOf 26 = .ok (.goto (-21), 3) := by decide +kernel
theorem dX12_sumOf_29 : decode cX12_sumOf 29 = .ok (.iload_n 3, 1) := by decide +kernel
theorem dX12_sumOf_30 : decode cX12_sumOf 30 = .ok (.ireturn, 1) := by decide +kernel
theorem dX12_wasteOf_0 : decode cX12_wasteOf 0 = .ok (.iconst 0, 1) := by decide +kernel
theorem dX12_wasteOf_1 : decode cX12_wasteOf 1 = .ok (.istore_n 1, 1) := by decide +kernel
theorem dX12_wasteOf_2 : decode cX12_wasteOf 2 = .ok (.iconst 0, 1) := by decide +kernel
theorem dX12_wasteOf_3 : decode cX12_wasteOf 3 = .ok (.istore_n 2, 1) := by decide +kernel
theorem dX12_wasteOf_4 : decode cX12_wasteOf 4 = .ok (.iload_n 2, 1) := by decide +kernel
theorem dX12_wasteOf_5 : decode cX12_wasteOf 5 = .ok (.aload_n 0, 1) := by decide +kernel
theorem dX12_wasteOf_6 : decode cX12_wasteOf 6 = .ok (.getfield 7, 3) := by decide +kernel
theorem dX12_wasteOf_9 : decode cX12_wasteOf 9 = .ok (.bipush 6, 2) := by decide +kernel
theorem dX12_wasteOf_11 : decode cX12_wasteOf 11 = .ok (.iaload, 1) := by decide +kernel
theorem dX12_wasteOf_12 : decode cX12_wasteOf 12 = .ok (.if_icmp .ge 37, 3) := by decide +kernel
theorem dX12_wasteOf_15 : decode cX12_wasteOf 15 = .ok (.iload_n 1, 1) := by decide +kernel
theorem dX12_wasteOf_16 : decode cX12_wasteOf 16 = .ok (.aload_n 0, 1) := by decide +kernel
theorem dX12_wasteOf_17 : decode cX12_wasteOf 17 = .ok (.getfield 7, 3) := by decide +kernel
theorem dX12_wasteOf_20 : decode cX12_wasteOf 20 = .ok (.bipush 15, 2) := by decide +kernel
theorem dX12_wasteOf_22 : decode cX12_wasteOf 22 = .ok (.iload_n 2, 1) := by decide +kernel
theorem dX12_wasteOf_23 : decode cX12_wasteOf 23 = .ok (.iadd, 1) := by decide +kernel
theorem dX12_wasteOf_24 : decode cX12_wasteOf 24 = .ok (.iaload, 1) := by decide +kernel
theorem dX12_wasteOf_25 : decode cX12_wasteOf 25 = .ok (.aload_n 0, 1) := by decide +kernel
theorem dX12_wasteOf_26 : decode cX12_wasteOf 26 = .ok (.aload_n 0, 1) := by decide +kernel
theorem dX12_wasteOf_27 : decode cX12_wasteOf 27 = .ok (.getfield 7, 3) := by decide +kernel
theorem dX12_wasteOf_30 : decode cX12_wasteOf 30 = .ok (.bipush 15, 2) := by decide +kernel
theorem dX12_wasteOf_32 : decode cX12_wasteOf 32 = .ok (.iload_n 2, 1) := by decide +kernel
theorem dX12_wasteOf_33 : decode cX12_wasteOf 33 = .ok (.iadd, 1) := by decide +kernel
theorem dX12_wasteOf_34 : decode cX12_wasteOf 34 = .ok (.iaload, 1) := by decide +kernel
theorem dX12_wasteOf_35 : decode cX12_wasteOf 35 = .ok (.i2l, 1) := by decide +kernel
theorem dX12_wasteOf_36 : decode cX12_wasteOf 36 = .ok (.invokevirtual 104, 3) := by decide +kernel
theorem dX12_wasteOf_39 : decode cX12_wasteOf 39 = .ok (.l2i, 1) := by decide +kernel
theorem dX12_wasteOf_40 : decode cX12_wasteOf 40 = .ok (.isub, 1) := by decide +kernel
theorem dX12_wasteOf_41 : decode cX12_wasteOf 41 = .ok (.iadd, 1) := by decide +kernel
theorem dX12_wasteOf_42 : decode cX12_wasteOf 42 = .ok (.istore_n 1, 1) := by decide +kernel
theorem dX12_wasteOf_43 : decode cX12_wasteOf 43 = .ok (.iinc 2 1, 3) := by decide +kernel
theorem dX12_wasteOf_46 : decode cX12_wasteOf 46 = .ok (.goto (-42), 3) := by decide +kernel
theorem dX12_wasteOf_49 : decode cX12_wasteOf 49 = .ok (.iload_n 1, 1) := by decide +kernel
theorem dX12_wasteOf_50 : decode cX12_wasteOf 50 = .ok (.ireturn, 1) := by decide +kernel
theorem dX12_count_0 : decode cX12_count 0 = .ok (.iload_n 1, 1) := by decide +kernel
theorem dX12_count_1 : decode cX12_count 1 = .ok (.tableswitch 100 0 5 #[39, 47, 61, 69, 77, 91], 39) := by decide +kernel
theorem dX12_count_40 : decode cX12_count 40 = .ok (.aload_n 0, 1) := by decide +kernel
theorem dX12_count_41 : decode cX12_count 41 = .ok (.getfield 7, 3) := by decide +kernel
theorem dX12_count_44 : decode cX12_count 44 = .ok (.bipush 6, 2) := by decide +kernel
theorem dX12_count_46 : decode cX12_count 46 = .ok (.iaload, 1) := by decide +kernel
theorem dX12_count_47 : decode cX12_count 47 = .ok (.ireturn, 1) := by decide +kernel
theorem dX12_count_48 : decode cX12_count 48 = .ok (.aload_n 0, 1) := by decide +kernel
theorem dX12_count_49 : decode cX12_count 49 = .ok (.bipush 15, 2) := by decide +kernel
theorem dX12_count_51 : decode cX12_count 51 = .ok (.aload_n 0, 1) := by decide +kernel
theorem dX12_count_52 : decode cX12_count 52 = .ok (.getfield 7, 3) := by decide +kernel
theorem dX12_count_55 : decode cX12_count 55 = .ok (.bipush 6, 2) := by decide +kernel
theorem dX12_count_57 : decode cX12_count 57 = .ok (.iaload, 1) := by decide +kernel
theorem dX12_count_58 : decode cX12_count 58 = .ok (.invokevirtual 156, 3) := by decide +kernel
theorem dX12_count_61 : decode cX12_count 61 = .ok (.ireturn, 1) := by decide +kernel
theorem dX12_count_62 : decode cX12_count 62 = .ok (.aload_n 0, 1) := by decide +kernel
theorem dX12_count_63 : decode cX12_count 63 = .ok (.getfield 7, 3) := by decide +kernel
theorem dX12_count_66 : decode cX12_count 66 = .ok (.bipush 23, 2) := by decide +kernel
theorem dX12_count_68 : decode cX12_count 68 = .ok (.iaload, 1) := by decide +kernel
theorem dX12_count_69 : decode cX12_count 69 = .ok (.ireturn, 1) := by decide +kernel
theorem dX12_count_70 : decode cX12_count 70 = .ok (.aload_n 0, 1) := by decide +kernel
theorem dX12_count_71 : decode cX12_count 71 = .ok (.getfield 7, 3) := by decide +kernel
theorem dX12_count_74 : decode cX12_count 74 = .ok (.bipush 24, 2) := by decide +kernel
theorem dX12_count_76 : decode cX12_count 76 = .ok (.iaload, 1) := by decide +kernel
theorem dX12_count_77 : decode cX12_count 77 = .ok (.ireturn, 1) := by decide +kernel
theorem dX12_count_78 : decode cX12_count 78 = .ok (.aload_n 0, 1) := by decide +kernel
theorem dX12_count_79 : decode cX12_count 79 = .ok (.bipush 25, 2) := by decide +kernel
theorem dX12_count_81 : decode cX12_count 81 = .ok (.aload_n 0, 1) := by decide +kernel
theorem dX12_count_82 : decode cX12_count 82 = .ok (.getfield 7, 3) := by decide +kernel
theorem dX12_count_85 : decode cX12_count 85 = .ok (.bipush 24, 2) := by decide +kernel
theorem dX12_count_87 : decode cX12_count 87 = .ok (.iaload, 1) := by decide +kernel
theorem dX12_count_88 : decode cX12_count 88 = .ok (.invokevirtual 156, 3) := by decide +kernel
theorem dX12_count_91 : decode cX12_count 91 = .ok (.ireturn, 1) := by decide +kernel
theorem dX12_count_92 : decode cX12_count 92 = .ok (.aload_n 0, 1) := by decide +kernel
theorem dX12_count_93 : decode cX12_count 93 = .ok (.invokevirtual 87, 3) := by decide +kernel
theorem dX12_count_96 : decode cX12_count 96 = .ok (.aload_n 0, 1) := by decide +kernel
theorem dX12_count_97 : decode cX12_count 97 = .ok (.invokevirtual 160, 3) := by decide +kernel
theorem dX12_count_100 : decode cX12_count 100 = .ok (.ireturn, 1) := by decide +kernel
theorem dX12_count_101 : decode cX12_count 101 = .ok (.iconst (-1), 1) := by decide +kernel
theorem dX12_count_102 : decode cX12_count 102 = .ok (.ireturn, 1) := by decide +kernel
theorem dX12_goesOn_0 : decode cX12_goesOn 0 = .ok (.iload_n 1, 1) := by decide +kernel
theorem dX12_goesOn_1 : decode cX12_goesOn 1 = .ok (.iconst 1, 1) := by decide +kernel
theorem dX12_goesOn_2 : decode cX12_goesOn 2 = .ok (.isub, 1) := by decide +kernel
theorem dX12_goesOn_3 : decode cX12_goesOn 3 = .ok (.istore_n 2, 1) := by decide +kernel
theorem dX12_goesOn_4 : decode cX12_goesOn 4 = .ok (.iload_n 2, 1) := by decide +kernel
theorem dX12_goesOn_5 : decode cX12_goesOn 5 = .ok (.ifCond .le 96, 3) := by decide +kernel
theorem dX12_goesOn_8 : decode cX12_goesOn 8 = .ok (.iconst 0, 1) := by decide +kernel
theorem dX12_goesOn_9 : decode cX12_goesOn 9 = .ok (.istore_n 3, 1) := by decide +kernel
theorem dX12_goesOn_10 : decode cX12_goesOn 10 = .ok (.iconst 0, 1) := by decide +kernel
theorem dX12_goesOn_11 : decode cX12_goesOn 11 = .ok (.istore 4, 2) := by decide +kernel
theorem dX12_goesOn_13 : decode cX12_goesOn 13 = .ok (.iload 4, 2) := by decide +kernel
theorem dX12_goesOn_15 : decode cX12_goesOn 15 = .ok (.iload_n 2, 1) := by decide +kernel
theorem dX12_goesOn_16 : decode cX12_goesOn 16 = .ok (.if_icmp .ge 32, 3) := by decide +kernel
theorem dX12_goesOn_19 : decode cX12_goesOn 19 = .ok (.aload_n 0, 1) := by decide +kernel
theorem dX12_goesOn_20 : decode cX12_goesOn 20 = .ok (.getfield 23, 3) := by decide +kernel
theorem dX12_goesOn_23 : decode cX12_goesOn 23 = .ok (.iload 4, 2) := by decide +kernel
theorem dX12_goesOn_25 : decode cX12_goesOn 25 = .ok (.iaload, 1) := by decide +kernel
theorem dX12_goesOn_26 : decode cX12_goesOn 26 = .ok (.iload_n 3, 1) := by decide +kernel
theorem dX12_goesOn_27 : decode cX12_goesOn 27 = .ok (.if_icmp .le 13, 3) := by decide +kernel
theorem dX12_goesOn_30 : decode cX12_goesOn 30 = .ok (.aload_n 0, 1) := by decide +kernel
theorem dX12_goesOn_31 : decode cX12_goesOn 31 = .ok (.getfield 23, 3) := by decide +kernel
theorem dX12_goesOn_34 : decode cX12_goesOn 34 = .ok (.iload 4, 2) := by decide +kernel
theorem dX12_goesOn_36 : decode cX12_goesOn 36 = .ok (.iaload, 1) := by decide +kernel
theorem dX12_goesOn_37 : decode cX12_goesOn 37 = .ok (.goto 4, 3) := by decide +kernel
theorem dX12_goesOn_40 : decode cX12_goesOn 40 = .ok (.iload_n 3, 1) := by decide +kernel
theorem dX12_goesOn_41 : decode cX12_goesOn 41 = .ok (.istore_n 3, 1) := by decide +kernel
theorem dX12_goesOn_42 : decode cX12_goesOn 42 = .ok (.iinc 4 1, 3) := by decide +kernel
theorem dX12_goesOn_45 : decode cX12_goesOn 45 = .ok (.goto (-32), 3) := by decide +kernel
theorem dX12_goesOn_48 : decode cX12_goesOn 48 = .ok (.aload_n 0, 1) := by decide +kernel
theorem dX12_goesOn_49 : decode cX12_goesOn 49 = .ok (.getfield 23, 3) := by decide +kernel
theorem dX12_goesOn_52 : decode cX12_goesOn 52 = .ok (.iload_n 2, 1) := by decide +kernel
theorem dX12_goesOn_53 : decode cX12_goesOn 53 = .ok (.iaload, 1) := by decide +kernel
theorem dX12_goesOn_54 : decode cX12_goesOn 54 = .ok (.iload_n 3, 1) := by decide +kernel
theorem dX12_goesOn_55 : decode cX12_goesOn 55 = .ok (.if_icmp .gt 40, 3) := by decide +kernel
theorem dX12_goesOn_58 : decode cX12_goesOn 58 = .ok (.aload_n 0, 1) := by decide +kernel
theorem dX12_goesOn_59 : decode cX12_goesOn 59 = .ok (.getfield 23, 3) := by decide +kernel
theorem dX12_goesOn_62 : decode cX12_goesOn 62 = .ok (.iload_n 2, 1) := by decide +kernel
theorem dX12_goesOn_63 : decode cX12_goesOn 63 = .ok (.dup2, 1) := by decide +kernel
theorem dX12_goesOn_64 : decode cX12_goesOn 64 = .ok (.iaload, 1) := by decide +kernel
theorem dX12_goesOn_65 : decode cX12_goesOn 65 = .ok (.iconst 1, 1) := by decide +kernel
theorem dX12_goesOn_66 : decode cX12_goesOn 66 = .ok (.iadd, 1) := by decide +kernel
theorem dX12_goesOn_67 : decode cX12_goesOn 67 = .ok (.iastore, 1) := by decide +kernel
theorem dX12_goesOn_68 : decode cX12_goesOn 68 = .ok (.iload_n 2, 1) := by decide +kernel
theorem dX12_goesOn_69 : decode cX12_goesOn 69 = .ok (.iconst 1, 1) := by decide +kernel
theorem dX12_goesOn_70 : decode cX12_goesOn 70 = .ok (.iadd, 1) := by decide +kernel
theorem dX12_goesOn_71 : decode cX12_goesOn 71 = .ok (.istore 4, 2) := by decide +kernel
theorem dX12_goesOn_73 : decode cX12_goesOn 73 = .ok (.iload 4, 2) := by decide +kernel
theorem dX12_goesOn_75 : decode cX12_goesOn 75 = .ok (.iload_n 1, 1) := by decide +kernel
theorem dX12_goesOn_76 : decode cX12_goesOn 76 = .ok (.if_icmp .ge 17, 3) := by decide +kernel
theorem dX12_goesOn_79 : decode cX12_goesOn 79 = .ok (.aload_n 0, 1) := by decide +kernel
theorem dX12_goesOn_80 : decode cX12_goesOn 80 = .ok (.getfield 23, 3) := by decide +kernel
theorem dX12_goesOn_83 : decode cX12_goesOn 83 = .ok (.iload 4, 2) := by decide +kernel
theorem dX12_goesOn_85 : decode cX12_goesOn 85 = .ok (.iconst 0, 1) := by decide +kernel
theorem dX12_goesOn_86 : decode cX12_goesOn 86 = .ok (.iastore, 1) := by decide +kernel
theorem dX12_goesOn_87 : decode cX12_goesOn 87 = .ok (.iinc 4 1, 3) := by decide +kernel
theorem dX12_goesOn_90 : decode cX12_goesOn 90 = .ok (.goto (-17), 3) := by decide +kernel
theorem dX12_goesOn_93 : decode cX12_goesOn 93 = .ok (.iconst 1, 1) := by decide +kernel
theorem dX12_goesOn_94 : decode cX12_goesOn 94 = .ok (.ireturn, 1) := by decide +kernel
theorem dX12_goesOn_95 : decode cX12_goesOn 95 = .ok (.iinc 2 (-1), 3) := by decide +kernel
theorem dX12_goesOn_98 : decode cX12_goesOn 98 = .ok (.goto (-94), 3) := by decide +kernel
theorem dX12_goesOn_101 : decode cX12_goesOn 101 = .ok (.iconst 0, 1) := by decide +kernel
theorem dX12_goesOn_102 : decode cX12_goesOn 102 = .ok (.ireturn, 1) := by decide +kernel
theorem dX12_begin_0 : decode cX12_begin 0 = .ok (.iconst 0, 1) := by decide +kernel
theorem dX12_begin_1 : decode cX12_begin 1 = .ok (.istore_n 1, 1) := by decide +kernel
theorem dX12_begin_2 : decode cX12_begin 2 = .ok (.iload_n 1, 1) := by decide +kernel
theorem dX12_begin_3 : decode cX12_begin 3 = .ok (.bipush 8, 2) := by decide +kernel
theorem dX12_begin_5 : decode cX12_begin 5 = .ok (.if_icmp .ge 16, 3) := by decide +kernel
theorem dX12_begin_8 : decode cX12_begin 8 = .ok (.aload_n 0, 1) := by decide +kernel
theorem dX12_begin_9 : decode cX12_begin 9 = .ok (.getfield 23, 3) := by decide +kernel
theorem dX12_begin_12 : decode cX12_begin 12 = .ok (.iload_n 1, 1) := by decide +kernel
theorem dX12_begin_13 : decode cX12_begin 13 = .ok (.iconst 0, 1) := by decide +kernel
theorem dX12_begin_14 : decode cX12_begin 14 = .ok (.iastore, 1) := by decide +kernel
theorem dX12_begin_15 : decode cX12_begin 15 = .ok (.iinc 1 1, 3) := by decide +kernel
theorem dX12_begin_18 : decode cX12_begin 18 = .ok (.goto (-16), 3) := by decide +kernel
theorem dX12_begin_21 : decode cX12_begin 21 = .ok (.return_, 1) := by decide +kernel
theorem dX12_groupsOf_0 : decode cX12_groupsOf 0 = .ok (.iconst 0, 1) := by decide +kernel
theorem dX12_groupsOf_1 : decode cX12_groupsOf 1 = .ok (.istore_n 2, 1) := by decide +kernel
theorem dX12_groupsOf_2 : decode cX12_groupsOf 2 = .ok (.iconst 0, 1) := by decide +kernel
theorem dX12_groupsOf_3 : decode cX12_groupsOf 3 = .ok (.istore_n 3, 1) := by decide +kernel
theorem dX12_groupsOf_4 : decode cX12_groupsOf 4 = .ok (.iload_n 3, 1) := by decide +kernel
theorem dX12_groupsOf_5 : decode cX12_groupsOf 5 = .ok (.iload_n 1, 1) := by decide +kernel
theorem dX12_groupsOf_6 : decode cX12_groupsOf 6 = .ok (.if_icmp .ge 32, 3) := by decide +kernel
theorem dX12_groupsOf_9 : decode cX12_groupsOf 9 = .ok (.aload_n 0, 1) := by decide +kernel
theorem dX12_groupsOf_10 : decode cX12_groupsOf 10 = .ok (.getfield 23, 3) := by decide +kernel
theorem dX12_groupsOf_13 : decode cX12_groupsOf 13 = .ok (.iload_n 3, 1) := by decide +kernel
theorem dX12_groupsOf_14 : decode cX12_groupsOf 14 = .ok (.iaload, 1) := by decide +kernel
theorem dX12_groupsOf_15 : decode cX12_groupsOf 15 = .ok (.iload_n 2, 1) := by decide +kernel
theorem dX12_groupsOf_16 : decode cX12_groupsOf 16 = .ok (.if_icmp .lt 14, 3) := by decide +kernel
theorem dX12_groupsOf_19 : decode cX12_groupsOf 19 = .ok (.aload_n 0, 1) := by decide +kernel
theorem dX12_groupsOf_20 : decode cX12_groupsOf 20 = .ok (.getfield 23, 3) := by decide +kernel
theorem dX12_groupsOf_23 : decode cX12_groupsOf 23 = .ok (.iload_n 3, 1) := by decide +kernel
theorem dX12_groupsOf_24 : decode cX12_groupsOf 24 = .ok (.iaload, 1) := by decide +kernel
theorem dX12_groupsOf_25 : decode cX12_groupsOf 25 = .ok (.iconst 1, 1) := by decide +kernel
theorem dX12_groupsOf_26 : decode cX12_groupsOf 26 = .ok (.iadd, 1) := by decide +kernel
theorem dX12_groupsOf_27 : decode cX12_groupsOf 27 = .ok (.goto 4, 3) := by decide +kernel
theorem dX12_groupsOf_30 : decode cX12_groupsOf 30 = .ok (.iload_n 2, 1) := by decide +kernel
theorem dX12_groupsOf_31 : decode cX12_groupsOf 31 = .ok (.istore_n 2, 1) := by decide +kernel
theorem dX12_groupsOf_32 : decode cX12_groupsOf 32 = .ok (.iinc 3 1, 3) := by decide +kernel
theorem dX12_groupsOf_35 : decode cX12_groupsOf 35 = .ok (.goto (-31), 3) := by decide +kernel
theorem dX12_groupsOf_38 : decode cX12_groupsOf 38 = .ok (.iload_n 2, 1) := by decide +kernel
theorem dX12_groupsOf_39 : decode cX12_groupsOf 39 = .ok (.ireturn, 1) := by decide +kernel
theorem dX12_take_0 : decode cX12_take 0 = .ok (.aload_n 0, 1) := by decide +kernel
theorem dX12_take_1 : decode cX12_take 1 = .ok (.iload_n 2, 1) := by decide +kernel
theorem dX12_take_2 : decode cX12_take 2 = .ok (.putfield 163, 3) := by decide +kernel
theorem dX12_take_5 : decode cX12_take 5 = .ok (.iconst 0, 1) := by decide +kernel
theorem dX12_take_6 : decode cX12_take 6 = .ok (.istore_n 3, 1) := by decide +kernel
theorem dX12_take_7 : decode cX12_take 7 = .ok (.iload_n 3, 1) := by decide +kernel
theorem dX12_take_8 : decode cX12_take 8 = .ok (.iload_n 1, 1) := by decide +kernel
theorem dX12_take_9 : decode cX12_take 9 = .ok (.if_icmp .ge 21, 3) := by decide +kernel
theorem dX12_take_12 : decode cX12_take 12 = .ok (.aload_n 0, 1) := by decide +kernel
theorem dX12_take_13 : decode cX12_take 13 = .ok (.getfield 26, 3) := by decide +kernel
theorem dX12_take_16 : decode cX12_take 16 = .ok (.iload_n 3, 1) := by decide +kernel
theorem dX12_take_17 : decode cX12_take 17 = .ok (.aload_n 0, 1) := by decide +kernel
theorem dX12_take_18 : decode cX12_take 18 = .ok (.getfield 23, 3) := by decide +kernel
theorem dX12_take_21 : decode cX12_take 21 = .ok (.iload_n 3, 1) := by decide +kernel
theorem dX12_take_22 : decode cX12_take 22 = .ok (.iaload, 1) := by decide +kernel
theorem dX12_take_23 : decode cX12_take 23 = .ok (.iastore, 1) := by decide +kernel
theorem dX12_take_24 : decode cX12_take 24 = .ok (.iinc 3 1, 3) := by decide +kernel
theorem dX12_take_27 : decode cX12_take 27 = .ok (.goto (-20), 3) := by decide +kernel
theorem dX12_take_30 : decode cX12_take 30 = .ok (.return_, 1) := by decide +kernel
theorem dX12_most_0 : decode cX12_most 0 = .ok (.iload_n 1, 1) := by decide +kernel
theorem dX12_most_1 : decode cX12_most 1 = .ok (.i2l, 1) := by decide +kernel
theorem dX12_most_2 : decode cX12_most 2 = .ok (.lconst 0, 1) := by decide +kernel
theorem dX12_most_3 : decode cX12_most 3 = .ok (.ldc2_w 96, 3) := by decide +kernel
theorem dX12_most_6 : decode cX12_most 6 = .ok (.invokestatic 71, 3) := by decide +kernel
theorem dX12_most_9 : decode cX12_most 9 = .ok (.ifCond .eq 17, 3) := by decide +kernel
theorem dX12_most_12 : decode cX12_most 12 = .ok (.iload_n 2, 1) := by decide +kernel
theorem dX12_most_13 : decode cX12_most 13 = .ok (.i2l, 1) := by decide +kernel
theorem dX12_most_14 : decode cX12_most 14 = .ok (.ldc2_w 85, 3) := by decide +kernel
theorem dX12_most_17 : decode cX12_most 17 = .ok (.ldc2_w 79, 3) := by decide +kernel
theorem dX12_most_20 : decode cX12_most 20 = .ok (.invokestatic 71, 3) := by decide +kernel
theorem dX12_most_23 : decode cX12_most 23 = .ok (.ifCond .ne 5, 3) := by decide +kernel
theorem dX12_most_26 : decode cX12_most 26 = .ok (.iconst (-1), 1) := by decide +kernel
theorem dX12_most_27 : decode cX12_most 27 = .ok (.ireturn, 1) := by decide +kernel
theorem dX12_most_28 : decode cX12_most 28 = .ok (.aload_n 0, 1) := by decide +kernel
theorem dX12_most_29 : decode cX12_most 29 = .ok (.invokevirtual 87, 3) := by decide +kernel
theorem dX12_most_32 : decode cX12_most 32 = .ok (.iconst 0, 1) := by decide +kernel
theorem dX12_most_33 : decode cX12_most 33 = .ok (.istore_n 3, 1) := by decide +kernel
theorem dX12_most_34 : decode cX12_most 34 = .ok (.iconst 0, 1) := by decide +kernel
theorem dX12_most_35 : decode cX12_most 35 = .ok (.istore 4, 2) := by decide +kernel
theorem dX12_most_37 : decode cX12_most 37 = .ok (.iload 4, 2) := by decide +kernel
theorem dX12_most_39 : decode cX12_most 39 = .ok (.aload_n 0, 1) := by decide +kernel
theorem dX12_most_40 : decode cX12_most 40 = .ok (.getfield 7, 3) := by decide +kernel
theorem dX12_most_43 : decode cX12_most 43 = .ok (.bipush 6, 2) := by decide +kernel
theorem dX12_most_45 : decode cX12_most 45 = .ok (.iaload, 1) := by decide +kernel
theorem dX12_most_46 : decode cX12_most 46 = .ok (.if_icmp .ge 55, 3) := by decide +kernel
theorem dX12_most_49 : decode cX12_most 49 = .ok (.aload_n 0, 1) := by decide +kernel
theorem dX12_most_50 : decode cX12_most 50 = .ok (.getfield 7, 3) := by decide +kernel
theorem dX12_most_53 : decode cX12_most 53 = .ok (.bipush 7, 2) := by decide +kernel
theorem dX12_most_55 : decode cX12_most 55 = .ok (.iload 4, 2) := by decide +kernel
theorem dX12_most_57 : decode cX12_most 57 = .ok (.iadd, 1) := by decide +kernel
theorem dX12_most_58 : decode cX12_most 58 = .ok (.iaload, 1) := by decide +kernel
theorem dX12_most_59 : decode cX12_most 59 = .ok (.iload_n 1, 1) := by decide +kernel
theorem dX12_most_60 : decode cX12_most 60 = .ok (.if_icmp .ne 35, 3) := by decide +kernel
theorem dX12_most_63 : decode cX12_most 63 = .ok (.aload_n 0, 1) := by decide +kernel
theorem dX12_most_64 : decode cX12_most 64 = .ok (.getfield 7, 3) := by decide +kernel
theorem dX12_most_67 : decode cX12_most 67 = .ok (.bipush 15, 2) := by decide +kernel
theorem dX12_most_69 : decode cX12_most 69 = .ok (.iload 4, 2) := by decide +kernel
theorem dX12_most_71 : decode cX12_most 71 = .ok (.iadd, 1) := by decide +kernel
theorem dX12_most_72 : decode cX12_most 72 = .ok (.iaload, 1) := by decide +kernel
theorem dX12_most_73 : decode cX12_most 73 = .ok (.ifCond .le 22, 3) := by decide +kernel
theorem dX12_most_76 : decode cX12_most 76 = .ok (.aload_n 0, 1) := by decide +kernel
theorem dX12_most_77 : decode cX12_most 77 = .ok (.getfield 29, 3) := by decide +kernel
theorem dX12_most_80 : decode cX12_most 80 = .ok (.iload_n 3, 1) := by decide +kernel
theorem dX12_most_81 : decode cX12_most 81 = .ok (.aload_n 0, 1) := by decide +kernel
theorem dX12_most_82 : decode cX12_most 82 = .ok (.getfield 7, 3) := by decide +kernel
theorem dX12_most_85 : decode cX12_most 85 = .ok (.bipush 15, 2) := by decide +kernel
theorem dX12_most_87 : decode cX12_most 87 = .ok (.iload 4, 2) := by decide +kernel
theorem dX12_most_89 : decode cX12_most 89 = .ok (.iadd, 1) := by decide +kernel
theorem dX12_most_90 : decode cX12_most 90 = .ok (.iaload, 1) := by decide +kernel
theorem dX12_most_91 : decode cX12_most 91 = .ok (.iastore, 1) := by decide +kernel
theorem dX12_most_92 : decode cX12_most 92 = .ok (.iinc 3 1, 3) := by decide +kernel
theorem dX12_most_95 : decode cX12_most 95 = .ok (.iinc 4 1, 3) := by decide +kernel
theorem dX12_most_98 : decode cX12_most 98 = .ok (.goto (-61), 3) := by decide +kernel
theorem dX12_most_101 : decode cX12_most 101 = .ok (.aload_n 0, 1) := by decide +kernel
theorem dX12_most_102 : decode cX12_most 102 = .ok (.invokevirtual 166, 3) := by decide +kernel
theorem dX12_most_105 : decode cX12_most 105 = .ok (.ldc2_w 85, 3) := by decide +kernel
theorem dX12_most_108 : decode cX12_most 108 = .ok (.lstore 4, 2) := by decide +kernel
theorem dX12_most_110 : decode cX12_most 110 = .ok (.iconst 1, 1) := by decide +kernel
theorem dX12_most_111 : decode cX12_most 111 = .ok (.istore 6, 2) := by decide +kernel
theorem dX12_most_113 : decode cX12_most 113 = .ok (.iload 6, 2) := by decide +kernel
theorem dX12_most_115 : decode cX12_most 115 = .ok (.ifCond .eq 155, 3) := by decide +kernel
theorem dX12_most_118 : decode cX12_most 118 = .ok (.aload_n 0, 1) := by decide +kernel
theorem dX12_most_119 : decode cX12_most 119 = .ok (.iload_n 3, 1) := by decide +kernel
theorem dX12_most_120 : decode cX12_most 120 = .ok (.invokevirtual 169, 3) := by decide +kernel
theorem dX12_most_123 : decode cX12_most 123 = .ok (.istore 7, 2) := by decide +kernel
theorem dX12_most_125 : decode cX12_most 125 = .ok (.lconst 0, 1) := by decide +kernel
theorem dX12_most_126 : decode cX12_most 126 = .ok (.lstore 8, 2) := by decide +kernel
theorem dX12_most_128 : decode cX12_most 128 = .ok (.iconst 0, 1) := by decide +kernel
theorem dX12_most_129 : decode cX12_most 129 = .ok (.istore 10, 2) := by decide +kernel
theorem dX12_most_131 : decode cX12_most 131 = .ok (.iload 10, 2) := by decide +kernel
theorem dX12_most_133 : decode cX12_most 133 = .ok (.iload 7, 2) := by decide +kernel
theorem dX12_most_135 : decode cX12_most 135 = .ok (.if_icmp .ge 89, 3) := by decide +kernel
theorem dX12_most_138 : decode cX12_most 138 = .ok (.aload_n 0, 1) := by decide +kernel
theorem dX12_most_139 : decode cX12_most 139 = .ok (.iload_n 1, 1) := by decide +kernel
theorem dX12_most_140 : decode cX12_most 140 = .ok (.invokevirtual 107, 3) := by decide +kernel
theorem dX12_most_143 : decode cX12_most 143 = .ok (.i2l, 1) := by decide +kernel
theorem dX12_most_144 : decode cX12_most 144 = .ok (.lstore 11, 2) := by decide +kernel
theorem dX12_most_146 : decode cX12_most 146 = .ok (.iconst 0, 1) := by decide +kernel
theorem dX12_most_147 : decode cX12_most 147 = .ok (.istore 13, 2) := by decide +kernel
theorem dX12_most_149 : decode cX12_most 149 = .ok (.iload 13, 2) := by decide +kernel
theorem dX12_most_151 : decode cX12_most 151 = .ok (.iload_n 3, 1) := by decide +kernel
theorem dX12_most_152 : decode cX12_most 152 = .ok (.if_icmp .ge 44, 3) := by decide +kernel
theorem dX12_most_155 : decode cX12_most 155 = .ok (.lload 11, 2) := by decide +kernel
theorem dX12_most_157 : decode cX12_most 157 = .ok (.aload_n 0, 1) := by decide +kernel
theorem dX12_most_158 : decode cX12_most 158 = .ok (.getfield 23, 3) := by decide +kernel
theorem dX12_most_161 : decode cX12_most 161 = .ok (.iload 13, 2) := by decide +kernel
theorem dX12_most_163 : decode cX12_most 163 = .ok (.iaload, 1) := by decide +kernel
theorem dX12_most_164 : decode cX12_most 164 = .ok (.iload 10, 2) := by decide +kernel
theorem dX12_most_166 : decode cX12_most 166 = .ok (.if_icmp .ne 20, 3) := by decide +kernel
theorem dX12_most_169 : decode cX12_most 169 = .ok (.aload_n 0, 1) := by decide +kernel
theorem dX12_most_170 : decode cX12_most 170 = .ok (.getfield 29, 3) := by decide +kernel
theorem dX12_most_173 : decode cX12_most 173 = .ok (.iload 13, 2) := by decide +kernel
theorem dX12_most_175 : decode cX12_most 175 = .ok (.iaload, 1) := by decide +kernel
theorem dX12_most_176 : decode cX12_most 176 = .ok (.aload_n 0, 1) := by decide +kernel
theorem dX12_most_177 : decode cX12_most 177 = .ok (.iload_n 1, 1) := by decide +kernel
theorem dX12_most_178 : decode cX12_most 178 = .ok (.invokevirtual 107, 3) := by decide +kernel
theorem dX12_most_181 : decode cX12_most 181 = .ok (.isub, 1) := by decide +kernel
theorem dX12_most_182 : decode cX12_most 182 = .ok (.i2l, 1) := by decide +kernel
theorem dX12_most_183 : decode cX12_most 183 = .ok (.goto 4, 3) := by decide +kernel
theorem dX12_most_186 : decode cX12_most 186 = .ok (.lconst 0, 1) := by decide +kernel
theorem dX12_most_187 : decode cX12_most 187 = .ok (.ladd, 1) := by decide +kernel
theorem dX12_most_188 : decode cX12_most 188 = .ok (.lstore 11, 2) := by decide +kernel
theorem dX12_most_190 : decode cX12_most 190 = .ok (.iinc 13 1, 3) := by decide +kernel
theorem dX12_most_193 : decode cX12_most 193 = .ok (.goto (-44), 3) := by decide +kernel
theorem dX12_most_196 : decode cX12_most 196 = .ok (.lload 8, 2) := by decide +kernel
theorem dX12_most_198 : decode cX12_most 198 = .ok (.lload 11, 2) := by decide +kernel
theorem dX12_most_200 : decode cX12_most 200 = .ok (.lconst 0, 1) := by decide +kernel
theorem dX12_most_201 : decode cX12_most 201 = .ok (.lcmp, 1) := by decide +kernel
theorem dX12_most_202 : decode cX12_most 202 = .ok (.ifCond .le 12, 3) := by decide +kernel
theorem dX12_most_205 : decode cX12_most 205 = .ok (.aload_n 0, 1) := by decide +kernel
theorem dX12_most_206 : decode cX12_most 206 = .ok (.lload 11, 2) := by decide +kernel
theorem dX12_most_208 : decode cX12_most 208 = .ok (.invokevirtual 104, 3) := by decide +kernel
theorem dX12_most_211 : decode cX12_most 211 = .ok (.goto 4, 3) := by decide +kernel
theorem dX12_most_214 : decode cX12_most 214 = .ok (.lconst 0, 1) := by decide +kernel
theorem dX12_most_215 : decode cX12_most 215 = .ok (.ladd, 1) := by decide +kernel
theorem dX12_most_216 : decode cX12_most 216 = .ok (.lstore 8, 2) := by decide +kernel
theorem dX12_most_218 : decode cX12_most 218 = .ok (.iinc 10 1, 3) := by decide +kernel
theorem dX12_most_221 : decode cX12_most 221 = .ok (.goto (-90), 3) := by decide +kernel
theorem dX12_most_224 : decode cX12_most 224 = .ok (.lload 8, 2) := by decide +kernel
theorem dX12_most_226 : decode cX12_most 226 = .ok (.lload 4, 2) := by decide +kernel
theorem dX12_most_228 : decode cX12_most 228 = .ok (.lcmp, 1) := by decide +kernel
theorem dX12_most_229 : decode cX12_most 229 = .ok (.ifCond .gt 20, 3) := by decide +kernel
theorem dX12_most_232 : decode cX12_most 232 = .ok (.lload 8, 2) := by decide +kernel
theorem dX12_most_234 : decode cX12_most 234 = .ok (.lload 4, 2) := by decide +kernel
theorem dX12_most_236 : decode cX12_most 236 = .ok (.lcmp, 1) := by decide +kernel
theorem dX12_most_237 : decode cX12_most 237 = .ok (.ifCond .ne 23, 3) := by decide +kernel
theorem dX12_most_240 : decode cX12_most 240 = .ok (.iload 7, 2) := by decide +kernel
theorem dX12_most_242 : decode cX12_most 242 = .ok (.aload_n 0, 1) := by decide +kernel
theorem dX12_most_243 : decode cX12_most 243 = .ok (.getfield 163, 3) := by decide +kernel
theorem dX12_most_246 : decode cX12_most 246 = .ok (.if_icmp .le 14, 3) := by decide +kernel
theorem dX12_most_249 : decode cX12_most 249 = .ok (.lload 8, 2) := by decide +kernel
theorem dX12_most_251 : decode cX12_most 251 = .ok (.lstore 4, 2) := by decide +kernel
theorem dX12_most_253 : decode cX12_most 253 = .ok (.aload_n 0, 1) := by decide +kernel
theorem dX12_most_254 : decode cX12_most 254 = .ok (.iload_n 3, 1) := by decide +kernel
theorem dX12_most_255 : decode cX12_most 255 = .ok (.iload 7, 2) := by decide +kernel
theorem dX12_most_257 : decode cX12_most 257 = .ok (.invokevirtual 172, 3) := by decide +kernel
theorem dX12_most_260 : decode cX12_most 260 = .ok (.aload_n 0, 1) := by decide +kernel
theorem dX12_most_261 : decode cX12_most 261 = .ok (.iload_n 3, 1) := by decide +kernel
theorem dX12_most_262 : decode cX12_most 262 = .ok (.invokevirtual 176, 3) := by decide +kernel
theorem dX12_most_265 : decode cX12_most 265 = .ok (.istore 6, 2) := by decide +kernel
theorem dX12_most_267 : decode cX12_most 267 = .ok (.goto (-154), 3) := by decide +kernel
theorem dX12_most_270 : decode cX12_most 270 = .ok (.iload_n 2, 1) := by decide +kernel
theorem dX12_most_271 : decode cX12_most 271 = .ok (.ifCond .ge 9, 3) := by decide +kernel
theorem dX12_most_274 : decode cX12_most 274 = .ok (.lload 4, 2) := by decide +kernel
theorem dX12_most_276 : decode cX12_most 276 = .ok (.l2i, 1) := by decide +kernel
theorem dX12_most_277 : decode cX12_most 277 = .ok (.goto 19, 3) := by decide +kernel
theorem dX12_most_280 : decode cX12_most 280 = .ok (.iload_n 2, 1) := by decide +kernel
theorem dX12_most_281 : decode cX12_most 281 = .ok (.iload_n 3, 1) := by decide +kernel
theorem dX12_most_282 : decode cX12_most 282 = .ok (.if_icmp .ge 12, 3) := by decide +kernel
theorem dX12_most_285 : decode cX12_most 285 = .ok (.aload_n 0, 1) := by decide +kernel
theorem dX12_most_286 : decode cX12_most 286 = .ok (.getfield 26, 3) := by decide +kernel
theorem dX12_most_289 : decode cX12_most 289 = .ok (.iload_n 2, 1) := by decide +kernel
theorem dX12_most_290 : decode cX12_most 290 = .ok (.iaload, 1) := by decide +kernel
theorem dX12_most_291 : decode cX12_most 291 = .ok (.goto 5, 3) := by decide +kernel
theorem dX12_most_294 : decode cX12_most 294 = .ok (.bipush (-4), 2) := by decide +kernel
theorem dX12_most_296 : decode cX12_most 296 = .ok (.ireturn, 1) := by decide +kernel
theorem dX12_buyer_0 : decode cX12_buyer 0 = .ok (.iload_n 1, 1) := by decide +kernel
theorem dX12_buyer_1 : decode cX12_buyer 1 = .ok (.i2l, 1) := by decide +kernel
theorem dX12_buyer_2 : decode cX12_buyer 2 = .ok (.lconst 1, 1) := by decide +kernel
theorem dX12_buyer_3 : decode cX12_buyer 3 = .ok (.ldc2_w 179, 3) := by decide +kernel
theorem dX12_buyer_6 : decode cX12_buyer 6 = .ok (.invokestatic 71, 3) := by decide +kernel
theorem dX12_buyer_9 : decode cX12_buyer 9 = .ok (.ifCond .ne 5, 3) := by decide +kernel
theorem dX12_buyer_12 : decode cX12_buyer 12 = .ok (.iconst (-1), 1) := by decide +kernel
theorem dX12_buyer_13 : decode cX12_buyer 13 = .ok (.ireturn, 1) := by decide +kernel
theorem dX12_buyer_14 : decode cX12_buyer 14 = .ok (.aload_n 0, 1) := by decide +kernel
theorem dX12_buyer_15 : decode cX12_buyer 15 = .ok (.getfield 7, 3) := by decide +kernel
theorem dX12_buyer_18 : decode cX12_buyer 18 = .ok (.bipush 24, 2) := by decide +kernel
theorem dX12_buyer_20 : decode cX12_buyer 20 = .ok (.iaload, 1) := by decide +kernel
theorem dX12_buyer_21 : decode cX12_buyer 21 = .ok (.istore_n 2, 1) := by decide +kernel
theorem dX12_buyer_22 : decode cX12_buyer 22 = .ok (.iload_n 2, 1) := by decide +kernel
theorem dX12_buyer_23 : decode cX12_buyer 23 = .ok (.bipush 6, 2) := by decide +kernel
theorem dX12_buyer_25 : decode cX12_buyer 25 = .ok (.if_icmp .ne 6, 3) := by decide +kernel
theorem dX12_buyer_28 : decode cX12_buyer 28 = .ok (.bipush (-3), 2) := by decide +kernel
theorem dX12_buyer_30 : decode cX12_buyer 30 = .ok (.ireturn, 1) := by decide +kernel
theorem dX12_buyer_31 : decode cX12_buyer 31 = .ok (.aload_n 0, 1) := by decide +kernel
theorem dX12_buyer_32 : decode cX12_buyer 32 = .ok (.getfield 7, 3) := by decide +kernel
theorem dX12_buyer_35 : decode cX12_buyer 35 = .ok (.bipush 25, 2) := by decide +kernel
theorem dX12_buyer_37 : decode cX12_buyer 37 = .ok (.iload_n 2, 1) := by decide +kernel
theorem dX12_buyer_38 : decode cX12_buyer 38 = .ok (.iadd, 1) := by decide +kernel
theorem dX12_buyer_39 : decode cX12_buyer 39 = .ok (.iload_n 1, 1) := by decide +kernel
theorem dX12_buyer_40 : decode cX12_buyer 40 = .ok (.iastore, 1) := by decide +kernel
theorem dX12_buyer_41 : decode cX12_buyer 41 = .ok (.aload_n 0, 1) := by decide +kernel
theorem dX12_buyer_42 : decode cX12_buyer 42 = .ok (.getfield 7, 3) := by decide +kernel
theorem dX12_buyer_45 : decode cX12_buyer 45 = .ok (.bipush 24, 2) := by decide +kernel
theorem dX12_buyer_47 : decode cX12_buyer 47 = .ok (.dup2, 1) := by decide +kernel
theorem dX12_buyer_48 : decode cX12_buyer 48 = .ok (.iaload, 1) := by decide +kernel
theorem dX12_buyer_49 : decode cX12_buyer 49 = .ok (.iconst 1, 1) := by decide +kernel
theorem dX12_buyer_50 : decode cX12_buyer 50 = .ok (.iadd, 1) := by decide +kernel
theorem dX12_buyer_51 : decode cX12_buyer 51 = .ok (.iastore, 1) := by decide +kernel
theorem dX12_buyer_52 : decode cX12_buyer 52 = .ok (.iload_n 2, 1) := by decide +kernel
theorem dX12_buyer_53 : decode cX12_buyer 53 = .ok (.ireturn, 1) := by decide +kernel
theorem dX12_home_0 : decode cX12_home 0 = .ok (.aload_n 0, 1) := by decide +kernel
theorem dX12_home_1 : decode cX12_home 1 = .ok (.getfield 7, 3) := by decide +kernel
theorem dX12_home_4 : decode cX12_home 4 = .ok (.bipush 24, 2) := by decide +kernel
theorem dX12_home_6 : decode cX12_home 6 = .ok (.iaload, 1) := by decide +kernel
theorem dX12_home_7 : decode cX12_home 7 = .ok (.istore_n 1, 1) := by decide +kernel
theorem dX12_home_8 : decode cX12_home 8 = .ok (.aload_n 0, 1) := by decide +kernel
theorem dX12_home_9 : decode cX12_home 9 = .ok (.getfield 7, 3) := by decide +kernel
theorem dX12_home_12 : decode cX12_home 12 = .ok (.bipush 24, 2) := by decide +kernel
theorem dX12_home_14 : decode cX12_home 14 = .ok (.iconst 0, 1) := by decide +kernel
theorem dX12_home_15 : decode cX12_home 15 = .ok (.iastore, 1) := by decide +kernel
theorem dX12_home_16 : decode cX12_home 16 = .ok (.iload_n 1, 1) := by decide +kernel
theorem dX12_home_17 : decode cX12_home 17 = .ok (.ireturn, 1) := by decide +kernel
theorem dX12_priceOf_0 : decode cX12_priceOf 0 = .ok (.iconst 0, 1) := by decide +kernel
theorem dX12_priceOf_1 : decode cX12_priceOf 1 = .ok (.istore_n 2, 1) := by decide +kernel
theorem dX12_priceOf_2 : decode cX12_priceOf 2 = .ok (.iconst 0, 1) := by decide +kernel
theorem dX12_priceOf_3 : decode cX12_priceOf 3 = .ok (.istore_n 3, 1) := by decide +kernel
theorem dX12_priceOf_4 : decode cX12_priceOf 4 = .ok (.iload_n 3, 1) := by decide +kernel
theorem dX12_priceOf_5 : decode cX12_priceOf 5 = .ok (.aload_n 0, 1) := by decide +kernel
theorem dX12_priceOf_6 : decode cX12_priceOf 6 = .ok (.getfield 7, 3) := by decide +kernel
theorem dX12_priceOf_9 : decode cX12_priceOf 9 = .ok (.bipush 24, 2) := by decide +kernel
theorem dX12_priceOf_11 : decode cX12_priceOf 11 = .ok (.iaload, 1) := by decide +kernel
theorem dX12_priceOf_12 : decode cX12_priceOf 12 = .ok (.if_icmp .ge 33, 3) := by decide +kernel
theorem dX12_priceOf_15 : decode cX12_priceOf 15 = .ok (.iload_n 2, 1) := by decide +kernel
theorem dX12_priceOf_16 : decode cX12_priceOf 16 = .ok (.iload_n 1, 1) := by decide +kernel
theorem dX12_priceOf_17 : decode cX12_priceOf 17 = .ok (.iload_n 3, 1) := by decide +kernel
theorem dX12_priceOf_18 : decode cX12_priceOf 18 = .ok (.invokestatic 146, 3) := by decide +kernel
theorem dX12_priceOf_21 : decode cX12_priceOf 21 = .ok (.ifCond .eq 15, 3) := by decide +kernel
theorem dX12_priceOf_24 : decode cX12_priceOf 24 = .ok (.aload_n 0, 1) := by decide +kernel
theorem dX12_priceOf_25 : decode cX12_priceOf 25 = .ok (.getfield 7, 3) := by decide +kernel
theorem dX12_priceOf_28 : decode cX12_priceOf 28 = .ok (.bipush 25, 2) := by decide +kernel
theorem dX12_priceOf_30 : decode cX12_priceOf 30 = .ok (.iload_n 3, 1) := by decide +kernel
theorem dX12_priceOf_31 : decode cX12_priceOf 31 = .ok (.iadd, 1) := by decide +kernel
theorem dX12_priceOf_32 : decode cX12_priceOf 32 = .ok (.iaload, 1) := by decide +kernel
theorem dX12_priceOf_33 : decode cX12_priceOf 33 = .ok (.goto 4, 3) := by decide +kernel
theorem dX12_priceOf_36 : decode cX12_priceOf 36 = .ok (.iconst 0, 1) := by decide +kernel
theorem dX12_priceOf_37 : decode cX12_priceOf 37 = .ok (.iadd, 1) := by decide +kernel
theorem dX12_priceOf_38 : decode cX12_priceOf 38 = .ok (.istore_n 2, 1) := by decide +kernel
theorem dX12_priceOf_39 : decode cX12_priceOf 39 = .ok (.iinc 3 1, 3) := by decide +kernel
theorem dX12_priceOf_42 : decode cX12_priceOf 42 = .ok (.goto (-38), 3) := by decide +kernel
theorem dX12_priceOf_45 : decode cX12_priceOf 45 = .ok (.aload_n 0, 1) := by decide +kernel
theorem dX12_priceOf_46 : decode cX12_priceOf 46 = .ok (.iload_n 2, 1) := by decide +kernel
theorem dX12_priceOf_47 : decode cX12_priceOf 47 = .ok (.i2l, 1) := by decide +kernel
theorem dX12_priceOf_48 : decode cX12_priceOf 48 = .ok (.invokevirtual 181, 3) := by decide +kernel
theorem dX12_priceOf_51 : decode cX12_priceOf 51 = .ok (.lreturn, 1) := by decide +kernel
theorem dX12_price_0 : decode cX12_price 0 = .ok (.iload_n 1, 1) := by decide +kernel
theorem dX12_price_1 : decode cX12_price 1 = .ok (.i2l, 1) := by decide +kernel
theorem dX12_price_2 : decode cX12_price 2 = .ok (.lconst 1, 1) := by decide +kernel
theorem dX12_price_3 : decode cX12_price 3 = .ok (.iconst 1, 1) := by decide +kernel
theorem dX12_price_4 : decode cX12_price 4 = .ok (.aload_n 0, 1) := by decide +kernel
theorem dX12_price_5 : decode cX12_price 5 = .ok (.getfield 7, 3) := by decide +kernel
theorem dX12_price_8 : decode cX12_price 8 = .ok (.bipush 24, 2) := by decide +kernel
theorem dX12_price_10 : decode cX12_price 10 = .ok (.iaload, 1) := by decide +kernel
theorem dX12_price_11 : decode cX12_price 11 = .ok (.ishl, 1) := by decide +kernel
theorem dX12_price_12 : decode cX12_price 12 = .ok (.iconst 1, 1) := by decide +kernel
theorem dX12_price_13 : decode cX12_price 13 = .ok (.isub, 1) := by decide +kernel
theorem dX12_price_14 : decode cX12_price 14 = .ok (.i2l, 1) := by decide +kernel
theorem dX12_price_15 : decode cX12_price 15 = .ok (.invokestatic 71, 3) := by decide +kernel
theorem dX12_price_18 : decode cX12_price 18 = .ok (.ifCond .ne 7, 3) := by decide +kernel
theorem dX12_price_21 : decode cX12_price 21 = .ok (.ldc2_w 85, 3) := by decide +kernel
theorem dX12_price_24 : decode cX12_price 24 = .ok (.lreturn, 1) := by decide +kernel
theorem dX12_price_25 : decode cX12_price 25 = .ok (.aload_n 0, 1) := by decide +kernel
theorem dX12_price_26 : decode cX12_price 26 = .ok (.invokevirtual 87, 3) := by decide +kernel
theorem dX12_price_29 : decode cX12_price 29 = .ok (.aload_n 0, 1) := by decide +kernel
theorem dX12_price_30 : decode cX12_price 30 = .ok (.iload_n 1, 1) := by decide +kernel
theorem dX12_price_31 : decode cX12_price 31 = .ok (.invokevirtual 184, 3) := by decide +kernel
theorem dX12_price_34 : decode cX12_price 34 = .ok (.lreturn, 1) := by decide +kernel
theorem dX12_parties_0 : decode cX12_parties 0 = .ok (.iload_n 1, 1) := by decide +kernel
theorem dX12_parties_1 : decode cX12_parties 1 = .ok (.i2l, 1) := by decide +kernel
theorem dX12_parties_2 : decode cX12_parties 2 = .ok (.lconst 1, 1) := by decide +kernel
theorem dX12_parties_3 : decode cX12_parties 3 = .ok (.ldc2_w 188, 3) := by decide +kernel
theorem dX12_parties_6 : decode cX12_parties 6 = .ok (.invokestatic 71, 3) := by decide +kernel
theorem dX12_parties_9 : decode cX12_parties 9 = .ok (.ifCond .eq 17, 3) := by decide +kernel
theorem dX12_parties_12 : decode cX12_parties 12 = .ok (.iload_n 2, 1) := by decide +kernel
theorem dX12_parties_13 : decode cX12_parties 13 = .ok (.i2l, 1) := by decide +kernel
theorem dX12_parties_14 : decode cX12_parties 14 = .ok (.ldc2_w 85, 3) := by decide +kernel
theorem dX12_parties_17 : decode cX12_parties 17 = .ok (.ldc2_w 77, 3) := by decide +kernel
theorem dX12_parties_20 : decode cX12_parties 20 = .ok (.invokestatic 71, 3) := by decide +kernel
theorem dX12_parties_23 : decode cX12_parties 23 = .ok (.ifCond .ne 7, 3) := by decide +kernel
theorem dX12_parties_26 : decode cX12_parties 26 = .ok (.ldc2_w 85, 3) := by decide +kernel
theorem dX12_parties_29 : decode cX12_parties 29 = .ok (.lreturn, 1) := by decide +kernel
theorem dX12_parties_30 : decode cX12_parties 30 = .ok (.aload_n 0, 1) := by decide +kernel
theorem dX12_parties_31 : decode cX12_parties 31 = .ok (.getfield 7, 3) := by decide +kernel
theorem dX12_parties_34 : decode cX12_parties 34 = .ok (.bipush 24, 2) := by decide +kernel
theorem dX12_parties_36 : decode cX12_parties 36 = .ok (.iaload, 1) := by decide +kernel
theorem dX12_parties_37 : decode cX12_parties 37 = .ok (.istore_n 3, 1) := by decide +kernel
theorem dX12_parties_38 : decode cX12_parties 38 = .ok (.iload_n 3, 1) := by decide +kernel
theorem dX12_parties_39 : decode cX12_parties 39 = .ok (.ifCond .eq 8, 3) := by decide +kernel
theorem dX12_parties_42 : decode cX12_parties 42 = .ok (.iload_n 2, 1) := by decide +kernel
theorem dX12_parties_43 : decode cX12_parties 43 = .ok (.iload_n 3, 1) := by decide +kernel
theorem dX12_parties_44 : decode cX12_parties 44 = .ok (.if_icmp .lt 7, 3) := by decide +kernel
theorem dX12_parties_47 : decode cX12_parties 47 = .ok (.ldc2_w 190, 3) := by decide +kernel
theorem dX12_parties_50 : decode cX12_parties 50 = .ok (.lreturn, 1) := by decide +kernel
theorem dX12_parties_51 : decode cX12_parties 51 = .ok (.aload_n 0, 1) := by decide +kernel
theorem dX12_parties_52 : decode cX12_parties 52 = .ok (.invokevirtual 87, 3) := by decide +kernel
theorem dX12_parties_55 : decode cX12_parties 55 = .ok (.aload_n 0, 1) := by decide +kernel
theorem dX12_parties_56 : decode cX12_parties 56 = .ok (.invokevirtual 166, 3) := by decide +kernel
theorem dX12_parties_59 : decode cX12_parties 59 = .ok (.ldc2_w 85, 3) := by decide +kernel
theorem dX12_parties_62 : decode cX12_parties 62 = .ok (.lstore 4, 2) := by decide +kernel
theorem dX12_parties_64 : decode cX12_parties 64 = .ok (.iconst 1, 1) := by decide +kernel
theorem dX12_parties_65 : decode cX12_parties 65 = .ok (.istore 6, 2) := by decide +kernel
theorem dX12_parties_67 : decode cX12_parties 67 = .ok (.iload 6, 2) := by decide +kernel
theorem dX12_parties_69 : decode cX12_parties 69 = .ok (.ifCond .eq 165, 3) := by decide +kernel
theorem dX12_parties_72 : decode cX12_parties 72 = .ok (.aload_n 0, 1) := by decide +kernel
theorem dX12_parties_73 : decode cX12_parties 73 = .ok (.iload_n 3, 1) := by decide +kernel
theorem dX12_parties_74 : decode cX12_parties 74 = .ok (.invokevirtual 169, 3) := by decide +kernel
theorem dX12_parties_77 : decode cX12_parties 77 = .ok (.istore 7, 2) := by decide +kernel
theorem dX12_parties_79 : decode cX12_parties 79 = .ok (.lconst 0, 1) := by decide +kernel
theorem dX12_parties_80 : decode cX12_parties 80 = .ok (.lstore 8, 2) := by decide +kernel
theorem dX12_parties_82 : decode cX12_parties 82 = .ok (.iconst 1, 1) := by decide +kernel
theorem dX12_parties_83 : decode cX12_parties 83 = .ok (.istore 10, 2) := by decide +kernel
theorem dX12_parties_85 : decode cX12_parties 85 = .ok (.iconst 0, 1) := by decide +kernel
theorem dX12_parties_86 : decode cX12_parties 86 = .ok (.istore 11, 2) := by decide +kernel
theorem dX12_parties_88 : decode cX12_parties 88 = .ok (.iload 11, 2) := by decide +kernel
theorem dX12_parties_90 : decode cX12_parties 90 = .ok (.iload 7, 2) := by decide +kernel
theorem dX12_parties_92 : decode cX12_parties 92 = .ok (.if_icmp .ge 84, 3) := by decide +kernel
theorem dX12_parties_95 : decode cX12_parties 95 = .ok (.iconst 0, 1) := by decide +kernel
theorem dX12_parties_96 : decode cX12_parties 96 = .ok (.istore 12, 2) := by decide +kernel
theorem dX12_parties_98 : decode cX12_parties 98 = .ok (.iconst 0, 1) := by decide +kernel
theorem dX12_parties_99 : decode cX12_parties 99 = .ok (.istore 13, 2) := by decide +kernel
theorem dX12_parties_101 : decode cX12_parties 101 = .ok (.iload 13, 2) := by decide +kernel
theorem dX12_parties_103 : decode cX12_parties 103 = .ok (.iload_n 3, 1) := by decide +kernel
theorem dX12_parties_104 : decode cX12_parties 104 = .ok (.if_icmp .ge 34, 3) := by decide +kernel
theorem dX12_parties_107 : decode cX12_parties 107 = .ok (.iload 12, 2) := by decide +kernel
theorem dX12_parties_109 : decode cX12_parties 109 = .ok (.aload_n 0, 1) := by decide +kernel
theorem dX12_parties_110 : decode cX12_parties 110 = .ok (.getfield 23, 3) := by decide +kernel
theorem dX12_parties_113 : decode cX12_parties 113 = .ok (.iload 13, 2) := by decide +kernel
theorem dX12_parties_115 : decode cX12_parties 115 = .ok (.iaload, 1) := by decide +kernel
theorem dX12_parties_116 : decode cX12_parties 116 = .ok (.iload 11, 2) := by decide +kernel
theorem dX12_parties_118 : decode cX12_parties 118 = .ok (.if_icmp .ne 10, 3) := by decide +kernel
theorem dX12_parties_121 : decode cX12_parties 121 = .ok (.iconst 1, 1) := by decide +kernel
theorem dX12_parties_122 : decode cX12_parties 122 = .ok (.iload 13, 2) := by decide +kernel
theorem dX12_parties_124 : decode cX12_parties 124 = .ok (.ishl, 1) := by decide +kernel
theorem dX12_parties_125 : decode cX12_parties 125 = .ok (.goto 4, 3) := by decide +kernel
theorem dX12_parties_128 : decode cX12_parties 128 = .ok (.iconst 0, 1) := by decide +kernel
theorem dX12_parties_129 : decode cX12_parties 129 = .ok (.ior, 1) := by decide +kernel
theorem dX12_parties_130 : decode cX12_parties 130 = .ok (.istore 12, 2) := by decide +kernel
theorem dX12_parties_132 : decode cX12_parties 132 = .ok (.iinc 13 1, 3) := by decide +kernel
theorem dX12_parties_135 : decode cX12_parties 135 = .ok (.goto (-34), 3) := by decide +kernel
theorem dX12_parties_138 : decode cX12_parties 138 = .ok (.iload 10, 2) := by decide +kernel
theorem dX12_parties_140 : decode cX12_parties 140 = .ok (.ifCond .eq 16, 3) := by decide +kernel
theorem dX12_parties_143 : decode cX12_parties 143 = .ok (.iload 12, 2) := by decide +kernel
theorem dX12_parties_145 : decode cX12_parties 145 = .ok (.invokestatic 150, 3) := by decide +kernel
theorem dX12_parties_148 : decode cX12_parties 148 = .ok (.iload_n 1, 1) := by decide +kernel
theorem dX12_parties_149 : decode cX12_parties 149 = .ok (.if_icmp .gt 7, 3) := by decide +kernel
theorem dX12_parties_152 : decode cX12_parties 152 = .ok (.iconst 1, 1) := by decide +kernel
theorem dX12_parties_153 : decode cX12_parties 153 = .ok (.goto 4, 3) := by decide +kernel
theorem dX12_parties_156 : decode cX12_parties 156 = .ok (.iconst 0, 1) := by decide +kernel
theorem dX12_parties_157 : decode cX12_parties 157 = .ok (.istore 10, 2) := by decide +kernel
theorem dX12_parties_159 : decode cX12_parties 159 = .ok (.lload 8, 2) := by decide +kernel
theorem dX12_parties_161 : decode cX12_parties 161 = .ok (.aload_n 0, 1) := by decide +kernel
theorem dX12_parties_162 : decode cX12_parties 162 = .ok (.iload 12, 2) := by decide +kernel
theorem dX12_parties_164 : decode cX12_parties 164 = .ok (.invokevirtual 184, 3) := by decide +kernel
theorem dX12_parties_167 : decode cX12_parties 167 = .ok (.ladd, 1) := by decide +kernel
theorem dX12_parties_168 : decode cX12_parties 168 = .ok (.lstore 8, 2) := by decide +kernel
theorem dX12_parties_170 : decode cX12_parties 170 = .ok (.iinc 11 1, 3) := by decide +kernel
theorem dX12_parties_173 : decode cX12_parties 173 = .ok (.goto (-85), 3) := by decide +kernel
theorem dX12_parties_176 : decode cX12_parties 176 = .ok (.iload 10, 2) := by decide +kernel
theorem dX12_parties_178 : decode cX12_parties 178 = .ok (.ifCond .eq 46, 3) := by decide +kernel
theorem dX12_parties_181 : decode cX12_parties 181 = .ok (.lload 4, 2) := by decide +kernel
theorem dX12_parties_183 : decode cX12_parties 183 = .ok (.lconst 0, 1) := by decide +kernel
theorem dX12_parties_184 : decode cX12_parties 184 = .ok (.lcmp, 1) := by decide +kernel
theorem dX12_parties_185 : decode cX12_parties 185 = .ok (.ifCond .lt 28, 3) := by decide +kernel
theorem dX12_parties_188 : decode cX12_parties 188 = .ok (.lload 8, 2) := by decide +kernel
theorem dX12_parties_190 : decode cX12_parties 190 = .ok (.lload 4, 2) := by decide +kernel
theorem dX12_parties_192 : decode cX12_parties 192 = .ok (.lcmp, 1) := by decide +kernel
theorem dX12_parties_193 : decode cX12_parties 193 = .ok (.ifCond .lt 20, 3) := by decide +kernel
theorem dX12_parties_196 : decode cX12_parties 196 = .ok (.lload 8, 2) := by decide +kernel
theorem dX12_parties_198 : decode cX12_parties 198 = .ok (.lload 4, 2) := by decide +kernel
theorem dX12_parties_200 : decode cX12_parties 200 = .ok (.lcmp, 1) := by decide +kernel
theorem dX12_parties_201 : decode cX12_parties 201 = .ok (.ifCond .ne 23, 3) := by decide +kernel
theorem dX12_parties_204 : decode cX12_parties 204 = .ok (.iload 7, 2) := by decide +kernel
theorem dX12_parties_206 : decode cX12_parties 206 = .ok (.aload_n 0, 1) := by decide +kernel
theorem dX12_parties_207 : decode cX12_parties 207 = .ok (.getfield 163, 3) := by decide +kernel
theorem dX12_parties_210 : decode cX12_parties 210 = .ok (.if_icmp .le 14, 3) := by decide +kernel
theorem dX12_parties_213 : decode cX12_parties 213 = .ok (.lload 8, 2) := by decide +kernel
theorem dX12_parties_215 : decode cX12_parties 215 = .ok (.lstore 4, 2) := by decide +kernel
theorem dX12_parties_217 : decode cX12_parties 217 = .ok (.aload_n 0, 1) := by decide +kernel
theorem dX12_parties_218 : decode cX12_parties 218 = .ok (.iload_n 3, 1) := by decide +kernel
theorem dX12_parties_219 : decode cX12_parties 219 = .ok (.iload 7, 2) := by decide +kernel
theorem dX12_parties_221 : decode cX12_parties 221 = .ok (.invokevirtual 172, 3) := by decide +kernel
theorem dX12_parties_224 : decode cX12_parties 224 = .ok (.aload_n 0, 1) := by decide +kernel
theorem dX12_parties_225 : decode cX12_parties 225 = .ok (.iload_n 3, 1) := by decide +kernel
theorem dX12_parties_226 : decode cX12_parties 226 = .ok (.invokevirtual 176, 3) := by decide +kernel
theorem dX12_parties_229 : decode cX12_parties 229 = .ok (.istore 6, 2) := by decide +kernel
theorem dX12_parties_231 : decode cX12_parties 231 = .ok (.goto (-164), 3) := by decide +kernel
theorem dX12_parties_234 : decode cX12_parties 234 = .ok (.iload_n 2, 1) := by decide +kernel
theorem dX12_parties_235 : decode cX12_parties 235 = .ok (.ifCond .ge 8, 3) := by decide +kernel
theorem dX12_parties_238 : decode cX12_parties 238 = .ok (.lload 4, 2) := by decide +kernel
theorem dX12_parties_240 : decode cX12_parties 240 = .ok (.goto 10, 3) := by decide +kernel
theorem dX12_parties_243 : decode cX12_parties 243 = .ok (.aload_n 0, 1) := by decide +kernel
theorem dX12_parties_244 : decode cX12_parties 244 = .ok (.getfield 26, 3) := by decide +kernel
theorem dX12_parties_247 : decode cX12_parties 247 = .ok (.iload_n 2, 1) := by decide +kernel
theorem dX12_parties_248 : decode cX12_parties 248 = .ok (.iaload, 1) := by decide +kernel
theorem dX12_parties_249 : decode cX12_parties 249 = .ok (.i2l, 1) := by decide +kernel
theorem dX12_parties_250 : decode cX12_parties 250 = .ok (.lreturn, 1) := by decide +kernel
theorem dX12_third_0 : decode cX12_third 0 = .ok (.iload_n 1, 1) := by decide +kernel
theorem dX12_third_1 : decode cX12_third 1 = .ok (.i2l, 1) := by decide +kernel
theorem dX12_third_2 : decode cX12_third 2 = .ok (.lconst 0, 1) := by decide +kernel
theorem dX12_third_3 : decode cX12_third 3 = .ok (.lconst 1, 1) := by decide +kernel
theorem dX12_third_4 : decode cX12_third 4 = .ok (.invokestatic 71, 3) := by decide +kernel
theorem dX12_third_7 : decode cX12_third 7 = .ok (.ifCond .ne 5, 3) := by decide +kernel
theorem dX12_third_10 : decode cX12_third 10 = .ok (.iconst (-1), 1) := by decide +kernel
theorem dX12_third_11 : decode cX12_third 11 = .ok (.ireturn, 1) := by decide +kernel
theorem dX12_third_12 : decode cX12_third 12 = .ok (.iconst 0, 1) := by decide +kernel
theorem dX12_third_13 : decode cX12_third 13 = .ok (.istore_n 2, 1) := by decide +kernel
theorem dX12_third_14 : decode cX12_third 14 = .ok (.iconst 0, 1) := by decide +kernel
theorem dX12_third_15 : decode cX12_third 15 = .ok (.istore_n 3, 1) := by decide +kernel
theorem dX12_third_16 : decode cX12_third 16 = .ok (.iconst 1, 1) := by decide +kernel
theorem dX12_third_17 : decode cX12_third 17 = .ok (.istore 4, 2) := by decide +kernel
theorem dX12_third_19 : decode cX12_third 19 = .ok (.iload 4, 2) := by decide +kernel
theorem dX12_third_21 : decode cX12_third 21 = .ok (.bipush 100, 2) := by decide +kernel
theorem dX12_third_23 : decode cX12_third 23 = .ok (.if_icmp .ge 42, 3) := by decide +kernel
theorem dX12_third_26 : decode cX12_third 26 = .ok (.aload_n 0, 1) := by decide +kernel
theorem dX12_third_27 : decode cX12_third 27 = .ok (.bipush 7, 2) := by decide +kernel
theorem dX12_third_29 : decode cX12_third 29 = .ok (.iconst 1, 1) := by decide +kernel
theorem dX12_third_30 : decode cX12_third 30 = .ok (.iload 4, 2) := by decide +kernel
theorem dX12_third_32 : decode cX12_third 32 = .ok (.invokevirtual 59, 3) := by decide +kernel
theorem dX12_third_35 : decode cX12_third 35 = .ok (.aload_n 0, 1) := by decide +kernel
theorem dX12_third_36 : decode cX12_third 36 = .ok (.invokevirtual 160, 3) := by decide +kernel
theorem dX12_third_39 : decode cX12_third 39 = .ok (.istore 5, 2) := by decide +kernel
theorem dX12_third_41 : decode cX12_third 41 = .ok (.iload 4, 2) := by decide +kernel
theorem dX12_third_43 : decode cX12_third 43 = .ok (.iconst 1, 1) := by decide +kernel
theorem dX12_third_44 : decode cX12_third 44 = .ok (.if_icmp .eq 9, 3) := by decide +kernel
theorem dX12_third_47 : decode cX12_third 47 = .ok (.iload 5, 2) := by decide +kernel
theorem dX12_third_49 : decode cX12_third 49 = .ok (.iload_n 3, 1) := by decide +kernel
theorem dX12_third_50 : decode cX12_third 50 = .ok (.if_icmp .ge 9, 3) := by decide +kernel
theorem dX12_third_53 : decode cX12_third 53 = .ok (.iload 4, 2) := by decide +kernel
theorem dX12_third_55 : decode cX12_third 55 = .ok (.istore_n 2, 1) := by decide +kernel
theorem dX12_third_56 : decode cX12_third 56 = .ok (.iload 5, 2) := by decide +kernel
theorem dX12_third_58 : decode cX12_third 58 = .ok (.istore_n 3, 1) := by decide +kernel
theorem dX12_third_59 : decode cX12_third 59 = .ok (.iinc 4 1, 3) := by decide +kernel
theorem dX12_third_62 : decode cX12_third 62 = .ok (.goto (-43), 3) := by decide +kernel
theorem dX12_third_65 : decode cX12_third 65 = .ok (.iload_n 1, 1) := by decide +kernel
theorem dX12_third_66 : decode cX12_third 66 = .ok (.ifCond .ne 7, 3) := by decide +kernel
theorem dX12_third_69 : decode cX12_third 69 = .ok (.iload_n 2, 1) := by decide +kernel
theorem dX12_third_70 : decode cX12_third 70 = .ok (.goto 4, 3) := by decide +kernel
theorem dX12_third_73 : decode cX12_third 73 = .ok (.iload_n 3, 1) := by decide +kernel
theorem dX12_third_74 : decode cX12_third 74 = .ok (.ireturn, 1) := by decide +kernel
theorem dX12_worn_0 : decode cX12_worn 0 = .ok (.aload_n 0, 1) := by decide +kernel
theorem dX12_worn_1 : decode cX12_worn 1 = .ok (.getfield 7, 3) := by decide +kernel
theorem dX12_worn_4 : decode cX12_worn 4 = .ok (.iconst 0, 1) := by decide +kernel
theorem dX12_worn_5 : decode cX12_worn 5 = .ok (.iaload, 1) := by decide +kernel
theorem dX12_worn_6 : decode cX12_worn 6 = .ok (.istore_n 2, 1) := by decide +kernel
theorem dX12_worn_7 : decode cX12_worn 7 = .ok (.aload_n 0, 1) := by decide +kernel
theorem dX12_worn_8 : decode cX12_worn 8 = .ok (.getfield 7, 3) := by decide +kernel
theorem dX12_worn_11 : decode cX12_worn 11 = .ok (.iconst 1, 1) := by decide +kernel
theorem dX12_worn_12 : decode cX12_worn 12 = .ok (.iaload, 1) := by decide +kernel
theorem dX12_worn_13 : decode cX12_worn 13 = .ok (.istore_n 3, 1) := by decide +kernel
theorem dX12_worn_14 : decode cX12_worn 14 = .ok (.iload_n 1, 1) := by decide +kernel
theorem dX12_worn_15 : decode cX12_worn 15 = .ok (.i2l, 1) := by decide +kernel
theorem dX12_worn_16 : decode cX12_worn 16 = .ok (.lconst 0, 1) := by decide +kernel
theorem dX12_worn_17 : decode cX12_worn 17 = .ok (.ldc2_w 192, 3) := by decide +kernel
theorem dX12_worn_20 : decode cX12_worn 20 = .ok (.invokestatic 71, 3) := by decide +kernel
theorem dX12_worn_23 : decode cX12_worn 23 = .ok (.ifCond .eq 13, 3) := by decide +kernel
theorem dX12_worn_26 : decode cX12_worn 26 = .ok (.iload_n 1, 1) := by decide +kernel
theorem dX12_worn_27 : decode cX12_worn 27 = .ok (.iload_n 2, 1) := by decide +kernel
theorem dX12_worn_28 : decode cX12_worn 28 = .ok (.if_icmp .ge 8, 3) := by decide +kernel
theorem dX12_worn_31 : decode cX12_worn 31 = .ok (.iload_n 1, 1) := by decide +kernel
theorem dX12_worn_32 : decode cX12_worn 32 = .ok (.iload_n 3, 1) := by decide +kernel
theorem dX12_worn_33 : decode cX12_worn 33 = .ok (.if_icmp .lt 5, 3) := by decide +kernel
theorem dX12_worn_36 : decode cX12_worn 36 = .ok (.iconst (-1), 1) := by decide +kernel
theorem dX12_worn_37 : decode cX12_worn 37 = .ok (.ireturn, 1) := by decide +kernel
theorem dX12_worn_38 : decode cX12_worn 38 = .ok (.iconst 1, 1) := by decide +kernel
theorem dX12_worn_39 : decode cX12_worn 39 = .ok (.istore 4, 2) := by decide +kernel
theorem dX12_worn_41 : decode cX12_worn 41 = .ok (.iload 4, 2) := by decide +kernel
theorem dX12_worn_43 : decode cX12_worn 43 = .ok (.sipush 10000, 3) := by decide +kernel
theorem dX12_worn_46 : decode cX12_worn 46 = .ok (.if_icmp .ge 40, 3) := by decide +kernel
theorem dX12_worn_49 : decode cX12_worn 49 = .ok (.iload 4, 2) := by decide +kernel
theorem dX12_worn_51 : decode cX12_worn 51 = .ok (.iload_n 2, 1) := by decide +kernel
theorem dX12_worn_52 : decode cX12_worn 52 = .ok (.imul, 1) := by decide +kernel
theorem dX12_worn_53 : decode cX12_worn 53 = .ok (.iload_n 3, 1) := by decide +kernel
theorem dX12_worn_54 : decode cX12_worn 54 = .ok (.iload_n 1, 1) := by decide +kernel
theorem dX12_worn_55 : decode cX12_worn 55 = .ok (.isub, 1) := by decide +kernel
theorem dX12_worn_56 : decode cX12_worn 56 = .ok (.idiv, 1) := by decide +kernel
theorem dX12_worn_57 : decode cX12_worn 57 = .ok (.istore 5, 2) := by decide +kernel
theorem dX12_worn_59 : decode cX12_worn 59 = .ok (.iload 5, 2) := by decide +kernel
theorem dX12_worn_61 : decode cX12_worn 61 = .ok (.ifCond .le 19, 3) := by decide +kernel
theorem dX12_worn_64 : decode cX12_worn 64 = .ok (.iload 5, 2) := by decide +kernel
theorem dX12_worn_66 : decode cX12_worn 66 = .ok (.iload_n 3, 1) := by decide +kernel
theorem dX12_worn_67 : decode cX12_worn 67 = .ok (.imul, 1) := by decide +kernel
theorem dX12_worn_68 : decode cX12_worn 68 = .ok (.iload 4, 2) := by decide +kernel
theorem dX12_worn_70 : decode cX12_worn 70 = .ok (.iload_n 2, 1) := by decide +kernel
theorem dX12_worn_71 : decode cX12_worn 71 = .ok (.iload_n 1, 1) := by decide +kernel
theorem dX12_worn_72 : decode cX12_worn 72 = .ok (.isub, 1) := by decide +kernel
theorem dX12_worn_73 : decode cX12_worn 73 = .ok (.imul, 1) := by decide +kernel
theorem dX12_worn_74 : decode cX12_worn 74 = .ok (.if_icmp .lt 6, 3) := by decide +kernel
theorem dX12_worn_77 : decode cX12_worn 77 = .ok (.iload 4, 2) := by decide +kernel
theorem dX12_worn_79 : decode cX12_worn 79 = .ok (.ireturn, 1) := by decide +kernel
theorem dX12_worn_80 : decode cX12_worn 80 = .ok (.iinc 4 1, 3) := by decide +kernel
theorem dX12_worn_83 : decode cX12_worn 83 = .ok (.goto (-42), 3) := by decide +kernel
theorem dX12_worn_86 : decode cX12_worn 86 = .ok (.bipush (-4), 2) := by decide +kernel
theorem dX12_worn_88 : decode cX12_worn 88 = .ok (.ireturn, 1) := by decide +kernel
theorem dX12_rateAt_0 : decode cX12_rateAt 0 = .ok (.bipush 31, 2) := by decide +kernel
theorem dX12_rateAt_2 : decode cX12_rateAt 2 = .ok (.bipush 8, 2) := by decide +kernel
theorem dX12_rateAt_4 : decode cX12_rateAt 4 = .ok (.iload_n 0, 1) := by decide +kernel
theorem dX12_rateAt_5 : decode cX12_rateAt 5 = .ok (.imul, 1) := by decide +kernel
theorem dX12_rateAt_6 : decode cX12_rateAt 6 = .ok (.iadd, 1) := by decide +kernel
theorem dX12_rateAt_7 : decode cX12_rateAt 7 = .ok (.iconst 2, 1) := by decide +kernel
theorem dX12_rateAt_8 : decode cX12_rateAt 8 = .ok (.iload_n 1, 1) := by decide +kernel
theorem dX12_rateAt_9 : decode cX12_rateAt 9 = .ok (.imul, 1) := by decide +kernel
theorem dX12_rateAt_10 : decode cX12_rateAt 10 = .ok (.iadd, 1) := by decide +kernel
theorem dX12_rateAt_11 : decode cX12_rateAt 11 = .ok (.ireturn, 1) := by decide +kernel
theorem dX12_isCoin_0 : decode cX12_isCoin 0 = .ok (.iload_n 0, 1) := by decide +kernel
theorem dX12_isCoin_1 : decode cX12_isCoin 1 = .ok (.i2l, 1) := by decide +kernel
theorem dX12_isCoin_2 : decode cX12_isCoin 2 = .ok (.lconst 0, 1) := by decide +kernel
theorem dX12_isCoin_3 : decode cX12_isCoin 3 = .ok (.ldc2_w 96, 3) := by decide +kernel
theorem dX12_isCoin_6 : decode cX12_isCoin 6 = .ok (.invokestatic 71, 3) := by decide +kernel
theorem dX12_isCoin_9 : decode cX12_isCoin 9 = .ok (.ireturn, 1) := by decide +kernel
theorem dX12_rate_0 : decode cX12_rate 0 = .ok (.iload_n 1, 1) := by decide +kernel
theorem dX12_rate_1 : decode cX12_rate 1 = .ok (.invokestatic 194, 3) := by decide +kernel
theorem dX12_rate_4 : decode cX12_rate 4 = .ok (.ifCond .eq 40, 3) := by decide +kernel
theorem dX12_rate_7 : decode cX12_rate 7 = .ok (.iload_n 2, 1) := by decide +kernel
theorem dX12_rate_8 : decode cX12_rate 8 = .ok (.invokestatic 194, 3) := by decide +kernel
theorem dX12_rate_11 : decode cX12_rate 11 = .ok (.ifCond .eq 33, 3) := by decide +kernel
theorem dX12_rate_14 : decode cX12_rate 14 = .ok (.iload_n 1, 1) := by decide +kernel
theorem dX12_rate_15 : decode cX12_rate 15 = .ok (.iload_n 2, 1) := by decide +kernel
theorem dX12_rate_16 : decode cX12_rate 16 = .ok (.if_icmp .eq 28, 3) := by decide +kernel
theorem dX12_rate_19 : decode cX12_rate 19 = .ok (.iload_n 3, 1) := by decide +kernel
theorem dX12_rate_20 : decode cX12_rate 20 = .ok (.i2l, 1) := by decide +kernel
theorem dX12_rate_21 : decode cX12_rate 21 = .ok (.lconst 1, 1) := by decide +kernel
theorem dX12_rate_22 : decode cX12_rate 22 = .ok (.ldc2_w 81, 3) := by decide +kernel
theorem dX12_rate_25 : decode cX12_rate 25 = .ok (.invokestatic 71, 3) := by decide +kernel
theorem dX12_rate_28 : decode cX12_rate 28 = .ok (.ifCond .eq 16, 3) := by decide +kernel
theorem dX12_rate_31 : decode cX12_rate 31 = .ok (.iload 4, 2) := by decide +kernel
theorem dX12_rate_33 : decode cX12_rate 33 = .ok (.i2l, 1) := by decide +kernel
theorem dX12_rate_34 : decode cX12_rate 34 = .ok (.lconst 1, 1) := by decide +kernel
theorem dX12_rate_35 : decode cX12_rate 35 = .ok (.ldc2_w 81, 3) := by decide +kernel
theorem dX12_rate_38 : decode cX12_rate 38 = .ok (.invokestatic 71, 3) := by decide +kernel
theorem dX12_rate_41 : decode cX12_rate 41 = .ok (.ifCond .ne 5, 3) := by decide +kernel
theorem dX12_rate_44 : decode cX12_rate 44 = .ok (.iconst (-1), 1) := by decide +kernel
theorem dX12_rate_45 : decode cX12_rate 45 = .ok (.ireturn, 1) := by decide +kernel
theorem dX12_rate_46 : decode cX12_rate 46 = .ok (.iload_n 1, 1) := by decide +kernel
theorem dX12_rate_47 : decode cX12_rate 47 = .ok (.iload_n 2, 1) := by decide +kernel
theorem dX12_rate_48 : decode cX12_rate 48 = .ok (.invokestatic 197, 3) := by decide +kernel
theorem dX12_rate_51 : decode cX12_rate 51 = .ok (.istore 5, 2) := by decide +kernel
theorem dX12_rate_53 : decode cX12_rate 53 = .ok (.bipush 100, 2) := by decide +kernel
theorem dX12_rate_55 : decode cX12_rate 55 = .ok (.aload_n 0, 1) := by decide +kernel
theorem dX12_rate_56 : decode cX12_rate 56 = .ok (.getfield 7, 3) := by decide +kernel
theorem dX12_rate_59 : decode cX12_rate 59 = .ok (.iload 5, 2) := by decide +kernel
theorem dX12_rate_61 : decode cX12_rate 61 = .ok (.iaload, 1) := by decide +kernel
theorem dX12_rate_62 : decode cX12_rate 62 = .ok (.imul, 1) := by decide +kernel
theorem dX12_rate_63 : decode cX12_rate 63 = .ok (.aload_n 0, 1) := by decide +kernel
theorem dX12_rate_64 : decode cX12_rate 64 = .ok (.getfield 7, 3) := by decide +kernel
theorem dX12_rate_67 : decode cX12_rate 67 = .ok (.iload 5, 2) := by decide +kernel
theorem dX12_rate_69 : decode cX12_rate 69 = .ok (.iconst 1, 1) := by decide +kernel
theorem dX12_rate_70 : decode cX12_rate 70 = .ok (.iadd, 1) := by decide +kernel
theorem dX12_rate_71 : decode cX12_rate 71 = .ok (.iaload, 1) := by decide +kernel
theorem dX12_rate_72 : decode cX12_rate 72 = .ok (.iadd, 1) := by decide +kernel
theorem dX12_rate_73 : decode cX12_rate 73 = .ok (.istore 6, 2) := by decide +kernel
theorem dX12_rate_75 : decode cX12_rate 75 = .ok (.aload_n 0, 1) := by decide +kernel
theorem dX12_rate_76 : decode cX12_rate 76 = .ok (.getfield 7, 3) := by decide +kernel
theorem dX12_rate_79 : decode cX12_rate 79 = .ok (.iload 5, 2) := by decide +kernel
theorem dX12_rate_81 : decode cX12_rate 81 = .ok (.iload_n 3, 1) := by decide +kernel
theorem dX12_rate_82 : decode cX12_rate 82 = .ok (.iastore, 1) := by decide +kernel
theorem dX12_rate_83 : decode cX12_rate 83 = .ok (.aload_n 0, 1) := by decide +kernel
theorem dX12_rate_84 : decode cX12_rate 84 = .ok (.getfield 7, 3) := by decide +kernel
theorem dX12_rate_87 : decode cX12_rate 87 = .ok (.iload 5, 2) := by decide +kernel
theorem dX12_rate_89 : decode cX12_rate 89 = .ok (.iconst 1, 1) := by decide +kernel
theorem dX12_rate_90 : decode cX12_rate 90 = .ok (.iadd, 1) := by decide +kernel
theorem dX12_rate_91 : decode cX12_rate 91 = .ok (.iload 4, 2) := by decide +kernel
theorem dX12_rate_93 : decode cX12_rate 93 = .ok (.iastore, 1) := by decide +kernel
theorem dX12_rate_94 : decode cX12_rate 94 = .ok (.iload 6, 2) := by decide +kernel
theorem dX12_rate_96 : decode cX12_rate 96 = .ok (.ireturn, 1) := by decide +kernel
theorem dX12_gains_0 : decode cX12_gains 0 = .ok (.iconst 0, 1) := by decide +kernel
theorem dX12_gains_1 : decode cX12_gains 1 = .ok (.istore_n 2, 1) := by decide +kernel
theorem dX12_gains_2 : decode cX12_gains 2 = .ok (.iconst 0, 1) := by decide +kernel
theorem dX12_gains_3 : decode cX12_gains 3 = .ok (.istore_n 3, 1) := by decide +kernel
theorem dX12_gains_4 : decode cX12_gains 4 = .ok (.iconst 0, 1) := by decide +kernel
theorem dX12_gains_5 : decode cX12_gains 5 = .ok (.istore 4, 2) := by decide +kernel
theorem dX12_gains_7 : decode cX12_gains 7 = .ok (.lconst 1, 1) := by decide +kernel
theorem dX12_gains_8 : decode cX12_gains 8 = .ok (.lstore 5, 2) := by decide +kernel
theorem dX12_gains_10 : decode cX12_gains 10 = .ok (.lconst 1, 1) := by decide +kernel
theorem dX12_gains_11 : decode cX12_gains 11 = .ok (.lstore 7, 2) := by decide +kernel
theorem dX12_gains_13 : decode cX12_gains 13 = .ok (.iload_n 1, 1) := by decide +kernel
theorem dX12_gains_14 : decode cX12_gains 14 = .ok (.istore 9, 2) := by decide +kernel
theorem dX12_gains_16 : decode cX12_gains 16 = .ok (.iload 9, 2) := by decide +kernel
theorem dX12_gains_18 : decode cX12_gains 18 = .ok (.ifCond .le 104, 3) := by decide +kernel
theorem dX12_gains_21 : decode cX12_gains 21 = .ok (.iload 9, 2) := by decide +kernel
theorem dX12_gains_23 : decode cX12_gains 23 = .ok (.bipush 10, 2) := by decide +kernel
theorem dX12_gains_25 : decode cX12_gains 25 = .ok (.irem, 1) := by decide +kernel
theorem dX12_gains_26 : decode cX12_gains 26 = .ok (.iconst 1, 1) := by decide +kernel
theorem dX12_gains_27 : decode cX12_gains 27 = .ok (.isub, 1) := by decide +kernel
theorem dX12_gains_28 : decode cX12_gains 28 = .ok (.istore 10, 2) := by decide +kernel
theorem dX12_gains_30 : decode cX12_gains 30 = .ok (.iload 10, 2) := by decide +kernel
theorem dX12_gains_32 : decode cX12_gains 32 = .ok (.invokestatic 194, 3) := by decide +kernel
theorem dX12_gains_35 : decode cX12_gains 35 = .ok (.ifCond .eq 12, 3) := by decide +kernel
theorem dX12_gains_38 : decode cX12_gains 38 = .ok (.iload_n 2, 1) := by decide +kernel
theorem dX12_gains_39 : decode cX12_gains 39 = .ok (.iload 10, 2) := by decide +kernel
theorem dX12_gains_41 : decode cX12_gains 41 = .ok (.invokestatic 146, 3) := by decide +kernel
theorem dX12_gains_44 : decode cX12_gains 44 = .ok (.ifCond .eq 5, 3) := by decide +kernel
theorem dX12_gains_47 : decode cX12_gains 47 = .ok (.iconst 0, 1) := by decide +kernel
theorem dX12_gains_48 : decode cX12_gains 48 = .ok (.ireturn, 1) := by decide +kernel
theorem dX12_gains_49 : decode cX12_gains 49 = .ok (.iload_n 2, 1) := by decide +kernel
theorem dX12_gains_50 : decode cX12_gains 50 = .ok (.ifCond .ne 13, 3) := by decide +kernel
theorem dX12_gains_53 : decode cX12_gains 53 = .ok (.iload 10, 2) := by decide +kernel
theorem dX12_gains_55 : decode cX12_gains 55 = .ok (.istore 4, 2) := by decide +kernel
theorem dX12_gains_57 : decode cX12_gains 57 = .ok (.iload 10, 2) := by decide +kernel
theorem dX12_gains_59 : decode cX12_gains 59 = .ok (.istore_n 3, 1) := by decide +kernel
theorem dX12_gains_60 : decode cX12_gains 60 = .ok (.goto 45, 3) := by decide +kernel
theorem dX12_gains_63 : decode cX12_gains 63 = .ok (.lload 5, 2) := by decide +kernel
theorem dX12_gains_65 : decode cX12_gains 65 = .ok (.aload_n 0, 1) := by decide +kernel
theorem dX12_gains_66 : decode cX12_gains 66 = .ok (.getfield 7, 3) := by decide +kernel
theorem dX12_gains_69 : decode cX12_gains 69 = .ok (.iload 10, 2) := by decide +kernel
theorem dX12_gains_71 : decode cX12_gains 71 = .ok (.iload 4, 2) := by decide +kernel
theorem dX12_gains_73 : decode cX12_gains 73 = .ok (.invokestatic 197, 3) := by decide +kernel
theorem dX12_gains_76 : decode cX12_gains 76 = .ok (.iaload, 1) := by decide +kernel
theorem dX12_gains_77 : decode cX12_gains 77 = .ok (.i2l, 1) := by decide +kernel
theorem dX12_gains_78 : decode cX12_gains 78 = .ok (.lmul, 1) := by decide +kernel
theorem dX12_gains_79 : decode cX12_gains 79 = .ok (.lstore 5, 2) := by decide +kernel
theorem dX12_gains_81 : decode cX12_gains 81 = .ok (.lload 7, 2) := by decide +kernel
theorem dX12_gains_83 : decode cX12_gains 83 = .ok (.aload_n 0, 1) := by decide +kernel
theorem dX12_gains_84 : decode cX12_gains 84 = .ok (.getfield 7, 3) := by decide +kernel
theorem dX12_gains_87 : decode cX12_gains 87 = .ok (.iload 10, 2) := by decide +kernel
theorem dX12_gains_89 : decode cX12_gains 89 = .ok (.iload 4, 2) := by decide +kernel
theorem dX12_gains_91 : decode cX12_gains 91 = .ok (.invokestatic 197, 3) := by decide +kernel
theorem dX12_gains_94 : decode cX12_gains 94 = .ok (.iconst 1, 1) := by decide +kernel
theorem dX12_gains_95 : decode cX12_gains 95 = .ok (.iadd, 1) := by decide +kernel
theorem dX12_gains_96 : decode cX12_gains 96 = .ok (.iaload, 1) := by decide +kernel
theorem dX12_gains_97 : decode cX12_gains 97 = .ok (.i2l, 1) := by decide +kernel
theorem dX12_gains_98 : decode cX12_gains 98 = .ok (.lmul, 1) := by decide +kernel
theorem dX12_gains_99 : decode cX12_gains 99 = .ok (.lstore 7, 2) := by decide +kernel
theorem dX12_gains_101 : decode cX12_gains 101 = .ok (.iload 10, 2) := by decide +kernel
theorem dX12_gains_103 : decode cX12_gains 103 = .ok (.istore 4, 2) := by decide +kernel
theorem dX12_gains_105 : decode cX12_gains 105 = .ok (.iload_n 2, 1) := by decide +kernel
theorem dX12_gains_106 : decode cX12_gains 106 = .ok (.iconst 1, 1) := by decide +kernel
theorem dX12_gains_107 : decode cX12_gains 107 = .ok (.iload 10, 2) := by decide +kernel
theorem dX12_gains_109 : decode cX12_gains 109 = .ok (.ishl, 1) := by decide +kernel
theorem dX12_gains_110 : decode cX12_gains 110 = .ok (.ior, 1) := by decide +kernel
theorem dX12_gains_111 : decode cX12_gains 111 = .ok (.istore_n 2, 1) := by decide +kernel
theorem dX12_gains_112 : decode cX12_gains 112 = .ok (.iload 9, 2) := by decide +kernel
theorem dX12_gains_114 : decode cX12_gains 114 = .ok (.bipush 10, 2) := by decide +kernel
theorem dX12_gains_116 : decode cX12_gains 116 = .ok (.idiv, 1) := by decide +kernel
theorem dX12_gains_117 : decode cX12_gains 117 = .ok (.istore 9, 2) := by decide +kernel
theorem dX12_gains_119 : decode cX12_gains 119 = .ok (.goto (-103), 3) := by decide +kernel
theorem dX12_gains_122 : decode cX12_gains 122 = .ok (.iload_n 2, 1) := by decide +kernel
theorem dX12_gains_123 : decode cX12_gains 123 = .ok (.invokestatic 150, 3) := by decide +kernel
theorem dX12_gains_126 : decode cX12_gains 126 = .ok (.iconst 2, 1) := by decide +kernel
theorem dX12_gains_127 : decode cX12_gains 127 = .ok (.if_icmp .lt 14, 3) := by decide +kernel
theorem dX12_gains_130 : decode cX12_gains 130 = .ok (.iload_n 2, 1) := by decide +kernel
theorem dX12_gains_131 : decode cX12_gains 131 = .ok (.iconst 1, 1) := by decide +kernel
theorem dX12_gains_132 : decode cX12_gains 132 = .ok (.iload 4, 2) := by decide +kernel
theorem dX12_gains_134 : decode cX12_gains 134 = .ok (.ishl, 1) := by decide +kernel
theorem dX12_gains_135 : decode cX12_gains 135 = .ok (.iconst 1, 1) := by decide +kernel
theorem dX12_gains_136 : decode cX12_gains 136 = .ok (.isub, 1) := by decide +kernel
theorem dX12_gains_137 : decode cX12_gains 137 = .ok (.iand, 1) := by decide +kernel
theorem dX12_gains_138 : decode cX12_gains 138 = .ok (.ifCond .eq 5, 3) := by decide +kernel
theorem dX12_gains_141 : decode cX12_gains 141 = .ok (.iconst 0, 1) := by decide +kernel
theorem dX12_gains_142 : decode cX12_gains 142 = .ok (.ireturn, 1) := by decide +kernel
theorem dX12_gains_143 : decode cX12_gains 143 = .ok (.lload 5, 2) := by decide +kernel
theorem dX12_gains_145 : decode cX12_gains 145 = .ok (.aload_n 0, 1) := by decide +kernel
theorem dX12_gains_146 : decode cX12_gains 146 = .ok (.getfield 7, 3) := by decide +kernel
theorem dX12_gains_149 : decode cX12_gains 149 = .ok (.iload_n 3, 1) := by decide +kernel
theorem dX12_gains_150 : decode cX12_gains 150 = .ok (.iload 4, 2) := by decide +kernel
theorem dX12_gains_152 : decode cX12_gains 152 = .ok (.invokestatic 197, 3) := by decide +kernel
theorem dX12_gains_155 : decode cX12_gains 155 = .ok (.iaload, 1) := by decide +kernel
theorem dX12_gains_156 : decode cX12_gains 156 = .ok (.i2l, 1) := by decide +kernel
theorem dX12_gains_157 : decode cX12_gains 157 = .ok (.lmul, 1) := by decide +kernel
theorem dX12_gains_158 : decode cX12_gains 158 = .ok (.lstore 5, 2) := by decide +kernel
theorem dX12_gains_160 : decode cX12_gains 160 = .ok (.lload 7, 2) := by decide +kernel
theorem dX12_gains_162 : decode cX12_gains 162 = .ok (.aload_n 0, 1) := by decide +kernel
theorem dX12_gains_163 : decode cX12_gains 163 = .ok (.getfield 7, 3) := by decide +kernel
theorem dX12_gains_166 : decode cX12_gains 166 = .ok (.iload_n 3, 1) := by decide +kernel
theorem dX12_gains_167 : decode cX12_gains 167 = .ok (.iload 4, 2) := by decide +kernel
theorem dX12_gains_169 : decode cX12_gains 169 = .ok (.invokestatic 197, 3) := by decide +kernel
theorem dX12_gains_172 : decode cX12_gains 172 = .ok (.iconst 1, 1) := by decide +kernel
theorem dX12_gains_173 : decode cX12_gains 173 = .ok (.iadd, 1) := by decide +kernel
theorem dX12_gains_174 : decode cX12_gains 174 = .ok (.iaload, 1) := by decide +kernel
theorem dX12_gains_175 : decode cX12_gains 175 = .ok (.i2l, 1) := by decide +kernel
theorem dX12_gains_176 : decode cX12_gains 176 = .ok (.lmul, 1) := by decide +kernel
theorem dX12_gains_177 : decode cX12_gains 177 = .ok (.lstore 7, 2) := by decide +kernel
theorem dX12_gains_179 : decode cX12_gains 179 = .ok (.lload 5, 2) := by decide +kernel
theorem dX12_gains_181 : decode cX12_gains 181 = .ok (.lload 7, 2) := by decide +kernel
theorem dX12_gains_183 : decode cX12_gains 183 = .ok (.lcmp, 1) := by decide +kernel
theorem dX12_gains_184 : decode cX12_gains 184 = .ok (.ifCond .le 7, 3) := by decide +kernel
theorem dX12_gains_187 : decode cX12_gains 187 = .ok (.iconst 1, 1) := by decide +kernel
theorem dX12_gains_188 : decode cX12_gains 188 = .ok (.goto 4, 3) := by decide +kernel
theorem dX12_gains_191 : decode cX12_gains 191 = .ok (.iconst 0, 1) := by decide +kernel
theorem dX12_gains_192 : decode cX12_gains 192 = .ok (.ireturn, 1) := by decide +kernel
theorem dX12_rings_0 : decode cX12_rings 0 = .ok (.iload_n 1, 1) := by decide +kernel
theorem dX12_rings_1 : decode cX12_rings 1 = .ok (.i2l, 1) := by decide +kernel
theorem dX12_rings_2 : decode cX12_rings 2 = .ok (.lconst 0, 1) := by decide +kernel
theorem dX12_rings_3 : decode cX12_rings 3 = .ok (.lconst 1, 1) := by decide +kernel
theorem dX12_rings_4 : decode cX12_rings 4 = .ok (.invokestatic 71, 3) := by decide +kernel
theorem dX12_rings_7 : decode cX12_rings 7 = .ok (.ifCond .ne 5, 3) := by decide +kernel
theorem dX12_rings_10 : decode cX12_rings 10 = .ok (.iconst (-1), 1) := by decide +kernel
theorem dX12_rings_11 : decode cX12_rings 11 = .ok (.ireturn, 1) := by decide +kernel
theorem dX12_rings_12 : decode cX12_rings 12 = .ok (.iconst 0, 1) := by decide +kernel
theorem dX12_rings_13 : decode cX12_rings 13 = .ok (.istore_n 2, 1) := by decide +kernel
theorem dX12_rings_14 : decode cX12_rings 14 = .ok (.bipush (-4), 2) := by decide +kernel
theorem dX12_rings_16 : decode cX12_rings 16 = .ok (.istore_n 3, 1) := by decide +kernel
theorem dX12_rings_17 : decode cX12_rings 17 = .ok (.bipush 12, 2) := by decide +kernel
theorem dX12_rings_19 : decode cX12_rings 19 = .ok (.istore 4, 2) := by decide +kernel
theorem dX12_rings_21 : decode cX12_rings 21 = .ok (.iload 4, 2) := by decide +kernel
theorem dX12_rings_23 : decode cX12_rings 23 = .ok (.sipush 4322, 3) := by decide +kernel
theorem dX12_rings_26 : decode cX12_rings 26 = .ok (.if_icmp .ge 32, 3) := by decide +kernel
theorem dX12_rings_29 : decode cX12_rings 29 = .ok (.aload_n 0, 1) := by decide +kernel
theorem dX12_rings_30 : decode cX12_rings 30 = .ok (.iload 4, 2) := by decide +kernel
theorem dX12_rings_32 : decode cX12_rings 32 = .ok (.invokevirtual 200, 3) := by decide +kernel
theorem dX12_rings_35 : decode cX12_rings 35 = .ok (.ifCond .eq 17, 3) := by decide +kernel
theorem dX12_rings_38 : decode cX12_rings 38 = .ok (.iload_n 2, 1) := by decide +kernel
theorem dX12_rings_39 : decode cX12_rings 39 = .ok (.ifCond .ne 8, 3) := by decide +kernel
theorem dX12_rings_42 : decode cX12_rings 42 = .ok (.iload 4, 2) := by decide +kernel
theorem dX12_rings_44 : decode cX12_rings 44 = .ok (.goto 4, 3) := by decide +kernel
theorem dX12_rings_47 : decode cX12_rings 47 = .ok (.iload_n 3, 1) := by decide +kernel
theorem dX12_rings_48 : decode cX12_rings 48 = .ok (.istore_n 3, 1) := by decide +kernel
theorem dX12_rings_49 : decode cX12_rings 49 = .ok (.iinc 2 1, 3) := by decide +kernel
theorem dX12_rings_52 : decode cX12_rings 52 = .ok (.iinc 4 1, 3) := by decide +kernel
theorem dX12_rings_55 : decode cX12_rings 55 = .ok (.goto (-34), 3) := by decide +kernel
theorem dX12_rings_58 : decode cX12_rings 58 = .ok (.iload_n 1, 1) := by decide +kernel
theorem dX12_rings_59 : decode cX12_rings 59 = .ok (.ifCond .ne 7, 3) := by decide +kernel
theorem dX12_rings_62 : decode cX12_rings 62 = .ok (.iload_n 2, 1) := by decide +kernel
theorem dX12_rings_63 : decode cX12_rings 63 = .ok (.goto 4, 3) := by decide +kernel
theorem dX12_rings_66 : decode cX12_rings 66 = .ok (.iload_n 3, 1) := by decide +kernel
theorem dX12_rings_67 : decode cX12_rings 67 = .ok (.ireturn, 1) := by decide +kernel
theorem dX12_turn_0 : decode cX12_turn 0 = .ok (.iload_n 1, 1) := by decide +kernel
theorem dX12_turn_1 : decode cX12_turn 1 = .ok (.invokestatic 194, 3) := by decide +kernel
theorem dX12_turn_4 : decode cX12_turn 4 = .ok (.ifCond .eq 43, 3) := by decide +kernel
theorem dX12_turn_7 : decode cX12_turn 7 = .ok (.iload_n 2, 1) := by decide +kernel
theorem dX12_turn_8 : decode cX12_turn 8 = .ok (.i2l, 1) := by decide +kernel
theorem dX12_turn_9 : decode cX12_turn 9 = .ok (.lconst 0, 1) := by decide +kernel
theorem dX12_turn_10 : decode cX12_turn 10 = .ok (.ldc2_w 83, 3) := by decide +kernel
theorem dX12_turn_13 : decode cX12_turn 13 = .ok (.invokestatic 71, 3) := by decide +kernel
theorem dX12_turn_16 : decode cX12_turn 16 = .ok (.ifCond .eq 31, 3) := by decide +kernel
theorem dX12_turn_19 : decode cX12_turn 19 = .ok (.iload_n 3, 1) := by decide +kernel
theorem dX12_turn_20 : decode cX12_turn 20 = .ok (.i2l, 1) := by decide +kernel
theorem dX12_turn_21 : decode cX12_turn 21 = .ok (.lconst 1, 1) := by decide +kernel
theorem dX12_turn_22 : decode cX12_turn 22 = .ok (.ldc2_w 77, 3) := by decide +kernel
theorem dX12_turn_25 : decode cX12_turn 25 = .ok (.invokestatic 71, 3) := by decide +kernel
theorem dX12_turn_28 : decode cX12_turn 28 = .ok (.ifCond .eq 19, 3) := by decide +kernel
theorem dX12_turn_31 : decode cX12_turn 31 = .ok (.iload 4, 2) := by decide +kernel
theorem dX12_turn_33 : decode cX12_turn 33 = .ok (.i2l, 1) := by decide +kernel
theorem dX12_turn_34 : decode cX12_turn 34 = .ok (.ldc2_w 85, 3) := by decide +kernel
theorem dX12_turn_37 : decode cX12_turn 37 = .ok (.iload_n 3, 1) := by decide +kernel
theorem dX12_turn_38 : decode cX12_turn 38 = .ok (.iconst 1, 1) := by decide +kernel
theorem dX12_turn_39 : decode cX12_turn 39 = .ok (.isub, 1) := by decide +kernel
theorem dX12_turn_40 : decode cX12_turn 40 = .ok (.i2l, 1) := by decide +kernel
theorem dX12_turn_41 : decode cX12_turn 41 = .ok (.invokestatic 71, 3) := by decide +kernel
theorem dX12_turn_44 : decode cX12_turn 44 = .ok (.ifCond .ne 7, 3) := by decide +kernel
theorem dX12_turn_47 : decode cX12_turn 47 = .ok (.ldc2_w 85, 3) := by decide +kernel
theorem dX12_turn_50 : decode cX12_turn 50 = .ok (.lreturn, 1) := by decide +kernel
theorem dX12_turn_51 : decode cX12_turn 51 = .ok (.iload_n 3, 1) := by decide +kernel
theorem dX12_turn_52 : decode cX12_turn 52 = .ok (.iconst 1, 1) := by decide +kernel
theorem dX12_turn_53 : decode cX12_turn 53 = .ok (.if_icmp .ne 7, 3) := by decide +kernel
theorem dX12_turn_56 : decode cX12_turn 56 = .ok (.ldc2_w 190, 3) := by decide +kernel
theorem dX12_turn_59 : decode cX12_turn 59 = .ok (.lreturn, 1) := by decide +kernel
theorem dX12_turn_60 : decode cX12_turn 60 = .ok (.ldc2_w 85, 3) := by decide +kernel
theorem dX12_turn_63 : decode cX12_turn 63 = .ok (.lstore 5, 2) := by decide +kernel
theorem dX12_turn_65 : decode cX12_turn 65 = .ok (.iconst 0, 1) := by decide +kernel
theorem dX12_turn_66 : decode cX12_turn 66 = .ok (.istore 7, 2) := by decide +kernel
theorem dX12_turn_68 : decode cX12_turn 68 = .ok (.iconst 0, 1) := by decide +kernel
theorem dX12_turn_69 : decode cX12_turn 69 = .ok (.istore 8, 2) := by decide +kernel
theorem dX12_turn_71 : decode cX12_turn 71 = .ok (.iload 8, 2) := by decide +kernel
theorem dX12_turn_73 : decode cX12_turn 73 = .ok (.iconst 1, 1) := by decide +kernel
theorem dX12_turn_74 : decode cX12_turn 74 = .ok (.iconst 2, 1) := by decide +kernel
theorem dX12_turn_75 : decode cX12_turn 75 = .ok (.iload_n 3, 1) := by decide +kernel
theorem dX12_turn_76 : decode cX12_turn 76 = .ok (.iconst 1, 1) := by decide +kernel
theorem dX12_turn_77 : decode cX12_turn 77 = .ok (.isub, 1) := by decide +kernel
theorem dX12_turn_78 : decode cX12_turn 78 = .ok (.imul, 1) := by decide +kernel
theorem dX12_turn_79 : decode cX12_turn 79 = .ok (.ishl, 1) := by decide +kernel
theorem dX12_turn_80 : decode cX12_turn 80 = .ok (.if_icmp .ge 139, 3) := by decide +kernel
theorem dX12_turn_83 : decode cX12_turn 83 = .ok (.iload_n 2, 1) := by decide +kernel
theorem dX12_turn_84 : decode cX12_turn 84 = .ok (.i2l, 1) := by decide +kernel
theorem dX12_turn_85 : decode cX12_turn 85 = .ok (.lstore 9, 2) := by decide +kernel
theorem dX12_turn_87 : decode cX12_turn 87 = .ok (.iload_n 1, 1) := by decide +kernel
theorem dX12_turn_88 : decode cX12_turn 88 = .ok (.istore 11, 2) := by decide +kernel
theorem dX12_turn_90 : decode cX12_turn 90 = .ok (.iconst 1, 1) := by decide +kernel
theorem dX12_turn_91 : decode cX12_turn 91 = .ok (.istore 12, 2) := by decide +kernel
theorem dX12_turn_93 : decode cX12_turn 93 = .ok (.iconst 0, 1) := by decide +kernel
theorem dX12_turn_94 : decode cX12_turn 94 = .ok (.istore 13, 2) := by decide +kernel
theorem dX12_turn_96 : decode cX12_turn 96 = .ok (.iload 13, 2) := by decide +kernel
theorem dX12_turn_98 : decode cX12_turn 98 = .ok (.iload_n 3, 1) := by decide +kernel
theorem dX12_turn_99 : decode cX12_turn 99 = .ok (.if_icmp .ge 93, 3) := by decide +kernel
theorem dX12_turn_102 : decode cX12_turn 102 = .ok (.iload 13, 2) := by decide +kernel
theorem dX12_turn_104 : decode cX12_turn 104 = .ok (.iload_n 3, 1) := by decide +kernel
theorem dX12_turn_105 : decode cX12_turn 105 = .ok (.iconst 1, 1) := by decide +kernel
theorem dX12_turn_106 : decode cX12_turn 106 = .ok (.isub, 1) := by decide +kernel
theorem dX12_turn_107 : decode cX12_turn 107 = .ok (.if_icmp .ne 7, 3) := by decide +kernel
theorem dX12_turn_110 : decode cX12_turn 110 = .ok (.iload_n 1, 1) := by decide +kernel
theorem dX12_turn_111 : decode cX12_turn 111 = .ok (.goto 16, 3) := by decide +kernel
theorem dX12_turn_114 : decode cX12_turn 114 = .ok (.iload 8, 2) := by decide +kernel
theorem dX12_turn_116 : decode cX12_turn 116 = .ok (.iconst 2, 1) := by decide +kernel
theorem dX12_turn_117 : decode cX12_turn 117 = .ok (.iload_n 3, 1) := by decide +kernel
theorem dX12_turn_118 : decode cX12_turn 118 = .ok (.iconst 2, 1) := by decide +kernel
theorem dX12_turn_119 : decode cX12_turn 119 = .ok (.isub, 1) := by decide +kernel
theorem dX12_turn_120 : decode cX12_turn 120 = .ok (.iload 13, 2) := by decide +kernel
theorem dX12_turn_122 : decode cX12_turn 122 = .ok (.isub, 1) := by decide +kernel
theorem dX12_turn_123 : decode cX12_turn 123 = .ok (.imul, 1) := by decide +kernel
theorem dX12_turn_124 : decode cX12_turn 124 = .ok (.ishr, 1) := by decide +kernel
theorem dX12_turn_125 : decode cX12_turn 125 = .ok (.iconst 3, 1) := by decide +kernel
theorem dX12_turn_126 : decode cX12_turn 126 = .ok (.iand, 1) := by decide +kernel
theorem dX12_turn_127 : decode cX12_turn 127 = .ok (.istore 14, 2) := by decide +kernel
theorem dX12_turn_129 : decode cX12_turn 129 = .ok (.iload 12, 2) := by decide +kernel
theorem dX12_turn_131 : decode cX12_turn 131 = .ok (.ifCond .eq 14, 3) := by decide +kernel
theorem dX12_turn_134 : decode cX12_turn 134 = .ok (.iload 14, 2) := by decide +kernel
theorem dX12_turn_136 : decode cX12_turn 136 = .ok (.iload 11, 2) := by decide +kernel
theorem dX12_turn_138 : decode cX12_turn 138 = .ok (.if_icmp .eq 7, 3) := by decide +kernel
theorem dX12_turn_141 : decode cX12_turn 141 = .ok (.iconst 1, 1) := by decide +kernel
theorem dX12_turn_142 : decode cX12_turn 142 = .ok (.goto 4, 3) := by decide +kernel
theorem dX12_turn_145 : decode cX12_turn 145 = .ok (.iconst 0, 1) := by decide +kernel
theorem dX12_turn_146 : decode cX12_turn 146 = .ok (.istore 12, 2) := by decide +kernel
theorem dX12_turn_148 : decode cX12_turn 148 = .ok (.lload 9, 2) := by decide +kernel
theorem dX12_turn_150 : decode cX12_turn 150 = .ok (.aload_n 0, 1) := by decide +kernel
theorem dX12_turn_151 : decode cX12_turn 151 = .ok (.getfield 7, 3) := by decide +kernel
theorem dX12_turn_154 : decode cX12_turn 154 = .ok (.iload 11, 2) := by decide +kernel
theorem dX12_turn_156 : decode cX12_turn 156 = .ok (.iload 14, 2) := by decide +kernel
theorem dX12_turn_158 : decode cX12_turn 158 = .ok (.invokestatic 197, 3) := by decide +kernel
theorem dX12_turn_161 : decode cX12_turn 161 = .ok (.iaload, 1) := by decide +kernel
theorem dX12_turn_162 : decode cX12_turn 162 = .ok (.i2l, 1) := by decide +kernel
theorem dX12_turn_163 : decode cX12_turn 163 = .ok (.lmul, 1) := by decide +kernel
theorem dX12_turn_164 : decode cX12_turn 164 = .ok (.aload_n 0, 1) := by decide +kernel
theorem dX12_turn_165 : decode cX12_turn 165 = .ok (.getfield 7, 3) := by decide +kernel
theorem dX12_turn_168 : decode cX12_turn 168 = .ok (.iload 11, 2) := by decide +kernel
theorem dX12_turn_170 : decode cX12_turn 170 = .ok (.iload 14, 2) := by decide +kernel
theorem dX12_turn_172 : decode cX12_turn 172 = .ok (.invokestatic 197, 3) := by decide +kernel
theorem dX12_turn_175 : decode cX12_turn 175 = .ok (.iconst 1, 1) := by decide +kernel
theorem dX12_turn_176 : decode cX12_turn 176 = .ok (.iadd, 1) := by decide +kernel
theorem dX12_turn_177 : decode cX12_turn 177 = .ok (.iaload, 1) := by decide +kernel
theorem dX12_turn_178 : decode cX12_turn 178 = .ok (.i2l, 1) := by decide +kernel
theorem dX12_turn_179 : decode cX12_turn 179 = .ok (.ldiv, 1) := by decide +kernel
theorem dX12_turn_180 : decode cX12_turn 180 = .ok (.lstore 9, 2) := by decide +kernel
theorem dX12_turn_182 : decode cX12_turn 182 = .ok (.iload 14, 2) := by decide +kernel
theorem dX12_turn_184 : decode cX12_turn 184 = .ok (.istore 11, 2) := by decide +kernel
theorem dX12_turn_186 : decode cX12_turn 186 = .ok (.iinc 13 1, 3) := by decide +kernel
theorem dX12_turn_189 : decode cX12_turn 189 = .ok (.goto (-93), 3) := by decide +kernel
theorem dX12_turn_192 : decode cX12_turn 192 = .ok (.iload 12, 2) := by decide +kernel
theorem dX12_turn_194 : decode cX12_turn 194 = .ok (.ifCond .eq 19, 3) := by decide +kernel
theorem dX12_turn_197 : decode cX12_turn 197 = .ok (.lload 9, 2) := by decide +kernel
theorem dX12_turn_199 : decode cX12_turn 199 = .ok (.lload 5, 2) := by decide +kernel
theorem dX12_turn_201 : decode cX12_turn 201 = .ok (.lcmp, 1) := by decide +kernel
theorem dX12_turn_202 : decode cX12_turn 202 = .ok (.ifCond .le 11, 3) := by decide +kernel
theorem dX12_turn_205 : decode cX12_turn 205 = .ok (.lload 9, 2) := by decide +kernel
theorem dX12_turn_207 : decode cX12_turn 207 = .ok (.lstore 5, 2) := by decide +kernel
theorem dX12_turn_209 : decode cX12_turn 209 = .ok (.iload 8, 2) := by decide +kernel
theorem dX12_turn_211 : decode cX12_turn 211 = .ok (.istore 7, 2) := by decide +kernel
theorem dX12_turn_213 : decode cX12_turn 213 = .ok (.iinc 8 1, 3) := by decide +kernel
theorem dX12_turn_216 : decode cX12_turn 216 = .ok (.goto (-145), 3) := by decide +kernel
theorem dX12_turn_219 : decode cX12_turn 219 = .ok (.iload 4, 2) := by decide +kernel
theorem dX12_turn_221 : decode cX12_turn 221 = .ok (.ifCond .ge 8, 3) := by decide +kernel
theorem dX12_turn_224 : decode cX12_turn 224 = .ok (.lload 5, 2) := by decide +kernel
theorem dX12_turn_226 : decode cX12_turn 226 = .ok (.goto 30, 3) := by decide +kernel
theorem dX12_turn_229 : decode cX12_turn 229 = .ok (.iload 4, 2) := by decide +kernel
theorem dX12_turn_231 : decode cX12_turn 231 = .ok (.iload_n 3, 1) := by decide +kernel
theorem dX12_turn_232 : decode cX12_turn 232 = .ok (.iconst 1, 1) := by decide +kernel
theorem dX12_turn_233 : decode cX12_turn 233 = .ok (.isub, 1) := by decide +kernel
theorem dX12_turn_234 : decode cX12_turn 234 = .ok (.if_icmp .ne 8, 3) := by decide +kernel
theorem dX12_turn_237 : decode cX12_turn 237 = .ok (.iload_n 1, 1) := by decide +kernel
theorem dX12_turn_238 : decode cX12_turn 238 = .ok (.i2l, 1) := by decide +kernel
theorem dX12_turn_239 : decode cX12_turn 239 = .ok (.goto 17, 3) := by decide +kernel
theorem dX12_turn_242 : decode cX12_turn 242 = .ok (.iload 7, 2) := by decide +kernel
theorem dX12_turn_244 : decode cX12_turn 244 = .ok (.iconst 2, 1) := by decide +kernel
theorem dX12_turn_245 : decode cX12_turn 245 = .ok (.iload_n 3, 1) := by decide +kernel
theorem dX12_turn_246 : decode cX12_turn 246 = .ok (.iconst 2, 1) := by decide +kernel
theorem dX12_turn_247 : decode cX12_turn 247 = .ok (.isub, 1) := by decide +kernel
theorem dX12_turn_248 : decode cX12_turn 248 = .ok (.iload 4, 2) := by decide +kernel
theorem dX12_turn_250 : decode cX12_turn 250 = .ok (.isub, 1) := by decide +kernel
theorem dX12_turn_251 : decode cX12_turn 251 = .ok (.imul, 1) := by decide +kernel
theorem dX12_turn_252 : decode cX12_turn 252 = .ok (.ishr, 1) := by decide +kernel
theorem dX12_turn_253 : decode cX12_turn 253 = .ok (.iconst 3, 1) := by decide +kernel
theorem dX12_turn_254 : decode cX12_turn 254 = .ok (.iand, 1) := by decide +kernel
theorem dX12_turn_255 : decode cX12_turn 255 = .ok (.i2l, 1) := by decide +kernel
theorem dX12_turn_256 : decode cX12_turn 256 = .ok (.lreturn, 1) := by decide +kernel
theorem dX12_image_0 : decode cX12_image 0 = .ok (.iconst 0, 1) := by decide +kernel
theorem dX12_image_1 : decode cX12_image 1 = .ok (.istore_n 1, 1) := by decide +kernel
theorem dX12_image_2 : decode cX12_image 2 = .ok (.iload_n 1, 1) := by decide +kernel
theorem dX12_image_3 : decode cX12_image 3 = .ok (.bipush 70, 2) := by decide +kernel
theorem dX12_image_5 : decode cX12_image 5 = .ok (.if_icmp .ge 24, 3) := by decide +kernel
theorem dX12_image_8 : decode cX12_image 8 = .ok (.aload_n 0, 1) := by decide +kernel
theorem dX12_image_9 : decode cX12_image 9 = .ok (.getfield 7, 3) := by decide +kernel
theorem dX12_image_12 : decode cX12_image 12 = .ok (.bipush 70, 2) := by decide +kernel
theorem dX12_image_14 : decode cX12_image 14 = .ok (.iload_n 1, 1) := by decide +kernel
theorem dX12_image_15 : decode cX12_image 15 = .ok (.iadd, 1) := by decide +kernel
theorem dX12_image_16 : decode cX12_image 16 = .ok (.aload_n 0, 1) := by decide +kernel
theorem dX12_image_17 : decode cX12_image 17 = .ok (.getfield 7, 3) := by decide +kernel
theorem dX12_image_20 : decode cX12_image 20 = .ok (.iload_n 1, 1) := by decide +kernel
theorem dX12_image_21 : decode cX12_image 21 = .ok (.iaload, 1) := by decide +kernel
theorem dX12_image_22 : decode cX12_image 22 = .ok (.iastore, 1) := by decide +kernel
theorem dX12_image_23 : decode cX12_image 23 = .ok (.iinc 1 1, 3) := by decide +kernel
theorem dX12_image_26 : decode cX12_image 26 = .ok (.goto (-24), 3) := by decide +kernel
theorem dX12_image_29 : decode cX12_image 29 = .ok (.aload_n 0, 1) := by decide +kernel
theorem dX12_image_30 : decode cX12_image 30 = .ok (.iconst 1, 1) := by decide +kernel
theorem dX12_image_31 : decode cX12_image 31 = .ok (.putfield 203, 3) := by decide +kernel
theorem dX12_image_34 : decode cX12_image 34 = .ok (.iconst 1, 1) := by decide +kernel
theorem dX12_image_35 : decode cX12_image 35 = .ok (.ireturn, 1) := by decide +kernel
theorem dX12_restore_0 : decode cX12_restore 0 = .ok (.aload_n 0, 1) := by decide +kernel
theorem dX12_restore_1 : decode cX12_restore 1 = .ok (.getfield 203, 3) := by decide +kernel
theorem dX12_restore_4 : decode cX12_restore 4 = .ok (.ifCond .ne 6, 3) := by decide +kernel
theorem dX12_restore_7 : decode cX12_restore 7 = .ok (.bipush (-4), 2) := by decide +kernel
theorem dX12_restore_9 : decode cX12_restore 9 = .ok (.ireturn, 1) := by decide +kernel
theorem dX12_restore_10 : decode cX12_restore 10 = .ok (.iconst 0, 1) := by decide +kernel
theorem dX12_restore_11 : decode cX12_restore 11 = .ok (.istore_n 1, 1) := by decide +kernel
theorem dX12_restore_12 : decode cX12_restore 12 = .ok (.iload_n 1, 1) := by decide +kernel
theorem dX12_restore_13 : decode cX12_restore 13 = .ok (.bipush 70, 2) := by decide +kernel
theorem dX12_restore_15 : decode cX12_restore 15 = .ok (.if_icmp .ge 24, 3) := by decide +kernel
theorem dX12_restore_18 : decode cX12_restore 18 = .ok (.aload_n 0, 1) := by decide +kernel
theorem dX12_restore_19 : decode cX12_restore 19 = .ok (.getfield 7, 3) := by decide +kernel
theorem dX12_restore_22 : decode cX12_restore 22 = .ok (.iload_n 1, 1) := by decide +kernel
theorem dX12_restore_23 : decode cX12_restore 23 = .ok (.aload_n 0, 1) := by decide +kernel
theorem dX12_restore_24 : decode cX12_restore 24 = .ok (.getfield 7, 3) := by decide +kernel
theorem dX12_restore_27 : decode cX12_restore 27 = .ok (.bipush 70, 2) := by decide +kernel
theorem dX12_restore_29 : decode cX12_restore 29 = .ok (.iload_n 1, 1) := by decide +kernel
theorem dX12_restore_30 : decode cX12_restore 30 = .ok (.iadd, 1) := by decide +kernel
theorem dX12_restore_31 : decode cX12_restore 31 = .ok (.iaload, 1) := by decide +kernel
theorem dX12_restore_32 : decode cX12_restore 32 = .ok (.iastore, 1) := by decide +kernel
theorem dX12_restore_33 : decode cX12_restore 33 = .ok (.iinc 1 1, 3) := by decide +kernel
theorem dX12_restore_36 : decode cX12_restore 36 = .ok (.goto (-24), 3) := by decide +kernel
theorem dX12_restore_39 : decode cX12_restore 39 = .ok (.iconst 1, 1) := by decide +kernel
theorem dX12_restore_40 : decode cX12_restore 40 = .ok (.ireturn, 1) := by decide +kernel
theorem dX12_isSheet_0 : decode cX12_isSheet 0 = .ok (.iload_n 0, 1) := by decide +kernel
theorem dX12_isSheet_1 : decode cX12_isSheet 1 = .ok (.i2l, 1) := by decide +kernel
theorem dX12_isSheet_2 : decode cX12_isSheet 2 = .ok (.lconst 0, 1) := by decide +kernel
theorem dX12_isSheet_3 : decode cX12_isSheet 3 = .ok (.ldc2_w 96, 3) := by decide +kernel
theorem dX12_isSheet_6 : decode cX12_isSheet 6 = .ok (.invokestatic 71, 3) := by decide +kernel
theorem dX12_isSheet_9 : decode cX12_isSheet 9 = .ok (.ireturn, 1) := by decide +kernel
theorem dX12_bars_0 : decode cX12_bars 0 = .ok (.aload_n 0, 1) := by decide +kernel
theorem dX12_bars_1 : decode cX12_bars 1 = .ok (.getfield 32, 3) := by decide +kernel
theorem dX12_bars_4 : decode cX12_bars 4 = .ok (.iload_n 1, 1) := by decide +kernel
theorem dX12_bars_5 : decode cX12_bars 5 = .ok (.iaload, 1) := by decide +kernel
theorem dX12_bars_6 : decode cX12_bars 6 = .ok (.ifCond .ge 8, 3) := by decide +kernel
theorem dX12_bars_9 : decode cX12_bars 9 = .ok (.bipush (-11), 2) := by decide +kernel
theorem dX12_bars_11 : decode cX12_bars 11 = .ok (.goto 50, 3) := by decide +kernel
theorem dX12_bars_14 : decode cX12_bars 14 = .ok (.aload_n 0, 1) := by decide +kernel
theorem dX12_bars_15 : decode cX12_bars 15 = .ok (.getfield 32, 3) := by decide +kernel
theorem dX12_bars_18 : decode cX12_bars 18 = .ok (.iload_n 1, 1) := by decide +kernel
theorem dX12_bars_19 : decode cX12_bars 19 = .ok (.iaload, 1) := by decide +kernel
theorem dX12_bars_20 : decode cX12_bars 20 = .ok (.iload_n 2, 1) := by decide +kernel
theorem dX12_bars_21 : decode cX12_bars 21 = .ok (.if_icmp .eq 8, 3) := by decide +kernel
theorem dX12_bars_24 : decode cX12_bars 24 = .ok (.bipush (-12), 2) := by decide +kernel
theorem dX12_bars_26 : decode cX12_bars 26 = .ok (.goto 35, 3) := by decide +kernel
theorem dX12_bars_29 : decode cX12_bars 29 = .ok (.iload_n 3, 1) := by decide +kernel
theorem dX12_bars_30 : decode cX12_bars 30 = .ok (.ifCond .lt 25, 3) := by decide +kernel
theorem dX12_bars_33 : decode cX12_bars 33 = .ok (.iload 4, 2) := by decide +kernel
theorem dX12_bars_35 : decode cX12_bars 35 = .ok (.ifCond .lt 20, 3) := by decide +kernel
theorem dX12_bars_38 : decode cX12_bars 38 = .ok (.iload_n 3, 1) := by decide +kernel
theorem dX12_bars_39 : decode cX12_bars 39 = .ok (.i2l, 1) := by decide +kernel
theorem dX12_bars_40 : decode cX12_bars 40 = .ok (.iload 4, 2) := by decide +kernel
theorem dX12_bars_42 : decode cX12_bars 42 = .ok (.i2l, 1) := by decide +kernel
theorem dX12_bars_43 : decode cX12_bars 43 = .ok (.ladd, 1) := by decide +kernel
theorem dX12_bars_44 : decode cX12_bars 44 = .ok (.aload_n 0, 1) := by decide +kernel
theorem dX12_bars_45 : decode cX12_bars 45 = .ok (.getfield 35, 3) := by decide +kernel
theorem dX12_bars_48 : decode cX12_bars 48 = .ok (.iload_n 1, 1) := by decide +kernel
theorem dX12_bars_49 : decode cX12_bars 49 = .ok (.iaload, 1) := by decide +kernel
theorem dX12_bars_50 : decode cX12_bars 50 = .ok (.i2l, 1) := by decide +kernel
theorem dX12_bars_51 : decode cX12_bars 51 = .ok (.lcmp, 1) := by decide +kernel
theorem dX12_bars_52 : decode cX12_bars 52 = .ok (.ifCond .le 8, 3) := by decide +kernel
theorem dX12_bars_55 : decode cX12_bars 55 = .ok (.bipush (-13), 2) := by decide +kernel
theorem dX12_bars_57 : decode cX12_bars 57 = .ok (.goto 4, 3) := by decide +kernel
theorem dX12_bars_60 : decode cX12_bars 60 = .ok (.iconst 0, 1) := by decide +kernel
theorem dX12_bars_61 : decode cX12_bars 61 = .ok (.ireturn, 1) := by decide +kernel
theorem dX12_cutTo_0 : decode cX12_cutTo 0 = .ok (.iload_n 0, 1) := by decide +kernel
theorem dX12_cutTo_1 : decode cX12_cutTo 1 = .ok (.ifCond .ne 10, 3) := by decide +kernel
theorem dX12_cutTo_4 : decode cX12_cutTo 4 = .ok (.lload_n 1, 1) := by decide +kernel
theorem dX12_cutTo_5 : decode cX12_cutTo 5 = .ok (.l2i, 1) := by decide +kernel
theorem dX12_cutTo_6 : decode cX12_cutTo 6 = .ok (.i2s, 1) := by decide +kernel
theorem dX12_cutTo_7 : decode cX12_cutTo 7 = .ok (.i2l, 1) := by decide +kernel
theorem dX12_cutTo_8 : decode cX12_cutTo 8 = .ok (.goto 15, 3) := by decide +kernel
theorem dX12_cutTo_11 : decode cX12_cutTo 11 = .ok (.iload_n 0, 1) := by decide +kernel
theorem dX12_cutTo_12 : decode cX12_cutTo 12 = .ok (.iconst 1, 1) := by decide +kernel
theorem dX12_cutTo_13 : decode cX12_cutTo 13 = .ok (.if_icmp .ne 9, 3) := by decide +kernel
theorem dX12_cutTo_16 : decode cX12_cutTo 16 = .ok (.lload_n 1, 1) := by decide +kernel
theorem dX12_cutTo_17 : decode cX12_cutTo 17 = .ok (.l2i, 1) := by decide +kernel
theorem dX12_cutTo_18 : decode cX12_cutTo 18 = .ok (.i2l, 1) := by decide +kernel
theorem dX12_cutTo_19 : decode cX12_cutTo 19 = .ok (.goto 4, 3) := by decide +kernel
theorem dX12_cutTo_22 : decode cX12_cutTo 22 = .ok (.lload_n 1, 1) := by decide +kernel
theorem dX12_cutTo_23 : decode cX12_cutTo 23 = .ok (.lreturn, 1) := by decide +kernel
theorem dX12_leaves_0 : decode cX12_leaves 0 = .ok (.iload_n 1, 1) := by decide +kernel
theorem dX12_leaves_1 : decode cX12_leaves 1 = .ok (.invokestatic 207, 3) := by decide +kernel
theorem dX12_leaves_4 : decode cX12_leaves 4 = .ok (.ifCond .eq 15, 3) := by decide +kernel
theorem dX12_leaves_7 : decode cX12_leaves 7 = .ok (.iload_n 2, 1) := by decide +kernel
theorem dX12_leaves_8 : decode cX12_leaves 8 = .ok (.i2l, 1) := by decide +kernel
theorem dX12_leaves_9 : decode cX12_leaves 9 = .ok (.lconst 0, 1) := by decide +kernel
theorem dX12_leaves_10 : decode cX12_leaves 10 = .ok (.ldc2_w 69, 3) := by decide +kernel
theorem dX12_leaves_13 : decode cX12_leaves 13 = .ok (.invokestatic 71, 3) := by decide +kernel
theorem dX12_leaves_16 : decode cX12_leaves 16 = .ok (.ifCond .ne 5, 3) := by decide +kernel
theorem dX12_leaves_19 : decode cX12_leaves 19 = .ok (.iconst (-1), 1) := by decide +kernel
theorem dX12_leaves_20 : decode cX12_leaves 20 = .ok (.ireturn, 1) := by decide +kernel
theorem dX12_leaves_21 : decode cX12_leaves 21 = .ok (.aload_n 0, 1) := by decide +kernel
theorem dX12_leaves_22 : decode cX12_leaves 22 = .ok (.getfield 7, 3) := by decide +kernel
theorem dX12_leaves_25 : decode cX12_leaves 25 = .ok (.bipush 24, 2) := by decide +kernel
theorem dX12_leaves_27 : decode cX12_leaves 27 = .ok (.iaload, 1) := by decide +kernel
theorem dX12_leaves_28 : decode cX12_leaves 28 = .ok (.istore 4, 2) := by decide +kernel
theorem dX12_leaves_30 : decode cX12_leaves 30 = .ok (.aload_n 0, 1) := by decide +kernel
theorem dX12_leaves_31 : decode cX12_leaves 31 = .ok (.iload_n 1, 1) := by decide +kernel
theorem dX12_leaves_32 : decode cX12_leaves 32 = .ok (.iload_n 2, 1) := by decide +kernel
theorem dX12_leaves_33 : decode cX12_leaves 33 = .ok (.iload_n 3, 1) := by decide +kernel
theorem dX12_leaves_34 : decode cX12_leaves 34 = .ok (.iload 4, 2) := by decide +kernel
theorem dX12_leaves_36 : decode cX12_leaves 36 = .ok (.invokevirtual 210, 3) := by decide +kernel
theorem dX12_leaves_39 : decode cX12_leaves 39 = .ok (.istore 5, 2) := by decide +kernel
theorem dX12_leaves_41 : decode cX12_leaves 41 = .ok (.iload 5, 2) := by decide +kernel
theorem dX12_leaves_43 : decode cX12_leaves 43 = .ok (.ifCond .eq 6, 3) := by decide +kernel
theorem dX12_leaves_46 : decode cX12_leaves 46 = .ok (.iload 5, 2) := by decide +kernel
theorem dX12_leaves_48 : decode cX12_leaves 48 = .ok (.ireturn, 1) := by decide +kernel
theorem dX12_leaves_49 : decode cX12_leaves 49 = .ok (.iload 4, 2) := by decide +kernel
theorem dX12_leaves_51 : decode cX12_leaves 51 = .ok (.ifCond .le 7, 3) := by decide +kernel
theorem dX12_leaves_54 : decode cX12_leaves 54 = .ok (.iconst 1, 1) := by decide +kernel
theorem dX12_leaves_55 : decode cX12_leaves 55 = .ok (.goto 4, 3) := by decide +kernel
theorem dX12_leaves_58 : decode cX12_leaves 58 = .ok (.iconst 0, 1) := by decide +kernel
theorem dX12_leaves_59 : decode cX12_leaves 59 = .ok (.istore 6, 2) := by decide +kernel
theorem dX12_leaves_61 : decode cX12_leaves 61 = .ok (.iconst 0, 1) := by decide +kernel
theorem dX12_leaves_62 : decode cX12_leaves 62 = .ok (.istore 7, 2) := by decide +kernel
theorem dX12_leaves_64 : decode cX12_leaves 64 = .ok (.iload 7, 2) := by decide +kernel
theorem dX12_leaves_66 : decode cX12_leaves 66 = .ok (.iload 4, 2) := by decide +kernel
theorem dX12_leaves_68 : decode cX12_leaves 68 = .ok (.if_icmp .ge 45, 3) := by decide +kernel
theorem dX12_leaves_71 : decode cX12_leaves 71 = .ok (.iload 6, 2) := by decide +kernel
theorem dX12_leaves_73 : decode cX12_leaves 73 = .ok (.ifCond .eq 31, 3) := by decide +kernel
theorem dX12_leaves_76 : decode cX12_leaves 76 = .ok (.aload_n 0, 1) := by decide +kernel
theorem dX12_leaves_77 : decode cX12_leaves 77 = .ok (.getfield 38, 3) := by decide +kernel
theorem dX12_leaves_80 : decode cX12_leaves 80 = .ok (.bipush 16, 2) := by decide +kernel
theorem dX12_leaves_82 : decode cX12_leaves 82 = .ok (.iload_n 1, 1) := by decide +kernel
theorem dX12_leaves_83 : decode cX12_leaves 83 = .ok (.imul, 1) := by decide +kernel
theorem dX12_leaves_84 : decode cX12_leaves 84 = .ok (.iload_n 3, 1) := by decide +kernel
theorem dX12_leaves_85 : decode cX12_leaves 85 = .ok (.iadd, 1) := by decide +kernel
theorem dX12_leaves_86 : decode cX12_leaves 86 = .ok (.iload 7, 2) := by decide +kernel
theorem dX12_leaves_88 : decode cX12_leaves 88 = .ok (.iadd, 1) := by decide +kernel
theorem dX12_leaves_89 : decode cX12_leaves 89 = .ok (.laload, 1) := by decide +kernel
theorem dX12_leaves_90 : decode cX12_leaves 90 = .ok (.lconst 0, 1) := by decide +kernel
theorem dX12_leaves_91 : decode cX12_leaves 91 = .ok (.ldc2_w 214, 3) := by decide +kernel
theorem dX12_leaves_94 : decode cX12_leaves 94 = .ok (.invokestatic 71, 3) := by decide +kernel
theorem dX12_leaves_97 : decode cX12_leaves 97 = .ok (.ifCond .eq 7, 3) := by decide +kernel
theorem dX12_leaves_100 : decode cX12_leaves 100 = .ok (.iconst 1, 1) := by decide +kernel
theorem dX12_leaves_101 : decode cX12_leaves 101 = .ok (.goto 4, 3) := by decide +kernel
theorem dX12_leaves_104 : decode cX12_leaves 104 = .ok (.iconst 0, 1) := by decide +kernel
theorem dX12_leaves_105 : decode cX12_leaves 105 = .ok (.istore 6, 2) := by decide +kernel
theorem dX12_leaves_107 : decode cX12_leaves 107 = .ok (.iinc 7 1, 3) := by decide +kernel
theorem dX12_leaves_110 : decode cX12_leaves 110 = .ok (.goto (-46), 3) := by decide +kernel
theorem dX12_leaves_113 : decode cX12_leaves 113 = .ok (.iload 6, 2) := by decide +kernel
theorem dX12_leaves_115 : decode cX12_leaves 115 = .ok (.ifCond .ne 6, 3) := by decide +kernel
theorem dX12_leaves_118 : decode cX12_leaves 118 = .ok (.bipush (-2), 2) := by decide +kernel
theorem dX12_leaves_120 : decode cX12_leaves 120 = .ok (.ireturn, 1) := by decide +kernel
theorem dX12_leaves_121 : decode cX12_leaves 121 = .ok (.aload_n 0, 1) := by decide +kernel
theorem dX12_leaves_122 : decode cX12_leaves 122 = .ok (.invokevirtual 87, 3) := by decide +kernel
theorem dX12_leaves_125 : decode cX12_leaves 125 = .ok (.iconst 1, 1) := by decide +kernel
theorem dX12_leaves_126 : decode cX12_leaves 126 = .ok (.istore 7, 2) := by decide +kernel
theorem dX12_leaves_128 : decode cX12_leaves 128 = .ok (.iload 7, 2) := by decide +kernel
theorem dX12_leaves_130 : decode cX12_leaves 130 = .ok (.iconst 1, 1) := by decide +kernel
theorem dX12_leaves_131 : decode cX12_leaves 131 = .ok (.iload 4, 2) := by decide +kernel
theorem dX12_leaves_133 : decode cX12_leaves 133 = .ok (.ishl, 1) := by decide +kernel
theorem dX12_leaves_134 : decode cX12_leaves 134 = .ok (.if_icmp .ge 76, 3) := by decide +kernel
theorem dX12_leaves_137 : decode cX12_leaves 137 = .ok (.lconst 0, 1) := by decide +kernel
theorem dX12_leaves_138 : decode cX12_leaves 138 = .ok (.lstore 8, 2) := by decide +kernel
theorem dX12_leaves_140 : decode cX12_leaves 140 = .ok (.iconst 0, 1) := by decide +kernel
theorem dX12_leaves_141 : decode cX12_leaves 141 = .ok (.istore 10, 2) := by decide +kernel
theorem dX12_leaves_143 : decode cX12_leaves 143 = .ok (.iload 10, 2) := by decide +kernel
theorem dX12_leaves_145 : decode cX12_leaves 145 = .ok (.iload 4, 2) := by decide +kernel
theorem dX12_leaves_147 : decode cX12_leaves 147 = .ok (.if_icmp .ge 42, 3) := by decide +kernel
theorem dX12_leaves_150 : decode cX12_leaves 150 = .ok (.lload 8, 2) := by decide +kernel
theorem dX12_leaves_152 : decode cX12_leaves 152 = .ok (.iload 7, 2) := by decide +kernel
theorem dX12_leaves_154 : decode cX12_leaves 154 = .ok (.iload 10, 2) := by decide +kernel
theorem dX12_leaves_156 : decode cX12_leaves 156 = .ok (.invokestatic 146, 3) := by decide +kernel
theorem dX12_leaves_159 : decode cX12_leaves 159 = .ok (.ifCond .eq 20, 3) := by decide +kernel
theorem dX12_leaves_162 : decode cX12_leaves 162 = .ok (.aload_n 0, 1) := by decide +kernel
theorem dX12_leaves_163 : decode cX12_leaves 163 = .ok (.getfield 38, 3) := by decide +kernel
theorem dX12_leaves_166 : decode cX12_leaves 166 = .ok (.bipush 16, 2) := by decide +kernel
theorem dX12_leaves_168 : decode cX12_leaves 168 = .ok (.iload_n 1, 1) := by decide +kernel
theorem dX12_leaves_169 : decode cX12_leaves 169 = .ok (.imul, 1) := by decide +kernel
theorem dX12_leaves_170 : decode cX12_leaves 170 = .ok (.iload_n 3, 1) := by decide +kernel
theorem dX12_leaves_171 : decode cX12_leaves 171 = .ok (.iadd, 1) := by decide +kernel
theorem dX12_leaves_172 : decode cX12_leaves 172 = .ok (.iload 10, 2) := by decide +kernel
theorem dX12_leaves_174 : decode cX12_leaves 174 = .ok (.iadd, 1) := by decide +kernel
theorem dX12_leaves_175 : decode cX12_leaves 175 = .ok (.laload, 1) := by decide +kernel
theorem dX12_leaves_176 : decode cX12_leaves 176 = .ok (.goto 4, 3) := by decide +kernel
theorem dX12_leaves_179 : decode cX12_leaves 179 = .ok (.lconst 0, 1) := by decide +kernel
theorem dX12_leaves_180 : decode cX12_leaves 180 = .ok (.ladd, 1) := by decide +kernel
theorem dX12_leaves_181 : decode cX12_leaves 181 = .ok (.lstore 8, 2) := by decide +kernel
theorem dX12_leaves_183 : decode cX12_leaves 183 = .ok (.iinc 10 1, 3) := by decide +kernel
theorem dX12_leaves_186 : decode cX12_leaves 186 = .ok (.goto (-43), 3) := by decide +kernel
theorem dX12_leaves_189 : decode cX12_leaves 189 = .ok (.lload 8, 2) := by decide +kernel
theorem dX12_leaves_191 : decode cX12_leaves 191 = .ok (.aload_n 0, 1) := by decide +kernel
theorem dX12_leaves_192 : decode cX12_leaves 192 = .ok (.iload 7, 2) := by decide +kernel
theorem dX12_leaves_194 : decode cX12_leaves 194 = .ok (.invokevirtual 184, 3) := by decide +kernel
theorem dX12_leaves_197 : decode cX12_leaves 197 = .ok (.lcmp, 1) := by decide +kernel
theorem dX12_leaves_198 : decode cX12_leaves 198 = .ok (.ifCond .le 6, 3) := by decide +kernel
theorem dX12_leaves_201 : decode cX12_leaves 201 = .ok (.iload 7, 2) := by decide +kernel
theorem dX12_leaves_203 : decode cX12_leaves 203 = .ok (.ireturn, 1) := by decide +kernel
theorem dX12_leaves_204 : decode cX12_leaves 204 = .ok (.iinc 7 1, 3) := by decide +kernel
theorem dX12_leaves_207 : decode cX12_leaves 207 = .ok (.goto (-79), 3) := by decide +kernel
theorem dX12_leaves_210 : decode cX12_leaves 210 = .ok (.bipush (-4), 2) := by decide +kernel
theorem dX12_leaves_212 : decode cX12_leaves 212 = .ok (.ireturn, 1) := by decide +kernel
theorem dX12_fit_0 : decode cX12_fit 0 = .ok (.iload_n 1, 1) := by decide +kernel
theorem dX12_fit_1 : decode cX12_fit 1 = .ok (.invokestatic 207, 3) := by decide +kernel
theorem dX12_fit_4 : decode cX12_fit 4 = .ok (.ifCond .eq 39, 3) := by decide +kernel
theorem dX12_fit_7 : decode cX12_fit 7 = .ok (.iload_n 2, 1) := by decide +kernel
theorem dX12_fit_8 : decode cX12_fit 8 = .ok (.i2l, 1) := by decide +kernel
theorem dX12_fit_9 : decode cX12_fit 9 = .ok (.lconst 0, 1) := by decide +kernel
theorem dX12_fit_10 : decode cX12_fit 10 = .ok (.ldc2_w 69, 3) := by decide +kernel
theorem dX12_fit_13 : decode cX12_fit 13 = .ok (.invokestatic 71, 3) := by decide +kernel
theorem dX12_fit_16 : decode cX12_fit 16 = .ok (.ifCond .eq 27, 3) := by decide +kernel
theorem dX12_fit_19 : decode cX12_fit 19 = .ok (.iload 4, 2) := by decide +kernel
theorem dX12_fit_21 : decode cX12_fit 21 = .ok (.i2l, 1) := by decide +kernel
theorem dX12_fit_22 : decode cX12_fit 22 = .ok (.lconst 1, 1) := by decide +kernel
theorem dX12_fit_23 : decode cX12_fit 23 = .ok (.ldc2_w 112, 3) := by decide +kernel
theorem dX12_fit_26 : decode cX12_fit 26 = .ok (.invokestatic 71, 3) := by decide +kernel
theorem dX12_fit_29 : decode cX12_fit 29 = .ok (.ifCond .eq 14, 3) := by decide +kernel
theorem dX12_fit_32 : decode cX12_fit 32 = .ok (.iload 5, 2) := by decide +kernel
theorem dX12_fit_34 : decode cX12_fit 34 = .ok (.i2l, 1) := by decide +kernel
theorem dX12_fit_35 : decode cX12_fit 35 = .ok (.lconst 0, 1) := by decide +kernel
theorem dX12_fit_36 : decode cX12_fit 36 = .ok (.lconst 1, 1) := by decide +kernel
theorem dX12_fit_37 : decode cX12_fit 37 = .ok (.invokestatic 71, 3) := by decide +kernel
theorem dX12_fit_40 : decode cX12_fit 40 = .ok (.ifCond .ne 5, 3) := by decide +kernel
theorem dX12_fit_43 : decode cX12_fit 43 = .ok (.iconst (-1), 1) := by decide +kernel
theorem dX12_fit_44 : decode cX12_fit 44 = .ok (.ireturn, 1) := by decide +kernel
theorem dX12_fit_45 : decode cX12_fit 45 = .ok (.aload_n 0, 1) := by decide +kernel
theorem dX12_fit_46 : decode cX12_fit 46 = .ok (.iload_n 1, 1) := by decide +kernel
theorem dX12_fit_47 : decode cX12_fit 47 = .ok (.iload_n 2, 1) := by decide +kernel
theorem dX12_fit_48 : decode cX12_fit 48 = .ok (.iload_n 3, 1) := by decide +kernel
theorem dX12_fit_49 : decode cX12_fit 49 = .ok (.iload 4, 2) := by decide +kernel
theorem dX12_fit_51 : decode cX12_fit 51 = .ok (.invokevirtual 210, 3) := by decide +kernel
theorem dX12_fit_54 : decode cX12_fit 54 = .ok (.istore 6, 2) := by decide +kernel
theorem dX12_fit_56 : decode cX12_fit 56 = .ok (.iload 6, 2) := by decide +kernel
theorem dX12_fit_58 : decode cX12_fit 58 = .ok (.ifCond .eq 6, 3) := by decide +kernel
theorem dX12_fit_61 : decode cX12_fit 61 = .ok (.iload 6, 2) := by decide +kernel
theorem dX12_fit_63 : decode cX12_fit 63 = .ok (.ireturn, 1) := by decide +kernel
theorem dX12_fit_64 : decode cX12_fit 64 = .ok (.lconst 0, 1) := by decide +kernel
theorem dX12_fit_65 : decode cX12_fit 65 = .ok (.lstore 7, 2) := by decide +kernel
theorem dX12_fit_67 : decode cX12_fit 67 = .ok (.iconst 0, 1) := by decide +kernel
theorem dX12_fit_68 : decode cX12_fit 68 = .ok (.istore 9, 2) := by decide +kernel
theorem dX12_fit_70 : decode cX12_fit 70 = .ok (.iload 9, 2) := by decide +kernel
theorem dX12_fit_72 : decode cX12_fit 72 = .ok (.iload 4, 2) := by decide +kernel
theorem dX12_fit_74 : decode cX12_fit 74 = .ok (.if_icmp .ge 49, 3) := by decide +kernel
theorem dX12_fit_77 : decode cX12_fit 77 = .ok (.aload_n 0, 1) := by decide +kernel
theorem dX12_fit_78 : decode cX12_fit 78 = .ok (.getfield 38, 3) := by decide +kernel
theorem dX12_fit_81 : decode cX12_fit 81 = .ok (.bipush 16, 2) := by decide +kernel
theorem dX12_fit_83 : decode cX12_fit 83 = .ok (.iload_n 1, 1) := by decide +kernel
theorem dX12_fit_84 : decode cX12_fit 84 = .ok (.imul, 1) := by decide +kernel
theorem dX12_fit_85 : decode cX12_fit 85 = .ok (.iload_n 3, 1) := by decide +kernel
theorem dX12_fit_86 : decode cX12_fit 86 = .ok (.iadd, 1) := by decide +kernel
theorem dX12_fit_87 : decode cX12_fit 87 = .ok (.iload 9, 2) := by decide +kernel
theorem dX12_fit_89 : decode cX12_fit 89 = .ok (.iadd, 1) := by decide +kernel
theorem dX12_fit_90 : decode cX12_fit 90 = .ok (.laload, 1) := by decide +kernel
theorem dX12_fit_91 : decode cX12_fit 91 = .ok (.lstore 10, 2) := by decide +kernel
theorem dX12_fit_93 : decode cX12_fit 93 = .ok (.lload 10, 2) := by decide +kernel
theorem dX12_fit_95 : decode cX12_fit 95 = .ok (.lconst 1, 1) := by decide +kernel
theorem dX12_fit_96 : decode cX12_fit 96 = .ok (.ldc2_w 83, 3) := by decide +kernel
theorem dX12_fit_99 : decode cX12_fit 99 = .ok (.invokestatic 71, 3) := by decide +kernel
theorem dX12_fit_102 : decode cX12_fit 102 = .ok (.ifCond .ne 6, 3) := by decide +kernel
theorem dX12_fit_105 : decode cX12_fit 105 = .ok (.bipush (-2), 2) := by decide +kernel
theorem dX12_fit_107 : decode cX12_fit 107 = .ok (.ireturn, 1) := by decide +kernel
theorem dX12_fit_108 : decode cX12_fit 108 = .ok (.lload 7, 2) := by decide +kernel
theorem dX12_fit_110 : decode cX12_fit 110 = .ok (.lload 10, 2) := by decide +kernel
theorem dX12_fit_112 : decode cX12_fit 112 = .ok (.invokestatic 44, 3) := by decide +kernel
theorem dX12_fit_115 : decode cX12_fit 115 = .ok (.lstore 7, 2) := by decide +kernel
theorem dX12_fit_117 : decode cX12_fit 117 = .ok (.iinc 9 1, 3) := by decide +kernel
theorem dX12_fit_120 : decode cX12_fit 120 = .ok (.goto (-50), 3) := by decide +kernel
theorem dX12_fit_123 : decode cX12_fit 123 = .ok (.iconst 0, 1) := by decide +kernel
theorem dX12_fit_124 : decode cX12_fit 124 = .ok (.istore 9, 2) := by decide +kernel
theorem dX12_fit_126 : decode cX12_fit 126 = .ok (.bipush (-4), 2) := by decide +kernel
theorem dX12_fit_128 : decode cX12_fit 128 = .ok (.istore 10, 2) := by decide +kernel
theorem dX12_fit_130 : decode cX12_fit 130 = .ok (.lconst 0, 1) := by decide +kernel
theorem dX12_fit_131 : decode cX12_fit 131 = .ok (.lstore 11, 2) := by decide +kernel
theorem dX12_fit_133 : decode cX12_fit 133 = .ok (.iconst 2, 1) := by decide +kernel
theorem dX12_fit_134 : decode cX12_fit 134 = .ok (.istore 13, 2) := by decide +kernel
theorem dX12_fit_136 : decode cX12_fit 136 = .ok (.iload 13, 2) := by decide +kernel
theorem dX12_fit_138 : decode cX12_fit 138 = .ok (.bipush 60, 2) := by decide +kernel
theorem dX12_fit_140 : decode cX12_fit 140 = .ok (.if_icmp .ge 99, 3) := by decide +kernel
theorem dX12_fit_143 : decode cX12_fit 143 = .ok (.iload 13, 2) := by decide +kernel
theorem dX12_fit_145 : decode cX12_fit 145 = .ok (.iconst 1, 1) := by decide +kernel
theorem dX12_fit_146 : decode cX12_fit 146 = .ok (.iadd, 1) := by decide +kernel
theorem dX12_fit_147 : decode cX12_fit 147 = .ok (.istore 14, 2) := by decide +kernel
theorem dX12_fit_149 : decode cX12_fit 149 = .ok (.iload 14, 2) := by decide +kernel
theorem dX12_fit_151 : decode cX12_fit 151 = .ok (.bipush 60, 2) := by decide +kernel
theorem dX12_fit_153 : decode cX12_fit 153 = .ok (.if_icmp .gt 80, 3) := by decide +kernel
theorem dX12_fit_156 : decode cX12_fit 156 = .ok (.lload 7, 2) := by decide +kernel
theorem dX12_fit_158 : decode cX12_fit 158 = .ok (.iload 13, 2) := by decide +kernel
theorem dX12_fit_160 : decode cX12_fit 160 = .ok (.i2l, 1) := by decide +kernel
theorem dX12_fit_161 : decode cX12_fit 161 = .ok (.lrem, 1) := by decide +kernel
theorem dX12_fit_162 : decode cX12_fit 162 = .ok (.lconst 0, 1) := by decide +kernel
theorem dX12_fit_163 : decode cX12_fit 163 = .ok (.lcmp, 1) := by decide +kernel
theorem dX12_fit_164 : decode cX12_fit 164 = .ok (.ifCond .ne 63, 3) := by decide +kernel
theorem dX12_fit_167 : decode cX12_fit 167 = .ok (.lload 7, 2) := by decide +kernel
theorem dX12_fit_169 : decode cX12_fit 169 = .ok (.iload 14, 2) := by decide +kernel
theorem dX12_fit_171 : decode cX12_fit 171 = .ok (.i2l, 1) := by decide +kernel
theorem dX12_fit_172 : decode cX12_fit 172 = .ok (.lrem, 1) := by decide +kernel
theorem dX12_fit_173 : decode cX12_fit 173 = .ok (.lconst 0, 1) := by decide +kernel
theorem dX12_fit_174 : decode cX12_fit 174 = .ok (.lcmp, 1) := by decide +kernel
theorem dX12_fit_175 : decode cX12_fit 175 = .ok (.ifCond .ne 52, 3) := by decide +kernel
theorem dX12_fit_178 : decode cX12_fit 178 = .ok (.iload 13, 2) := by decide +kernel
theorem dX12_fit_180 : decode cX12_fit 180 = .ok (.i2l, 1) := by decide +kernel
theorem dX12_fit_181 : decode cX12_fit 181 = .ok (.iload 14, 2) := by decide +kernel
theorem dX12_fit_183 : decode cX12_fit 183 = .ok (.i2l, 1) := by decide +kernel
theorem dX12_fit_184 : decode cX12_fit 184 = .ok (.invokestatic 52, 3) := by decide +kernel
theorem dX12_fit_187 : decode cX12_fit 187 = .ok (.lload 11, 2) := by decide +kernel
theorem dX12_fit_189 : decode cX12_fit 189 = .ok (.lcmp, 1) := by decide +kernel
theorem dX12_fit_190 : decode cX12_fit 190 = .ok (.ifCond .le 14, 3) := by decide +kernel
theorem dX12_fit_193 : decode cX12_fit 193 = .ok (.bipush 100, 2) := by decide +kernel
theorem dX12_fit_195 : decode cX12_fit 195 = .ok (.iload 13, 2) := by decide +kernel
theorem dX12_fit_197 : decode cX12_fit 197 = .ok (.imul, 1) := by decide +kernel
theorem dX12_fit_198 : decode cX12_fit 198 = .ok (.iload 14, 2) := by decide +kernel
theorem dX12_fit_200 : decode cX12_fit 200 = .ok (.iadd, 1) := by decide +kernel
theorem dX12_fit_201 : decode cX12_fit 201 = .ok (.goto 5, 3) := by decide +kernel
theorem dX12_fit_204 : decode cX12_fit 204 = .ok (.iload 10, 2) := by decide +kernel
theorem dX12_fit_206 : decode cX12_fit 206 = .ok (.istore 10, 2) := by decide +kernel
theorem dX12_fit_208 : decode cX12_fit 208 = .ok (.lload 11, 2) := by decide +kernel
theorem dX12_fit_210 : decode cX12_fit 210 = .ok (.iload 13, 2) := by decide +kernel
theorem dX12_fit_212 : decode cX12_fit 212 = .ok (.i2l, 1) := by decide +kernel
theorem dX12_fit_213 : decode cX12_fit 213 = .ok (.iload 14, 2) := by decide +kernel
theorem dX12_fit_215 : decode cX12_fit 215 = .ok (.i2l, 1) := by decide +kernel
theorem dX12_fit_216 : decode cX12_fit 216 = .ok (.invokestatic 52, 3) := by decide +kernel
theorem dX12_fit_219 : decode cX12_fit 219 = .ok (.invokestatic 63, 3) := by decide +kernel
theorem dX12_fit_222 : decode cX12_fit 222 = .ok (.lstore 11, 2) := by decide +kernel
theorem dX12_fit_224 : decode cX12_fit 224 = .ok (.iinc 9 1, 3) := by decide +kernel
theorem dX12_fit_227 : decode cX12_fit 227 = .ok (.iinc 14 1, 3) := by decide +kernel
theorem dX12_fit_230 : decode cX12_fit 230 = .ok (.goto (-81), 3) := by decide +kernel
theorem dX12_fit_233 : decode cX12_fit 233 = .ok (.iinc 13 1, 3) := by decide +kernel
theorem dX12_fit_236 : decode cX12_fit 236 = .ok (.goto (-100), 3) := by decide +kernel
theorem dX12_fit_239 : decode cX12_fit 239 = .ok (.iload 5, 2) := by decide +kernel
theorem dX12_fit_241 : decode cX12_fit 241 = .ok (.ifCond .ne 8, 3) := by decide +kernel
theorem dX12_fit_244 : decode cX12_fit 244 = .ok (.iload 9, 2) := by decide +kernel
theorem dX12_fit_246 : decode cX12_fit 246 = .ok (.goto 5, 3) := by decide +kernel
theorem dX12_fit_249 : decode cX12_fit 249 = .ok (.iload 10, 2) := by decide +kernel
theorem dX12_fit_251 : decode cX12_fit 251 = .ok (.ireturn, 1) := by decide +kernel
theorem dX12_film_0 : decode cX12_film 0 = .ok (.iload_n 1, 1) := by decide +kernel
theorem dX12_film_1 : decode cX12_film 1 = .ok (.invokestatic 207, 3) := by decide +kernel
theorem dX12_film_4 : decode cX12_film 4 = .ok (.ifCond .eq 15, 3) := by decide +kernel
theorem dX12_film_7 : decode cX12_film 7 = .ok (.iload_n 2, 1) := by decide +kernel
theorem dX12_film_8 : decode cX12_film 8 = .ok (.i2l, 1) := by decide +kernel
theorem dX12_film_9 : decode cX12_film 9 = .ok (.lconst 0, 1) := by decide +kernel
theorem dX12_film_10 : decode cX12_film 10 = .ok (.ldc2_w 69, 3) := by decide +kernel
theorem dX12_film_13 : decode cX12_film 13 = .ok (.invokestatic 71, 3) := by decide +kernel
theorem dX12_film_16 : decode cX12_film 16 = .ok (.ifCond .ne 5, 3) := by decide +kernel
theorem dX12_film_19 : decode cX12_film 19 = .ok (.iconst (-1), 1) := by decide +kernel
theorem dX12_film_20 : decode cX12_film 20 = .ok (.ireturn, 1) := by decide +kernel
theorem dX12_film_21 : decode cX12_film 21 = .ok (.aload_n 0, 1) := by decide +kernel
theorem dX12_film_22 : decode cX12_film 22 = .ok (.iload_n 1, 1) := by decide +kernel
theorem dX12_film_23 : decode cX12_film 23 = .ok (.iload_n 2, 1) := by decide +kernel
theorem dX12_film_24 : decode cX12_film 24 = .ok (.iload_n 3, 1) := by decide +kernel
theorem dX12_film_25 : decode cX12_film 25 = .ok (.aload_n 0, 1) := by decide +kernel
theorem dX12_film_26 : decode cX12_film 26 = .ok (.getfield 7, 3) := by decide +kernel
theorem dX12_film_29 : decode cX12_film 29 = .ok (.bipush 6, 2) := by decide +kernel
theorem dX12_film_31 : decode cX12_film 31 = .ok (.iaload, 1) := by decide +kernel
theorem dX12_film_32 : decode cX12_film 32 = .ok (.invokevirtual 210, 3) := by decide +kernel
theorem dX12_film_35 : decode cX12_film 35 = .ok (.istore 4, 2) := by decide +kernel
theorem dX12_film_37 : decode cX12_film 37 = .ok (.iload 4, 2) := by decide +kernel
theorem dX12_film_39 : decode cX12_film 39 = .ok (.ifCond .eq 6, 3) := by decide +kernel
theorem dX12_film_42 : decode cX12_film 42 = .ok (.iload 4, 2) := by decide +kernel
theorem dX12_film_44 : decode cX12_film 44 = .ok (.ireturn, 1) := by decide +kernel
theorem dX12_film_45 : decode cX12_film 45 = .ok (.iconst 0, 1) := by decide +kernel
theorem dX12_film_46 : decode cX12_film 46 = .ok (.istore 5, 2) := by decide +kernel
theorem dX12_film_48 : decode cX12_film 48 = .ok (.iload 5, 2) := by decide +kernel
theorem dX12_film_50 : decode cX12_film 50 = .ok (.aload_n 0, 1) := by decide +kernel
theorem dX12_film_51 : decode cX12_film 51 = .ok (.getfield 7, 3) := by decide +kernel
theorem dX12_film_54 : decode cX12_film 54 = .ok (.bipush 6, 2) := by decide +kernel
theorem dX12_film_56 : decode cX12_film 56 = .ok (.iaload, 1) := by decide +kernel
theorem dX12_film_57 : decode cX12_film 57 = .ok (.if_icmp .ge 38, 3) := by decide +kernel
theorem dX12_film_60 : decode cX12_film 60 = .ok (.aload_n 0, 1) := by decide +kernel
theorem dX12_film_61 : decode cX12_film 61 = .ok (.getfield 38, 3) := by decide +kernel
theorem dX12_film_64 : decode cX12_film 64 = .ok (.bipush 16, 2) := by decide +kernel
theorem dX12_film_66 : decode cX12_film 66 = .ok (.iload_n 1, 1) := by decide +kernel
theorem dX12_film_67 : decode cX12_film 67 = .ok (.imul, 1) := by decide +kernel
theorem dX12_film_68 : decode cX12_film 68 = .ok (.iload_n 3, 1) := by decide +kernel
theorem dX12_film_69 : decode cX12_film 69 = .ok (.iadd, 1) := by decide +kernel
theorem dX12_film_70 : decode cX12_film 70 = .ok (.iload 5, 2) := by decide +kernel
theorem dX12_film_72 : decode cX12_film 72 = .ok (.iadd, 1) := by decide +kernel
theorem dX12_film_73 : decode cX12_film 73 = .ok (.iload_n 2, 1) := by decide +kernel
theorem dX12_film_74 : decode cX12_film 74 = .ok (.aload_n 0, 1) := by decide +kernel
theorem dX12_film_75 : decode cX12_film 75 = .ok (.getfield 7, 3) := by decide +kernel
theorem dX12_film_78 : decode cX12_film 78 = .ok (.bipush 15, 2) := by decide +kernel
theorem dX12_film_80 : decode cX12_film 80 = .ok (.iload 5, 2) := by decide +kernel
theorem dX12_film_82 : decode cX12_film 82 = .ok (.iadd, 1) := by decide +kernel
theorem dX12_film_83 : decode cX12_film 83 = .ok (.iaload, 1) := by decide +kernel
theorem dX12_film_84 : decode cX12_film 84 = .ok (.i2l, 1) := by decide +kernel
theorem dX12_film_85 : decode cX12_film 85 = .ok (.invokestatic 216, 3) := by decide +kernel
theorem dX12_film_88 : decode cX12_film 88 = .ok (.lastore, 1) := by decide +kernel
theorem dX12_film_89 : decode cX12_film 89 = .ok (.iinc 5 1, 3) := by decide +kernel
theorem dX12_film_92 : decode cX12_film 92 = .ok (.goto (-44), 3) := by decide +kernel
theorem dX12_film_95 : decode cX12_film 95 = .ok (.aload_n 0, 1) := by decide +kernel
theorem dX12_film_96 : decode cX12_film 96 = .ok (.getfield 7, 3) := by decide +kernel
theorem dX12_film_99 : decode cX12_film 99 = .ok (.bipush 6, 2) := by decide +kernel
theorem dX12_film_101 : decode cX12_film 101 = .ok (.iaload, 1) := by decide +kernel
theorem dX12_film_102 : decode cX12_film 102 = .ok (.ireturn, 1) := by decide +kernel
theorem dX12_sheet_0 : decode cX12_sheet 0 = .ok (.iload_n 1, 1) := by decide +kernel
theorem dX12_sheet_1 : decode cX12_sheet 1 = .ok (.invokestatic 207, 3) := by decide +kernel
theorem dX12_sheet_4 : decode cX12_sheet 4 = .ok (.ifCond .eq 21, 3) := by decide +kernel
theorem dX12_sheet_7 : decode cX12_sheet 7 = .ok (.iload_n 2, 1) := by decide +kernel
theorem dX12_sheet_8 : decode cX12_sheet 8 = .ok (.i2l, 1) := by decide +kernel
theorem dX12_sheet_9 : decode cX12_sheet 9 = .ok (.lconst 0, 1) := by decide +kernel
theorem dX12_sheet_10 : decode cX12_sheet 10 = .ok (.ldc2_w 69, 3) := by decide +kernel
theorem dX12_sheet_13 : decode cX12_sheet 13 = .ok (.invokestatic 71, 3) := by decide +kernel
theorem dX12_sheet_16 : decode cX12_sheet 16 = .ok (.ifCond .eq 9, 3) := by decide +kernel
theorem dX12_sheet_19 : decode cX12_sheet 19 = .ok (.iload_n 3, 1) := by decide +kernel
theorem dX12_sheet_20 : decode cX12_sheet 20 = .ok (.bipush 16, 2) := by decide +kernel
theorem dX12_sheet_22 : decode cX12_sheet 22 = .ok (.if_icmp .le 5, 3) := by decide +kernel
theorem dX12_sheet_25 : decode cX12_sheet 25 = .ok (.iconst (-1), 1) := by decide +kernel
theorem dX12_sheet_26 : decode cX12_sheet 26 = .ok (.ireturn, 1) := by decide +kernel
theorem dX12_sheet_27 : decode cX12_sheet 27 = .ok (.iload_n 3, 1) := by decide +kernel
theorem dX12_sheet_28 : decode cX12_sheet 28 = .ok (.ifCond .ge 6, 3) := by decide +kernel
theorem dX12_sheet_31 : decode cX12_sheet 31 = .ok (.bipush (-14), 2) := by decide +kernel
theorem dX12_sheet_33 : decode cX12_sheet 33 = .ok (.ireturn, 1) := by decide +kernel
theorem dX12_sheet_34 : decode cX12_sheet 34 = .ok (.aload_n 0, 1) := by decide +kernel
theorem dX12_sheet_35 : decode cX12_sheet 35 = .ok (.getfield 32, 3) := by decide +kernel
theorem dX12_sheet_38 : decode cX12_sheet 38 = .ok (.iload_n 1, 1) := by decide +kernel
theorem dX12_sheet_39 : decode cX12_sheet 39 = .ok (.iload_n 2, 1) := by decide +kernel
theorem dX12_sheet_40 : decode cX12_sheet 40 = .ok (.iastore, 1) := by decide +kernel
theorem dX12_sheet_41 : decode cX12_sheet 41 = .ok (.aload_n 0, 1) := by decide +kernel
theorem dX12_sheet_42 : decode cX12_sheet 42 = .ok (.getfield 35, 3) := by decide +kernel
theorem dX12_sheet_45 : decode cX12_sheet 45 = .ok (.iload_n 1, 1) := by decide +kernel
theorem dX12_sheet_46 : decode cX12_sheet 46 = .ok (.iload_n 3, 1) := by decide +kernel
theorem dX12_sheet_47 : decode cX12_sheet 47 = .ok (.iastore, 1) := by decide +kernel
theorem dX12_sheet_48 : decode cX12_sheet 48 = .ok (.iconst 0, 1) := by decide +kernel
theorem dX12_sheet_49 : decode cX12_sheet 49 = .ok (.istore 4, 2) := by decide +kernel
theorem dX12_sheet_51 : decode cX12_sheet 51 = .ok (.iload 4, 2) := by decide +kernel
theorem dX12_sheet_53 : decode cX12_sheet 53 = .ok (.bipush 16, 2) := by decide +kernel
theorem dX12_sheet_55 : decode cX12_sheet 55 = .ok (.if_icmp .ge 22, 3) := by decide +kernel
theorem dX12_sheet_58 : decode cX12_sheet 58 = .ok (.aload_n 0, 1) := by decide +kernel
theorem dX12_sheet_59 : decode cX12_sheet 59 = .ok (.getfield 38, 3) := by decide +kernel
theorem dX12_sheet_62 : decode cX12_sheet 62 = .ok (.bipush 16, 2) := by decide +kernel
theorem dX12_sheet_64 : decode cX12_sheet 64 = .ok (.iload_n 1, 1) := by decide +kernel
theorem dX12_sheet_65 : decode cX12_sheet 65 = .ok (.imul, 1) := by decide +kernel
theorem dX12_sheet_66 : decode cX12_sheet 66 = .ok (.iload 4, 2) := by decide +kernel
theorem dX12_sheet_68 : decode cX12_sheet 68 = .ok (.iadd, 1) := by decide +kernel
theorem dX12_sheet_69 : decode cX12_sheet 69 = .ok (.lconst 0, 1) := by decide +kernel
theorem dX12_sheet_70 : decode cX12_sheet 70 = .ok (.lastore, 1) := by decide +kernel
theorem dX12_sheet_71 : decode cX12_sheet 71 = .ok (.iinc 4 1, 3) := by decide +kernel
theorem dX12_sheet_74 : decode cX12_sheet 74 = .ok (.goto (-23), 3) := by decide +kernel
theorem dX12_sheet_77 : decode cX12_sheet 77 = .ok (.iload_n 3, 1) := by decide +kernel
theorem dX12_sheet_78 : decode cX12_sheet 78 = .ok (.ireturn, 1) := by decide +kernel
theorem dX12_drop_0 : decode cX12_drop 0 = .ok (.iload_n 1, 1) := by decide +kernel
theorem dX12_drop_1 : decode cX12_drop 1 = .ok (.invokestatic 207, 3) := by decide +kernel
theorem dX12_drop_4 : decode cX12_drop 4 = .ok (.ifCond .ne 5, 3) := by decide +kernel
theorem dX12_drop_7 : decode cX12_drop 7 = .ok (.iconst (-1), 1) := by decide +kernel
theorem dX12_drop_8 : decode cX12_drop 8 = .ok (.ireturn, 1) := by decide +kernel
theorem dX12_drop_9 : decode cX12_drop 9 = .ok (.aload_n 0, 1) := by decide +kernel
theorem dX12_drop_10 : decode cX12_drop 10 = .ok (.getfield 32, 3) := by decide +kernel
theorem dX12_drop_13 : decode cX12_drop 13 = .ok (.iload_n 1, 1) := by decide +kernel
theorem dX12_drop_14 : decode cX12_drop 14 = .ok (.iaload, 1) := by decide +kernel
theorem dX12_drop_15 : decode cX12_drop 15 = .ok (.ifCond .ge 6, 3) := by decide +kernel
theorem dX12_drop_18 : decode cX12_drop 18 = .ok (.bipush (-11), 2) := by decide +kernel
theorem dX12_drop_20 : decode cX12_drop 20 = .ok (.ireturn, 1) := by decide +kernel
theorem dX12_drop_21 : decode cX12_drop 21 = .ok (.aload_n 0, 1) := by decide +kernel
theorem dX12_drop_22 : decode cX12_drop 22 = .ok (.getfield 32, 3) := by decide +kernel
theorem dX12_drop_25 : decode cX12_drop 25 = .ok (.iload_n 1, 1) := by decide +kernel
theorem dX12_drop_26 : decode cX12_drop 26 = .ok (.iconst (-1), 1) := by decide +kernel
theorem dX12_drop_27 : decode cX12_drop 27 = .ok (.iastore, 1) := by decide +kernel
theorem dX12_drop_28 : decode cX12_drop 28 = .ok (.aload_n 0, 1) := by decide +kernel
theorem dX12_drop_29 : decode cX12_drop 29 = .ok (.getfield 35, 3) := by decide +kernel
theorem dX12_drop_32 : decode cX12_drop 32 = .ok (.iload_n 1, 1) := by decide +kernel
theorem dX12_drop_33 : decode cX12_drop 33 = .ok (.iaload, 1) := by decide +kernel
theorem dX12_drop_34 : decode cX12_drop 34 = .ok (.ireturn, 1) := by decide +kernel
theorem dX12_item_0 : decode cX12_item 0 = .ok (.iload_n 1, 1) := by decide +kernel
theorem dX12_item_1 : decode cX12_item 1 = .ok (.invokestatic 207, 3) := by decide +kernel
theorem dX12_item_4 : decode cX12_item 4 = .ok (.ifCond .eq 15, 3) := by decide +kernel
theorem dX12_item_7 : decode cX12_item 7 = .ok (.iload_n 2, 1) := by decide +kernel
theorem dX12_item_8 : decode cX12_item 8 = .ok (.i2l, 1) := by decide +kernel
theorem dX12_item_9 : decode cX12_item 9 = .ok (.lconst 0, 1) := by decide +kernel
theorem dX12_item_10 : decode cX12_item 10 = .ok (.ldc2_w 69, 3) := by decide +kernel
theorem dX12_item_13 : decode cX12_item 13 = .ok (.invokestatic 71, 3) := by decide +kernel
theorem dX12_item_16 : decode cX12_item 16 = .ok (.ifCond .ne 5, 3) := by decide +kernel
theorem dX12_item_19 : decode cX12_item 19 = .ok (.iconst (-1), 1) := by decide +kernel
theorem dX12_item_20 : decode cX12_item 20 = .ok (.ireturn, 1) := by decide +kernel
theorem dX12_item_21 : decode cX12_item 21 = .ok (.aload_n 0, 1) := by decide +kernel
theorem dX12_item_22 : decode cX12_item 22 = .ok (.iload_n 1, 1) := by decide +kernel
theorem dX12_item_23 : decode cX12_item 23 = .ok (.iload_n 2, 1) := by decide +kernel
theorem dX12_item_24 : decode cX12_item 24 = .ok (.iload_n 3, 1) := by decide +kernel
theorem dX12_item_25 : decode cX12_item 25 = .ok (.iconst 1, 1) := by decide +kernel
theorem dX12_item_26 : decode cX12_item 26 = .ok (.invokevirtual 210, 3) := by decide +kernel
theorem dX12_item_29 : decode cX12_item 29 = .ok (.istore 6, 2) := by decide +kernel
theorem dX12_item_31 : decode cX12_item 31 = .ok (.iload 6, 2) := by decide +kernel
theorem dX12_item_33 : decode cX12_item 33 = .ok (.ifCond .eq 6, 3) := by decide +kernel
theorem dX12_item_36 : decode cX12_item 36 = .ok (.iload 6, 2) := by decide +kernel
theorem dX12_item_38 : decode cX12_item 38 = .ok (.ireturn, 1) := by decide +kernel
theorem dX12_item_39 : decode cX12_item 39 = .ok (.aload_n 0, 1) := by decide +kernel
theorem dX12_item_40 : decode cX12_item 40 = .ok (.getfield 38, 3) := by decide +kernel
theorem dX12_item_43 : decode cX12_item 43 = .ok (.bipush 16, 2) := by decide +kernel
theorem dX12_item_45 : decode cX12_item 45 = .ok (.iload_n 1, 1) := by decide +kernel
theorem dX12_item_46 : decode cX12_item 46 = .ok (.imul, 1) := by decide +kernel
theorem dX12_item_47 : decode cX12_item 47 = .ok (.iload_n 3, 1) := by decide +kernel
theorem dX12_item_48 : decode cX12_item 48 = .ok (.iadd, 1) := by decide +kernel
theorem dX12_item_49 : decode cX12_item 49 = .ok (.iload_n 2, 1) := by decide +kernel
theorem dX12_item_50 : decode cX12_item 50 = .ok (.lload 4, 2) := by decide +kernel
theorem dX12_item_52 : decode cX12_item 52 = .ok (.invokestatic 216, 3) := by decide +kernel
theorem dX12_item_55 : decode cX12_item 55 = .ok (.lastore, 1) := by decide +kernel
theorem dX12_item_56 : decode cX12_item 56 = .ok (.iconst 1, 1) := by decide +kernel
theorem dX12_item_57 : decode cX12_item 57 = .ok (.ireturn, 1) := by decide +kernel
theorem dX12_copy_0 : decode cX12_copy 0 = .ok (.iload_n 1, 1) := by decide +kernel
theorem dX12_copy_1 : decode cX12_copy 1 = .ok (.invokestatic 207, 3) := by decide +kernel
theorem dX12_copy_4 : decode cX12_copy 4 = .ok (.ifCond .eq 10, 3) := by decide +kernel
theorem dX12_copy_7 : decode cX12_copy 7 = .ok (.iload_n 3, 1) := by decide +kernel
theorem dX12_copy_8 : decode cX12_copy 8 = .ok (.invokestatic 207, 3) := by decide +kernel
theorem dX12_copy_11 : decode cX12_copy 11 = .ok (.ifCond .ne 5, 3) := by decide +kernel
theorem dX12_copy_14 : decode cX12_copy 14 = .ok (.iconst (-1), 1) := by decide +kernel
theorem dX12_copy_15 : decode cX12_copy 15 = .ok (.ireturn, 1) := by decide +kernel
theorem dX12_copy_16 : decode cX12_copy 16 = .ok (.aload_n 0, 1) := by decide +kernel
theorem dX12_copy_17 : decode cX12_copy 17 = .ok (.getfield 32, 3) := by decide +kernel
theorem dX12_copy_20 : decode cX12_copy 20 = .ok (.iload_n 1, 1) := by decide +kernel
theorem dX12_copy_21 : decode cX12_copy 21 = .ok (.iaload, 1) := by decide +kernel
theorem dX12_copy_22 : decode cX12_copy 22 = .ok (.ifCond .lt 12, 3) := by decide +kernel
theorem dX12_copy_25 : decode cX12_copy 25 = .ok (.aload_n 0, 1) := by decide +kernel
theorem dX12_copy_26 : decode cX12_copy 26 = .ok (.getfield 32, 3) := by decide +kernel
theorem dX12_copy_29 : decode cX12_copy 29 = .ok (.iload_n 3, 1) := by decide +kernel
theorem dX12_copy_30 : decode cX12_copy 30 = .ok (.iaload, 1) := by decide +kernel
theorem dX12_copy_31 : decode cX12_copy 31 = .ok (.ifCond .ge 6, 3) := by decide +kernel
theorem dX12_copy_34 : decode cX12_copy 34 = .ok (.bipush (-11), 2) := by decide +kernel
theorem dX12_copy_36 : decode cX12_copy 36 = .ok (.ireturn, 1) := by decide +kernel
theorem dX12_copy_37 : decode cX12_copy 37 = .ok (.aload_n 0, 1) := by decide +kernel
theorem dX12_copy_38 : decode cX12_copy 38 = .ok (.iload_n 1, 1) := by decide +kernel
theorem dX12_copy_39 : decode cX12_copy 39 = .ok (.aload_n 0, 1) := by decide +kernel
theorem dX12_copy_40 : decode cX12_copy 40 = .ok (.getfield 32, 3) := by decide +kernel
theorem dX12_copy_43 : decode cX12_copy 43 = .ok (.iload_n 3, 1) := by decide +kernel
theorem dX12_copy_44 : decode cX12_copy 44 = .ok (.iaload, 1) := by decide +kernel
theorem dX12_copy_45 : decode cX12_copy 45 = .ok (.iload_n 2, 1) := by decide +kernel
theorem dX12_copy_46 : decode cX12_copy 46 = .ok (.iload 5, 2) := by decide +kernel
theorem dX12_copy_48 : decode cX12_copy 48 = .ok (.invokevirtual 210, 3) := by decide +kernel
theorem dX12_copy_51 : decode cX12_copy 51 = .ok (.istore 6, 2) := by decide +kernel
theorem dX12_copy_53 : decode cX12_copy 53 = .ok (.iload 6, 2) := by decide +kernel
theorem dX12_copy_55 : decode cX12_copy 55 = .ok (.ifCond .ne 21, 3) := by decide +kernel
theorem dX12_copy_58 : decode cX12_copy 58 = .ok (.aload_n 0, 1) := by decide +kernel
theorem dX12_copy_59 : decode cX12_copy 59 = .ok (.iload_n 3, 1) := by decide +kernel
theorem dX12_copy_60 : decode cX12_copy 60 = .ok (.aload_n 0, 1) := by decide +kernel
theorem dX12_copy_61 : decode cX12_copy 61 = .ok (.getfield 32, 3) := by decide +kernel
theorem dX12_copy_64 : decode cX12_copy 64 = .ok (.iload_n 1, 1) := by decide +kernel
theorem dX12_copy_65 : decode cX12_copy 65 = .ok (.iaload, 1) := by decide +kernel
theorem dX12_copy_66 : decode cX12_copy 66 = .ok (.iload 4, 2) := by decide +kernel
theorem dX12_copy_68 : decode cX12_copy 68 = .ok (.iload 5, 2) := by decide +kernel
theorem dX12_copy_70 : decode cX12_copy 70 = .ok (.invokevirtual 210, 3) := by decide +kernel
theorem dX12_copy_73 : decode cX12_copy 73 = .ok (.goto 5, 3) := by decide +kernel
theorem dX12_copy_76 : decode cX12_copy 76 = .ok (.iload 6, 2) := by decide +kernel
theorem dX12_copy_78 : decode cX12_copy 78 = .ok (.istore 6, 2) := by decide +kernel
theorem dX12_copy_80 : decode cX12_copy 80 = .ok (.iload 6, 2) := by decide +kernel
theorem dX12_copy_82 : decode cX12_copy 82 = .ok (.ifCond .eq 6, 3) := by decide +kernel
theorem dX12_copy_85 : decode cX12_copy 85 = .ok (.iload 6, 2) := by decide +kernel
theorem dX12_copy_87 : decode cX12_copy 87 = .ok (.ireturn, 1) := by decide +kernel
theorem dX12_copy_88 : decode cX12_copy 88 = .ok (.iconst 0, 1) := by decide +kernel
theorem dX12_copy_89 : decode cX12_copy 89 = .ok (.istore 7, 2) := by decide +kernel
theorem dX12_copy_91 : decode cX12_copy 91 = .ok (.iload 7, 2) := by decide +kernel
theorem dX12_copy_93 : decode cX12_copy 93 = .ok (.iload 5, 2) := by decide +kernel
theorem dX12_copy_95 : decode cX12_copy 95 = .ok (.if_icmp .ge 30, 3) := by decide +kernel
theorem dX12_copy_98 : decode cX12_copy 98 = .ok (.aload_n 0, 1) := by decide +kernel
theorem dX12_copy_99 : decode cX12_copy 99 = .ok (.getfield 41, 3) := by decide +kernel
theorem dX12_copy_102 : decode cX12_copy 102 = .ok (.iload 7, 2) := by decide +kernel
theorem dX12_copy_104 : decode cX12_copy 104 = .ok (.aload_n 0, 1) := by decide +kernel
theorem dX12_copy_105 : decode cX12_copy 105 = .ok (.getfield 38, 3) := by decide +kernel
theorem dX12_copy_108 : decode cX12_copy 108 = .ok (.bipush 16, 2) := by decide +kernel
theorem dX12_copy_110 : decode cX12_copy 110 = .ok (.iload_n 1, 1) := by decide +kernel
theorem dX12_copy_111 : decode cX12_copy 111 = .ok (.imul, 1) := by decide +kernel
theorem dX12_copy_112 : decode cX12_copy 112 = .ok (.iload_n 2, 1) := by decide +kernel
theorem dX12_copy_113 : decode cX12_copy 113 = .ok (.iadd, 1) := by decide +kernel
theorem dX12_copy_114 : decode cX12_copy 114 = .ok (.iload 7, 2) := by decide +kernel
theorem dX12_copy_116 : decode cX12_copy 116 = .ok (.iadd, 1) := by decide +kernel
theorem dX12_copy_117 : decode cX12_copy 117 = .ok (.laload, 1) := by decide +kernel
theorem dX12_copy_118 : decode cX12_copy 118 = .ok (.lastore, 1) := by decide +kernel
theorem dX12_copy_119 : decode cX12_copy 119 = .ok (.iinc 7 1, 3) := by decide +kernel
theorem dX12_copy_122 : decode cX12_copy 122 = .ok (.goto (-31), 3) := by decide +kernel
theorem dX12_copy_125 : decode cX12_copy 125 = .ok (.iconst 0, 1) := by decide +kernel
theorem dX12_copy_126 : decode cX12_copy 126 = .ok (.istore 7, 2) := by decide +kernel
theorem dX12_copy_128 : decode cX12_copy 128 = .ok (.iload 7, 2) := by decide +kernel
theorem dX12_copy_130 : decode cX12_copy 130 = .ok (.iload 5, 2) := by decide +kernel
theorem dX12_copy_132 : decode cX12_copy 132 = .ok (.if_icmp .ge 31, 3) := by decide +kernel
theorem dX12_copy_135 : decode cX12_copy 135 = .ok (.aload_n 0, 1) := by decide +kernel
theorem dX12_copy_136 : decode cX12_copy 136 = .ok (.getfield 38, 3) := by decide +kernel
theorem dX12_copy_139 : decode cX12_copy 139 = .ok (.bipush 16, 2) := by decide +kernel
theorem dX12_copy_141 : decode cX12_copy 141 = .ok (.iload_n 3, 1) := by decide +kernel
theorem dX12_copy_142 : decode cX12_copy 142 = .ok (.imul, 1) := by decide +kernel
theorem dX12_copy_143 : decode cX12_copy 143 = .ok (.iload 4, 2) := by decide +kernel
theorem dX12_copy_145 : decode cX12_copy 145 = .ok (.iadd, 1) := by decide +kernel
theorem dX12_copy_146 : decode cX12_copy 146 = .ok (.iload 7, 2) := by decide +kernel
theorem dX12_copy_148 : decode cX12_copy 148 = .ok (.iadd, 1) := by decide +kernel
theorem dX12_copy_149 : decode cX12_copy 149 = .ok (.aload_n 0, 1) := by decide +kernel
theorem dX12_copy_150 : decode cX12_copy 150 = .ok (.getfield 41, 3) := by decide +kernel
theorem dX12_copy_153 : decode cX12_copy 153 = .ok (.iload 7, 2) := by decide +kernel
theorem dX12_copy_155 : decode cX12_copy 155 = .ok (.laload, 1) := by decide +kernel
theorem dX12_copy_156 : decode cX12_copy 156 = .ok (.lastore, 1) := by decide +kernel
theorem dX12_copy_157 : decode cX12_copy 157 = .ok (.iinc 7 1, 3) := by decide +kernel
theorem dX12_copy_160 : decode cX12_copy 160 = .ok (.goto (-32), 3) := by decide +kernel
theorem dX12_copy_163 : decode cX12_copy 163 = .ok (.iload 5, 2) := by decide +kernel
theorem dX12_copy_165 : decode cX12_copy 165 = .ok (.ireturn, 1) := by decide +kernel
