theorem dX11_measure_0 : decode cX11_measure 0 = .ok (.iload_n 1, 1) := by decide +kernel
theorem dX11_measure_1 : decode cX11_measure 1 = .ok (.iconst 0, 1) := by decide +kernel
theorem dX11_measure_2 : decode cX11_measure 2 = .ok (.iconst 2, 1) := by decide +kernel
theorem dX11_measure_3 : decode cX11_measure 3 = .ok (.invokestatic 47, 3) := by decide +kernel
theorem dX11_measure_6 : decode cX11_measure 6 = .ok (.ifCond .eq 14, 3) := by decide +kernel
theorem dX11_measure_9 : decode cX11_measure 9 = .ok (.iload_n 2, 1) := by decide +kernel
theorem dX11_measure_10 : decode cX11_measure 10 = .ok (.iconst 1, 1) := by decide +kernel
theorem dX11_measure_11 : decode cX11_measure 11 = .ok (.sipush 999, 3) := by decide +kernel
theorem dX11_measure_14 : decode cX11_measure 14 = .ok (.invokestatic 47, 3) := by decide +kernel
theorem dX11_measure_17 : decode cX11_measure 17 = .ok (.ifCond .ne 5, 3) := by decide +kernel
theorem dX11_measure_20 : decode cX11_measure 20 = .ok (.iconst (-1), 1) := by decide +kernel
theorem dX11_measure_21 : decode cX11_measure 21 = .ok (.ireturn, 1) := by decide +kernel
theorem dX11_measure_22 : decode cX11_measure 22 = .ok (.aload_n 0, 1) := by decide +kernel
theorem dX11_measure_23 : decode cX11_measure 23 = .ok (.getfield 10, 3) := by decide +kernel
theorem dX11_measure_26 : decode cX11_measure 26 = .ok (.getfield 51, 3) := by decide +kernel
theorem dX11_measure_29 : decode cX11_measure 29 = .ok (.getfield 55, 3) := by decide +kernel
theorem dX11_measure_32 : decode cX11_measure 32 = .ok (.iload_n 1, 1) := by decide +kernel
theorem dX11_measure_33 : decode cX11_measure 33 = .ok (.invokestatic 61, 3) := by decide +kernel
theorem dX11_measure_36 : decode cX11_measure 36 = .ok (.istore_n 3, 1) := by decide +kernel
theorem dX11_measure_37 : decode cX11_measure 37 = .ok (.aload_n 0, 1) := by decide +kernel
theorem dX11_measure_38 : decode cX11_measure 38 = .ok (.getfield 10, 3) := by decide +kernel
theorem dX11_measure_41 : decode cX11_measure 41 = .ok (.getfield 51, 3) := by decide +kernel
theorem dX11_measure_44 : decode cX11_measure 44 = .ok (.getfield 55, 3) := by decide +kernel
theorem dX11_measure_47 : decode cX11_measure 47 = .ok (.iload_n 1, 1) := by decide +kernel
theorem dX11_measure_48 : decode cX11_measure 48 = .ok (.iload_n 2, 1) := by decide +kernel
theorem dX11_measure_49 : decode cX11_measure 49 = .ok (.invokestatic 67, 3) := by decide +kernel
theorem dX11_measure_52 : decode cX11_measure 52 = .ok (.iload_n 3, 1) := by decide +kernel
theorem dX11_measure_53 : decode cX11_measure 53 = .ok (.ireturn, 1) := by decide +kernel
theorem dX11_rule_0 : decode cX11_rule 0 = .ok (.iload_n 1, 1) := by decide +kernel
theorem dX11_rule_1 : decode cX11_rule 1 = .ok (.iconst 1, 1) := by decide +kernel
theorem dX11_rule_2 : decode cX11_rule 2 = .ok (.bipush 7, 2) := by decide +kernel
theorem dX11_rule_4 : decode cX11_rule 4 = .ok (.invokestatic 47, 3) := by decide +kernel
theorem dX11_rule_7 : decode cX11_rule 7 = .ok (.ifCond .eq 15, 3) := by decide +kernel
theorem dX11_rule_10 : decode cX11_rule 10 = .ok (.iload_n 1, 1) := by decide +kernel
theorem dX11_rule_11 : decode cX11_rule 11 = .ok (.invokestatic 71, 3) := by decide +kernel
theorem dX11_rule_14 : decode cX11_rule 14 = .ok (.iconst 2, 1) := by decide +kernel
theorem dX11_rule_15 : decode cX11_rule 15 = .ok (.if_icmp .lt 7, 3) := by decide +kernel
theorem dX11_rule_18 : decode cX11_rule 18 = .ok (.iconst 1, 1) := by decide +kernel
theorem dX11_rule_19 : decode cX11_rule 19 = .ok (.goto 4, 3) := by decide +kernel
theorem dX11_rule_22 : decode cX11_rule 22 = .ok (.iconst 0, 1) := by decide +kernel
theorem dX11_rule_23 : decode cX11_rule 23 = .ok (.istore_n 3, 1) := by decide +kernel
theorem dX11_rule_24 : decode cX11_rule 24 = .ok (.iload_n 3, 1) := by decide +kernel
theorem dX11_rule_25 : decode cX11_rule 25 = .ok (.ifCond .eq 12, 3) := by decide +kernel
theorem dX11_rule_28 : decode cX11_rule 28 = .ok (.iload_n 2, 1) := by decide +kernel
theorem dX11_rule_29 : decode cX11_rule 29 = .ok (.iconst 0, 1) := by decide +kernel
theorem dX11_rule_30 : decode cX11_rule 30 = .ok (.iconst 1, 1) := by decide +kernel
theorem dX11_rule_31 : decode cX11_rule 31 = .ok (.invokestatic 47, 3) := by decide +kernel
theorem dX11_rule_34 : decode cX11_rule 34 = .ok (.ifCond .ne 5, 3) := by decide +kernel
theorem dX11_rule_37 : decode cX11_rule 37 = .ok (.iconst (-1), 1) := by decide +kernel
theorem dX11_rule_38 : decode cX11_rule 38 = .ok (.ireturn, 1) := by decide +kernel
theorem dX11_rule_39 : decode cX11_rule 39 = .ok (.bipush 10, 2) := by decide +kernel
theorem dX11_rule_41 : decode cX11_rule 41 = .ok (.aload_n 0, 1) := by decide +kernel
theorem dX11_rule_42 : decode cX11_rule 42 = .ok (.getfield 10, 3) := by decide +kernel
theorem dX11_rule_45 : decode cX11_rule 45 = .ok (.getfield 51, 3) := by decide +kernel
theorem dX11_rule_48 : decode cX11_rule 48 = .ok (.getfield 77, 3) := by decide +kernel
theorem dX11_rule_51 : decode cX11_rule 51 = .ok (.imul, 1) := by decide +kernel
theorem dX11_rule_52 : decode cX11_rule 52 = .ok (.aload_n 0, 1) := by decide +kernel
theorem dX11_rule_53 : decode cX11_rule 53 = .ok (.getfield 10, 3) := by decide +kernel
theorem dX11_rule_56 : decode cX11_rule 56 = .ok (.getfield 51, 3) := by decide +kernel
theorem dX11_rule_59 : decode cX11_rule 59 = .ok (.getfield 81, 3) := by decide +kernel
theorem dX11_rule_62 : decode cX11_rule 62 = .ok (.iadd, 1) := by decide +kernel
theorem dX11_rule_63 : decode cX11_rule 63 = .ok (.istore 4, 2) := by decide +kernel
theorem dX11_rule_65 : decode cX11_rule 65 = .ok (.aload_n 0, 1) := by decide +kernel
theorem dX11_rule_66 : decode cX11_rule 66 = .ok (.getfield 10, 3) := by decide +kernel
theorem dX11_rule_69 : decode cX11_rule 69 = .ok (.getfield 51, 3) := by decide +kernel
theorem dX11_rule_72 : decode cX11_rule 72 = .ok (.iload_n 1, 1) := by decide +kernel
theorem dX11_rule_73 : decode cX11_rule 73 = .ok (.putfield 77, 3) := by decide +kernel
theorem dX11_rule_76 : decode cX11_rule 76 = .ok (.aload_n 0, 1) := by decide +kernel
theorem dX11_rule_77 : decode cX11_rule 77 = .ok (.getfield 10, 3) := by decide +kernel
theorem dX11_rule_80 : decode cX11_rule 80 = .ok (.getfield 51, 3) := by decide +kernel
theorem dX11_rule_83 : decode cX11_rule 83 = .ok (.iload_n 2, 1) := by decide +kernel
theorem dX11_rule_84 : decode cX11_rule 84 = .ok (.putfield 81, 3) := by decide +kernel
theorem dX11_rule_87 : decode cX11_rule 87 = .ok (.iload 4, 2) := by decide +kernel
theorem dX11_rule_89 : decode cX11_rule 89 = .ok (.ireturn, 1) := by decide +kernel
theorem dX11_seam_0 : decode cX11_seam 0 = .ok (.iload_n 1, 1) := by decide +kernel
theorem dX11_seam_1 : decode cX11_seam 1 = .ok (.iconst 0, 1) := by decide +kernel
theorem dX11_seam_2 : decode cX11_seam 2 = .ok (.bipush 99, 2) := by decide +kernel
theorem dX11_seam_4 : decode cX11_seam 4 = .ok (.invokestatic 47, 3) := by decide +kernel
theorem dX11_seam_7 : decode cX11_seam 7 = .ok (.ifCond .ne 5, 3) := by decide +kernel
theorem dX11_seam_10 : decode cX11_seam 10 = .ok (.iconst (-1), 1) := by decide +kernel
theorem dX11_seam_11 : decode cX11_seam 11 = .ok (.ireturn, 1) := by decide +kernel
theorem dX11_seam_12 : decode cX11_seam 12 = .ok (.aload_n 0, 1) := by decide +kernel
theorem dX11_seam_13 : decode cX11_seam 13 = .ok (.getfield 10, 3) := by decide +kernel
theorem dX11_seam_16 : decode cX11_seam 16 = .ok (.getfield 84, 3) := by decide +kernel
theorem dX11_seam_19 : decode cX11_seam 19 = .ok (.getfield 88, 3) := by decide +kernel
theorem dX11_seam_22 : decode cX11_seam 22 = .ok (.istore_n 2, 1) := by decide +kernel
theorem dX11_seam_23 : decode cX11_seam 23 = .ok (.aload_n 0, 1) := by decide +kernel
theorem dX11_seam_24 : decode cX11_seam 24 = .ok (.getfield 10, 3) := by decide +kernel
theorem dX11_seam_27 : decode cX11_seam 27 = .ok (.getfield 84, 3) := by decide +kernel
theorem dX11_seam_30 : decode cX11_seam 30 = .ok (.iload_n 1, 1) := by decide +kernel
theorem dX11_seam_31 : decode cX11_seam 31 = .ok (.putfield 88, 3) := by decide +kernel
theorem dX11_seam_34 : decode cX11_seam 34 = .ok (.iload_n 2, 1) := by decide +kernel
theorem dX11_seam_35 : decode cX11_seam 35 = .ok (.ireturn, 1) := by decide +kernel
theorem dX11_place_0 : decode cX11_place 0 = .ok (.iload_n 1, 1) := by decide +kernel
theorem dX11_place_1 : decode cX11_place 1 = .ok (.iconst 1, 1) := by decide +kernel
theorem dX11_place_2 : decode cX11_place 2 = .ok (.ldc 93, 2) := by decide +kernel
theorem dX11_place_4 : decode cX11_place 4 = .ok (.invokestatic 47, 3) := by decide +kernel
theorem dX11_place_7 : decode cX11_place 7 = .ok (.ifCond .ne 7, 3) := by decide +kernel
theorem dX11_place_10 : decode cX11_place 10 = .ok (.ldc2_w 94, 3) := by decide +kernel
theorem dX11_place_13 : decode cX11_place 13 = .ok (.lreturn, 1) := by decide +kernel
theorem dX11_place_14 : decode cX11_place 14 = .ok (.aload_n 0, 1) := by decide +kernel
theorem dX11_place_15 : decode cX11_place 15 = .ok (.invokevirtual 96, 3) := by decide +kernel
theorem dX11_place_18 : decode cX11_place 18 = .ok (.iload_n 1, 1) := by decide +kernel
theorem dX11_place_19 : decode cX11_place 19 = .ok (.invokevirtual 100, 3) := by decide +kernel
theorem dX11_place_22 : decode cX11_place 22 = .ok (.lreturn, 1) := by decide +kernel
theorem dX11_places_0 : decode cX11_places 0 = .ok (.lload_n 1, 1) := by decide +kernel
theorem dX11_places_1 : decode cX11_places 1 = .ok (.lconst 0, 1) := by decide +kernel
theorem dX11_places_2 : decode cX11_places 2 = .ok (.lcmp, 1) := by decide +kernel
theorem dX11_places_3 : decode cX11_places 3 = .ok (.ifCond .lt 11, 3) := by decide +kernel
theorem dX11_places_6 : decode cX11_places 6 = .ok (.lload_n 1, 1) := by decide +kernel
theorem dX11_places_7 : decode cX11_places 7 = .ok (.ldc2_w 104, 3) := by decide +kernel
theorem dX11_places_10 : decode cX11_places 10 = .ok (.lcmp, 1) := by decide +kernel
theorem dX11_places_11 : decode cX11_places 11 = .ok (.ifCond .le 7, 3) := by decide +kernel
theorem dX11_places_14 : decode cX11_places 14 = .ok (.ldc2_w 94, 3) := by decide +kernel
theorem dX11_places_17 : decode cX11_places 17 = .ok (.lreturn, 1) := by decide +kernel
theorem dX11_places_18 : decode cX11_places 18 = .ok (.aload_n 0, 1) := by decide +kernel
theorem dX11_places_19 : decode cX11_places 19 = .ok (.invokevirtual 96, 3) := by decide +kernel
theorem dX11_places_22 : decode cX11_places 22 = .ok (.lload_n 1, 1) := by decide +kernel
theorem dX11_places_23 : decode cX11_places 23 = .ok (.invokevirtual 106, 3) := by decide +kernel
theorem dX11_places_26 : decode cX11_places 26 = .ok (.lreturn, 1) := by decide +kernel
theorem dX11_bolt_0 : decode cX11_bolt 0 = .ok (.iload_n 1, 1) := by decide +kernel
theorem dX11_bolt_1 : decode cX11_bolt 1 = .ok (.invokestatic 110, 3) := by decide +kernel
theorem dX11_bolt_4 : decode cX11_bolt 4 = .ok (.ifCond .eq 13, 3) := by decide +kernel
theorem dX11_bolt_7 : decode cX11_bolt 7 = .ok (.iload_n 2, 1) := by decide +kernel
theorem dX11_bolt_8 : decode cX11_bolt 8 = .ok (.iconst 1, 1) := by decide +kernel
theorem dX11_bolt_9 : decode cX11_bolt 9 = .ok (.ldc 114, 2) := by decide +kernel
theorem dX11_bolt_11 : decode cX11_bolt 11 = .ok (.invokestatic 47, 3) := by decide +kernel
theorem dX11_bolt_14 : decode cX11_bolt 14 = .ok (.ifCond .ne 5, 3) := by decide +kernel
theorem dX11_bolt_17 : decode cX11_bolt 17 = .ok (.iconst (-1), 1) := by decide +kernel
theorem dX11_bolt_18 : decode cX11_bolt 18 = .ok (.ireturn, 1) := by decide +kernel
theorem dX11_bolt_19 : decode cX11_bolt 19 = .ok (.aload_n 0, 1) := by decide +kernel
theorem dX11_bolt_20 : decode cX11_bolt 20 = .ok (.getfield 10, 3) := by decide +kernel
theorem dX11_bolt_23 : decode cX11_bolt 23 = .ok (.getfield 84, 3) := by decide +kernel
theorem dX11_bolt_26 : decode cX11_bolt 26 = .ok (.getfield 115, 3) := by decide +kernel
theorem dX11_bolt_29 : decode cX11_bolt 29 = .ok (.bipush 8, 2) := by decide +kernel
theorem dX11_bolt_31 : decode cX11_bolt 31 = .ok (.if_icmp .lt 8, 3) := by decide +kernel
theorem dX11_bolt_34 : decode cX11_bolt 34 = .ok (.bipush (-3), 2) := by decide +kernel
theorem dX11_bolt_36 : decode cX11_bolt 36 = .ok (.goto 15, 3) := by decide +kernel
theorem dX11_bolt_39 : decode cX11_bolt 39 = .ok (.aload_n 0, 1) := by decide +kernel
theorem dX11_bolt_40 : decode cX11_bolt 40 = .ok (.getfield 10, 3) := by decide +kernel
theorem dX11_bolt_43 : decode cX11_bolt 43 = .ok (.getfield 84, 3) := by decide +kernel
theorem dX11_bolt_46 : decode cX11_bolt 46 = .ok (.iload_n 1, 1) := by decide +kernel
theorem dX11_bolt_47 : decode cX11_bolt 47 = .ok (.iload_n 2, 1) := by decide +kernel
theorem dX11_bolt_48 : decode cX11_bolt 48 = .ok (.invokevirtual 118, 3) := by decide +kernel
theorem dX11_bolt_51 : decode cX11_bolt 51 = .ok (.ireturn, 1) := by decide +kernel
theorem dX11_told_0 : decode cX11_told 0 = .ok (.aload_n 0, 1) := by decide +kernel
theorem dX11_told_1 : decode cX11_told 1 = .ok (.getfield 10, 3) := by decide +kernel
theorem dX11_told_4 : decode cX11_told 4 = .ok (.getfield 84, 3) := by decide +kernel
theorem dX11_told_7 : decode cX11_told 7 = .ok (.astore_n 3, 1) := by decide +kernel
theorem dX11_told_8 : decode cX11_told 8 = .ok (.aload_n 3, 1) := by decide +kernel
theorem dX11_told_9 : decode cX11_told 9 = .ok (.iload_n 1, 1) := by decide +kernel
theorem dX11_told_10 : decode cX11_told 10 = .ok (.invokevirtual 122, 3) := by decide +kernel
theorem dX11_told_13 : decode cX11_told 13 = .ok (.ifCond .eq 12, 3) := by decide +kernel
theorem dX11_told_16 : decode cX11_told 16 = .ok (.iload_n 2, 1) := by decide +kernel
theorem dX11_told_17 : decode cX11_told 17 = .ok (.iconst 0, 1) := by decide +kernel
theorem dX11_told_18 : decode cX11_told 18 = .ok (.iconst 2, 1) := by decide +kernel
theorem dX11_told_19 : decode cX11_told 19 = .ok (.invokestatic 47, 3) := by decide +kernel
theorem dX11_told_22 : decode cX11_told 22 = .ok (.ifCond .ne 5, 3) := by decide +kernel
theorem dX11_told_25 : decode cX11_told 25 = .ok (.iconst (-1), 1) := by decide +kernel
theorem dX11_told_26 : decode cX11_told 26 = .ok (.ireturn, 1) := by decide +kernel
theorem dX11_told_27 : decode cX11_told 27 = .ok (.iload_n 2, 1) := by decide +kernel
theorem dX11_told_28 : decode cX11_told 28 = .ok (.ifCond .ne 12, 3) := by decide +kernel
theorem dX11_told_31 : decode cX11_told 31 = .ok (.aload_n 3, 1) := by decide +kernel
theorem dX11_told_32 : decode cX11_told 32 = .ok (.getfield 125, 3) := by decide +kernel
theorem dX11_told_35 : decode cX11_told 35 = .ok (.iload_n 1, 1) := by decide +kernel
theorem dX11_told_36 : decode cX11_told 36 = .ok (.invokestatic 61, 3) := by decide +kernel
theorem dX11_told_39 : decode cX11_told 39 = .ok (.ireturn, 1) := by decide +kernel
theorem dX11_told_40 : decode cX11_told 40 = .ok (.aload_n 3, 1) := by decide +kernel
theorem dX11_told_41 : decode cX11_told 41 = .ok (.getfield 128, 3) := by decide +kernel
theorem dX11_told_44 : decode cX11_told 44 = .ok (.iload_n 1, 1) := by decide +kernel
theorem dX11_told_45 : decode cX11_told 45 = .ok (.invokestatic 61, 3) := by decide +kernel
theorem dX11_told_48 : decode cX11_told 48 = .ok (.istore 4, 2) := by decide +kernel
theorem dX11_told_50 : decode cX11_told 50 = .ok (.iload_n 2, 1) := by decide +kernel
theorem dX11_told_51 : decode cX11_told 51 = .ok (.iconst 1, 1) := by decide +kernel
theorem dX11_told_52 : decode cX11_told 52 = .ok (.if_icmp .ne 8, 3) := by decide +kernel
theorem dX11_told_55 : decode cX11_told 55 = .ok (.iload 4, 2) := by decide +kernel
theorem dX11_told_57 : decode cX11_told 57 = .ok (.goto 14, 3) := by decide +kernel
theorem dX11_told_60 : decode cX11_told 60 = .ok (.aload_n 0, 1) := by decide +kernel
theorem dX11_told_61 : decode cX11_told 61 = .ok (.invokevirtual 96, 3) := by decide +kernel
theorem dX11_told_64 : decode cX11_told 64 = .ok (.iload 4, 2) := by decide +kernel
theorem dX11_told_66 : decode cX11_told 66 = .ok (.i2l, 1) := by decide +kernel
theorem dX11_told_67 : decode cX11_told 67 = .ok (.invokevirtual 131, 3) := by decide +kernel
theorem dX11_told_70 : decode cX11_told 70 = .ok (.l2i, 1) := by decide +kernel
theorem dX11_told_71 : decode cX11_told 71 = .ok (.ireturn, 1) := by decide +kernel
theorem dX11_cut_0 : decode cX11_cut 0 = .ok (.aload_n 0, 1) := by decide +kernel
theorem dX11_cut_1 : decode cX11_cut 1 = .ok (.getfield 10, 3) := by decide +kernel
theorem dX11_cut_4 : decode cX11_cut 4 = .ok (.getfield 84, 3) := by decide +kernel
theorem dX11_cut_7 : decode cX11_cut 7 = .ok (.astore_n 3, 1) := by decide +kernel
theorem dX11_cut_8 : decode cX11_cut 8 = .ok (.aload_n 3, 1) := by decide +kernel
theorem dX11_cut_9 : decode cX11_cut 9 = .ok (.iload_n 1, 1) := by decide +kernel
theorem dX11_cut_10 : decode cX11_cut 10 = .ok (.invokevirtual 122, 3) := by decide +kernel
theorem dX11_cut_13 : decode cX11_cut 13 = .ok (.ifCond .ne 5, 3) := by decide +kernel
theorem dX11_cut_16 : decode cX11_cut 16 = .ok (.iconst (-1), 1) := by decide +kernel
theorem dX11_cut_17 : decode cX11_cut 17 = .ok (.ireturn, 1) := by decide +kernel
theorem dX11_cut_18 : decode cX11_cut 18 = .ok (.iload_n 2, 1) := by decide +kernel
theorem dX11_cut_19 : decode cX11_cut 19 = .ok (.aload_n 3, 1) := by decide +kernel
theorem dX11_cut_20 : decode cX11_cut 20 = .ok (.getfield 128, 3) := by decide +kernel
theorem dX11_cut_23 : decode cX11_cut 23 = .ok (.iload_n 1, 1) := by decide +kernel
theorem dX11_cut_24 : decode cX11_cut 24 = .ok (.invokestatic 61, 3) := by decide +kernel
theorem dX11_cut_27 : decode cX11_cut 27 = .ok (.if_icmp .gt 15, 3) := by decide +kernel
theorem dX11_cut_30 : decode cX11_cut 30 = .ok (.aload_n 0, 1) := by decide +kernel
theorem dX11_cut_31 : decode cX11_cut 31 = .ok (.invokevirtual 96, 3) := by decide +kernel
theorem dX11_cut_34 : decode cX11_cut 34 = .ok (.iload_n 2, 1) := by decide +kernel
theorem dX11_cut_35 : decode cX11_cut 35 = .ok (.i2l, 1) := by decide +kernel
theorem dX11_cut_36 : decode cX11_cut 36 = .ok (.invokevirtual 134, 3) := by decide +kernel
theorem dX11_cut_39 : decode cX11_cut 39 = .ok (.ifCond .ne 6, 3) := by decide +kernel
theorem dX11_cut_42 : decode cX11_cut 42 = .ok (.bipush (-2), 2) := by decide +kernel
theorem dX11_cut_44 : decode cX11_cut 44 = .ok (.ireturn, 1) := by decide +kernel
theorem dX11_cut_45 : decode cX11_cut 45 = .ok (.aload_n 3, 1) := by decide +kernel
theorem dX11_cut_46 : decode cX11_cut 46 = .ok (.iload_n 1, 1) := by decide +kernel
theorem dX11_cut_47 : decode cX11_cut 47 = .ok (.iload_n 2, 1) := by decide +kernel
theorem dX11_cut_48 : decode cX11_cut 48 = .ok (.invokevirtual 138, 3) := by decide +kernel
theorem dX11_cut_51 : decode cX11_cut 51 = .ok (.ireturn, 1) := by decide +kernel
theorem dX11_join_0 : decode cX11_join 0 = .ok (.aload_n 0, 1) := by decide +kernel
theorem dX11_join_1 : decode cX11_join 1 = .ok (.getfield 10, 3) := by decide +kernel
theorem dX11_join_4 : decode cX11_join 4 = .ok (.getfield 84, 3) := by decide +kernel
theorem dX11_join_7 : decode cX11_join 7 = .ok (.astore_n 3, 1) := by decide +kernel
theorem dX11_join_8 : decode cX11_join 8 = .ok (.aload_n 3, 1) := by decide +kernel
theorem dX11_join_9 : decode cX11_join 9 = .ok (.iload_n 1, 1) := by decide +kernel
theorem dX11_join_10 : decode cX11_join 10 = .ok (.invokevirtual 122, 3) := by decide +kernel
theorem dX11_join_13 : decode cX11_join 13 = .ok (.ifCond .eq 16, 3) := by decide +kernel
theorem dX11_join_16 : decode cX11_join 16 = .ok (.aload_n 3, 1) := by decide +kernel
theorem dX11_join_17 : decode cX11_join 17 = .ok (.iload_n 2, 1) := by decide +kernel
theorem dX11_join_18 : decode cX11_join 18 = .ok (.invokevirtual 122, 3) := by decide +kernel
theorem dX11_join_21 : decode cX11_join 21 = .ok (.ifCond .eq 8, 3) := by decide +kernel
theorem dX11_join_24 : decode cX11_join 24 = .ok (.iload_n 1, 1) := by decide +kernel
theorem dX11_join_25 : decode cX11_join 25 = .ok (.iload_n 2, 1) := by decide +kernel
theorem dX11_join_26 : decode cX11_join 26 = .ok (.if_icmp .ne 5, 3) := by decide +kernel
theorem dX11_join_29 : decode cX11_join 29 = .ok (.iconst (-1), 1) := by decide +kernel
theorem dX11_join_30 : decode cX11_join 30 = .ok (.ireturn, 1) := by decide +kernel
theorem dX11_join_31 : decode cX11_join 31 = .ok (.aload_n 3, 1) := by decide +kernel
theorem dX11_join_32 : decode cX11_join 32 = .ok (.iload_n 1, 1) := by decide +kernel
theorem dX11_join_33 : decode cX11_join 33 = .ok (.iload_n 2, 1) := by decide +kernel
theorem dX11_join_34 : decode cX11_join 34 = .ok (.invokevirtual 141, 3) := by decide +kernel
theorem dX11_join_37 : decode cX11_join 37 = .ok (.ifCond .ne 6, 3) := by decide +kernel
theorem dX11_join_40 : decode cX11_join 40 = .ok (.bipush (-2), 2) := by decide +kernel
theorem dX11_join_42 : decode cX11_join 42 = .ok (.ireturn, 1) := by decide +kernel
theorem dX11_join_43 : decode cX11_join 43 = .ok (.aload_n 3, 1) := by decide +kernel
theorem dX11_join_44 : decode cX11_join 44 = .ok (.iconst 1, 1) := by decide +kernel
theorem dX11_join_45 : decode cX11_join 45 = .ok (.iload_n 1, 1) := by decide +kernel
theorem dX11_join_46 : decode cX11_join 46 = .ok (.ishl, 1) := by decide +kernel
theorem dX11_join_47 : decode cX11_join 47 = .ok (.iconst 1, 1) := by decide +kernel
theorem dX11_join_48 : decode cX11_join 48 = .ok (.iload_n 2, 1) := by decide +kernel
theorem dX11_join_49 : decode cX11_join 49 = .ok (.ishl, 1) := by decide +kernel
theorem dX11_join_50 : decode cX11_join 50 = .ok (.ior, 1) := by decide +kernel
theorem dX11_join_51 : decode cX11_join 51 = .ok (.aload_n 3, 1) := by decide +kernel
theorem dX11_join_52 : decode cX11_join 52 = .ok (.getfield 125, 3) := by decide +kernel
theorem dX11_join_55 : decode cX11_join 55 = .ok (.iload_n 1, 1) := by decide +kernel
theorem dX11_join_56 : decode cX11_join 56 = .ok (.invokestatic 61, 3) := by decide +kernel
theorem dX11_join_59 : decode cX11_join 59 = .ok (.invokevirtual 145, 3) := by decide +kernel
theorem dX11_join_62 : decode cX11_join 62 = .ok (.istore 4, 2) := by decide +kernel
theorem dX11_join_64 : decode cX11_join 64 = .ok (.iload 4, 2) := by decide +kernel
theorem dX11_join_66 : decode cX11_join 66 = .ok (.ldc 114, 2) := by decide +kernel
theorem dX11_join_68 : decode cX11_join 68 = .ok (.if_icmp .le 6, 3) := by decide +kernel
theorem dX11_join_71 : decode cX11_join 71 = .ok (.bipush (-3), 2) := by decide +kernel
theorem dX11_join_73 : decode cX11_join 73 = .ok (.ireturn, 1) := by decide +kernel
theorem dX11_join_74 : decode cX11_join 74 = .ok (.aload_n 3, 1) := by decide +kernel
theorem dX11_join_75 : decode cX11_join 75 = .ok (.iload_n 1, 1) := by decide +kernel
theorem dX11_join_76 : decode cX11_join 76 = .ok (.iload_n 2, 1) := by decide +kernel
theorem dX11_join_77 : decode cX11_join 77 = .ok (.iload 4, 2) := by decide +kernel
theorem dX11_join_79 : decode cX11_join 79 = .ok (.invokevirtual 148, 3) := by decide +kernel
theorem dX11_join_82 : decode cX11_join 82 = .ok (.iload 4, 2) := by decide +kernel
theorem dX11_join_84 : decode cX11_join 84 = .ok (.ireturn, 1) := by decide +kernel
theorem dX11_type_0 : decode cX11_type 0 = .ok (.iload_n 3, 1) := by decide +kernel
theorem dX11_type_1 : decode cX11_type 1 = .ok (.iconst 1, 1) := by decide +kernel
theorem dX11_type_2 : decode cX11_type 2 = .ok (.bipush 8, 2) := by decide +kernel
theorem dX11_type_4 : decode cX11_type 4 = .ok (.invokestatic 47, 3) := by decide +kernel
theorem dX11_type_7 : decode cX11_type 7 = .ok (.ifCond .ne 5, 3) := by decide +kernel
theorem dX11_type_10 : decode cX11_type 10 = .ok (.iconst (-1), 1) := by decide +kernel
theorem dX11_type_11 : decode cX11_type 11 = .ok (.ireturn, 1) := by decide +kernel
theorem dX11_type_12 : decode cX11_type 12 = .ok (.iconst 0, 1) := by decide +kernel
theorem dX11_type_13 : decode cX11_type 13 = .ok (.istore 4, 2) := by decide +kernel
theorem dX11_type_15 : decode cX11_type 15 = .ok (.iload 4, 2) := by decide +kernel
theorem dX11_type_17 : decode cX11_type 17 = .ok (.iload_n 3, 1) := by decide +kernel
theorem dX11_type_18 : decode cX11_type 18 = .ok (.if_icmp .ge 27, 3) := by decide +kernel
theorem dX11_type_21 : decode cX11_type 21 = .ok (.lload_n 1, 1) := by decide +kernel
theorem dX11_type_22 : decode cX11_type 22 = .ok (.iload 4, 2) := by decide +kernel
theorem dX11_type_24 : decode cX11_type 24 = .ok (.invokestatic 152, 3) := by decide +kernel
theorem dX11_type_27 : decode cX11_type 27 = .ok (.bipush 32, 2) := by decide +kernel
theorem dX11_type_29 : decode cX11_type 29 = .ok (.bipush 126, 2) := by decide +kernel
theorem dX11_type_31 : decode cX11_type 31 = .ok (.invokestatic 47, 3) := by decide +kernel
theorem dX11_type_34 : decode cX11_type 34 = .ok (.ifCond .ne 5, 3) := by decide +kernel
theorem dX11_type_37 : decode cX11_type 37 = .ok (.iconst (-1), 1) := by decide +kernel
theorem dX11_type_38 : decode cX11_type 38 = .ok (.ireturn, 1) := by decide +kernel
theorem dX11_type_39 : decode cX11_type 39 = .ok (.iinc 4 1, 3) := by decide +kernel
theorem dX11_type_42 : decode cX11_type 42 = .ok (.goto (-27), 3) := by decide +kernel
theorem dX11_type_45 : decode cX11_type 45 = .ok (.iload_n 3, 1) := by decide +kernel
theorem dX11_type_46 : decode cX11_type 46 = .ok (.bipush 40, 2) := by decide +kernel
theorem dX11_type_48 : decode cX11_type 48 = .ok (.aload_n 0, 1) := by decide +kernel
theorem dX11_type_49 : decode cX11_type 49 = .ok (.getfield 22, 3) := by decide +kernel
theorem dX11_type_52 : decode cX11_type 52 = .ok (.getfield 156, 3) := by decide +kernel
theorem dX11_type_55 : decode cX11_type 55 = .ok (.isub, 1) := by decide +kernel
theorem dX11_type_56 : decode cX11_type 56 = .ok (.if_icmp .le 6, 3) := by decide +kernel
theorem dX11_type_59 : decode cX11_type 59 = .ok (.bipush (-3), 2) := by decide +kernel
theorem dX11_type_61 : decode cX11_type 61 = .ok (.ireturn, 1) := by decide +kernel
theorem dX11_type_62 : decode cX11_type 62 = .ok (.iload_n 3, 1) := by decide +kernel
theorem dX11_type_63 : decode cX11_type 63 = .ok (.iconst 1, 1) := by decide +kernel
theorem dX11_type_64 : decode cX11_type 64 = .ok (.isub, 1) := by decide +kernel
theorem dX11_type_65 : decode cX11_type 65 = .ok (.istore 4, 2) := by decide +kernel
theorem dX11_type_67 : decode cX11_type 67 = .ok (.iload 4, 2) := by decide +kernel
theorem dX11_type_69 : decode cX11_type 69 = .ok (.ifCond .lt 22, 3) := by decide +kernel
theorem dX11_type_72 : decode cX11_type 72 = .ok (.aload_n 0, 1) := by decide +kernel
theorem dX11_type_73 : decode cX11_type 73 = .ok (.getfield 22, 3) := by decide +kernel
theorem dX11_type_76 : decode cX11_type 76 = .ok (.lload_n 1, 1) := by decide +kernel
theorem dX11_type_77 : decode cX11_type 77 = .ok (.iload 4, 2) := by decide +kernel
theorem dX11_type_79 : decode cX11_type 79 = .ok (.invokestatic 152, 3) := by decide +kernel
theorem dX11_type_82 : decode cX11_type 82 = .ok (.invokevirtual 159, 3) := by decide +kernel
theorem dX11_type_85 : decode cX11_type 85 = .ok (.iinc 4 (-1), 3) := by decide +kernel
theorem dX11_type_88 : decode cX11_type 88 = .ok (.goto (-21), 3) := by decide +kernel
theorem dX11_type_91 : decode cX11_type 91 = .ok (.aload_n 0, 1) := by decide +kernel
theorem dX11_type_92 : decode cX11_type 92 = .ok (.getfield 22, 3) := by decide +kernel
theorem dX11_type_95 : decode cX11_type 95 = .ok (.getfield 156, 3) := by decide +kernel
theorem dX11_type_98 : decode cX11_type 98 = .ok (.ireturn, 1) := by decide +kernel
theorem dX11_towns_0 : decode cX11_towns 0 = .ok (.aload_n 0, 1) := by decide +kernel
theorem dX11_towns_1 : decode cX11_towns 1 = .ok (.getfield 22, 3) := by decide +kernel
theorem dX11_towns_4 : decode cX11_towns 4 = .ok (.invokevirtual 162, 3) := by decide +kernel
theorem dX11_towns_7 : decode cX11_towns 7 = .ok (.istore_n 1, 1) := by decide +kernel
theorem dX11_towns_8 : decode cX11_towns 8 = .ok (.iload_n 1, 1) := by decide +kernel
theorem dX11_towns_9 : decode cX11_towns 9 = .ok (.ifCond .le 17, 3) := by decide +kernel
theorem dX11_towns_12 : decode cX11_towns 12 = .ok (.aload_n 0, 1) := by decide +kernel
theorem dX11_towns_13 : decode cX11_towns 13 = .ok (.getfield 10, 3) := by decide +kernel
theorem dX11_towns_16 : decode cX11_towns 16 = .ok (.getfield 51, 3) := by decide +kernel
theorem dX11_towns_19 : decode cX11_towns 19 = .ok (.aload_n 0, 1) := by decide +kernel
theorem dX11_towns_20 : decode cX11_towns 20 = .ok (.getfield 22, 3) := by decide +kernel
theorem dX11_towns_23 : decode cX11_towns 23 = .ok (.invokevirtual 166, 3) := by decide +kernel
theorem dX11_towns_26 : decode cX11_towns 26 = .ok (.aload_n 0, 1) := by decide +kernel
theorem dX11_towns_27 : decode cX11_towns 27 = .ok (.getfield 22, 3) := by decide +kernel
theorem dX11_towns_30 : decode cX11_towns 30 = .ok (.iconst 0, 1) := by decide +kernel
theorem dX11_towns_31 : decode cX11_towns 31 = .ok (.putfield 156, 3) := by decide +kernel
theorem dX11_towns_34 : decode cX11_towns 34 = .ok (.iload_n 1, 1) := by decide +kernel
theorem dX11_towns_35 : decode cX11_towns 35 = .ok (.ireturn, 1) := by decide +kernel
theorem dX11_count_0 : decode cX11_count 0 = .ok (.iload_n 1, 1) := by decide +kernel
theorem dX11_count_1 : decode cX11_count 1 = .ok (.tableswitch 119 0 5 #[39, 50, 61, 72, 83, 104], 39) := by decide +kernel
theorem dX11_count_40 : decode cX11_count 40 = .ok (.aload_n 0, 1) := by decide +kernel
theorem dX11_count_41 : decode cX11_count 41 = .ok (.getfield 10, 3) := by decide +kernel
theorem dX11_count_44 : decode cX11_count 44 = .ok (.getfield 84, 3) := by decide +kernel
theorem dX11_count_47 : decode cX11_count 47 = .ok (.getfield 115, 3) := by decide +kernel
theorem dX11_count_50 : decode cX11_count 50 = .ok (.ireturn, 1) := by decide +kernel
theorem dX11_count_51 : decode cX11_count 51 = .ok (.aload_n 0, 1) := by decide +kernel
theorem dX11_count_52 : decode cX11_count 52 = .ok (.getfield 10, 3) := by decide +kernel
theorem dX11_count_55 : decode cX11_count 55 = .ok (.getfield 84, 3) := by decide +kernel
theorem dX11_count_58 : decode cX11_count 58 = .ok (.invokevirtual 170, 3) := by decide +kernel
theorem dX11_count_61 : decode cX11_count 61 = .ok (.ireturn, 1) := by decide +kernel
theorem dX11_count_62 : decode cX11_count 62 = .ok (.aload_n 0, 1) := by decide +kernel
theorem dX11_count_63 : decode cX11_count 63 = .ok (.getfield 10, 3) := by decide +kernel
theorem dX11_count_66 : decode cX11_count 66 = .ok (.getfield 84, 3) := by decide +kernel
theorem dX11_count_69 : decode cX11_count 69 = .ok (.getfield 173, 3) := by decide +kernel
theorem dX11_count_72 : decode cX11_count 72 = .ok (.ireturn, 1) := by decide +kernel
theorem dX11_count_73 : decode cX11_count 73 = .ok (.aload_n 0, 1) := by decide +kernel
theorem dX11_count_74 : decode cX11_count 74 = .ok (.getfield 10, 3) := by decide +kernel
theorem dX11_count_77 : decode cX11_count 77 = .ok (.getfield 176, 3) := by decide +kernel
theorem dX11_count_80 : decode cX11_count 80 = .ok (.getfield 180, 3) := by decide +kernel
theorem dX11_count_83 : decode cX11_count 83 = .ok (.ireturn, 1) := by decide +kernel
theorem dX11_count_84 : decode cX11_count 84 = .ok (.aload_n 0, 1) := by decide +kernel
theorem dX11_count_85 : decode cX11_count 85 = .ok (.getfield 10, 3) := by decide +kernel
theorem dX11_count_88 : decode cX11_count 88 = .ok (.getfield 176, 3) := by decide +kernel
theorem dX11_count_91 : decode cX11_count 91 = .ok (.aload_n 0, 1) := by decide +kernel
theorem dX11_count_92 : decode cX11_count 92 = .ok (.getfield 10, 3) := by decide +kernel
theorem dX11_count_95 : decode cX11_count 95 = .ok (.getfield 176, 3) := by decide +kernel
theorem dX11_count_98 : decode cX11_count 98 = .ok (.invokevirtual 183, 3) := by decide +kernel
theorem dX11_count_101 : decode cX11_count 101 = .ok (.invokevirtual 186, 3) := by decide +kernel
theorem dX11_count_104 : decode cX11_count 104 = .ok (.ireturn, 1) := by decide +kernel
theorem dX11_count_105 : decode cX11_count 105 = .ok (.aload_n 0, 1) := by decide +kernel
theorem dX11_count_106 : decode cX11_count 106 = .ok (.getfield 10, 3) := by decide +kernel
theorem dX11_count_109 : decode cX11_count 109 = .ok (.getfield 84, 3) := by decide +kernel
theorem dX11_count_112 : decode cX11_count 112 = .ok (.aload_n 0, 1) := by decide +kernel
theorem dX11_count_113 : decode cX11_count 113 = .ok (.invokevirtual 96, 3) := by decide +kernel
theorem dX11_count_116 : decode cX11_count 116 = .ok (.invokevirtual 189, 3) := by decide +kernel
theorem dX11_count_119 : decode cX11_count 119 = .ok (.ireturn, 1) := by decide +kernel
theorem dX11_count_120 : decode cX11_count 120 = .ok (.iconst (-1), 1) := by decide +kernel
theorem dX11_count_121 : decode cX11_count 121 = .ok (.ireturn, 1) := by decide +kernel
theorem dX11_most_0 : decode cX11_most 0 = .ok (.iload_n 1, 1) := by decide +kernel
theorem dX11_most_1 : decode cX11_most 1 = .ok (.invokestatic 110, 3) := by decide +kernel
theorem dX11_most_4 : decode cX11_most 4 = .ok (.ifCond .eq 13, 3) := by decide +kernel
theorem dX11_most_7 : decode cX11_most 7 = .ok (.iload_n 2, 1) := by decide +kernel
theorem dX11_most_8 : decode cX11_most 8 = .ok (.iconst (-1), 1) := by decide +kernel
theorem dX11_most_9 : decode cX11_most 9 = .ok (.bipush 7, 2) := by decide +kernel
theorem dX11_most_11 : decode cX11_most 11 = .ok (.invokestatic 47, 3) := by decide +kernel
theorem dX11_most_14 : decode cX11_most 14 = .ok (.ifCond .ne 5, 3) := by decide +kernel
theorem dX11_most_17 : decode cX11_most 17 = .ok (.iconst (-1), 1) := by decide +kernel
theorem dX11_most_18 : decode cX11_most 18 = .ok (.ireturn, 1) := by decide +kernel
theorem dX11_most_19 : decode cX11_most 19 = .ok (.aload_n 0, 1) := by decide +kernel
theorem dX11_most_20 : decode cX11_most 20 = .ok (.iload_n 1, 1) := by decide +kernel
theorem dX11_most_21 : decode cX11_most 21 = .ok (.invokevirtual 193, 3) := by decide +kernel
theorem dX11_most_24 : decode cX11_most 24 = .ok (.iload_n 2, 1) := by decide +kernel
theorem dX11_most_25 : decode cX11_most 25 = .ok (.iconst (-1), 1) := by decide +kernel
theorem dX11_most_26 : decode cX11_most 26 = .ok (.if_icmp .ne 12, 3) := by decide +kernel
theorem dX11_most_29 : decode cX11_most 29 = .ok (.aload_n 0, 1) := by decide +kernel
theorem dX11_most_30 : decode cX11_most 30 = .ok (.getfield 42, 3) := by decide +kernel
theorem dX11_most_33 : decode cX11_most 33 = .ok (.getfield 196, 3) := by decide +kernel
theorem dX11_most_36 : decode cX11_most 36 = .ok (.l2i, 1) := by decide +kernel
theorem dX11_most_37 : decode cX11_most 37 = .ok (.ireturn, 1) := by decide +kernel
theorem dX11_most_38 : decode cX11_most 38 = .ok (.iload_n 2, 1) := by decide +kernel
theorem dX11_most_39 : decode cX11_most 39 = .ok (.aload_n 0, 1) := by decide +kernel
theorem dX11_most_40 : decode cX11_most 40 = .ok (.getfield 42, 3) := by decide +kernel
theorem dX11_most_43 : decode cX11_most 43 = .ok (.getfield 200, 3) := by decide +kernel
theorem dX11_most_46 : decode cX11_most 46 = .ok (.if_icmp .ge 17, 3) := by decide +kernel
theorem dX11_most_49 : decode cX11_most 49 = .ok (.aload_n 0, 1) := by decide +kernel
theorem dX11_most_50 : decode cX11_most 50 = .ok (.getfield 42, 3) := by decide +kernel
theorem dX11_most_53 : decode cX11_most 53 = .ok (.getfield 203, 3) := by decide +kernel
theorem dX11_most_56 : decode cX11_most 56 = .ok (.iload_n 2, 1) := by decide +kernel
theorem dX11_most_57 : decode cX11_most 57 = .ok (.invokestatic 61, 3) := by decide +kernel
theorem dX11_most_60 : decode cX11_most 60 = .ok (.goto 5, 3) := by decide +kernel
theorem dX11_most_63 : decode cX11_most 63 = .ok (.bipush (-4), 2) := by decide +kernel
theorem dX11_most_65 : decode cX11_most 65 = .ok (.ireturn, 1) := by decide +kernel
theorem dX11_buyer_0 : decode cX11_buyer 0 = .ok (.iload_n 1, 1) := by decide +kernel
theorem dX11_buyer_1 : decode cX11_buyer 1 = .ok (.iconst 1, 1) := by decide +kernel
theorem dX11_buyer_2 : decode cX11_buyer 2 = .ok (.sipush 9999, 3) := by decide +kernel
theorem dX11_buyer_5 : decode cX11_buyer 5 = .ok (.invokestatic 47, 3) := by decide +kernel
theorem dX11_buyer_8 : decode cX11_buyer 8 = .ok (.ifCond .ne 5, 3) := by decide +kernel
theorem dX11_buyer_11 : decode cX11_buyer 11 = .ok (.iconst (-1), 1) := by decide +kernel
theorem dX11_buyer_12 : decode cX11_buyer 12 = .ok (.ireturn, 1) := by decide +kernel
theorem dX11_buyer_13 : decode cX11_buyer 13 = .ok (.aload_n 0, 1) := by decide +kernel
theorem dX11_buyer_14 : decode cX11_buyer 14 = .ok (.getfield 10, 3) := by decide +kernel
theorem dX11_buyer_17 : decode cX11_buyer 17 = .ok (.getfield 176, 3) := by decide +kernel
theorem dX11_buyer_20 : decode cX11_buyer 20 = .ok (.getfield 180, 3) := by decide +kernel
theorem dX11_buyer_23 : decode cX11_buyer 23 = .ok (.bipush 6, 2) := by decide +kernel
theorem dX11_buyer_25 : decode cX11_buyer 25 = .ok (.if_icmp .lt 8, 3) := by decide +kernel
theorem dX11_buyer_28 : decode cX11_buyer 28 = .ok (.bipush (-3), 2) := by decide +kernel
theorem dX11_buyer_30 : decode cX11_buyer 30 = .ok (.goto 14, 3) := by decide +kernel
theorem dX11_buyer_33 : decode cX11_buyer 33 = .ok (.aload_n 0, 1) := by decide +kernel
theorem dX11_buyer_34 : decode cX11_buyer 34 = .ok (.getfield 10, 3) := by decide +kernel
theorem dX11_buyer_37 : decode cX11_buyer 37 = .ok (.getfield 176, 3) := by decide +kernel
theorem dX11_buyer_40 : decode cX11_buyer 40 = .ok (.iload_n 1, 1) := by decide +kernel
theorem dX11_buyer_41 : decode cX11_buyer 41 = .ok (.invokevirtual 206, 3) := by decide +kernel
theorem dX11_buyer_44 : decode cX11_buyer 44 = .ok (.ireturn, 1) := by decide +kernel
theorem dX11_home_0 : decode cX11_home 0 = .ok (.aload_n 0, 1) := by decide +kernel
theorem dX11_home_1 : decode cX11_home 1 = .ok (.getfield 10, 3) := by decide +kernel
theorem dX11_home_4 : decode cX11_home 4 = .ok (.getfield 176, 3) := by decide +kernel
theorem dX11_home_7 : decode cX11_home 7 = .ok (.getfield 180, 3) := by decide +kernel
theorem dX11_home_10 : decode cX11_home 10 = .ok (.istore_n 1, 1) := by decide +kernel
theorem dX11_home_11 : decode cX11_home 11 = .ok (.aload_n 0, 1) := by decide +kernel
theorem dX11_home_12 : decode cX11_home 12 = .ok (.getfield 10, 3) := by decide +kernel
theorem dX11_home_15 : decode cX11_home 15 = .ok (.getfield 176, 3) := by decide +kernel
theorem dX11_home_18 : decode cX11_home 18 = .ok (.iconst 0, 1) := by decide +kernel
theorem dX11_home_19 : decode cX11_home 19 = .ok (.putfield 180, 3) := by decide +kernel
theorem dX11_home_22 : decode cX11_home 22 = .ok (.iload_n 1, 1) := by decide +kernel
theorem dX11_home_23 : decode cX11_home 23 = .ok (.ireturn, 1) := by decide +kernel
theorem dX11_price_0 : decode cX11_price 0 = .ok (.iload_n 1, 1) := by decide +kernel
theorem dX11_price_1 : decode cX11_price 1 = .ok (.iconst 1, 1) := by decide +kernel
theorem dX11_price_2 : decode cX11_price 2 = .ok (.aload_n 0, 1) := by decide +kernel
theorem dX11_price_3 : decode cX11_price 3 = .ok (.getfield 10, 3) := by decide +kernel
theorem dX11_price_6 : decode cX11_price 6 = .ok (.getfield 176, 3) := by decide +kernel
theorem dX11_price_9 : decode cX11_price 9 = .ok (.invokevirtual 183, 3) := by decide +kernel
theorem dX11_price_12 : decode cX11_price 12 = .ok (.invokestatic 47, 3) := by decide +kernel
theorem dX11_price_15 : decode cX11_price 15 = .ok (.ifCond .ne 7, 3) := by decide +kernel
theorem dX11_price_18 : decode cX11_price 18 = .ok (.ldc2_w 94, 3) := by decide +kernel
theorem dX11_price_21 : decode cX11_price 21 = .ok (.lreturn, 1) := by decide +kernel
theorem dX11_price_22 : decode cX11_price 22 = .ok (.aload_n 0, 1) := by decide +kernel
theorem dX11_price_23 : decode cX11_price 23 = .ok (.aload_n 0, 1) := by decide +kernel
theorem dX11_price_24 : decode cX11_price 24 = .ok (.invokevirtual 96, 3) := by decide +kernel
theorem dX11_price_27 : decode cX11_price 27 = .ok (.iload_n 1, 1) := by decide +kernel
theorem dX11_price_28 : decode cX11_price 28 = .ok (.invokevirtual 208, 3) := by decide +kernel
theorem dX11_price_31 : decode cX11_price 31 = .ok (.lreturn, 1) := by decide +kernel
theorem dX11_parties_0 : decode cX11_parties 0 = .ok (.iload_n 1, 1) := by decide +kernel
theorem dX11_parties_1 : decode cX11_parties 1 = .ok (.iconst 1, 1) := by decide +kernel
theorem dX11_parties_2 : decode cX11_parties 2 = .ok (.bipush 6, 2) := by decide +kernel
theorem dX11_parties_4 : decode cX11_parties 4 = .ok (.invokestatic 47, 3) := by decide +kernel
theorem dX11_parties_7 : decode cX11_parties 7 = .ok (.ifCond .eq 12, 3) := by decide +kernel
theorem dX11_parties_10 : decode cX11_parties 10 = .ok (.iload_n 2, 1) := by decide +kernel
theorem dX11_parties_11 : decode cX11_parties 11 = .ok (.iconst (-1), 1) := by decide +kernel
theorem dX11_parties_12 : decode cX11_parties 12 = .ok (.iconst 5, 1) := by decide +kernel
theorem dX11_parties_13 : decode cX11_parties 13 = .ok (.invokestatic 47, 3) := by decide +kernel
theorem dX11_parties_16 : decode cX11_parties 16 = .ok (.ifCond .ne 7, 3) := by decide +kernel
theorem dX11_parties_19 : decode cX11_parties 19 = .ok (.ldc2_w 94, 3) := by decide +kernel
theorem dX11_parties_22 : decode cX11_parties 22 = .ok (.lreturn, 1) := by decide +kernel
theorem dX11_parties_23 : decode cX11_parties 23 = .ok (.iload_n 2, 1) := by decide +kernel
theorem dX11_parties_24 : decode cX11_parties 24 = .ok (.aload_n 0, 1) := by decide +kernel
theorem dX11_parties_25 : decode cX11_parties 25 = .ok (.getfield 10, 3) := by decide +kernel
theorem dX11_parties_28 : decode cX11_parties 28 = .ok (.getfield 176, 3) := by decide +kernel
theorem dX11_parties_31 : decode cX11_parties 31 = .ok (.getfield 180, 3) := by decide +kernel
theorem dX11_parties_34 : decode cX11_parties 34 = .ok (.if_icmp .ge 16, 3) := by decide +kernel
theorem dX11_parties_37 : decode cX11_parties 37 = .ok (.aload_n 0, 1) := by decide +kernel
theorem dX11_parties_38 : decode cX11_parties 38 = .ok (.getfield 10, 3) := by decide +kernel
theorem dX11_parties_41 : decode cX11_parties 41 = .ok (.getfield 176, 3) := by decide +kernel
theorem dX11_parties_44 : decode cX11_parties 44 = .ok (.getfield 180, 3) := by decide +kernel
theorem dX11_parties_47 : decode cX11_parties 47 = .ok (.ifCond .ne 7, 3) := by decide +kernel
theorem dX11_parties_50 : decode cX11_parties 50 = .ok (.ldc2_w 212, 3) := by decide +kernel
theorem dX11_parties_53 : decode cX11_parties 53 = .ok (.lreturn, 1) := by decide +kernel
theorem dX11_parties_54 : decode cX11_parties 54 = .ok (.aload_n 0, 1) := by decide +kernel
theorem dX11_parties_55 : decode cX11_parties 55 = .ok (.iload_n 1, 1) := by decide +kernel
theorem dX11_parties_56 : decode cX11_parties 56 = .ok (.invokevirtual 214, 3) := by decide +kernel
theorem dX11_parties_59 : decode cX11_parties 59 = .ok (.iload_n 2, 1) := by decide +kernel
theorem dX11_parties_60 : decode cX11_parties 60 = .ok (.iconst (-1), 1) := by decide +kernel
theorem dX11_parties_61 : decode cX11_parties 61 = .ok (.if_icmp .ne 14, 3) := by decide +kernel
theorem dX11_parties_64 : decode cX11_parties 64 = .ok (.aload_n 0, 1) := by decide +kernel
theorem dX11_parties_65 : decode cX11_parties 65 = .ok (.getfield 42, 3) := by decide +kernel
theorem dX11_parties_68 : decode cX11_parties 68 = .ok (.getfield 196, 3) := by decide +kernel
theorem dX11_parties_71 : decode cX11_parties 71 = .ok (.lneg, 1) := by decide +kernel
theorem dX11_parties_72 : decode cX11_parties 72 = .ok (.goto 15, 3) := by decide +kernel
theorem dX11_parties_75 : decode cX11_parties 75 = .ok (.aload_n 0, 1) := by decide +kernel
theorem dX11_parties_76 : decode cX11_parties 76 = .ok (.getfield 42, 3) := by decide +kernel
theorem dX11_parties_79 : decode cX11_parties 79 = .ok (.getfield 203, 3) := by decide +kernel
theorem dX11_parties_82 : decode cX11_parties 82 = .ok (.iload_n 2, 1) := by decide +kernel
theorem dX11_parties_83 : decode cX11_parties 83 = .ok (.invokestatic 61, 3) := by decide +kernel
theorem dX11_parties_86 : decode cX11_parties 86 = .ok (.i2l, 1) := by decide +kernel
theorem dX11_parties_87 : decode cX11_parties 87 = .ok (.lreturn, 1) := by decide +kernel
theorem dX11_third_0 : decode cX11_third 0 = .ok (.iload_n 1, 1) := by decide +kernel
theorem dX11_third_1 : decode cX11_third 1 = .ok (.iconst 0, 1) := by decide +kernel
theorem dX11_third_2 : decode cX11_third 2 = .ok (.iconst 1, 1) := by decide +kernel
theorem dX11_third_3 : decode cX11_third 3 = .ok (.invokestatic 47, 3) := by decide +kernel
theorem dX11_third_6 : decode cX11_third 6 = .ok (.ifCond .ne 5, 3) := by decide +kernel
theorem dX11_third_9 : decode cX11_third 9 = .ok (.iconst (-1), 1) := by decide +kernel
theorem dX11_third_10 : decode cX11_third 10 = .ok (.ireturn, 1) := by decide +kernel
theorem dX11_third_11 : decode cX11_third 11 = .ok (.aload_n 0, 1) := by decide +kernel
theorem dX11_third_12 : decode cX11_third 12 = .ok (.getfield 10, 3) := by decide +kernel
theorem dX11_third_15 : decode cX11_third 15 = .ok (.getfield 51, 3) := by decide +kernel
theorem dX11_third_18 : decode cX11_third 18 = .ok (.getfield 55, 3) := by decide +kernel
theorem dX11_third_21 : decode cX11_third 21 = .ok (.astore_n 2, 1) := by decide +kernel
theorem dX11_third_22 : decode cX11_third 22 = .ok (.iconst 0, 1) := by decide +kernel
theorem dX11_third_23 : decode cX11_third 23 = .ok (.istore_n 3, 1) := by decide +kernel
theorem dX11_third_24 : decode cX11_third 24 = .ok (.iconst 0, 1) := by decide +kernel
theorem dX11_third_25 : decode cX11_third 25 = .ok (.istore 4, 2) := by decide +kernel
theorem dX11_third_27 : decode cX11_third 27 = .ok (.iconst 1, 1) := by decide +kernel
theorem dX11_third_28 : decode cX11_third 28 = .ok (.istore 5, 2) := by decide +kernel
theorem dX11_third_30 : decode cX11_third 30 = .ok (.iload 5, 2) := by decide +kernel
theorem dX11_third_32 : decode cX11_third 32 = .ok (.bipush 99, 2) := by decide +kernel
theorem dX11_third_34 : decode cX11_third 34 = .ok (.if_icmp .gt 62, 3) := by decide +kernel
theorem dX11_third_37 : decode cX11_third 37 = .ok (.aload_n 0, 1) := by decide +kernel
theorem dX11_third_38 : decode cX11_third 38 = .ok (.getfield 35, 3) := by decide +kernel
theorem dX11_third_41 : decode cX11_third 41 = .ok (.aload_n 2, 1) := by decide +kernel
theorem dX11_third_42 : decode cX11_third 42 = .ok (.iconst 0, 1) := by decide +kernel
theorem dX11_third_43 : decode cX11_third 43 = .ok (.invokestatic 61, 3) := by decide +kernel
theorem dX11_third_46 : decode cX11_third 46 = .ok (.aload_n 2, 1) := by decide +kernel
theorem dX11_third_47 : decode cX11_third 47 = .ok (.iconst 1, 1) := by decide +kernel
theorem dX11_third_48 : decode cX11_third 48 = .ok (.invokestatic 61, 3) := by decide +kernel
theorem dX11_third_51 : decode cX11_third 51 = .ok (.iload 5, 2) := by decide +kernel
theorem dX11_third_53 : decode cX11_third 53 = .ok (.invokevirtual 217, 3) := by decide +kernel
theorem dX11_third_56 : decode cX11_third 56 = .ok (.aload_n 0, 1) := by decide +kernel
theorem dX11_third_57 : decode cX11_third 57 = .ok (.getfield 10, 3) := by decide +kernel
theorem dX11_third_60 : decode cX11_third 60 = .ok (.getfield 84, 3) := by decide +kernel
theorem dX11_third_63 : decode cX11_third 63 = .ok (.aload_n 0, 1) := by decide +kernel
theorem dX11_third_64 : decode cX11_third 64 = .ok (.getfield 35, 3) := by decide +kernel
theorem dX11_third_67 : decode cX11_third 67 = .ok (.invokevirtual 189, 3) := by decide +kernel
theorem dX11_third_70 : decode cX11_third 70 = .ok (.istore 6, 2) := by decide +kernel
theorem dX11_third_72 : decode cX11_third 72 = .ok (.iload_n 3, 1) := by decide +kernel
theorem dX11_third_73 : decode cX11_third 73 = .ok (.ifCond .eq 10, 3) := by decide +kernel
theorem dX11_third_76 : decode cX11_third 76 = .ok (.iload 6, 2) := by decide +kernel
theorem dX11_third_78 : decode cX11_third 78 = .ok (.iload 4, 2) := by decide +kernel
theorem dX11_third_80 : decode cX11_third 80 = .ok (.if_icmp .ge 10, 3) := by decide +kernel
theorem dX11_third_83 : decode cX11_third 83 = .ok (.iload 6, 2) := by decide +kernel
theorem dX11_third_85 : decode cX11_third 85 = .ok (.istore 4, 2) := by decide +kernel
theorem dX11_third_87 : decode cX11_third 87 = .ok (.iload 5, 2) := by decide +kernel
theorem dX11_third_89 : decode cX11_third 89 = .ok (.istore_n 3, 1) := by decide +kernel
theorem dX11_third_90 : decode cX11_third 90 = .ok (.iinc 5 1, 3) := by decide +kernel
theorem dX11_third_93 : decode cX11_third 93 = .ok (.goto (-63), 3) := by decide +kernel
theorem dX11_third_96 : decode cX11_third 96 = .ok (.iload_n 1, 1) := by decide +kernel
theorem dX11_third_97 : decode cX11_third 97 = .ok (.ifCond .ne 7, 3) := by decide +kernel
theorem dX11_third_100 : decode cX11_third 100 = .ok (.iload_n 3, 1) := by decide +kernel
theorem dX11_third_101 : decode cX11_third 101 = .ok (.goto 5, 3) := by decide +kernel
theorem dX11_third_104 : decode cX11_third 104 = .ok (.iload 4, 2) := by decide +kernel
theorem dX11_third_106 : decode cX11_third 106 = .ok (.ireturn, 1) := by decide +kernel
theorem dX11_worn_0 : decode cX11_worn 0 = .ok (.aload_n 0, 1) := by decide +kernel
theorem dX11_worn_1 : decode cX11_worn 1 = .ok (.getfield 10, 3) := by decide +kernel
theorem dX11_worn_4 : decode cX11_worn 4 = .ok (.getfield 51, 3) := by decide +kernel
theorem dX11_worn_7 : decode cX11_worn 7 = .ok (.getfield 55, 3) := by decide +kernel
theorem dX11_worn_10 : decode cX11_worn 10 = .ok (.astore_n 2, 1) := by decide +kernel
theorem dX11_worn_11 : decode cX11_worn 11 = .ok (.aload_n 2, 1) := by decide +kernel
theorem dX11_worn_12 : decode cX11_worn 12 = .ok (.iconst 0, 1) := by decide +kernel
theorem dX11_worn_13 : decode cX11_worn 13 = .ok (.invokestatic 61, 3) := by decide +kernel
theorem dX11_worn_16 : decode cX11_worn 16 = .ok (.istore_n 3, 1) := by decide +kernel
theorem dX11_worn_17 : decode cX11_worn 17 = .ok (.aload_n 2, 1) := by decide +kernel
theorem dX11_worn_18 : decode cX11_worn 18 = .ok (.iconst 1, 1) := by decide +kernel
theorem dX11_worn_19 : decode cX11_worn 19 = .ok (.invokestatic 61, 3) := by decide +kernel
theorem dX11_worn_22 : decode cX11_worn 22 = .ok (.istore 4, 2) := by decide +kernel
theorem dX11_worn_24 : decode cX11_worn 24 = .ok (.iload_n 1, 1) := by decide +kernel
theorem dX11_worn_25 : decode cX11_worn 25 = .ok (.iconst 0, 1) := by decide +kernel
theorem dX11_worn_26 : decode cX11_worn 26 = .ok (.bipush 9, 2) := by decide +kernel
theorem dX11_worn_28 : decode cX11_worn 28 = .ok (.invokestatic 47, 3) := by decide +kernel
theorem dX11_worn_31 : decode cX11_worn 31 = .ok (.ifCond .eq 14, 3) := by decide +kernel
theorem dX11_worn_34 : decode cX11_worn 34 = .ok (.iload_n 1, 1) := by decide +kernel
theorem dX11_worn_35 : decode cX11_worn 35 = .ok (.iload_n 3, 1) := by decide +kernel
theorem dX11_worn_36 : decode cX11_worn 36 = .ok (.if_icmp .ge 9, 3) := by decide +kernel
theorem dX11_worn_39 : decode cX11_worn 39 = .ok (.iload_n 1, 1) := by decide +kernel
theorem dX11_worn_40 : decode cX11_worn 40 = .ok (.iload 4, 2) := by decide +kernel
theorem dX11_worn_42 : decode cX11_worn 42 = .ok (.if_icmp .lt 5, 3) := by decide +kernel
theorem dX11_worn_45 : decode cX11_worn 45 = .ok (.iconst (-1), 1) := by decide +kernel
theorem dX11_worn_46 : decode cX11_worn 46 = .ok (.ireturn, 1) := by decide +kernel
theorem dX11_worn_47 : decode cX11_worn 47 = .ok (.iconst 1, 1) := by decide +kernel
theorem dX11_worn_48 : decode cX11_worn 48 = .ok (.istore 5, 2) := by decide +kernel
theorem dX11_worn_50 : decode cX11_worn 50 = .ok (.iload 5, 2) := by decide +kernel
theorem dX11_worn_52 : decode cX11_worn 52 = .ok (.sipush 9999, 3) := by decide +kernel
theorem dX11_worn_55 : decode cX11_worn 55 = .ok (.if_icmp .gt 47, 3) := by decide +kernel
theorem dX11_worn_58 : decode cX11_worn 58 = .ok (.iload 5, 2) := by decide +kernel
theorem dX11_worn_60 : decode cX11_worn 60 = .ok (.iload_n 3, 1) := by decide +kernel
theorem dX11_worn_61 : decode cX11_worn 61 = .ok (.iload_n 1, 1) := by decide +kernel
theorem dX11_worn_62 : decode cX11_worn 62 = .ok (.isub, 1) := by decide +kernel
theorem dX11_worn_63 : decode cX11_worn 63 = .ok (.imul, 1) := by decide +kernel
theorem dX11_worn_64 : decode cX11_worn 64 = .ok (.iload 4, 2) := by decide +kernel
theorem dX11_worn_66 : decode cX11_worn 66 = .ok (.iadd, 1) := by decide +kernel
theorem dX11_worn_67 : decode cX11_worn 67 = .ok (.iconst 1, 1) := by decide +kernel
theorem dX11_worn_68 : decode cX11_worn 68 = .ok (.isub, 1) := by decide +kernel
theorem dX11_worn_69 : decode cX11_worn 69 = .ok (.i2l, 1) := by decide +kernel
theorem dX11_worn_70 : decode cX11_worn 70 = .ok (.iload 4, 2) := by decide +kernel
theorem dX11_worn_72 : decode cX11_worn 72 = .ok (.i2l, 1) := by decide +kernel
theorem dX11_worn_73 : decode cX11_worn 73 = .ok (.invokestatic 220, 3) := by decide +kernel
theorem dX11_worn_76 : decode cX11_worn 76 = .ok (.l2i, 1) := by decide +kernel
theorem dX11_worn_77 : decode cX11_worn 77 = .ok (.istore 6, 2) := by decide +kernel
theorem dX11_worn_79 : decode cX11_worn 79 = .ok (.iload 6, 2) := by decide +kernel
theorem dX11_worn_81 : decode cX11_worn 81 = .ok (.iload 4, 2) := by decide +kernel
theorem dX11_worn_83 : decode cX11_worn 83 = .ok (.iload_n 1, 1) := by decide +kernel
theorem dX11_worn_84 : decode cX11_worn 84 = .ok (.isub, 1) := by decide +kernel
theorem dX11_worn_85 : decode cX11_worn 85 = .ok (.imul, 1) := by decide +kernel
theorem dX11_worn_86 : decode cX11_worn 86 = .ok (.iload 5, 2) := by decide +kernel
theorem dX11_worn_88 : decode cX11_worn 88 = .ok (.iload_n 3, 1) := by decide +kernel
theorem dX11_worn_89 : decode cX11_worn 89 = .ok (.imul, 1) := by decide +kernel
theorem dX11_worn_90 : decode cX11_worn 90 = .ok (.if_icmp .gt 6, 3) := by decide +kernel
theorem dX11_worn_93 : decode cX11_worn 93 = .ok (.iload 5, 2) := by decide +kernel
theorem dX11_worn_95 : decode cX11_worn 95 = .ok (.ireturn, 1) := by decide +kernel
theorem dX11_worn_96 : decode cX11_worn 96 = .ok (.iinc 5 1, 3) := by decide +kernel
theorem dX11_worn_99 : decode cX11_worn 99 = .ok (.goto (-49), 3) := by decide +kernel
theorem dX11_worn_102 : decode cX11_worn 102 = .ok (.bipush (-4), 2) := by decide +kernel
theorem dX11_worn_104 : decode cX11_worn 104 = .ok (.ireturn, 1) := by decide +kernel
theorem dX11_rate_0 : decode cX11_rate 0 = .ok (.iload_n 1, 1) := by decide +kernel
theorem dX11_rate_1 : decode cX11_rate 1 = .ok (.iconst 0, 1) := by decide +kernel
theorem dX11_rate_2 : decode cX11_rate 2 = .ok (.iconst 3, 1) := by decide +kernel
theorem dX11_rate_3 : decode cX11_rate 3 = .ok (.invokestatic 47, 3) := by decide +kernel
theorem dX11_rate_6 : decode cX11_rate 6 = .ok (.ifCond .eq 21, 3) := by decide +kernel
theorem dX11_rate_9 : decode cX11_rate 9 = .ok (.iload_n 2, 1) := by decide +kernel
theorem dX11_rate_10 : decode cX11_rate 10 = .ok (.iconst 0, 1) := by decide +kernel
theorem dX11_rate_11 : decode cX11_rate 11 = .ok (.iconst 3, 1) := by decide +kernel
theorem dX11_rate_12 : decode cX11_rate 12 = .ok (.invokestatic 47, 3) := by decide +kernel
theorem dX11_rate_15 : decode cX11_rate 15 = .ok (.ifCond .eq 12, 3) := by decide +kernel
theorem dX11_rate_18 : decode cX11_rate 18 = .ok (.iload_n 1, 1) := by decide +kernel
theorem dX11_rate_19 : decode cX11_rate 19 = .ok (.iload_n 2, 1) := by decide +kernel
theorem dX11_rate_20 : decode cX11_rate 20 = .ok (.if_icmp .eq 7, 3) := by decide +kernel
theorem dX11_rate_23 : decode cX11_rate 23 = .ok (.iconst 1, 1) := by decide +kernel
theorem dX11_rate_24 : decode cX11_rate 24 = .ok (.goto 4, 3) := by decide +kernel
theorem dX11_rate_27 : decode cX11_rate 27 = .ok (.iconst 0, 1) := by decide +kernel
theorem dX11_rate_28 : decode cX11_rate 28 = .ok (.istore 5, 2) := by decide +kernel
theorem dX11_rate_30 : decode cX11_rate 30 = .ok (.iload 5, 2) := by decide +kernel
theorem dX11_rate_32 : decode cX11_rate 32 = .ok (.ifCond .eq 24, 3) := by decide +kernel
theorem dX11_rate_35 : decode cX11_rate 35 = .ok (.iload_n 3, 1) := by decide +kernel
theorem dX11_rate_36 : decode cX11_rate 36 = .ok (.iconst 1, 1) := by decide +kernel
theorem dX11_rate_37 : decode cX11_rate 37 = .ok (.bipush 99, 2) := by decide +kernel
theorem dX11_rate_39 : decode cX11_rate 39 = .ok (.invokestatic 47, 3) := by decide +kernel
theorem dX11_rate_42 : decode cX11_rate 42 = .ok (.ifCond .eq 14, 3) := by decide +kernel
theorem dX11_rate_45 : decode cX11_rate 45 = .ok (.iload 4, 2) := by decide +kernel
theorem dX11_rate_47 : decode cX11_rate 47 = .ok (.iconst 1, 1) := by decide +kernel
theorem dX11_rate_48 : decode cX11_rate 48 = .ok (.bipush 99, 2) := by decide +kernel
theorem dX11_rate_50 : decode cX11_rate 50 = .ok (.invokestatic 47, 3) := by decide +kernel
theorem dX11_rate_53 : decode cX11_rate 53 = .ok (.ifCond .ne 5, 3) := by decide +kernel
theorem dX11_rate_56 : decode cX11_rate 56 = .ok (.iconst (-1), 1) := by decide +kernel
theorem dX11_rate_57 : decode cX11_rate 57 = .ok (.ireturn, 1) := by decide +kernel
theorem dX11_rate_58 : decode cX11_rate 58 = .ok (.aload_n 0, 1) := by decide +kernel
theorem dX11_rate_59 : decode cX11_rate 59 = .ok (.getfield 10, 3) := by decide +kernel
theorem dX11_rate_62 : decode cX11_rate 62 = .ok (.getfield 224, 3) := by decide +kernel
theorem dX11_rate_65 : decode cX11_rate 65 = .ok (.iload_n 1, 1) := by decide +kernel
theorem dX11_rate_66 : decode cX11_rate 66 = .ok (.iload_n 2, 1) := by decide +kernel
theorem dX11_rate_67 : decode cX11_rate 67 = .ok (.iload_n 3, 1) := by decide +kernel
theorem dX11_rate_68 : decode cX11_rate 68 = .ok (.iload 4, 2) := by decide +kernel
theorem dX11_rate_70 : decode cX11_rate 70 = .ok (.invokevirtual 228, 3) := by decide +kernel
theorem dX11_rate_73 : decode cX11_rate 73 = .ok (.ireturn, 1) := by decide +kernel
theorem dX11_rings_0 : decode cX11_rings 0 = .ok (.iload_n 1, 1) := by decide +kernel
theorem dX11_rings_1 : decode cX11_rings 1 = .ok (.iconst 0, 1) := by decide +kernel
theorem dX11_rings_2 : decode cX11_rings 2 = .ok (.iconst 1, 1) := by decide +kernel
theorem dX11_rings_3 : decode cX11_rings 3 = .ok (.invokestatic 47, 3) := by decide +kernel
theorem dX11_rings_6 : decode cX11_rings 6 = .ok (.ifCond .ne 5, 3) := by decide +kernel
theorem dX11_rings_9 : decode cX11_rings 9 = .ok (.iconst (-1), 1) := by decide +kernel
theorem dX11_rings_10 : decode cX11_rings 10 = .ok (.ireturn, 1) := by decide +kernel
theorem dX11_rings_11 : decode cX11_rings 11 = .ok (.iconst 0, 1) := by decide +kernel
theorem dX11_rings_12 : decode cX11_rings 12 = .ok (.istore_n 2, 1) := by decide +kernel
theorem dX11_rings_13 : decode cX11_rings 13 = .ok (.bipush (-4), 2) := by decide +kernel
theorem dX11_rings_15 : decode cX11_rings 15 = .ok (.istore_n 3, 1) := by decide +kernel
theorem dX11_rings_16 : decode cX11_rings 16 = .ok (.iconst 2, 1) := by decide +kernel
theorem dX11_rings_17 : decode cX11_rings 17 = .ok (.istore 4, 2) := by decide +kernel
theorem dX11_rings_19 : decode cX11_rings 19 = .ok (.iload 4, 2) := by decide +kernel
theorem dX11_rings_21 : decode cX11_rings 21 = .ok (.iconst 4, 1) := by decide +kernel
theorem dX11_rings_22 : decode cX11_rings 22 = .ok (.if_icmp .gt 89, 3) := by decide +kernel
theorem dX11_rings_25 : decode cX11_rings 25 = .ok (.iconst 0, 1) := by decide +kernel
theorem dX11_rings_26 : decode cX11_rings 26 = .ok (.istore 5, 2) := by decide +kernel
theorem dX11_rings_28 : decode cX11_rings 28 = .ok (.iload 5, 2) := by decide +kernel
theorem dX11_rings_30 : decode cX11_rings 30 = .ok (.iconst 1, 1) := by decide +kernel
theorem dX11_rings_31 : decode cX11_rings 31 = .ok (.iconst 2, 1) := by decide +kernel
theorem dX11_rings_32 : decode cX11_rings 32 = .ok (.iload 4, 2) := by decide +kernel
theorem dX11_rings_34 : decode cX11_rings 34 = .ok (.imul, 1) := by decide +kernel
theorem dX11_rings_35 : decode cX11_rings 35 = .ok (.ishl, 1) := by decide +kernel
theorem dX11_rings_36 : decode cX11_rings 36 = .ok (.if_icmp .ge 69, 3) := by decide +kernel
theorem dX11_rings_39 : decode cX11_rings 39 = .ok (.aload_n 0, 1) := by decide +kernel
theorem dX11_rings_40 : decode cX11_rings 40 = .ok (.getfield 10, 3) := by decide +kernel
theorem dX11_rings_43 : decode cX11_rings 43 = .ok (.getfield 224, 3) := by decide +kernel
theorem dX11_rings_46 : decode cX11_rings 46 = .ok (.iload 5, 2) := by decide +kernel
theorem dX11_rings_48 : decode cX11_rings 48 = .ok (.iload 4, 2) := by decide +kernel
theorem dX11_rings_50 : decode cX11_rings 50 = .ok (.invokevirtual 234, 3) := by decide +kernel
theorem dX11_rings_53 : decode cX11_rings 53 = .ok (.ifCond .eq 46, 3) := by decide +kernel
theorem dX11_rings_56 : decode cX11_rings 56 = .ok (.aload_n 0, 1) := by decide +kernel
theorem dX11_rings_57 : decode cX11_rings 57 = .ok (.getfield 10, 3) := by decide +kernel
theorem dX11_rings_60 : decode cX11_rings 60 = .ok (.getfield 224, 3) := by decide +kernel
theorem dX11_rings_63 : decode cX11_rings 63 = .ok (.iload 5, 2) := by decide +kernel
theorem dX11_rings_65 : decode cX11_rings 65 = .ok (.iload 4, 2) := by decide +kernel
theorem dX11_rings_67 : decode cX11_rings 67 = .ok (.invokevirtual 237, 3) := by decide +kernel
theorem dX11_rings_70 : decode cX11_rings 70 = .ok (.ifCond .eq 29, 3) := by decide +kernel
theorem dX11_rings_73 : decode cX11_rings 73 = .ok (.iload_n 2, 1) := by decide +kernel
theorem dX11_rings_74 : decode cX11_rings 74 = .ok (.ifCond .ne 20, 3) := by decide +kernel
theorem dX11_rings_77 : decode cX11_rings 77 = .ok (.aload_n 0, 1) := by decide +kernel
theorem dX11_rings_78 : decode cX11_rings 78 = .ok (.getfield 10, 3) := by decide +kernel
theorem dX11_rings_81 : decode cX11_rings 81 = .ok (.getfield 224, 3) := by decide +kernel
theorem dX11_rings_84 : decode cX11_rings 84 = .ok (.iload 5, 2) := by decide +kernel
theorem dX11_rings_86 : decode cX11_rings 86 = .ok (.iload 4, 2) := by decide +kernel
theorem dX11_rings_88 : decode cX11_rings 88 = .ok (.invokevirtual 240, 3) := by decide +kernel
theorem dX11_rings_91 : decode cX11_rings 91 = .ok (.goto 4, 3) := by decide +kernel
theorem dX11_rings_94 : decode cX11_rings 94 = .ok (.iload_n 3, 1) := by decide +kernel
theorem dX11_rings_95 : decode cX11_rings 95 = .ok (.istore_n 3, 1) := by decide +kernel
theorem dX11_rings_96 : decode cX11_rings 96 = .ok (.iinc 2 1, 3) := by decide +kernel
theorem dX11_rings_99 : decode cX11_rings 99 = .ok (.iinc 5 1, 3) := by decide +kernel
theorem dX11_rings_102 : decode cX11_rings 102 = .ok (.goto (-74), 3) := by decide +kernel
theorem dX11_rings_105 : decode cX11_rings 105 = .ok (.iinc 4 1, 3) := by decide +kernel
theorem dX11_rings_108 : decode cX11_rings 108 = .ok (.goto (-89), 3) := by decide +kernel
theorem dX11_rings_111 : decode cX11_rings 111 = .ok (.iload_n 1, 1) := by decide +kernel
theorem dX11_rings_112 : decode cX11_rings 112 = .ok (.ifCond .ne 7, 3) := by decide +kernel
theorem dX11_rings_115 : decode cX11_rings 115 = .ok (.iload_n 2, 1) := by decide +kernel
theorem dX11_rings_116 : decode cX11_rings 116 = .ok (.goto 4, 3) := by decide +kernel
theorem dX11_rings_119 : decode cX11_rings 119 = .ok (.iload_n 3, 1) := by decide +kernel
theorem dX11_rings_120 : decode cX11_rings 120 = .ok (.ireturn, 1) := by decide +kernel
theorem dX11_turn_0 : decode cX11_turn 0 = .ok (.iload_n 1, 1) := by decide +kernel
theorem dX11_turn_1 : decode cX11_turn 1 = .ok (.iconst 0, 1) := by decide +kernel
theorem dX11_turn_2 : decode cX11_turn 2 = .ok (.iconst 3, 1) := by decide +kernel
theorem dX11_turn_3 : decode cX11_turn 3 = .ok (.invokestatic 47, 3) := by decide +kernel
theorem dX11_turn_6 : decode cX11_turn 6 = .ok (.ifCond .eq 17, 3) := by decide +kernel
theorem dX11_turn_9 : decode cX11_turn 9 = .ok (.iload_n 2, 1) := by decide +kernel
theorem dX11_turn_10 : decode cX11_turn 10 = .ok (.iconst 0, 1) := by decide +kernel
theorem dX11_turn_11 : decode cX11_turn 11 = .ok (.ldc 93, 2) := by decide +kernel
theorem dX11_turn_13 : decode cX11_turn 13 = .ok (.invokestatic 47, 3) := by decide +kernel
theorem dX11_turn_16 : decode cX11_turn 16 = .ok (.ifCond .eq 7, 3) := by decide +kernel
theorem dX11_turn_19 : decode cX11_turn 19 = .ok (.iconst 1, 1) := by decide +kernel
theorem dX11_turn_20 : decode cX11_turn 20 = .ok (.goto 4, 3) := by decide +kernel
theorem dX11_turn_23 : decode cX11_turn 23 = .ok (.iconst 0, 1) := by decide +kernel
theorem dX11_turn_24 : decode cX11_turn 24 = .ok (.istore 5, 2) := by decide +kernel
theorem dX11_turn_26 : decode cX11_turn 26 = .ok (.iload 5, 2) := by decide +kernel
theorem dX11_turn_28 : decode cX11_turn 28 = .ok (.ifCond .eq 24, 3) := by decide +kernel
theorem dX11_turn_31 : decode cX11_turn 31 = .ok (.iload_n 3, 1) := by decide +kernel
theorem dX11_turn_32 : decode cX11_turn 32 = .ok (.iconst 1, 1) := by decide +kernel
theorem dX11_turn_33 : decode cX11_turn 33 = .ok (.iconst 5, 1) := by decide +kernel
theorem dX11_turn_34 : decode cX11_turn 34 = .ok (.invokestatic 47, 3) := by decide +kernel
theorem dX11_turn_37 : decode cX11_turn 37 = .ok (.ifCond .eq 15, 3) := by decide +kernel
theorem dX11_turn_40 : decode cX11_turn 40 = .ok (.iload 4, 2) := by decide +kernel
theorem dX11_turn_42 : decode cX11_turn 42 = .ok (.iconst (-1), 1) := by decide +kernel
theorem dX11_turn_43 : decode cX11_turn 43 = .ok (.iload_n 3, 1) := by decide +kernel
theorem dX11_turn_44 : decode cX11_turn 44 = .ok (.iconst 1, 1) := by decide +kernel
theorem dX11_turn_45 : decode cX11_turn 45 = .ok (.isub, 1) := by decide +kernel
theorem dX11_turn_46 : decode cX11_turn 46 = .ok (.invokestatic 47, 3) := by decide +kernel
theorem dX11_turn_49 : decode cX11_turn 49 = .ok (.ifCond .ne 7, 3) := by decide +kernel
theorem dX11_turn_52 : decode cX11_turn 52 = .ok (.ldc2_w 94, 3) := by decide +kernel
theorem dX11_turn_55 : decode cX11_turn 55 = .ok (.lreturn, 1) := by decide +kernel
theorem dX11_turn_56 : decode cX11_turn 56 = .ok (.ldc2_w 212, 3) := by decide +kernel
theorem dX11_turn_59 : decode cX11_turn 59 = .ok (.lstore 6, 2) := by decide +kernel
theorem dX11_turn_61 : decode cX11_turn 61 = .ok (.iconst 0, 1) := by decide +kernel
theorem dX11_turn_62 : decode cX11_turn 62 = .ok (.istore 8, 2) := by decide +kernel
theorem dX11_turn_64 : decode cX11_turn 64 = .ok (.iload_n 1, 1) := by decide +kernel
theorem dX11_turn_65 : decode cX11_turn 65 = .ok (.istore 9, 2) := by decide +kernel
theorem dX11_turn_67 : decode cX11_turn 67 = .ok (.iload 9, 2) := by decide +kernel
theorem dX11_turn_69 : decode cX11_turn 69 = .ok (.iconst 1, 1) := by decide +kernel
theorem dX11_turn_70 : decode cX11_turn 70 = .ok (.iconst 2, 1) := by decide +kernel
theorem dX11_turn_71 : decode cX11_turn 71 = .ok (.iload_n 3, 1) := by decide +kernel
theorem dX11_turn_72 : decode cX11_turn 72 = .ok (.imul, 1) := by decide +kernel
theorem dX11_turn_73 : decode cX11_turn 73 = .ok (.ishl, 1) := by decide +kernel
theorem dX11_turn_74 : decode cX11_turn 74 = .ok (.if_icmp .ge 42, 3) := by decide +kernel
theorem dX11_turn_77 : decode cX11_turn 77 = .ok (.aload_n 0, 1) := by decide +kernel
theorem dX11_turn_78 : decode cX11_turn 78 = .ok (.getfield 10, 3) := by decide +kernel
theorem dX11_turn_81 : decode cX11_turn 81 = .ok (.getfield 224, 3) := by decide +kernel
theorem dX11_turn_84 : decode cX11_turn 84 = .ok (.iload_n 1, 1) := by decide +kernel
theorem dX11_turn_85 : decode cX11_turn 85 = .ok (.iload_n 2, 1) := by decide +kernel
theorem dX11_turn_86 : decode cX11_turn 86 = .ok (.iload 9, 2) := by decide +kernel
theorem dX11_turn_88 : decode cX11_turn 88 = .ok (.iload_n 3, 1) := by decide +kernel
theorem dX11_turn_89 : decode cX11_turn 89 = .ok (.invokevirtual 243, 3) := by decide +kernel
theorem dX11_turn_92 : decode cX11_turn 92 = .ok (.lstore 10, 2) := by decide +kernel
theorem dX11_turn_94 : decode cX11_turn 94 = .ok (.lload 10, 2) := by decide +kernel
theorem dX11_turn_96 : decode cX11_turn 96 = .ok (.lload 6, 2) := by decide +kernel
theorem dX11_turn_98 : decode cX11_turn 98 = .ok (.lcmp, 1) := by decide +kernel
theorem dX11_turn_99 : decode cX11_turn 99 = .ok (.ifCond .le 11, 3) := by decide +kernel
theorem dX11_turn_102 : decode cX11_turn 102 = .ok (.lload 10, 2) := by decide +kernel
theorem dX11_turn_104 : decode cX11_turn 104 = .ok (.lstore 6, 2) := by decide +kernel
theorem dX11_turn_106 : decode cX11_turn 106 = .ok (.iload 9, 2) := by decide +kernel
theorem dX11_turn_108 : decode cX11_turn 108 = .ok (.istore 8, 2) := by decide +kernel
theorem dX11_turn_110 : decode cX11_turn 110 = .ok (.iinc 9 4, 3) := by decide +kernel
theorem dX11_turn_113 : decode cX11_turn 113 = .ok (.goto (-46), 3) := by decide +kernel
theorem dX11_turn_116 : decode cX11_turn 116 = .ok (.iload 4, 2) := by decide +kernel
theorem dX11_turn_118 : decode cX11_turn 118 = .ok (.iconst (-1), 1) := by decide +kernel
theorem dX11_turn_119 : decode cX11_turn 119 = .ok (.if_icmp .eq 10, 3) := by decide +kernel
theorem dX11_turn_122 : decode cX11_turn 122 = .ok (.lload 6, 2) := by decide +kernel
theorem dX11_turn_124 : decode cX11_turn 124 = .ok (.lconst 0, 1) := by decide +kernel
theorem dX11_turn_125 : decode cX11_turn 125 = .ok (.lcmp, 1) := by decide +kernel
theorem dX11_turn_126 : decode cX11_turn 126 = .ok (.ifCond .ge 8, 3) := by decide +kernel
theorem dX11_turn_129 : decode cX11_turn 129 = .ok (.lload 6, 2) := by decide +kernel
theorem dX11_turn_131 : decode cX11_turn 131 = .ok (.goto 12, 3) := by decide +kernel
theorem dX11_turn_134 : decode cX11_turn 134 = .ok (.iload 8, 2) := by decide +kernel
theorem dX11_turn_136 : decode cX11_turn 136 = .ok (.iload_n 3, 1) := by decide +kernel
theorem dX11_turn_137 : decode cX11_turn 137 = .ok (.iload 4, 2) := by decide +kernel
theorem dX11_turn_139 : decode cX11_turn 139 = .ok (.invokestatic 247, 3) := by decide +kernel
theorem dX11_turn_142 : decode cX11_turn 142 = .ok (.i2l, 1) := by decide +kernel
theorem dX11_turn_143 : decode cX11_turn 143 = .ok (.lreturn, 1) := by decide +kernel
theorem dX11_image_0 : decode cX11_image 0 = .ok (.aload_n 0, 1) := by decide +kernel
theorem dX11_image_1 : decode cX11_image 1 = .ok (.getfield 16, 3) := by decide +kernel
theorem dX11_image_4 : decode cX11_image 4 = .ok (.aload_n 0, 1) := by decide +kernel
theorem dX11_image_5 : decode cX11_image 5 = .ok (.getfield 10, 3) := by decide +kernel
theorem dX11_image_8 : decode cX11_image 8 = .ok (.invokevirtual 251, 3) := by decide +kernel
theorem dX11_image_11 : decode cX11_image 11 = .ok (.aload_n 0, 1) := by decide +kernel
theorem dX11_image_12 : decode cX11_image 12 = .ok (.iconst 1, 1) := by decide +kernel
theorem dX11_image_13 : decode cX11_image 13 = .ok (.putfield 255, 3) := by decide +kernel
theorem dX11_image_16 : decode cX11_image 16 = .ok (.iconst 1, 1) := by decide +kernel
theorem dX11_image_17 : decode cX11_image 17 = .ok (.ireturn, 1) := by decide +kernel
theorem dX11_restore_0 : decode cX11_restore 0 = .ok (.aload_n 0, 1) := by decide +kernel
theorem dX11_restore_1 : decode cX11_restore 1 = .ok (.getfield 255, 3) := by decide +kernel
theorem dX11_restore_4 : decode cX11_restore 4 = .ok (.ifCond .ne 6, 3) := by decide +kernel
theorem dX11_restore_7 : decode cX11_restore 7 = .ok (.bipush (-4), 2) := by decide +kernel
theorem dX11_restore_9 : decode cX11_restore 9 = .ok (.ireturn, 1) := by decide +kernel
theorem dX11_restore_10 : decode cX11_restore 10 = .ok (.aload_n 0, 1) := by decide +kernel
theorem dX11_restore_11 : decode cX11_restore 11 = .ok (.getfield 10, 3) := by decide +kernel
theorem dX11_restore_14 : decode cX11_restore 14 = .ok (.aload_n 0, 1) := by decide +kernel
theorem dX11_restore_15 : decode cX11_restore 15 = .ok (.getfield 16, 3) := by decide +kernel
theorem dX11_restore_18 : decode cX11_restore 18 = .ok (.invokevirtual 251, 3) := by decide +kernel
theorem dX11_restore_21 : decode cX11_restore 21 = .ok (.iconst 1, 1) := by decide +kernel
theorem dX11_restore_22 : decode cX11_restore 22 = .ok (.ireturn, 1) := by decide +kernel
theorem dX11_leaves_0 : decode cX11_leaves 0 = .ok (.aload_n 0, 1) := by decide +kernel
theorem dX11_leaves_1 : decode cX11_leaves 1 = .ok (.getfield 10, 3) := by decide +kernel
theorem dX11_leaves_4 : decode cX11_leaves 4 = .ok (.getfield 176, 3) := by decide +kernel
theorem dX11_leaves_7 : decode cX11_leaves 7 = .ok (.getfield 180, 3) := by decide +kernel
theorem dX11_leaves_10 : decode cX11_leaves 10 = .ok (.istore 4, 2) := by decide +kernel
theorem dX11_leaves_12 : decode cX11_leaves 12 = .ok (.aload_n 0, 1) := by decide +kernel
theorem dX11_leaves_13 : decode cX11_leaves 13 = .ok (.iload_n 1, 1) := by decide +kernel
theorem dX11_leaves_14 : decode cX11_leaves 14 = .ok (.iload_n 2, 1) := by decide +kernel
theorem dX11_leaves_15 : decode cX11_leaves 15 = .ok (.iload_n 3, 1) := by decide +kernel
theorem dX11_leaves_16 : decode cX11_leaves 16 = .ok (.iload 4, 2) := by decide +kernel
theorem dX11_leaves_18 : decode cX11_leaves 18 = .ok (.invokevirtual 259, 3) := by decide +kernel
theorem dX11_leaves_21 : decode cX11_leaves 21 = .ok (.istore 5, 2) := by decide +kernel
theorem dX11_leaves_23 : decode cX11_leaves 23 = .ok (.iload 5, 2) := by decide +kernel
theorem dX11_leaves_25 : decode cX11_leaves 25 = .ok (.ifCond .ge 6, 3) := by decide +kernel
theorem dX11_leaves_28 : decode cX11_leaves 28 = .ok (.iload 5, 2) := by decide +kernel
theorem dX11_leaves_30 : decode cX11_leaves 30 = .ok (.ireturn, 1) := by decide +kernel
theorem dX11_leaves_31 : decode cX11_leaves 31 = .ok (.aload_n 0, 1) := by decide +kernel
theorem dX11_leaves_32 : decode cX11_leaves 32 = .ok (.iload_n 1, 1) := by decide +kernel
theorem dX11_leaves_33 : decode cX11_leaves 33 = .ok (.invokevirtual 262, 3) := by decide +kernel
theorem dX11_leaves_36 : decode cX11_leaves 36 = .ok (.astore 6, 2) := by decide +kernel
theorem dX11_leaves_38 : decode cX11_leaves 38 = .ok (.iload 4, 2) := by decide +kernel
theorem dX11_leaves_40 : decode cX11_leaves 40 = .ok (.ifCond .eq 23, 3) := by decide +kernel
theorem dX11_leaves_43 : decode cX11_leaves 43 = .ok (.aload 6, 2) := by decide +kernel
theorem dX11_leaves_45 : decode cX11_leaves 45 = .ok (.ifnull 18, 3) := by decide +kernel
theorem dX11_leaves_48 : decode cX11_leaves 48 = .ok (.aload 6, 2) := by decide +kernel
theorem dX11_leaves_50 : decode cX11_leaves 50 = .ok (.iload_n 3, 1) := by decide +kernel
theorem dX11_leaves_51 : decode cX11_leaves 51 = .ok (.iload 4, 2) := by decide +kernel
theorem dX11_leaves_53 : decode cX11_leaves 53 = .ok (.iconst 0, 1) := by decide +kernel
theorem dX11_leaves_54 : decode cX11_leaves 54 = .ok (.ldc_w 266, 3) := by decide +kernel
theorem dX11_leaves_57 : decode cX11_leaves 57 = .ok (.invokevirtual 267, 3) := by decide +kernel
theorem dX11_leaves_60 : decode cX11_leaves 60 = .ok (.ifCond .ne 6, 3) := by decide +kernel
theorem dX11_leaves_63 : decode cX11_leaves 63 = .ok (.bipush (-2), 2) := by decide +kernel
theorem dX11_leaves_65 : decode cX11_leaves 65 = .ok (.ireturn, 1) := by decide +kernel
theorem dX11_leaves_66 : decode cX11_leaves 66 = .ok (.aload_n 0, 1) := by decide +kernel
theorem dX11_leaves_67 : decode cX11_leaves 67 = .ok (.invokevirtual 96, 3) := by decide +kernel
theorem dX11_leaves_70 : decode cX11_leaves 70 = .ok (.astore 7, 2) := by decide +kernel
theorem dX11_leaves_72 : decode cX11_leaves 72 = .ok (.iconst 1, 1) := by decide +kernel
theorem dX11_leaves_73 : decode cX11_leaves 73 = .ok (.istore 8, 2) := by decide +kernel
theorem dX11_leaves_75 : decode cX11_leaves 75 = .ok (.iload 8, 2) := by decide +kernel
theorem dX11_leaves_77 : decode cX11_leaves 77 = .ok (.aload_n 0, 1) := by decide +kernel
theorem dX11_leaves_78 : decode cX11_leaves 78 = .ok (.getfield 10, 3) := by decide +kernel
theorem dX11_leaves_81 : decode cX11_leaves 81 = .ok (.getfield 176, 3) := by decide +kernel
theorem dX11_leaves_84 : decode cX11_leaves 84 = .ok (.invokevirtual 183, 3) := by decide +kernel
theorem dX11_leaves_87 : decode cX11_leaves 87 = .ok (.if_icmp .gt 32, 3) := by decide +kernel
theorem dX11_leaves_90 : decode cX11_leaves 90 = .ok (.aload 6, 2) := by decide +kernel
theorem dX11_leaves_92 : decode cX11_leaves 92 = .ok (.iload_n 3, 1) := by decide +kernel
theorem dX11_leaves_93 : decode cX11_leaves 93 = .ok (.iload 8, 2) := by decide +kernel
theorem dX11_leaves_95 : decode cX11_leaves 95 = .ok (.invokevirtual 271, 3) := by decide +kernel
theorem dX11_leaves_98 : decode cX11_leaves 98 = .ok (.aload_n 0, 1) := by decide +kernel
theorem dX11_leaves_99 : decode cX11_leaves 99 = .ok (.aload 7, 2) := by decide +kernel
theorem dX11_leaves_101 : decode cX11_leaves 101 = .ok (.iload 8, 2) := by decide +kernel
theorem dX11_leaves_103 : decode cX11_leaves 103 = .ok (.invokevirtual 208, 3) := by decide +kernel
theorem dX11_leaves_106 : decode cX11_leaves 106 = .ok (.lcmp, 1) := by decide +kernel
theorem dX11_leaves_107 : decode cX11_leaves 107 = .ok (.ifCond .le 6, 3) := by decide +kernel
theorem dX11_leaves_110 : decode cX11_leaves 110 = .ok (.iload 8, 2) := by decide +kernel
theorem dX11_leaves_112 : decode cX11_leaves 112 = .ok (.ireturn, 1) := by decide +kernel
theorem dX11_leaves_113 : decode cX11_leaves 113 = .ok (.iinc 8 1, 3) := by decide +kernel
theorem dX11_leaves_116 : decode cX11_leaves 116 = .ok (.goto (-41), 3) := by decide +kernel
theorem dX11_leaves_119 : decode cX11_leaves 119 = .ok (.bipush (-4), 2) := by decide +kernel
theorem dX11_leaves_121 : decode cX11_leaves 121 = .ok (.ireturn, 1) := by decide +kernel
theorem dX11_fit_0 : decode cX11_fit 0 = .ok (.iload 4, 2) := by decide +kernel
theorem dX11_fit_2 : decode cX11_fit 2 = .ok (.iconst 1, 1) := by decide +kernel
theorem dX11_fit_3 : decode cX11_fit 3 = .ok (.bipush 8, 2) := by decide +kernel
theorem dX11_fit_5 : decode cX11_fit 5 = .ok (.invokestatic 47, 3) := by decide +kernel
theorem dX11_fit_8 : decode cX11_fit 8 = .ok (.ifCond .eq 13, 3) := by decide +kernel
theorem dX11_fit_11 : decode cX11_fit 11 = .ok (.iload 5, 2) := by decide +kernel
theorem dX11_fit_13 : decode cX11_fit 13 = .ok (.iconst 0, 1) := by decide +kernel
theorem dX11_fit_14 : decode cX11_fit 14 = .ok (.iconst 1, 1) := by decide +kernel
theorem dX11_fit_15 : decode cX11_fit 15 = .ok (.invokestatic 47, 3) := by decide +kernel
theorem dX11_fit_18 : decode cX11_fit 18 = .ok (.ifCond .ne 5, 3) := by decide +kernel
theorem dX11_fit_21 : decode cX11_fit 21 = .ok (.iconst (-1), 1) := by decide +kernel
theorem dX11_fit_22 : decode cX11_fit 22 = .ok (.ireturn, 1) := by decide +kernel
theorem dX11_fit_23 : decode cX11_fit 23 = .ok (.aload_n 0, 1) := by decide +kernel
theorem dX11_fit_24 : decode cX11_fit 24 = .ok (.iload_n 1, 1) := by decide +kernel
theorem dX11_fit_25 : decode cX11_fit 25 = .ok (.iload_n 2, 1) := by decide +kernel
theorem dX11_fit_26 : decode cX11_fit 26 = .ok (.iload_n 3, 1) := by decide +kernel
theorem dX11_fit_27 : decode cX11_fit 27 = .ok (.iload 4, 2) := by decide +kernel
theorem dX11_fit_29 : decode cX11_fit 29 = .ok (.invokevirtual 259, 3) := by decide +kernel
theorem dX11_fit_32 : decode cX11_fit 32 = .ok (.istore 6, 2) := by decide +kernel
theorem dX11_fit_34 : decode cX11_fit 34 = .ok (.iload 6, 2) := by decide +kernel
theorem dX11_fit_36 : decode cX11_fit 36 = .ok (.ifCond .ge 6, 3) := by decide +kernel
theorem dX11_fit_39 : decode cX11_fit 39 = .ok (.iload 6, 2) := by decide +kernel
theorem dX11_fit_41 : decode cX11_fit 41 = .ok (.ireturn, 1) := by decide +kernel
theorem dX11_fit_42 : decode cX11_fit 42 = .ok (.aload_n 0, 1) := by decide +kernel
theorem dX11_fit_43 : decode cX11_fit 43 = .ok (.iload_n 1, 1) := by decide +kernel
theorem dX11_fit_44 : decode cX11_fit 44 = .ok (.invokevirtual 262, 3) := by decide +kernel
theorem dX11_fit_47 : decode cX11_fit 47 = .ok (.astore 7, 2) := by decide +kernel
theorem dX11_fit_49 : decode cX11_fit 49 = .ok (.aload 7, 2) := by decide +kernel
theorem dX11_fit_51 : decode cX11_fit 51 = .ok (.ifnull 17, 3) := by decide +kernel
theorem dX11_fit_54 : decode cX11_fit 54 = .ok (.aload 7, 2) := by decide +kernel
theorem dX11_fit_56 : decode cX11_fit 56 = .ok (.iload_n 3, 1) := by decide +kernel
theorem dX11_fit_57 : decode cX11_fit 57 = .ok (.iload 4, 2) := by decide +kernel
theorem dX11_fit_59 : decode cX11_fit 59 = .ok (.iconst 1, 1) := by decide +kernel
theorem dX11_fit_60 : decode cX11_fit 60 = .ok (.ldc 93, 2) := by decide +kernel
theorem dX11_fit_62 : decode cX11_fit 62 = .ok (.invokevirtual 267, 3) := by decide +kernel
theorem dX11_fit_65 : decode cX11_fit 65 = .ok (.ifCond .ne 6, 3) := by decide +kernel
theorem dX11_fit_68 : decode cX11_fit 68 = .ok (.bipush (-2), 2) := by decide +kernel
theorem dX11_fit_70 : decode cX11_fit 70 = .ok (.ireturn, 1) := by decide +kernel
theorem dX11_fit_71 : decode cX11_fit 71 = .ok (.aload 7, 2) := by decide +kernel
theorem dX11_fit_73 : decode cX11_fit 73 = .ok (.iload_n 3, 1) := by decide +kernel
theorem dX11_fit_74 : decode cX11_fit 74 = .ok (.iload 4, 2) := by decide +kernel
theorem dX11_fit_76 : decode cX11_fit 76 = .ok (.invokevirtual 275, 3) := by decide +kernel
theorem dX11_fit_79 : decode cX11_fit 79 = .ok (.lstore 8, 2) := by decide +kernel
theorem dX11_fit_81 : decode cX11_fit 81 = .ok (.iload 5, 2) := by decide +kernel
theorem dX11_fit_83 : decode cX11_fit 83 = .ok (.ifCond .ne 11, 3) := by decide +kernel
theorem dX11_fit_86 : decode cX11_fit 86 = .ok (.lload 8, 2) := by decide +kernel
theorem dX11_fit_88 : decode cX11_fit 88 = .ok (.invokestatic 278, 3) := by decide +kernel
theorem dX11_fit_91 : decode cX11_fit 91 = .ok (.goto 8, 3) := by decide +kernel
theorem dX11_fit_94 : decode cX11_fit 94 = .ok (.lload 8, 2) := by decide +kernel
theorem dX11_fit_96 : decode cX11_fit 96 = .ok (.invokestatic 282, 3) := by decide +kernel
theorem dX11_fit_99 : decode cX11_fit 99 = .ok (.ireturn, 1) := by decide +kernel
theorem dX11_film_0 : decode cX11_film 0 = .ok (.aload_n 0, 1) := by decide +kernel
theorem dX11_film_1 : decode cX11_film 1 = .ok (.getfield 10, 3) := by decide +kernel
theorem dX11_film_4 : decode cX11_film 4 = .ok (.getfield 84, 3) := by decide +kernel
theorem dX11_film_7 : decode cX11_film 7 = .ok (.getfield 115, 3) := by decide +kernel
theorem dX11_film_10 : decode cX11_film 10 = .ok (.istore 4, 2) := by decide +kernel
theorem dX11_film_12 : decode cX11_film 12 = .ok (.aload_n 0, 1) := by decide +kernel
theorem dX11_film_13 : decode cX11_film 13 = .ok (.iload_n 1, 1) := by decide +kernel
theorem dX11_film_14 : decode cX11_film 14 = .ok (.iload_n 2, 1) := by decide +kernel
theorem dX11_film_15 : decode cX11_film 15 = .ok (.iload_n 3, 1) := by decide +kernel
theorem dX11_film_16 : decode cX11_film 16 = .ok (.iload 4, 2) := by decide +kernel
theorem dX11_film_18 : decode cX11_film 18 = .ok (.invokevirtual 259, 3) := by decide +kernel
theorem dX11_film_21 : decode cX11_film 21 = .ok (.istore 5, 2) := by decide +kernel
theorem dX11_film_23 : decode cX11_film 23 = .ok (.iload 5, 2) := by decide +kernel
theorem dX11_film_25 : decode cX11_film 25 = .ok (.ifCond .ge 6, 3) := by decide +kernel
theorem dX11_film_28 : decode cX11_film 28 = .ok (.iload 5, 2) := by decide +kernel
theorem dX11_film_30 : decode cX11_film 30 = .ok (.ireturn, 1) := by decide +kernel
theorem dX11_film_31 : decode cX11_film 31 = .ok (.aload_n 0, 1) := by decide +kernel
theorem dX11_film_32 : decode cX11_film 32 = .ok (.iload_n 1, 1) := by decide +kernel
theorem dX11_film_33 : decode cX11_film 33 = .ok (.invokevirtual 262, 3) := by decide +kernel
theorem dX11_film_36 : decode cX11_film 36 = .ok (.astore 6, 2) := by decide +kernel
theorem dX11_film_38 : decode cX11_film 38 = .ok (.iconst 0, 1) := by decide +kernel
theorem dX11_film_39 : decode cX11_film 39 = .ok (.istore 7, 2) := by decide +kernel
theorem dX11_film_41 : decode cX11_film 41 = .ok (.iload 7, 2) := by decide +kernel
theorem dX11_film_43 : decode cX11_film 43 = .ok (.iload 4, 2) := by decide +kernel
theorem dX11_film_45 : decode cX11_film 45 = .ok (.if_icmp .ge 39, 3) := by decide +kernel
theorem dX11_film_48 : decode cX11_film 48 = .ok (.aload 6, 2) := by decide +kernel
theorem dX11_film_50 : decode cX11_film 50 = .ok (.ifnull 34, 3) := by decide +kernel
theorem dX11_film_53 : decode cX11_film 53 = .ok (.aload 6, 2) := by decide +kernel
theorem dX11_film_55 : decode cX11_film 55 = .ok (.iload_n 3, 1) := by decide +kernel
theorem dX11_film_56 : decode cX11_film 56 = .ok (.iload 7, 2) := by decide +kernel
theorem dX11_film_58 : decode cX11_film 58 = .ok (.iadd, 1) := by decide +kernel
theorem dX11_film_59 : decode cX11_film 59 = .ok (.aload_n 0, 1) := by decide +kernel
theorem dX11_film_60 : decode cX11_film 60 = .ok (.getfield 10, 3) := by decide +kernel
theorem dX11_film_63 : decode cX11_film 63 = .ok (.getfield 84, 3) := by decide +kernel
theorem dX11_film_66 : decode cX11_film 66 = .ok (.getfield 128, 3) := by decide +kernel
theorem dX11_film_69 : decode cX11_film 69 = .ok (.iload 7, 2) := by decide +kernel
theorem dX11_film_71 : decode cX11_film 71 = .ok (.invokestatic 61, 3) := by decide +kernel
theorem dX11_film_74 : decode cX11_film 74 = .ok (.i2l, 1) := by decide +kernel
theorem dX11_film_75 : decode cX11_film 75 = .ok (.invokevirtual 285, 3) := by decide +kernel
theorem dX11_film_78 : decode cX11_film 78 = .ok (.iinc 7 1, 3) := by decide +kernel
theorem dX11_film_81 : decode cX11_film 81 = .ok (.goto (-40), 3) := by decide +kernel
theorem dX11_film_84 : decode cX11_film 84 = .ok (.iload 4, 2) := by decide +kernel
theorem dX11_film_86 : decode cX11_film 86 = .ok (.ireturn, 1) := by decide +kernel
theorem dX11_sheet_0 : decode cX11_sheet 0 = .ok (.aload_n 0, 1) := by decide +kernel
theorem dX11_sheet_1 : decode cX11_sheet 1 = .ok (.iload_n 1, 1) := by decide +kernel
theorem dX11_sheet_2 : decode cX11_sheet 2 = .ok (.invokevirtual 262, 3) := by decide +kernel
theorem dX11_sheet_5 : decode cX11_sheet 5 = .ok (.astore 4, 2) := by decide +kernel
theorem dX11_sheet_7 : decode cX11_sheet 7 = .ok (.aload 4, 2) := by decide +kernel
theorem dX11_sheet_9 : decode cX11_sheet 9 = .ok (.ifnull 18, 3) := by decide +kernel
theorem dX11_sheet_12 : decode cX11_sheet 12 = .ok (.iload_n 2, 1) := by decide +kernel
theorem dX11_sheet_13 : decode cX11_sheet 13 = .ok (.iconst 0, 1) := by decide +kernel
theorem dX11_sheet_14 : decode cX11_sheet 14 = .ok (.iconst 2, 1) := by decide +kernel
theorem dX11_sheet_15 : decode cX11_sheet 15 = .ok (.invokestatic 47, 3) := by decide +kernel
theorem dX11_sheet_18 : decode cX11_sheet 18 = .ok (.ifCond .eq 9, 3) := by decide +kernel
theorem dX11_sheet_21 : decode cX11_sheet 21 = .ok (.iload_n 3, 1) := by decide +kernel
theorem dX11_sheet_22 : decode cX11_sheet 22 = .ok (.bipush 16, 2) := by decide +kernel
theorem dX11_sheet_24 : decode cX11_sheet 24 = .ok (.if_icmp .le 5, 3) := by decide +kernel
theorem dX11_sheet_27 : decode cX11_sheet 27 = .ok (.iconst (-1), 1) := by decide +kernel
theorem dX11_sheet_28 : decode cX11_sheet 28 = .ok (.ireturn, 1) := by decide +kernel
theorem dX11_sheet_29 : decode cX11_sheet 29 = .ok (.iload_n 3, 1) := by decide +kernel
theorem dX11_sheet_30 : decode cX11_sheet 30 = .ok (.ifCond .ge 6, 3) := by decide +kernel
theorem dX11_sheet_33 : decode cX11_sheet 33 = .ok (.bipush (-14), 2) := by decide +kernel
theorem dX11_sheet_35 : decode cX11_sheet 35 = .ok (.ireturn, 1) := by decide +kernel
theorem dX11_sheet_36 : decode cX11_sheet 36 = .ok (.aload 4, 2) := by decide +kernel
theorem dX11_sheet_38 : decode cX11_sheet 38 = .ok (.iload_n 2, 1) := by decide +kernel
theorem dX11_sheet_39 : decode cX11_sheet 39 = .ok (.iload_n 3, 1) := by decide +kernel
theorem dX11_sheet_40 : decode cX11_sheet 40 = .ok (.invokevirtual 289, 3) := by decide +kernel
theorem dX11_sheet_43 : decode cX11_sheet 43 = .ok (.iload_n 3, 1) := by decide +kernel
theorem dX11_sheet_44 : decode cX11_sheet 44 = .ok (.ireturn, 1) := by decide +kernel
theorem dX11_drop_0 : decode cX11_drop 0 = .ok (.aload_n 0, 1) := by decide +kernel
theorem dX11_drop_1 : decode cX11_drop 1 = .ok (.iload_n 1, 1) := by decide +kernel
theorem dX11_drop_2 : decode cX11_drop 2 = .ok (.invokevirtual 262, 3) := by decide +kernel
theorem dX11_drop_5 : decode cX11_drop 5 = .ok (.astore_n 2, 1) := by decide +kernel
theorem dX11_drop_6 : decode cX11_drop 6 = .ok (.aload_n 2, 1) := by decide +kernel
theorem dX11_drop_7 : decode cX11_drop 7 = .ok (.ifnonnull 5, 3) := by decide +kernel
theorem dX11_drop_10 : decode cX11_drop 10 = .ok (.iconst (-1), 1) := by decide +kernel
theorem dX11_drop_11 : decode cX11_drop 11 = .ok (.ireturn, 1) := by decide +kernel
theorem dX11_drop_12 : decode cX11_drop 12 = .ok (.aload_n 2, 1) := by decide +kernel
theorem dX11_drop_13 : decode cX11_drop 13 = .ok (.getfield 293, 3) := by decide +kernel
theorem dX11_drop_16 : decode cX11_drop 16 = .ok (.ifCond .ne 6, 3) := by decide +kernel
theorem dX11_drop_19 : decode cX11_drop 19 = .ok (.bipush (-11), 2) := by decide +kernel
theorem dX11_drop_21 : decode cX11_drop 21 = .ok (.ireturn, 1) := by decide +kernel
theorem dX11_drop_22 : decode cX11_drop 22 = .ok (.aload_n 2, 1) := by decide +kernel
theorem dX11_drop_23 : decode cX11_drop 23 = .ok (.iconst 0, 1) := by decide +kernel
theorem dX11_drop_24 : decode cX11_drop 24 = .ok (.putfield 293, 3) := by decide +kernel
theorem dX11_drop_27 : decode cX11_drop 27 = .ok (.aload_n 2, 1) := by decide +kernel
theorem dX11_drop_28 : decode cX11_drop 28 = .ok (.getfield 296, 3) := by decide +kernel
theorem dX11_drop_31 : decode cX11_drop 31 = .ok (.ireturn, 1) := by decide +kernel
theorem dX11_item_0 : decode cX11_item 0 = .ok (.aload_n 0, 1) := by decide +kernel
theorem dX11_item_1 : decode cX11_item 1 = .ok (.iload_n 1, 1) := by decide +kernel
theorem dX11_item_2 : decode cX11_item 2 = .ok (.iload_n 2, 1) := by decide +kernel
theorem dX11_item_3 : decode cX11_item 3 = .ok (.iload_n 3, 1) := by decide +kernel
theorem dX11_item_4 : decode cX11_item 4 = .ok (.iconst 1, 1) := by decide +kernel
theorem dX11_item_5 : decode cX11_item 5 = .ok (.invokevirtual 259, 3) := by decide +kernel
theorem dX11_item_8 : decode cX11_item 8 = .ok (.istore 6, 2) := by decide +kernel
theorem dX11_item_10 : decode cX11_item 10 = .ok (.iload 6, 2) := by decide +kernel
theorem dX11_item_12 : decode cX11_item 12 = .ok (.ifCond .ge 6, 3) := by decide +kernel
theorem dX11_item_15 : decode cX11_item 15 = .ok (.iload 6, 2) := by decide +kernel
theorem dX11_item_17 : decode cX11_item 17 = .ok (.ireturn, 1) := by decide +kernel
theorem dX11_item_18 : decode cX11_item 18 = .ok (.aload_n 0, 1) := by decide +kernel
theorem dX11_item_19 : decode cX11_item 19 = .ok (.iload_n 1, 1) := by decide +kernel
theorem dX11_item_20 : decode cX11_item 20 = .ok (.invokevirtual 262, 3) := by decide +kernel
theorem dX11_item_23 : decode cX11_item 23 = .ok (.astore 7, 2) := by decide +kernel
theorem dX11_item_25 : decode cX11_item 25 = .ok (.aload 7, 2) := by decide +kernel
theorem dX11_item_27 : decode cX11_item 27 = .ok (.ifnull 11, 3) := by decide +kernel
theorem dX11_item_30 : decode cX11_item 30 = .ok (.aload 7, 2) := by decide +kernel
theorem dX11_item_32 : decode cX11_item 32 = .ok (.iload_n 3, 1) := by decide +kernel
theorem dX11_item_33 : decode cX11_item 33 = .ok (.lload 4, 2) := by decide +kernel
theorem dX11_item_35 : decode cX11_item 35 = .ok (.invokevirtual 285, 3) := by decide +kernel
theorem dX11_item_38 : decode cX11_item 38 = .ok (.iconst 1, 1) := by decide +kernel
theorem dX11_item_39 : decode cX11_item 39 = .ok (.ireturn, 1) := by decide +kernel
theorem dX11_copy_0 : decode cX11_copy 0 = .ok (.aload_n 0, 1) := by decide +kernel
theorem dX11_copy_1 : decode cX11_copy 1 = .ok (.iload_n 1, 1) := by decide +kernel
theorem dX11_copy_2 : decode cX11_copy 2 = .ok (.invokevirtual 262, 3) := by decide +kernel
theorem dX11_copy_5 : decode cX11_copy 5 = .ok (.astore 6, 2) := by decide +kernel
theorem dX11_copy_7 : decode cX11_copy 7 = .ok (.aload_n 0, 1) := by decide +kernel
theorem dX11_copy_8 : decode cX11_copy 8 = .ok (.iload_n 3, 1) := by decide +kernel
theorem dX11_copy_9 : decode cX11_copy 9 = .ok (.invokevirtual 262, 3) := by decide +kernel
theorem dX11_copy_12 : decode cX11_copy 12 = .ok (.astore 7, 2) := by decide +kernel
theorem dX11_copy_14 : decode cX11_copy 14 = .ok (.aload 6, 2) := by decide +kernel
theorem dX11_copy_16 : decode cX11_copy 16 = .ok (.ifnull 8, 3) := by decide +kernel
theorem dX11_copy_19 : decode cX11_copy 19 = .ok (.aload 7, 2) := by decide +kernel
theorem dX11_copy_21 : decode cX11_copy 21 = .ok (.ifnonnull 5, 3) := by decide +kernel
theorem dX11_copy_24 : decode cX11_copy 24 = .ok (.iconst (-1), 1) := by decide +kernel
theorem dX11_copy_25 : decode cX11_copy 25 = .ok (.ireturn, 1) := by decide +kernel
theorem dX11_copy_26 : decode cX11_copy 26 = .ok (.aload 6, 2) := by decide +kernel
theorem dX11_copy_28 : decode cX11_copy 28 = .ok (.getfield 293, 3) := by decide +kernel
theorem dX11_copy_31 : decode cX11_copy 31 = .ok (.ifCond .eq 11, 3) := by decide +kernel
theorem dX11_copy_34 : decode cX11_copy 34 = .ok (.aload 7, 2) := by decide +kernel
theorem dX11_copy_36 : decode cX11_copy 36 = .ok (.getfield 293, 3) := by decide +kernel
theorem dX11_copy_39 : decode cX11_copy 39 = .ok (.ifCond .ne 6, 3) := by decide +kernel
theorem dX11_copy_42 : decode cX11_copy 42 = .ok (.bipush (-11), 2) := by decide +kernel
theorem dX11_copy_44 : decode cX11_copy 44 = .ok (.ireturn, 1) := by decide +kernel
theorem dX11_copy_45 : decode cX11_copy 45 = .ok (.aload 6, 2) := by decide +kernel
theorem dX11_copy_47 : decode cX11_copy 47 = .ok (.getfield 297, 3) := by decide +kernel
theorem dX11_copy_50 : decode cX11_copy 50 = .ok (.aload 7, 2) := by decide +kernel
theorem dX11_copy_52 : decode cX11_copy 52 = .ok (.getfield 297, 3) := by decide +kernel
theorem dX11_copy_55 : decode cX11_copy 55 = .ok (.if_icmp .eq 6, 3) := by decide +kernel
theorem dX11_copy_58 : decode cX11_copy 58 = .ok (.bipush (-12), 2) := by decide +kernel
theorem dX11_copy_60 : decode cX11_copy 60 = .ok (.ireturn, 1) := by decide +kernel
theorem dX11_copy_61 : decode cX11_copy 61 = .ok (.aload 6, 2) := by decide +kernel
theorem dX11_copy_63 : decode cX11_copy 63 = .ok (.iload_n 2, 1) := by decide +kernel
theorem dX11_copy_64 : decode cX11_copy 64 = .ok (.iload 5, 2) := by decide +kernel
theorem dX11_copy_66 : decode cX11_copy 66 = .ok (.invokevirtual 300, 3) := by decide +kernel
theorem dX11_copy_69 : decode cX11_copy 69 = .ok (.ifCond .eq 15, 3) := by decide +kernel
theorem dX11_copy_72 : decode cX11_copy 72 = .ok (.aload 7, 2) := by decide +kernel
theorem dX11_copy_74 : decode cX11_copy 74 = .ok (.iload 4, 2) := by decide +kernel
theorem dX11_copy_76 : decode cX11_copy 76 = .ok (.iload 5, 2) := by decide +kernel
theorem dX11_copy_78 : decode cX11_copy 78 = .ok (.invokevirtual 300, 3) := by decide +kernel
theorem dX11_copy_81 : decode cX11_copy 81 = .ok (.ifCond .ne 6, 3) := by decide +kernel
theorem dX11_copy_84 : decode cX11_copy 84 = .ok (.bipush (-13), 2) := by decide +kernel
theorem dX11_copy_86 : decode cX11_copy 86 = .ok (.ireturn, 1) := by decide +kernel
theorem dX11_copy_87 : decode cX11_copy 87 = .ok (.aload 6, 2) := by decide +kernel
theorem dX11_copy_89 : decode cX11_copy 89 = .ok (.getfield 303, 3) := by decide +kernel
theorem dX11_copy_92 : decode cX11_copy 92 = .ok (.iload_n 2, 1) := by decide +kernel
theorem dX11_copy_93 : decode cX11_copy 93 = .ok (.aload 7, 2) := by decide +kernel
theorem dX11_copy_95 : decode cX11_copy 95 = .ok (.getfield 303, 3) := by decide +kernel
theorem dX11_copy_98 : decode cX11_copy 98 = .ok (.iload 4, 2) := by decide +kernel
theorem dX11_copy_100 : decode cX11_copy 100 = .ok (.iload 5, 2) := by decide +kernel
theorem dX11_copy_102 : decode cX11_copy 102 = .ok (.invokestatic 307, 3) := by decide +kernel
theorem dX11_copy_105 : decode cX11_copy 105 = .ok (.iload 5, 2) := by decide +kernel
theorem dX11_copy_107 : decode cX11_copy 107 = .ok (.ireturn, 1) := by decide +kernel
theorem dX11_within_0 : decode cX11_within 0 = .ok (.iload_n 0, 1) := by decide +kernel
theorem dX11_within_1 : decode cX11_within 1 = .ok (.iload_n 1, 1) := by decide +kernel
theorem dX11_within_2 : decode cX11_within 2 = .ok (.if_icmp .lt 12, 3) := by decide +kernel
theorem dX11_within_5 : decode cX11_within 5 = .ok (.iload_n 0, 1) := by decide +kernel
theorem dX11_within_6 : decode cX11_within 6 = .ok (.iload_n 2, 1) := by decide +kernel
theorem dX11_within_7 : decode cX11_within 7 = .ok (.if_icmp .gt 7, 3) := by decide +kernel
theorem dX11_within_10 : decode cX11_within 10 = .ok (.iconst 1, 1) := by decide +kernel
theorem dX11_within_11 : decode cX11_within 11 = .ok (.goto 4, 3) := by decide +kernel
theorem dX11_within_14 : decode cX11_within 14 = .ok (.iconst 0, 1) := by decide +kernel
theorem dX11_within_15 : decode cX11_within 15 = .ok (.ireturn, 1) := by decide +kernel
theorem dX11_isCloth_0 : decode cX11_isCloth 0 = .ok (.iload_n 0, 1) := by decide +kernel
theorem dX11_isCloth_1 : decode cX11_isCloth 1 = .ok (.iconst 0, 1) := by decide +kernel
theorem dX11_isCloth_2 : decode cX11_isCloth 2 = .ok (.getstatic 313, 3) := by decide +kernel
theorem dX11_isCloth_5 : decode cX11_isCloth 5 = .ok (.arraylength, 1) := by decide +kernel
theorem dX11_isCloth_6 : decode cX11_isCloth 6 = .ok (.iconst 1, 1) := by decide +kernel
theorem dX11_isCloth_7 : decode cX11_isCloth 7 = .ok (.isub, 1) := by decide +kernel
theorem dX11_isCloth_8 : decode cX11_isCloth 8 = .ok (.invokestatic 47, 3) := by decide +kernel
theorem dX11_isCloth_11 : decode cX11_isCloth 11 = .ok (.ireturn, 1) := by decide +kernel
theorem dX11_byteOf_0 : decode cX11_byteOf 0 = .ok (.lload_n 0, 1) := by decide +kernel
theorem dX11_byteOf_1 : decode cX11_byteOf 1 = .ok (.bipush 8, 2) := by decide +kernel
theorem dX11_byteOf_3 : decode cX11_byteOf 3 = .ok (.iload_n 2, 1) := by decide +kernel
theorem dX11_byteOf_4 : decode cX11_byteOf 4 = .ok (.imul, 1) := by decide +kernel
theorem dX11_byteOf_5 : decode cX11_byteOf 5 = .ok (.lushr, 1) := by decide +kernel
theorem dX11_byteOf_6 : decode cX11_byteOf 6 = .ok (.l2i, 1) := by decide +kernel
theorem dX11_byteOf_7 : decode cX11_byteOf 7 = .ok (.sipush 255, 3) := by decide +kernel
theorem dX11_byteOf_10 : decode cX11_byteOf 10 = .ok (.iand, 1) := by decide +kernel
theorem dX11_byteOf_11 : decode cX11_byteOf 11 = .ok (.ireturn, 1) := by decide +kernel
theorem dX11_marksNow_0 : decode cX11_marksNow 0 = .ok (.aload_n 0, 1) := by decide +kernel
theorem dX11_marksNow_1 : decode cX11_marksNow 1 = .ok (.getfield 10, 3) := by decide +kernel
theorem dX11_marksNow_4 : decode cX11_marksNow 4 = .ok (.getfield 51, 3) := by decide +kernel
theorem dX11_marksNow_7 : decode cX11_marksNow 7 = .ok (.aload_n 0, 1) := by decide +kernel
theorem dX11_marksNow_8 : decode cX11_marksNow 8 = .ok (.getfield 35, 3) := by decide +kernel
theorem dX11_marksNow_11 : decode cX11_marksNow 11 = .ok (.invokevirtual 317, 3) := by decide +kernel
theorem dX11_marksNow_14 : decode cX11_marksNow 14 = .ok (.aload_n 0, 1) := by decide +kernel
theorem dX11_marksNow_15 : decode cX11_marksNow 15 = .ok (.getfield 35, 3) := by decide +kernel
theorem dX11_marksNow_18 : decode cX11_marksNow 18 = .ok (.areturn, 1) := by decide +kernel
theorem dX11_priceOf_0 : decode cX11_priceOf 0 = .ok (.aload_n 1, 1) := by decide +kernel
theorem dX11_priceOf_1 : decode cX11_priceOf 1 = .ok (.aload_n 0, 1) := by decide +kernel
theorem dX11_priceOf_2 : decode cX11_priceOf 2 = .ok (.getfield 10, 3) := by decide +kernel
theorem dX11_priceOf_5 : decode cX11_priceOf 5 = .ok (.getfield 176, 3) := by decide +kernel
theorem dX11_priceOf_8 : decode cX11_priceOf 8 = .ok (.iload_n 2, 1) := by decide +kernel
theorem dX11_priceOf_9 : decode cX11_priceOf 9 = .ok (.invokevirtual 186, 3) := by decide +kernel
theorem dX11_priceOf_12 : decode cX11_priceOf 12 = .ok (.i2l, 1) := by decide +kernel
theorem dX11_priceOf_13 : decode cX11_priceOf 13 = .ok (.invokevirtual 321, 3) := by decide +kernel
theorem dX11_priceOf_16 : decode cX11_priceOf 16 = .ok (.lreturn, 1) := by decide +kernel
theorem dX11_groupBolts_0 : decode cX11_groupBolts 0 = .ok (.aload_n 0, 1) := by decide +kernel
theorem dX11_groupBolts_1 : decode cX11_groupBolts 1 = .ok (.invokevirtual 96, 3) := by decide +kernel
theorem dX11_groupBolts_4 : decode cX11_groupBolts 4 = .ok (.astore_n 2, 1) := by decide +kernel
theorem dX11_groupBolts_5 : decode cX11_groupBolts 5 = .ok (.aload_n 0, 1) := by decide +kernel
theorem dX11_groupBolts_6 : decode cX11_groupBolts 6 = .ok (.getfield 10, 3) := by decide +kernel
theorem dX11_groupBolts_9 : decode cX11_groupBolts 9 = .ok (.getfield 84, 3) := by decide +kernel
theorem dX11_groupBolts_12 : decode cX11_groupBolts 12 = .ok (.iload_n 1, 1) := by decide +kernel
theorem dX11_groupBolts_13 : decode cX11_groupBolts 13 = .ok (.invokevirtual 324, 3) := by decide +kernel
theorem dX11_groupBolts_16 : decode cX11_groupBolts 16 = .ok (.istore_n 3, 1) := by decide +kernel
theorem dX11_groupBolts_17 : decode cX11_groupBolts 17 = .ok (.iconst 1, 1) := by decide +kernel
theorem dX11_groupBolts_18 : decode cX11_groupBolts 18 = .ok (.istore 4, 2) := by decide +kernel
theorem dX11_groupBolts_20 : decode cX11_groupBolts 20 = .ok (.iload 4, 2) := by decide +kernel
theorem dX11_groupBolts_22 : decode cX11_groupBolts 22 = .ok (.iconst 1, 1) := by decide +kernel
theorem dX11_groupBolts_23 : decode cX11_groupBolts 23 = .ok (.iload_n 3, 1) := by decide +kernel
theorem dX11_groupBolts_24 : decode cX11_groupBolts 24 = .ok (.ishl, 1) := by decide +kernel
theorem dX11_groupBolts_25 : decode cX11_groupBolts 25 = .ok (.if_icmp .ge 40, 3) := by decide +kernel
theorem dX11_groupBolts_28 : decode cX11_groupBolts 28 = .ok (.aload_n 0, 1) := by decide +kernel
theorem dX11_groupBolts_29 : decode cX11_groupBolts 29 = .ok (.getfield 10, 3) := by decide +kernel
theorem dX11_groupBolts_32 : decode cX11_groupBolts 32 = .ok (.getfield 84, 3) := by decide +kernel
theorem dX11_groupBolts_35 : decode cX11_groupBolts 35 = .ok (.iload 4, 2) := by decide +kernel
theorem dX11_groupBolts_37 : decode cX11_groupBolts 37 = .ok (.iload_n 1, 1) := by decide +kernel
theorem dX11_groupBolts_38 : decode cX11_groupBolts 38 = .ok (.invokevirtual 327, 3) := by decide +kernel
theorem dX11_groupBolts_41 : decode cX11_groupBolts 41 = .ok (.istore 5, 2) := by decide +kernel
theorem dX11_groupBolts_43 : decode cX11_groupBolts 43 = .ok (.aload_n 0, 1) := by decide +kernel
theorem dX11_groupBolts_44 : decode cX11_groupBolts 44 = .ok (.getfield 42, 3) := by decide +kernel
theorem dX11_groupBolts_47 : decode cX11_groupBolts 47 = .ok (.iload 4, 2) := by decide +kernel
theorem dX11_groupBolts_49 : decode cX11_groupBolts 49 = .ok (.aload_n 2, 1) := by decide +kernel
theorem dX11_groupBolts_50 : decode cX11_groupBolts 50 = .ok (.iload 5, 2) := by decide +kernel
theorem dX11_groupBolts_52 : decode cX11_groupBolts 52 = .ok (.i2l, 1) := by decide +kernel
theorem dX11_groupBolts_53 : decode cX11_groupBolts 53 = .ok (.invokevirtual 131, 3) := by decide +kernel
theorem dX11_groupBolts_56 : decode cX11_groupBolts 56 = .ok (.invokevirtual 330, 3) := by decide +kernel
theorem dX11_groupBolts_59 : decode cX11_groupBolts 59 = .ok (.iinc 4 1, 3) := by decide +kernel
theorem dX11_groupBolts_62 : decode cX11_groupBolts 62 = .ok (.goto (-42), 3) := by decide +kernel
theorem dX11_groupBolts_65 : decode cX11_groupBolts 65 = .ok (.aload_n 0, 1) := by decide +kernel
theorem dX11_groupBolts_66 : decode cX11_groupBolts 66 = .ok (.getfield 42, 3) := by decide +kernel
theorem dX11_groupBolts_69 : decode cX11_groupBolts 69 = .ok (.iload_n 3, 1) := by decide +kernel
theorem dX11_groupBolts_70 : decode cX11_groupBolts 70 = .ok (.bipush 8, 2) := by decide +kernel
theorem dX11_groupBolts_72 : decode cX11_groupBolts 72 = .ok (.invokevirtual 333, 3) := by decide +kernel
theorem dX11_groupBolts_75 : decode cX11_groupBolts 75 = .ok (.return_, 1) := by decide +kernel
theorem dX11_groupBuyers_0 : decode cX11_groupBuyers 0 = .ok (.aload_n 0, 1) := by decide +kernel
theorem dX11_groupBuyers_1 : decode cX11_groupBuyers 1 = .ok (.invokevirtual 96, 3) := by decide +kernel
theorem dX11_groupBuyers_4 : decode cX11_groupBuyers 4 = .ok (.astore_n 2, 1) := by decide +kernel
theorem dX11_groupBuyers_5 : decode cX11_groupBuyers 5 = .ok (.iconst 1, 1) := by decide +kernel
theorem dX11_groupBuyers_6 : decode cX11_groupBuyers 6 = .ok (.istore_n 3, 1) := by decide +kernel
theorem dX11_groupBuyers_7 : decode cX11_groupBuyers 7 = .ok (.iload_n 3, 1) := by decide +kernel
theorem dX11_groupBuyers_8 : decode cX11_groupBuyers 8 = .ok (.aload_n 0, 1) := by decide +kernel
theorem dX11_groupBuyers_9 : decode cX11_groupBuyers 9 = .ok (.getfield 10, 3) := by decide +kernel
theorem dX11_groupBuyers_12 : decode cX11_groupBuyers 12 = .ok (.getfield 176, 3) := by decide +kernel
theorem dX11_groupBuyers_15 : decode cX11_groupBuyers 15 = .ok (.invokevirtual 183, 3) := by decide +kernel
theorem dX11_groupBuyers_18 : decode cX11_groupBuyers 18 = .ok (.if_icmp .gt 24, 3) := by decide +kernel
theorem dX11_groupBuyers_21 : decode cX11_groupBuyers 21 = .ok (.aload_n 0, 1) := by decide +kernel
theorem dX11_groupBuyers_22 : decode cX11_groupBuyers 22 = .ok (.getfield 42, 3) := by decide +kernel
theorem dX11_groupBuyers_25 : decode cX11_groupBuyers 25 = .ok (.iload_n 3, 1) := by decide +kernel
theorem dX11_groupBuyers_26 : decode cX11_groupBuyers 26 = .ok (.aload_n 0, 1) := by decide +kernel
theorem dX11_groupBuyers_27 : decode cX11_groupBuyers 27 = .ok (.aload_n 2, 1) := by decide +kernel
theorem dX11_groupBuyers_28 : decode cX11_groupBuyers 28 = .ok (.iload_n 3, 1) := by decide +kernel
theorem dX11_groupBuyers_29 : decode cX11_groupBuyers 29 = .ok (.invokevirtual 208, 3) := by decide +kernel
theorem dX11_groupBuyers_32 : decode cX11_groupBuyers 32 = .ok (.lneg, 1) := by decide +kernel
theorem dX11_groupBuyers_33 : decode cX11_groupBuyers 33 = .ok (.invokevirtual 330, 3) := by decide +kernel
theorem dX11_groupBuyers_36 : decode cX11_groupBuyers 36 = .ok (.iinc 3 1, 3) := by decide +kernel
theorem dX11_groupBuyers_39 : decode cX11_groupBuyers 39 = .ok (.goto (-32), 3) := by decide +kernel
theorem dX11_groupBuyers_42 : decode cX11_groupBuyers 42 = .ok (.aload_n 0, 1) := by decide +kernel
theorem dX11_groupBuyers_43 : decode cX11_groupBuyers 43 = .ok (.getfield 42, 3) := by decide +kernel
theorem dX11_groupBuyers_46 : decode cX11_groupBuyers 46 = .ok (.aload_n 0, 1) := by decide +kernel
theorem dX11_groupBuyers_47 : decode cX11_groupBuyers 47 = .ok (.getfield 10, 3) := by decide +kernel
theorem dX11_groupBuyers_50 : decode cX11_groupBuyers 50 = .ok (.getfield 176, 3) := by decide +kernel
theorem dX11_groupBuyers_53 : decode cX11_groupBuyers 53 = .ok (.getfield 180, 3) := by decide +kernel
theorem dX11_groupBuyers_56 : decode cX11_groupBuyers 56 = .ok (.iload_n 1, 1) := by decide +kernel
theorem dX11_groupBuyers_57 : decode cX11_groupBuyers 57 = .ok (.invokevirtual 333, 3) := by decide +kernel
theorem dX11_groupBuyers_60 : decode cX11_groupBuyers 60 = .ok (.return_, 1) := by decide +kernel
theorem dX11_sheetOf_0 : decode cX11_sheetOf 0 = .ok (.iload_n 1, 1) := by decide +kernel
theorem dX11_sheetOf_1 : decode cX11_sheetOf 1 = .ok (.ifCond .lt 21, 3) := by decide +kernel
theorem dX11_sheetOf_4 : decode cX11_sheetOf 4 = .ok (.iload_n 1, 1) := by decide +kernel
theorem dX11_sheetOf_5 : decode cX11_sheetOf 5 = .ok (.aload_n 0, 1) := by decide +kernel
theorem dX11_sheetOf_6 : decode cX11_sheetOf 6 = .ok (.getfield 28, 3) := by decide +kernel
theorem dX11_sheetOf_9 : decode cX11_sheetOf 9 = .ok (.arraylength, 1) := by decide +kernel
theorem dX11_sheetOf_10 : decode cX11_sheetOf 10 = .ok (.if_icmp .ge 12, 3) := by decide +kernel
theorem dX11_sheetOf_13 : decode cX11_sheetOf 13 = .ok (.aload_n 0, 1) := by decide +kernel
theorem dX11_sheetOf_14 : decode cX11_sheetOf 14 = .ok (.getfield 28, 3) := by decide +kernel
theorem dX11_sheetOf_17 : decode cX11_sheetOf 17 = .ok (.iload_n 1, 1) := by decide +kernel
theorem dX11_sheetOf_18 : decode cX11_sheetOf 18 = .ok (.aaload, 1) := by decide +kernel
theorem dX11_sheetOf_19 : decode cX11_sheetOf 19 = .ok (.goto 4, 3) := by decide +kernel
theorem dX11_sheetOf_22 : decode cX11_sheetOf 22 = .ok (.aconst_null, 1) := by decide +kernel
theorem dX11_sheetOf_23 : decode cX11_sheetOf 23 = .ok (.areturn, 1) := by decide +kernel
theorem dX11_refusal_0 : decode cX11_refusal 0 = .ok (.aload_n 0, 1) := by decide +kernel
theorem dX11_refusal_1 : decode cX11_refusal 1 = .ok (.iload_n 1, 1) := by decide +kernel
theorem dX11_refusal_2 : decode cX11_refusal 2 = .ok (.invokevirtual 262, 3) := by decide +kernel
theorem dX11_refusal_5 : decode cX11_refusal 5 = .ok (.astore 5, 2) := by decide +kernel
theorem dX11_refusal_7 : decode cX11_refusal 7 = .ok (.aload 5, 2) := by decide +kernel
theorem dX11_refusal_9 : decode cX11_refusal 9 = .ok (.ifnull 12, 3) := by decide +kernel
theorem dX11_refusal_12 : decode cX11_refusal 12 = .ok (.iload_n 2, 1) := by decide +kernel
theorem dX11_refusal_13 : decode cX11_refusal 13 = .ok (.iconst 0, 1) := by decide +kernel
theorem dX11_refusal_14 : decode cX11_refusal 14 = .ok (.iconst 2, 1) := by decide +kernel
theorem dX11_refusal_15 : decode cX11_refusal 15 = .ok (.invokestatic 47, 3) := by decide +kernel
theorem dX11_refusal_18 : decode cX11_refusal 18 = .ok (.ifCond .ne 5, 3) := by decide +kernel
theorem dX11_refusal_21 : decode cX11_refusal 21 = .ok (.iconst (-1), 1) := by decide +kernel
theorem dX11_refusal_22 : decode cX11_refusal 22 = .ok (.ireturn, 1) := by decide +kernel
theorem dX11_refusal_23 : decode cX11_refusal 23 = .ok (.aload 5, 2) := by decide +kernel
theorem dX11_refusal_25 : decode cX11_refusal 25 = .ok (.getfield 293, 3) := by decide +kernel
theorem dX11_refusal_28 : decode cX11_refusal 28 = .ok (.ifCond .ne 6, 3) := by decide +kernel
theorem dX11_refusal_31 : decode cX11_refusal 31 = .ok (.bipush (-11), 2) := by decide +kernel
theorem dX11_refusal_33 : decode cX11_refusal 33 = .ok (.ireturn, 1) := by decide +kernel
theorem dX11_refusal_34 : decode cX11_refusal 34 = .ok (.aload 5, 2) := by decide +kernel
theorem dX11_refusal_36 : decode cX11_refusal 36 = .ok (.getfield 297, 3) := by decide +kernel
theorem dX11_refusal_39 : decode cX11_refusal 39 = .ok (.iload_n 2, 1) := by decide +kernel
theorem dX11_refusal_40 : decode cX11_refusal 40 = .ok (.if_icmp .eq 6, 3) := by decide +kernel
theorem dX11_refusal_43 : decode cX11_refusal 43 = .ok (.bipush (-12), 2) := by decide +kernel
theorem dX11_refusal_45 : decode cX11_refusal 45 = .ok (.ireturn, 1) := by decide +kernel
theorem dX11_refusal_46 : decode cX11_refusal 46 = .ok (.aload 5, 2) := by decide +kernel
theorem dX11_refusal_48 : decode cX11_refusal 48 = .ok (.iload_n 3, 1) := by decide +kernel
theorem dX11_refusal_49 : decode cX11_refusal 49 = .ok (.iload 4, 2) := by decide +kernel
theorem dX11_refusal_51 : decode cX11_refusal 51 = .ok (.invokevirtual 300, 3) := by decide +kernel
theorem dX11_refusal_54 : decode cX11_refusal 54 = .ok (.ifCond .eq 7, 3) := by decide +kernel
theorem dX11_refusal_57 : decode cX11_refusal 57 = .ok (.iconst 0, 1) := by decide +kernel
theorem dX11_refusal_58 : decode cX11_refusal 58 = .ok (.goto 5, 3) := by decide +kernel
theorem dX11_refusal_61 : decode cX11_refusal 61 = .ok (.bipush (-13), 2) := by decide +kernel
theorem dX11_refusal_63 : decode cX11_refusal 63 = .ok (.ireturn, 1) := by decide +kernel
theorem dX11_howManyFit_0 : decode cX11_howManyFit 0 = .ok (.iconst 0, 1) := by decide +kernel
theorem dX11_howManyFit_1 : decode cX11_howManyFit 1 = .ok (.istore_n 2, 1) := by decide +kernel
theorem dX11_howManyFit_2 : decode cX11_howManyFit 2 = .ok (.iconst 2, 1) := by decide +kernel
theorem dX11_howManyFit_3 : decode cX11_howManyFit 3 = .ok (.istore_n 3, 1) := by decide +kernel
theorem dX11_howManyFit_4 : decode cX11_howManyFit 4 = .ok (.iload_n 3, 1) := by decide +kernel
theorem dX11_howManyFit_5 : decode cX11_howManyFit 5 = .ok (.bipush 60, 2) := by decide +kernel
theorem dX11_howManyFit_7 : decode cX11_howManyFit 7 = .ok (.if_icmp .gt 21, 3) := by decide +kernel
theorem dX11_howManyFit_10 : decode cX11_howManyFit 10 = .ok (.iload_n 3, 1) := by decide +kernel
theorem dX11_howManyFit_11 : decode cX11_howManyFit 11 = .ok (.i2l, 1) := by decide +kernel
theorem dX11_howManyFit_12 : decode cX11_howManyFit 12 = .ok (.lload_n 0, 1) := by decide +kernel
theorem dX11_howManyFit_13 : decode cX11_howManyFit 13 = .ok (.invokestatic 336, 3) := by decide +kernel
theorem dX11_howManyFit_16 : decode cX11_howManyFit 16 = .ok (.ifCond .eq 6, 3) := by decide +kernel
theorem dX11_howManyFit_19 : decode cX11_howManyFit 19 = .ok (.iinc 2 1, 3) := by decide +kernel
theorem dX11_howManyFit_22 : decode cX11_howManyFit 22 = .ok (.iinc 3 1, 3) := by decide +kernel
theorem dX11_howManyFit_25 : decode cX11_howManyFit 25 = .ok (.goto (-21), 3) := by decide +kernel
theorem dX11_howManyFit_28 : decode cX11_howManyFit 28 = .ok (.iload_n 2, 1) := by decide +kernel
theorem dX11_howManyFit_29 : decode cX11_howManyFit 29 = .ok (.iload_n 2, 1) := by decide +kernel
theorem dX11_howManyFit_30 : decode cX11_howManyFit 30 = .ok (.iconst 1, 1) := by decide +kernel
theorem dX11_howManyFit_31 : decode cX11_howManyFit 31 = .ok (.isub, 1) := by decide +kernel
theorem dX11_howManyFit_32 : decode cX11_howManyFit 32 = .ok (.imul, 1) := by decide +kernel
theorem dX11_howManyFit_33 : decode cX11_howManyFit 33 = .ok (.iconst 2, 1) := by decide +kernel
theorem dX11_howManyFit_34 : decode cX11_howManyFit 34 = .ok (.idiv, 1) := by decide +kernel
theorem dX11_howManyFit_35 : decode cX11_howManyFit 35 = .ok (.ireturn, 1) := by decide +kernel
theorem dX11_bestFit_0 : decode cX11_bestFit 0 = .ok (.bipush (-4), 2) := by decide +kernel
theorem dX11_bestFit_2 : decode cX11_bestFit 2 = .ok (.istore_n 2, 1) := by decide +kernel
theorem dX11_bestFit_3 : decode cX11_bestFit 3 = .ok (.lconst 0, 1) := by decide +kernel
theorem dX11_bestFit_4 : decode cX11_bestFit 4 = .ok (.lstore_n 3, 1) := by decide +kernel
theorem dX11_bestFit_5 : decode cX11_bestFit 5 = .ok (.iconst 2, 1) := by decide +kernel
theorem dX11_bestFit_6 : decode cX11_bestFit 6 = .ok (.istore 5, 2) := by decide +kernel
theorem dX11_bestFit_8 : decode cX11_bestFit 8 = .ok (.iload 5, 2) := by decide +kernel
theorem dX11_bestFit_10 : decode cX11_bestFit 10 = .ok (.bipush 60, 2) := by decide +kernel
theorem dX11_bestFit_12 : decode cX11_bestFit 12 = .ok (.if_icmp .ge 81, 3) := by decide +kernel
theorem dX11_bestFit_15 : decode cX11_bestFit 15 = .ok (.iload 5, 2) := by decide +kernel
theorem dX11_bestFit_17 : decode cX11_bestFit 17 = .ok (.i2l, 1) := by decide +kernel
theorem dX11_bestFit_18 : decode cX11_bestFit 18 = .ok (.lload_n 0, 1) := by decide +kernel
theorem dX11_bestFit_19 : decode cX11_bestFit 19 = .ok (.invokestatic 336, 3) := by decide +kernel
theorem dX11_bestFit_22 : decode cX11_bestFit 22 = .ok (.ifCond .ne 6, 3) := by decide +kernel
theorem dX11_bestFit_25 : decode cX11_bestFit 25 = .ok (.goto 62, 3) := by decide +kernel
theorem dX11_bestFit_28 : decode cX11_bestFit 28 = .ok (.iload 5, 2) := by decide +kernel
theorem dX11_bestFit_30 : decode cX11_bestFit 30 = .ok (.iconst 1, 1) := by decide +kernel
theorem dX11_bestFit_31 : decode cX11_bestFit 31 = .ok (.iadd, 1) := by decide +kernel
theorem dX11_bestFit_32 : decode cX11_bestFit 32 = .ok (.istore 6, 2) := by decide +kernel
theorem dX11_bestFit_34 : decode cX11_bestFit 34 = .ok (.iload 6, 2) := by decide +kernel
theorem dX11_bestFit_36 : decode cX11_bestFit 36 = .ok (.bipush 60, 2) := by decide +kernel
theorem dX11_bestFit_38 : decode cX11_bestFit 38 = .ok (.if_icmp .gt 49, 3) := by decide +kernel
theorem dX11_bestFit_41 : decode cX11_bestFit 41 = .ok (.iload 5, 2) := by decide +kernel
theorem dX11_bestFit_43 : decode cX11_bestFit 43 = .ok (.i2l, 1) := by decide +kernel
theorem dX11_bestFit_44 : decode cX11_bestFit 44 = .ok (.iload 6, 2) := by decide +kernel
theorem dX11_bestFit_46 : decode cX11_bestFit 46 = .ok (.i2l, 1) := by decide +kernel
theorem dX11_bestFit_47 : decode cX11_bestFit 47 = .ok (.invokestatic 340, 3) := by decide +kernel
theorem dX11_bestFit_50 : decode cX11_bestFit 50 = .ok (.lstore 7, 2) := by decide +kernel
theorem dX11_bestFit_52 : decode cX11_bestFit 52 = .ok (.iload 6, 2) := by decide +kernel
theorem dX11_bestFit_54 : decode cX11_bestFit 54 = .ok (.i2l, 1) := by decide +kernel
theorem dX11_bestFit_55 : decode cX11_bestFit 55 = .ok (.lload_n 0, 1) := by decide +kernel
theorem dX11_bestFit_56 : decode cX11_bestFit 56 = .ok (.invokestatic 336, 3) := by decide +kernel
theorem dX11_bestFit_59 : decode cX11_bestFit 59 = .ok (.ifCond .eq 22, 3) := by decide +kernel
theorem dX11_bestFit_62 : decode cX11_bestFit 62 = .ok (.lload 7, 2) := by decide +kernel
theorem dX11_bestFit_64 : decode cX11_bestFit 64 = .ok (.lload_n 3, 1) := by decide +kernel
theorem dX11_bestFit_65 : decode cX11_bestFit 65 = .ok (.lcmp, 1) := by decide +kernel
theorem dX11_bestFit_66 : decode cX11_bestFit 66 = .ok (.ifCond .le 15, 3) := by decide +kernel
theorem dX11_bestFit_69 : decode cX11_bestFit 69 = .ok (.lload 7, 2) := by decide +kernel
theorem dX11_bestFit_71 : decode cX11_bestFit 71 = .ok (.lstore_n 3, 1) := by decide +kernel
theorem dX11_bestFit_72 : decode cX11_bestFit 72 = .ok (.bipush 100, 2) := by decide +kernel
theorem dX11_bestFit_74 : decode cX11_bestFit 74 = .ok (.iload 5, 2) := by decide +kernel
theorem dX11_bestFit_76 : decode cX11_bestFit 76 = .ok (.imul, 1) := by decide +kernel
theorem dX11_bestFit_77 : decode cX11_bestFit 77 = .ok (.iload 6, 2) := by decide +kernel
theorem dX11_bestFit_79 : decode cX11_bestFit 79 = .ok (.iadd, 1) := by decide +kernel
theorem dX11_bestFit_80 : decode cX11_bestFit 80 = .ok (.istore_n 2, 1) := by decide +kernel
theorem dX11_bestFit_81 : decode cX11_bestFit 81 = .ok (.iinc 6 1, 3) := by decide +kernel
theorem dX11_bestFit_84 : decode cX11_bestFit 84 = .ok (.goto (-50), 3) := by decide +kernel
theorem dX11_bestFit_87 : decode cX11_bestFit 87 = .ok (.iinc 5 1, 3) := by decide +kernel
theorem dX11_bestFit_90 : decode cX11_bestFit 90 = .ok (.goto (-82), 3) := by decide +kernel
theorem dX11_bestFit_93 : decode cX11_bestFit 93 = .ok (.iload_n 2, 1) := by decide +kernel
theorem dX11_bestFit_94 : decode cX11_bestFit 94 = .ok (.ireturn, 1) := by decide +kernel
