theorem fl_RX0_15 : FL RX0 15 0 1 := ⟨_, _, _, rfl, by decide, fk_RX0_15⟩
theorem fl_RX0_18 : FL RX0 18 0 2 := ⟨_, _, _, rfl, by decide, fk_RX0_18⟩
theorem fl_RX0_21 : FL RX0 21 0 5 := ⟨_, _, _, rfl, by decide, fk_RX0_21⟩
theorem fp_RX0_21 : FP RX0 21 0 5 .int := ⟨_, _, _, rfl, by decide, fk_RX0_21, rfl, by decide +kernel⟩
theorem fl_RX0_31 : FL RX0 31 0 3 := ⟨_, _, _, rfl, by decide, fk_RX0_31⟩
theorem fp_RX0_31 : FP RX0 31 0 3 .int := ⟨_, _, _, rfl, by decide, fk_RX0_31, rfl, by decide +kernel⟩
theorem fl_RX0_34 : FL RX0 34 0 4 := ⟨_, _, _, rfl, by decide, fk_RX0_34⟩
theorem fp_RX0_34 : FP RX0 34 0 4 .int := ⟨_, _, _, rfl, by decide, fk_RX0_34, rfl, by decide +kernel⟩
theorem fl_RX0_9 : FL RX0 9 0 0 := ⟨_, _, _, rfl, by decide, fk_RX0_9⟩
theorem fl_RX1_21 : FL RX1 21 1 1 := ⟨_, _, _, rfl, by decide, fk_RX1_21⟩
theorem fp_RX1_21 : FP RX1 21 1 1 .int := ⟨_, _, _, rfl, by decide, fk_RX1_21, rfl, by decide +kernel⟩
theorem fl_RX1_9 : FL RX1 9 1 0 := ⟨_, _, _, rfl, by decide, fk_RX1_9⟩
theorem fl_RX3_15 : FL RX3 15 2 1 := ⟨_, _, _, rfl, by decide, fk_RX3_15⟩
theorem fl_RX3_9 : FL RX3 9 2 0 := ⟨_, _, _, rfl, by decide, fk_RX3_9⟩
theorem fl_RX4_15 : FL RX4 15 3 1 := ⟨_, _, _, rfl, by decide, fk_RX4_15⟩
theorem fl_RX4_19 : FL RX4 19 3 2 := ⟨_, _, _, rfl, by decide, fk_RX4_19⟩
theorem fl_RX4_22 : FL RX4 22 3 3 := ⟨_, _, _, rfl, by decide, fk_RX4_22⟩
theorem fl_RX4_35 : FL RX4 35 3 6 := ⟨_, _, _, rfl, by decide, fk_RX4_35⟩
theorem fp_RX4_35 : FP RX4 35 3 6 .boolean := ⟨_, _, _, rfl, by decide, fk_RX4_35, rfl, by decide +kernel⟩
theorem fl_RX4_39 : FL RX4 39 3 7 := ⟨_, _, _, rfl, by decide, fk_RX4_39⟩
theorem fp_RX4_39 : FP RX4 39 3 7 .int := ⟨_, _, _, rfl, by decide, fk_RX4_39, rfl, by decide +kernel⟩
theorem fl_RX4_43 : FL RX4 43 3 5 := ⟨_, _, _, rfl, by decide, fk_RX4_43⟩
theorem fp_RX4_43 : FP RX4 43 3 5 .int := ⟨_, _, _, rfl, by decide, fk_RX4_43, rfl, by decide +kernel⟩
theorem fl_RX4_46 : FL RX4 46 3 4 := ⟨_, _, _, rfl, by decide, fk_RX4_46⟩
theorem fp_RX4_46 : FP RX4 46 3 4 .int := ⟨_, _, _, rfl, by decide, fk_RX4_46, rfl, by decide +kernel⟩
theorem fl_RX4_75 : FL RX4 75 3 8 := ⟨_, _, _, rfl, by decide, fk_RX4_75⟩
theorem fp_RX4_75 : FP RX4 75 3 8 .long := ⟨_, _, _, rfl, by decide, fk_RX4_75, rfl, by decide +kernel⟩
theorem fl_RX4_9 : FL RX4 9 3 0 := ⟨_, _, _, rfl, by decide, fk_RX4_9⟩
theorem fl_RX5_10 : FL RX5 10 4 0 := ⟨_, _, _, rfl, by decide, fk_RX5_10⟩
theorem fl_RX5_19 : FL RX5 19 4 1 := ⟨_, _, _, rfl, by decide, fk_RX5_19⟩
theorem fl_RX5_26 : FL RX5 26 4 2 := ⟨_, _, _, rfl, by decide, fk_RX5_26⟩
theorem fl_RX5_33 : FL RX5 33 4 3 := ⟨_, _, _, rfl, by decide, fk_RX5_33⟩
theorem fl_RX6_21 : FL RX6 21 5 1 := ⟨_, _, _, rfl, by decide, fk_RX6_21⟩
theorem fp_RX6_21 : FP RX6 21 5 1 .int := ⟨_, _, _, rfl, by decide, fk_RX6_21, rfl, by decide +kernel⟩
theorem fl_RX6_25 : FL RX6 25 5 2 := ⟨_, _, _, rfl, by decide, fk_RX6_25⟩
theorem fp_RX6_25 : FP RX6 25 5 2 .long := ⟨_, _, _, rfl, by decide, fk_RX6_25, rfl, by decide +kernel⟩
theorem fl_RX6_9 : FL RX6 9 5 0 := ⟨_, _, _, rfl, by decide, fk_RX6_9⟩
theorem fl_RX8_15 : FL RX8 15 6 1 := ⟨_, _, _, rfl, by decide, fk_RX8_15⟩
theorem fp_RX8_15 : FP RX8 15 6 1 .boolean := ⟨_, _, _, rfl, by decide, fk_RX8_15, rfl, by decide +kernel⟩
theorem fl_RX8_19 : FL RX8 19 6 2 := ⟨_, _, _, rfl, by decide, fk_RX8_19⟩
theorem fp_RX8_19 : FP RX8 19 6 2 .int := ⟨_, _, _, rfl, by decide, fk_RX8_19, rfl, by decide +kernel⟩
theorem fl_RX8_23 : FL RX8 23 6 3 := ⟨_, _, _, rfl, by decide, fk_RX8_23⟩
theorem fp_RX8_23 : FP RX8 23 6 3 .int := ⟨_, _, _, rfl, by decide, fk_RX8_23, rfl, by decide +kernel⟩
theorem fl_RX8_9 : FL RX8 9 6 0 := ⟨_, _, _, rfl, by decide, fk_RX8_9⟩
theorem fl_RX9_15 : FL RX9 15 7 3 := ⟨_, _, _, rfl, by decide, fk_RX9_15⟩
theorem fl_RX9_18 : FL RX9 18 7 1 := ⟨_, _, _, rfl, by decide, fk_RX9_18⟩
theorem fp_RX9_18 : FP RX9 18 7 1 .int := ⟨_, _, _, rfl, by decide, fk_RX9_18, rfl, by decide +kernel⟩
theorem fl_RX9_28 : FL RX9 28 7 2 := ⟨_, _, _, rfl, by decide, fk_RX9_28⟩
theorem fp_RX9_28 : FP RX9 28 7 2 .int := ⟨_, _, _, rfl, by decide, fk_RX9_28, rfl, by decide +kernel⟩
theorem fl_RX9_31 : FL RX9 31 7 4 := ⟨_, _, _, rfl, by decide, fk_RX9_31⟩
theorem fp_RX9_31 : FP RX9 31 7 4 .int := ⟨_, _, _, rfl, by decide, fk_RX9_31, rfl, by decide +kernel⟩
theorem fl_RX9_34 : FL RX9 34 7 5 := ⟨_, _, _, rfl, by decide, fk_RX9_34⟩
theorem fp_RX9_34 : FP RX9 34 7 5 .int := ⟨_, _, _, rfl, by decide, fk_RX9_34, rfl, by decide +kernel⟩
theorem fl_RX9_9 : FL RX9 9 7 0 := ⟨_, _, _, rfl, by decide, fk_RX9_9⟩
theorem fl_RX10_15 : FL RX10 15 8 1 := ⟨_, _, _, rfl, by decide, fk_RX10_15⟩
theorem fp_RX10_15 : FP RX10 15 8 1 .int := ⟨_, _, _, rfl, by decide, fk_RX10_15, rfl, by decide +kernel⟩
theorem fl_RX10_25 : FL RX10 25 8 2 := ⟨_, _, _, rfl, by decide, fk_RX10_25⟩
theorem fp_RX10_25 : FP RX10 25 8 2 .int := ⟨_, _, _, rfl, by decide, fk_RX10_25, rfl, by decide +kernel⟩
theorem fl_RX10_28 : FL RX10 28 7 3 := ⟨_, _, _, rfl, by decide, fk_RX10_28⟩
theorem fl_RX10_31 : FL RX10 31 7 4 := ⟨_, _, _, rfl, by decide, fk_RX10_31⟩
theorem fp_RX10_31 : FP RX10 31 7 4 .int := ⟨_, _, _, rfl, by decide, fk_RX10_31, rfl, by decide +kernel⟩
theorem fl_RX10_32 : FL RX10 32 7 5 := ⟨_, _, _, rfl, by decide, fk_RX10_32⟩
theorem fp_RX10_32 : FP RX10 32 7 5 .int := ⟨_, _, _, rfl, by decide, fk_RX10_32, rfl, by decide +kernel⟩
theorem fl_RX10_9 : FL RX10 9 8 0 := ⟨_, _, _, rfl, by decide, fk_RX10_9⟩
theorem fl_RX11_10 : FL RX11 10 9 0 := ⟨_, _, _, rfl, by decide, fk_RX11_10⟩
theorem fl_RX11_115 : FL RX11 115 0 3 := ⟨_, _, _, rfl, by decide, fk_RX11_115⟩
theorem fp_RX11_115 : FP RX11 115 0 3 .int := ⟨_, _, _, rfl, by decide, fk_RX11_115, rfl, by decide +kernel⟩
theorem fl_RX11_125 : FL RX11 125 0 0 := ⟨_, _, _, rfl, by decide, fk_RX11_125⟩
theorem fl_RX11_128 : FL RX11 128 0 1 := ⟨_, _, _, rfl, by decide, fk_RX11_128⟩
theorem fl_RX11_156 : FL RX11 156 7 1 := ⟨_, _, _, rfl, by decide, fk_RX11_156⟩
theorem fp_RX11_156 : FP RX11 156 7 1 .int := ⟨_, _, _, rfl, by decide, fk_RX11_156, rfl, by decide +kernel⟩
theorem fl_RX11_16 : FL RX11 16 9 1 := ⟨_, _, _, rfl, by decide, fk_RX11_16⟩
theorem fl_RX11_173 : FL RX11 173 0 4 := ⟨_, _, _, rfl, by decide, fk_RX11_173⟩
theorem fp_RX11_173 : FP RX11 173 0 4 .int := ⟨_, _, _, rfl, by decide, fk_RX11_173, rfl, by decide +kernel⟩
theorem fl_RX11_176 : FL RX11 176 4 2 := ⟨_, _, _, rfl, by decide, fk_RX11_176⟩
theorem fl_RX11_180 : FL RX11 180 1 1 := ⟨_, _, _, rfl, by decide, fk_RX11_180⟩
theorem fp_RX11_180 : FP RX11 180 1 1 .int := ⟨_, _, _, rfl, by decide, fk_RX11_180, rfl, by decide +kernel⟩
theorem fl_RX11_196 : FL RX11 196 3 8 := ⟨_, _, _, rfl, by decide, fk_RX11_196⟩
theorem fp_RX11_196 : FP RX11 196 3 8 .long := ⟨_, _, _, rfl, by decide, fk_RX11_196, rfl, by decide +kernel⟩
theorem fl_RX11_200 : FL RX11 200 3 7 := ⟨_, _, _, rfl, by decide, fk_RX11_200⟩
theorem fp_RX11_200 : FP RX11 200 3 7 .int := ⟨_, _, _, rfl, by decide, fk_RX11_200, rfl, by decide +kernel⟩
theorem fl_RX11_203 : FL RX11 203 3 3 := ⟨_, _, _, rfl, by decide, fk_RX11_203⟩
theorem fl_RX11_22 : FL RX11 22 9 3 := ⟨_, _, _, rfl, by decide, fk_RX11_22⟩
theorem fl_RX11_224 : FL RX11 224 4 3 := ⟨_, _, _, rfl, by decide, fk_RX11_224⟩
theorem fl_RX11_255 : FL RX11 255 9 2 := ⟨_, _, _, rfl, by decide, fk_RX11_255⟩
theorem fp_RX11_255 : FP RX11 255 9 2 .boolean := ⟨_, _, _, rfl, by decide, fk_RX11_255, rfl, by decide +kernel⟩
theorem fl_RX11_28 : FL RX11 28 9 4 := ⟨_, _, _, rfl, by decide, fk_RX11_28⟩
theorem fl_RX11_293 : FL RX11 293 6 1 := ⟨_, _, _, rfl, by decide, fk_RX11_293⟩
theorem fp_RX11_293 : FP RX11 293 6 1 .boolean := ⟨_, _, _, rfl, by decide, fk_RX11_293, rfl, by decide +kernel⟩
theorem fl_RX11_296 : FL RX11 296 6 3 := ⟨_, _, _, rfl, by decide, fk_RX11_296⟩
theorem fp_RX11_296 : FP RX11 296 6 3 .int := ⟨_, _, _, rfl, by decide, fk_RX11_296, rfl, by decide +kernel⟩
theorem fl_RX11_297 : FL RX11 297 6 2 := ⟨_, _, _, rfl, by decide, fk_RX11_297⟩
theorem fp_RX11_297 : FP RX11 297 6 2 .int := ⟨_, _, _, rfl, by decide, fk_RX11_297, rfl, by decide +kernel⟩
theorem fl_RX11_303 : FL RX11 303 6 0 := ⟨_, _, _, rfl, by decide, fk_RX11_303⟩
theorem fl_RX11_35 : FL RX11 35 9 5 := ⟨_, _, _, rfl, by decide, fk_RX11_35⟩
theorem fl_RX11_42 : FL RX11 42 9 6 := ⟨_, _, _, rfl, by decide, fk_RX11_42⟩
theorem fl_RX11_51 : FL RX11 51 4 0 := ⟨_, _, _, rfl, by decide, fk_RX11_51⟩
theorem fl_RX11_55 : FL RX11 55 8 0 := ⟨_, _, _, rfl, by decide, fk_RX11_55⟩
theorem fl_RX11_77 : FL RX11 77 8 1 := ⟨_, _, _, rfl, by decide, fk_RX11_77⟩
theorem fp_RX11_77 : FP RX11 77 8 1 .int := ⟨_, _, _, rfl, by decide, fk_RX11_77, rfl, by decide +kernel⟩
theorem fl_RX11_81 : FL RX11 81 8 2 := ⟨_, _, _, rfl, by decide, fk_RX11_81⟩
theorem fp_RX11_81 : FP RX11 81 8 2 .int := ⟨_, _, _, rfl, by decide, fk_RX11_81, rfl, by decide +kernel⟩
theorem fl_RX11_84 : FL RX11 84 4 1 := ⟨_, _, _, rfl, by decide, fk_RX11_84⟩
theorem fl_RX11_88 : FL RX11 88 0 5 := ⟨_, _, _, rfl, by decide, fk_RX11_88⟩
theorem fp_RX11_88 : FP RX11 88 0 5 .int := ⟨_, _, _, rfl, by decide, fk_RX11_88, rfl, by decide +kernel⟩
theorem fl_RX12_120 : FL RX12 120 10 3 := ⟨_, _, _, rfl, by decide, fk_RX12_120⟩
theorem fp_RX12_120 : FP RX12 120 10 3 .int := ⟨_, _, _, rfl, by decide, fk_RX12_120, rfl, by decide +kernel⟩
theorem fl_RX12_123 : FL RX12 123 10 7 := ⟨_, _, _, rfl, by decide, fk_RX12_123⟩
theorem fp_RX12_123 : FP RX12 123 10 7 .int := ⟨_, _, _, rfl, by decide, fk_RX12_123, rfl, by decide +kernel⟩
theorem fl_RX12_126 : FL RX12 126 10 9 := ⟨_, _, _, rfl, by decide, fk_RX12_126⟩
theorem fp_RX12_126 : FP RX12 126 10 9 .int := ⟨_, _, _, rfl, by decide, fk_RX12_126, rfl, by decide +kernel⟩
theorem fl_RX12_129 : FL RX12 129 10 10 := ⟨_, _, _, rfl, by decide, fk_RX12_129⟩
theorem fp_RX12_129 : FP RX12 129 10 10 .int := ⟨_, _, _, rfl, by decide, fk_RX12_129, rfl, by decide +kernel⟩
theorem fl_RX12_13 : FL RX12 13 10 2 := ⟨_, _, _, rfl, by decide, fk_RX12_13⟩
theorem fl_RX12_16 : FL RX12 16 10 4 := ⟨_, _, _, rfl, by decide, fk_RX12_16⟩
theorem fl_RX12_163 : FL RX12 163 10 13 := ⟨_, _, _, rfl, by decide, fk_RX12_163⟩
theorem fp_RX12_163 : FP RX12 163 10 13 .int := ⟨_, _, _, rfl, by decide, fk_RX12_163, rfl, by decide +kernel⟩
theorem fl_RX12_20 : FL RX12 20 10 8 := ⟨_, _, _, rfl, by decide, fk_RX12_20⟩
theorem fl_RX12_203 : FL RX12 203 10 1 := ⟨_, _, _, rfl, by decide, fk_RX12_203⟩
theorem fp_RX12_203 : FP RX12 203 10 1 .boolean := ⟨_, _, _, rfl, by decide, fk_RX12_203, rfl, by decide +kernel⟩
theorem fl_RX12_23 : FL RX12 23 10 11 := ⟨_, _, _, rfl, by decide, fk_RX12_23⟩
theorem fl_RX12_26 : FL RX12 26 10 12 := ⟨_, _, _, rfl, by decide, fk_RX12_26⟩
theorem fl_RX12_29 : FL RX12 29 10 14 := ⟨_, _, _, rfl, by decide, fk_RX12_29⟩
theorem fl_RX12_32 : FL RX12 32 10 15 := ⟨_, _, _, rfl, by decide, fk_RX12_32⟩
theorem fl_RX12_35 : FL RX12 35 10 16 := ⟨_, _, _, rfl, by decide, fk_RX12_35⟩
theorem fl_RX12_38 : FL RX12 38 10 17 := ⟨_, _, _, rfl, by decide, fk_RX12_38⟩
theorem fl_RX12_41 : FL RX12 41 10 18 := ⟨_, _, _, rfl, by decide, fk_RX12_41⟩
theorem fl_RX12_48 : FL RX12 48 10 5 := ⟨_, _, _, rfl, by decide, fk_RX12_48⟩
theorem fp_RX12_48 : FP RX12 48 10 5 .int := ⟨_, _, _, rfl, by decide, fk_RX12_48, rfl, by decide +kernel⟩
theorem fl_RX12_55 : FL RX12 55 10 6 := ⟨_, _, _, rfl, by decide, fk_RX12_55⟩
theorem fp_RX12_55 : FP RX12 55 10 6 .long := ⟨_, _, _, rfl, by decide, fk_RX12_55, rfl, by decide +kernel⟩
theorem fl_RX12_7 : FL RX12 7 10 0 := ⟨_, _, _, rfl, by decide, fk_RX12_7⟩
abbrev qX7_at : MI := (yX7_at, cX7_at, 2, (some .int))
theorem hq_X7_at : qX7_at.1.cls ≠ "java/lang/invoke/MethodHandle" ∧ qX7_at.1.cls ≠ "java/lang/invoke/VarHandle" ∧ (parseMethodDescriptor qX7_at.1.desc).map (fun d => d.parameters.length) = some 2 := by decide +kernel
abbrev qX7_at_ : MI := (yX7_at_, cX7_at_, 2, (some .long))
theorem hq_X7_at_ : qX7_at_.1.cls ≠ "java/lang/invoke/MethodHandle" ∧ qX7_at_.1.cls ≠ "java/lang/invoke/VarHandle" ∧ (parseMethodDescriptor qX7_at_.1.desc).map (fun d => d.parameters.length) = some 2 := by decide +kernel
abbrev qX7_put : MI := (yX7_put, cX7_put, 3, none)
theorem hq_X7_put : qX7_put.1.cls ≠ "java/lang/invoke/MethodHandle" ∧ qX7_put.1.cls ≠ "java/lang/invoke/VarHandle" ∧ (parseMethodDescriptor qX7_put.1.desc).map (fun d => d.parameters.length) = some 3 := by decide +kernel
abbrev qX7_put_ : MI := (yX7_put_, cX7_put_, 4, none)
theorem hq_X7_put_ : qX7_put_.1.cls ≠ "java/lang/invoke/MethodHandle" ∧ qX7_put_.1.cls ≠ "java/lang/invoke/VarHandle" ∧ (parseMethodDescriptor qX7_put_.1.desc).map (fun d => d.parameters.length) = some 3 := by decide +kernel
abbrev qX7_fill : MI := (yX7_fill, cX7_fill, 2, none)
theorem hq_X7_fill : qX7_fill.1.cls ≠ "java/lang/invoke/MethodHandle" ∧ qX7_fill.1.cls ≠ "java/lang/invoke/VarHandle" ∧ (parseMethodDescriptor qX7_fill.1.desc).map (fun d => d.parameters.length) = some 2 := by decide +kernel
abbrev qX7_quotient : MI := (yX7_quotient, cX7_quotient, 4, (some .long))
theorem hq_X7_quotient : qX7_quotient.1.cls ≠ "java/lang/invoke/MethodHandle" ∧ qX7_quotient.1.cls ≠ "java/lang/invoke/VarHandle" ∧ (parseMethodDescriptor qX7_quotient.1.desc).map (fun d => d.parameters.length) = some 2 := by decide +kernel
abbrev qX7_divides : MI := (yX7_divides, cX7_divides, 4, (some .boolean))
theorem hq_X7_divides : qX7_divides.1.cls ≠ "java/lang/invoke/MethodHandle" ∧ qX7_divides.1.cls ≠ "java/lang/invoke/VarHandle" ∧ (parseMethodDescriptor qX7_divides.1.desc).map (fun d => d.parameters.length) = some 2 := by decide +kernel
abbrev qX7_greatestCommon : MI := (yX7_greatestCommon, cX7_greatestCommon, 11, (some .long))
theorem hq_X7_greatestCommon : qX7_greatestCommon.1.cls ≠ "java/lang/invoke/MethodHandle" ∧ qX7_greatestCommon.1.cls ≠ "java/lang/invoke/VarHandle" ∧ (parseMethodDescriptor qX7_greatestCommon.1.desc).map (fun d => d.parameters.length) = some 2 := by decide +kernel
abbrev qX7_leastCommon : MI := (yX7_leastCommon, cX7_leastCommon, 4, (some .long))
theorem hq_X7_leastCommon : qX7_leastCommon.1.cls ≠ "java/lang/invoke/MethodHandle" ∧ qX7_leastCommon.1.cls ≠ "java/lang/invoke/VarHandle" ∧ (parseMethodDescriptor qX7_leastCommon.1.desc).map (fun d => d.parameters.length) = some 2 := by decide +kernel
abbrev qJ6_bitCount_0f7a4 : MI := (yJ6_bitCount_0f7a4, cJ6_bitCount_0f7a4, 1, (some .int))
theorem hq_J6_bitCount_0f7a4 : qJ6_bitCount_0f7a4.1.cls ≠ "java/lang/invoke/MethodHandle" ∧ qJ6_bitCount_0f7a4.1.cls ≠ "java/lang/invoke/VarHandle" ∧ (parseMethodDescriptor qJ6_bitCount_0f7a4.1.desc).map (fun d => d.parameters.length) = some 1 := by decide +kernel
abbrev qX6_meetEvery : MI := (yX6_meetEvery, cX6_meetEvery, 3, none)
theorem hq_X6_meetEvery : qX6_meetEvery.1.cls ≠ "java/lang/invoke/MethodHandle" ∧ qX6_meetEvery.1.cls ≠ "java/lang/invoke/VarHandle" ∧ (parseMethodDescriptor qX6_meetEvery.1.desc).map (fun d => d.parameters.length) = some 1 := by decide +kernel
abbrev qX6_meetTwoOfThree : MI := (yX6_meetTwoOfThree, cX6_meetTwoOfThree, 4, none)
theorem hq_X6_meetTwoOfThree : qX6_meetTwoOfThree.1.cls ≠ "java/lang/invoke/MethodHandle" ∧ qX6_meetTwoOfThree.1.cls ≠ "java/lang/invoke/VarHandle" ∧ (parseMethodDescriptor qX6_meetTwoOfThree.1.desc).map (fun d => d.parameters.length) = some 3 := by decide +kernel
abbrev qX6_howManyTo : MI := (yX6_howManyTo, cX6_howManyTo, 6, (some .long))
theorem hq_X6_howManyTo : qX6_howManyTo.1.cls ≠ "java/lang/invoke/MethodHandle" ∧ qX6_howManyTo.1.cls ≠ "java/lang/invoke/VarHandle" ∧ (parseMethodDescriptor qX6_howManyTo.1.desc).map (fun d => d.parameters.length) = some 1 := by decide +kernel
abbrev qX6_lastTo : MI := (yX6_lastTo, cX6_lastTo, 8, (some .long))
theorem hq_X6_lastTo : qX6_lastTo.1.cls ≠ "java/lang/invoke/MethodHandle" ∧ qX6_lastTo.1.cls ≠ "java/lang/invoke/VarHandle" ∧ (parseMethodDescriptor qX6_lastTo.1.desc).map (fun d => d.parameters.length) = some 1 := by decide +kernel
abbrev qX6_firstFrom : MI := (yX6_firstFrom, cX6_firstFrom, 8, (some .long))
theorem hq_X6_firstFrom : qX6_firstFrom.1.cls ≠ "java/lang/invoke/MethodHandle" ∧ qX6_firstFrom.1.cls ≠ "java/lang/invoke/VarHandle" ∧ (parseMethodDescriptor qX6_firstFrom.1.desc).map (fun d => d.parameters.length) = some 1 := by decide +kernel
abbrev qX6_areMetAt : MI := (yX6_areMetAt, cX6_areMetAt, 3, (some .boolean))
theorem hq_X6_areMetAt : qX6_areMetAt.1.cls ≠ "java/lang/invoke/MethodHandle" ∧ qX6_areMetAt.1.cls ≠ "java/lang/invoke/VarHandle" ∧ (parseMethodDescriptor qX6_areMetAt.1.desc).map (fun d => d.parameters.length) = some 1 := by decide +kernel
abbrev qX6_nth : MI := (yX6_nth, cX6_nth, 9, (some .long))
theorem hq_X6_nth : qX6_nth.1.cls ≠ "java/lang/invoke/MethodHandle" ∧ qX6_nth.1.cls ≠ "java/lang/invoke/VarHandle" ∧ (parseMethodDescriptor qX6_nth.1.desc).map (fun d => d.parameters.length) = some 1 := by decide +kernel
abbrev qX1_add : MI := (yX1_add, cX1_add, 2, (some .int))
theorem hq_X1_add : qX1_add.1.cls ≠ "java/lang/invoke/MethodHandle" ∧ qX1_add.1.cls ≠ "java/lang/invoke/VarHandle" ∧ (parseMethodDescriptor qX1_add.1.desc).map (fun d => d.parameters.length) = some 1 := by decide +kernel
abbrev qX1_everyone : MI := (yX1_everyone, cX1_everyone, 1, (some .int))
theorem hq_X1_everyone : qX1_everyone.1.cls ≠ "java/lang/invoke/MethodHandle" ∧ qX1_everyone.1.cls ≠ "java/lang/invoke/VarHandle" ∧ (parseMethodDescriptor qX1_everyone.1.desc).map (fun d => d.parameters.length) = some 0 := by decide +kernel
abbrev qX1_wantedBy : MI := (yX1_wantedBy, cX1_wantedBy, 4, (some .int))
theorem hq_X1_wantedBy : qX1_wantedBy.1.cls ≠ "java/lang/invoke/MethodHandle" ∧ qX1_wantedBy.1.cls ≠ "java/lang/invoke/VarHandle" ∧ (parseMethodDescriptor qX1_wantedBy.1.desc).map (fun d => d.parameters.length) = some 1 := by decide +kernel
abbrev qX1_becomeLike : MI := (yX1_becomeLike, cX1_becomeLike, 2, none)
theorem hq_X1_becomeLike : qX1_becomeLike.1.cls ≠ "java/lang/invoke/MethodHandle" ∧ qX1_becomeLike.1.cls ≠ "java/lang/invoke/VarHandle" ∧ (parseMethodDescriptor qX1_becomeLike.1.desc).map (fun d => d.parameters.length) = some 1 := by decide +kernel
abbrev qX3_agree : MI := (yX3_agree, cX3_agree, 7, (some .int))
theorem hq_X3_agree : qX3_agree.1.cls ≠ "java/lang/invoke/MethodHandle" ∧ qX3_agree.1.cls ≠ "java/lang/invoke/VarHandle" ∧ (parseMethodDescriptor qX3_agree.1.desc).map (fun d => d.parameters.length) = some 4 := by decide +kernel
abbrev qX3_digit : MI := (yX3_digit, cX3_digit, 3, (some .int))
theorem hq_X3_digit : qX3_digit.1.cls ≠ "java/lang/invoke/MethodHandle" ∧ qX3_digit.1.cls ≠ "java/lang/invoke/VarHandle" ∧ (parseMethodDescriptor qX3_digit.1.desc).map (fun d => d.parameters.length) = some 3 := by decide +kernel
abbrev qX3_isRing : MI := (yX3_isRing, cX3_isRing, 6, (some .boolean))
theorem hq_X3_isRing : qX3_isRing.1.cls ≠ "java/lang/invoke/MethodHandle" ∧ qX3_isRing.1.cls ≠ "java/lang/invoke/VarHandle" ∧ (parseMethodDescriptor qX3_isRing.1.desc).map (fun d => d.parameters.length) = some 2 := by decide +kernel
abbrev qX3_gains : MI := (yX3_gains, cX3_gains, 10, (some .boolean))
theorem hq_X3_gains : qX3_gains.1.cls ≠ "java/lang/invoke/MethodHandle" ∧ qX3_gains.1.cls ≠ "java/lang/invoke/VarHandle" ∧ (parseMethodDescriptor qX3_gains.1.desc).map (fun d => d.parameters.length) = some 2 := by decide +kernel
abbrev qX3_named : MI := (yX3_named, cX3_named, 5, (some .int))
theorem hq_X3_named : qX3_named.1.cls ≠ "java/lang/invoke/MethodHandle" ∧ qX3_named.1.cls ≠ "java/lang/invoke/VarHandle" ∧ (parseMethodDescriptor qX3_named.1.desc).map (fun d => d.parameters.length) = some 2 := by decide +kernel
abbrev qX3_changed : MI := (yX3_changed, cX3_changed, 11, (some .long))
theorem hq_X3_changed : qX3_changed.1.cls ≠ "java/lang/invoke/MethodHandle" ∧ qX3_changed.1.cls ≠ "java/lang/invoke/VarHandle" ∧ (parseMethodDescriptor qX3_changed.1.desc).map (fun d => d.parameters.length) = some 4 := by decide +kernel
abbrev qX3_becomeLike : MI := (yX3_becomeLike, cX3_becomeLike, 2, none)
theorem hq_X3_becomeLike : qX3_becomeLike.1.cls ≠ "java/lang/invoke/MethodHandle" ∧ qX3_becomeLike.1.cls ≠ "java/lang/invoke/VarHandle" ∧ (parseMethodDescriptor qX3_becomeLike.1.desc).map (fun d => d.parameters.length) = some 1 := by decide +kernel
abbrev qX4_setWorth : MI := (yX4_setWorth, cX4_setWorth, 4, none)
theorem hq_X4_setWorth : qX4_setWorth.1.cls ≠ "java/lang/invoke/MethodHandle" ∧ qX4_setWorth.1.cls ≠ "java/lang/invoke/VarHandle" ∧ (parseMethodDescriptor qX4_setWorth.1.desc).map (fun d => d.parameters.length) = some 2 := by decide +kernel
abbrev qX4_solve : MI := (yX4_solve, cX4_solve, 3, none)
theorem hq_X4_solve : qX4_solve.1.cls ≠ "java/lang/invoke/MethodHandle" ∧ qX4_solve.1.cls ≠ "java/lang/invoke/VarHandle" ∧ (parseMethodDescriptor qX4_solve.1.desc).map (fun d => d.parameters.length) = some 2 := by decide +kernel
abbrev qX4_keepIfBetter : MI := (yX4_keepIfBetter, cX4_keepIfBetter, 4, none)
theorem hq_X4_keepIfBetter : qX4_keepIfBetter.1.cls ≠ "java/lang/invoke/MethodHandle" ∧ qX4_keepIfBetter.1.cls ≠ "java/lang/invoke/VarHandle" ∧ (parseMethodDescriptor qX4_keepIfBetter.1.desc).map (fun d => d.parameters.length) = some 2 := by decide +kernel
abbrev qX4_seat : MI := (yX4_seat, cX4_seat, 10, none)
theorem hq_X4_seat : qX4_seat.1.cls ≠ "java/lang/invoke/MethodHandle" ∧ qX4_seat.1.cls ≠ "java/lang/invoke/VarHandle" ∧ (parseMethodDescriptor qX4_seat.1.desc).map (fun d => d.parameters.length) = some 4 := by decide +kernel
abbrev qX8_begin : MI := (yX8_begin, cX8_begin, 4, none)
theorem hq_X8_begin : qX8_begin.1.cls ≠ "java/lang/invoke/MethodHandle" ∧ qX8_begin.1.cls ≠ "java/lang/invoke/VarHandle" ∧ (parseMethodDescriptor qX8_begin.1.desc).map (fun d => d.parameters.length) = some 2 := by decide +kernel
abbrev qX8_spans : MI := (yX8_spans, cX8_spans, 3, (some .boolean))
theorem hq_X8_spans : qX8_spans.1.cls ≠ "java/lang/invoke/MethodHandle" ∧ qX8_spans.1.cls ≠ "java/lang/invoke/VarHandle" ∧ (parseMethodDescriptor qX8_spans.1.desc).map (fun d => d.parameters.length) = some 2 := by decide +kernel
abbrev qX8_write : MI := (yX8_write, cX8_write, 4, none)
theorem hq_X8_write : qX8_write.1.cls ≠ "java/lang/invoke/MethodHandle" ∧ qX8_write.1.cls ≠ "java/lang/invoke/VarHandle" ∧ (parseMethodDescriptor qX8_write.1.desc).map (fun d => d.parameters.length) = some 2 := by decide +kernel
abbrev qX8_allWithin : MI := (yX8_allWithin, cX8_allWithin, 6, (some .boolean))
theorem hq_X8_allWithin : qX8_allWithin.1.cls ≠ "java/lang/invoke/MethodHandle" ∧ qX8_allWithin.1.cls ≠ "java/lang/invoke/VarHandle" ∧ (parseMethodDescriptor qX8_allWithin.1.desc).map (fun d => d.parameters.length) = some 4 := by decide +kernel
abbrev qX8_sumOf : MI := (yX8_sumOf, cX8_sumOf, 6, (some .long))
theorem hq_X8_sumOf : qX8_sumOf.1.cls ≠ "java/lang/invoke/MethodHandle" ∧ qX8_sumOf.1.cls ≠ "java/lang/invoke/VarHandle" ∧ (parseMethodDescriptor qX8_sumOf.1.desc).map (fun d => d.parameters.length) = some 2 := by decide +kernel
abbrev qX8_commonOf : MI := (yX8_commonOf, cX8_commonOf, 6, (some .long))
theorem hq_X8_commonOf : qX8_commonOf.1.cls ≠ "java/lang/invoke/MethodHandle" ∧ qX8_commonOf.1.cls ≠ "java/lang/invoke/VarHandle" ∧ (parseMethodDescriptor qX8_commonOf.1.desc).map (fun d => d.parameters.length) = some 2 := by decide +kernel
abbrev qX9_add : MI := (yX9_add, cX9_add, 2, none)
theorem hq_X9_add : qX9_add.1.cls ≠ "java/lang/invoke/MethodHandle" ∧ qX9_add.1.cls ≠ "java/lang/invoke/VarHandle" ∧ (parseMethodDescriptor qX9_add.1.desc).map (fun d => d.parameters.length) = some 1 := by decide +kernel
abbrev qX9_read : MI := (yX9_read, cX9_read, 1, (some .int))
theorem hq_X9_read : qX9_read.1.cls ≠ "java/lang/invoke/MethodHandle" ∧ qX9_read.1.cls ≠ "java/lang/invoke/VarHandle" ∧ (parseMethodDescriptor qX9_read.1.desc).map (fun d => d.parameters.length) = some 0 := by decide +kernel
abbrev qX9_peek : MI := (yX9_peek, cX9_peek, 1, (some .int))
theorem hq_X9_peek : qX9_peek.1.cls ≠ "java/lang/invoke/MethodHandle" ∧ qX9_peek.1.cls ≠ "java/lang/invoke/VarHandle" ∧ (parseMethodDescriptor qX9_peek.1.desc).map (fun d => d.parameters.length) = some 0 := by decide +kernel
abbrev qX9_readMeasures : MI := (yX9_readMeasures, cX9_readMeasures, 3, (some .boolean))
theorem hq_X9_readMeasures : qX9_readMeasures.1.cls ≠ "java/lang/invoke/MethodHandle" ∧ qX9_readMeasures.1.cls ≠ "java/lang/invoke/VarHandle" ∧ (parseMethodDescriptor qX9_readMeasures.1.desc).map (fun d => d.parameters.length) = some 0 := by decide +kernel
abbrev qX9_readNumber : MI := (yX9_readNumber, cX9_readNumber, 3, (some .int))
theorem hq_X9_readNumber : qX9_readNumber.1.cls ≠ "java/lang/invoke/MethodHandle" ∧ qX9_readNumber.1.cls ≠ "java/lang/invoke/VarHandle" ∧ (parseMethodDescriptor qX9_readNumber.1.desc).map (fun d => d.parameters.length) = some 0 := by decide +kernel
abbrev qX9_isDigit : MI := (yX9_isDigit, cX9_isDigit, 1, (some .boolean))
theorem hq_X9_isDigit : qX9_isDigit.1.cls ≠ "java/lang/invoke/MethodHandle" ∧ qX9_isDigit.1.cls ≠ "java/lang/invoke/VarHandle" ∧ (parseMethodDescriptor qX9_isDigit.1.desc).map (fun d => d.parameters.length) = some 1 := by decide +kernel
abbrev qX9_readCounting : MI := (yX9_readCounting, cX9_readCounting, 4, (some .boolean))
theorem hq_X9_readCounting : qX9_readCounting.1.cls ≠ "java/lang/invoke/MethodHandle" ∧ qX9_readCounting.1.cls ≠ "java/lang/invoke/VarHandle" ∧ (parseMethodDescriptor qX9_readCounting.1.desc).map (fun d => d.parameters.length) = some 0 := by decide +kernel
abbrev qX0_has : MI := (yX0_has, cX0_has, 2, (some .boolean))
theorem hq_X0_has : qX0_has.1.cls ≠ "java/lang/invoke/MethodHandle" ∧ qX0_has.1.cls ≠ "java/lang/invoke/VarHandle" ∧ (parseMethodDescriptor qX0_has.1.desc).map (fun d => d.parameters.length) = some 1 := by decide +kernel
abbrev qX0_add : MI := (yX0_add, cX0_add, 3, (some .int))
theorem hq_X0_add : qX0_add.1.cls ≠ "java/lang/invoke/MethodHandle" ∧ qX0_add.1.cls ≠ "java/lang/invoke/VarHandle" ∧ (parseMethodDescriptor qX0_add.1.desc).map (fun d => d.parameters.length) = some 2 := by decide +kernel
abbrev qX0_inches : MI := (yX0_inches, cX0_inches, 3, (some .int))
theorem hq_X0_inches : qX0_inches.1.cls ≠ "java/lang/invoke/MethodHandle" ∧ qX0_inches.1.cls ≠ "java/lang/invoke/VarHandle" ∧ (parseMethodDescriptor qX0_inches.1.desc).map (fun d => d.parameters.length) = some 0 := by decide +kernel
abbrev qX0_waste : MI := (yX0_waste, cX0_waste, 5, (some .int))
theorem hq_X0_waste : qX0_waste.1.cls ≠ "java/lang/invoke/MethodHandle" ∧ qX0_waste.1.cls ≠ "java/lang/invoke/VarHandle" ∧ (parseMethodDescriptor qX0_waste.1.desc).map (fun d => d.parameters.length) = some 1 := by decide +kernel
abbrev qX0_sell : MI := (yX0_sell, cX0_sell, 4, (some .int))
theorem hq_X0_sell : qX0_sell.1.cls ≠ "java/lang/invoke/MethodHandle" ∧ qX0_sell.1.cls ≠ "java/lang/invoke/VarHandle" ∧ (parseMethodDescriptor qX0_sell.1.desc).map (fun d => d.parameters.length) = some 2 := by decide +kernel
abbrev qX0_canBeSewn : MI := (yX0_canBeSewn, cX0_canBeSewn, 4, (some .boolean))
theorem hq_X0_canBeSewn : qX0_canBeSewn.1.cls ≠ "java/lang/invoke/MethodHandle" ∧ qX0_canBeSewn.1.cls ≠ "java/lang/invoke/VarHandle" ∧ (parseMethodDescriptor qX0_canBeSewn.1.desc).map (fun d => d.parameters.length) = some 2 := by decide +kernel
abbrev qX0_sew : MI := (yX0_sew, cX0_sew, 4, none)
theorem hq_X0_sew : qX0_sew.1.cls ≠ "java/lang/invoke/MethodHandle" ∧ qX0_sew.1.cls ≠ "java/lang/invoke/VarHandle" ∧ (parseMethodDescriptor qX0_sew.1.desc).map (fun d => d.parameters.length) = some 3 := by decide +kernel
abbrev qX0_pick : MI := (yX0_pick, cX0_pick, 4, (some .int))
theorem hq_X0_pick : qX0_pick.1.cls ≠ "java/lang/invoke/MethodHandle" ∧ qX0_pick.1.cls ≠ "java/lang/invoke/VarHandle" ∧ (parseMethodDescriptor qX0_pick.1.desc).map (fun d => d.parameters.length) = some 1 := by decide +kernel
abbrev qX0_lengthOfPicked : MI := (yX0_lengthOfPicked, cX0_lengthOfPicked, 5, (some .int))
theorem hq_X0_lengthOfPicked : qX0_lengthOfPicked.1.cls ≠ "java/lang/invoke/MethodHandle" ∧ qX0_lengthOfPicked.1.cls ≠ "java/lang/invoke/VarHandle" ∧ (parseMethodDescriptor qX0_lengthOfPicked.1.desc).map (fun d => d.parameters.length) = some 2 := by decide +kernel
abbrev qX0_lengthOfAll : MI := (yX0_lengthOfAll, cX0_lengthOfAll, 6, (some .int))
theorem hq_X0_lengthOfAll : qX0_lengthOfAll.1.cls ≠ "java/lang/invoke/MethodHandle" ∧ qX0_lengthOfAll.1.cls ≠ "java/lang/invoke/VarHandle" ∧ (parseMethodDescriptor qX0_lengthOfAll.1.desc).map (fun d => d.parameters.length) = some 2 := by decide +kernel
abbrev qX0_clothOf : MI := (yX0_clothOf, cX0_clothOf, 1, (some (.object "WholeMarks$Cloth")))
theorem hq_X0_clothOf : qX0_clothOf.1.cls ≠ "java/lang/invoke/MethodHandle" ∧ qX0_clothOf.1.cls ≠ "java/lang/invoke/VarHandle" ∧ (parseMethodDescriptor qX0_clothOf.1.desc).map (fun d => d.parameters.length) = some 1 := by decide +kernel
abbrev qX0_becomeLike : MI := (yX0_becomeLike, cX0_becomeLike, 2, none)
theorem hq_X0_becomeLike : qX0_becomeLike.1.cls ≠ "java/lang/invoke/MethodHandle" ∧ qX0_becomeLike.1.cls ≠ "java/lang/invoke/VarHandle" ∧ (parseMethodDescriptor qX0_becomeLike.1.desc).map (fun d => d.parameters.length) = some 1 := by decide +kernel
abbrev qX10_take : MI := (yX10_take, cX10_take, 2, none)
theorem hq_X10_take : qX10_take.1.cls ≠ "java/lang/invoke/MethodHandle" ∧ qX10_take.1.cls ≠ "java/lang/invoke/VarHandle" ∧ (parseMethodDescriptor qX10_take.1.desc).map (fun d => d.parameters.length) = some 1 := by decide +kernel
abbrev qX10_lay : MI := (yX10_lay, cX10_lay, 5, none)
theorem hq_X10_lay : qX10_lay.1.cls ≠ "java/lang/invoke/MethodHandle" ∧ qX10_lay.1.cls ≠ "java/lang/invoke/VarHandle" ∧ (parseMethodDescriptor qX10_lay.1.desc).map (fun d => d.parameters.length) = some 1 := by decide +kernel
abbrev qX10_becomeLike : MI := (yX10_becomeLike, cX10_becomeLike, 2, none)
theorem hq_X10_becomeLike : qX10_becomeLike.1.cls ≠ "java/lang/invoke/MethodHandle" ∧ qX10_becomeLike.1.cls ≠ "java/lang/invoke/VarHandle" ∧ (parseMethodDescriptor qX10_becomeLike.1.desc).map (fun d => d.parameters.length) = some 1 := by decide +kernel
abbrev qX5_becomeLike : MI := (yX5_becomeLike, cX5_becomeLike, 2, none)
theorem hq_X5_becomeLike : qX5_becomeLike.1.cls ≠ "java/lang/invoke/MethodHandle" ∧ qX5_becomeLike.1.cls ≠ "java/lang/invoke/VarHandle" ∧ (parseMethodDescriptor qX5_becomeLike.1.desc).map (fun d => d.parameters.length) = some 1 := by decide +kernel
abbrev qX11_measure : MI := (yX11_measure, cX11_measure, 4, (some .int))
theorem hq_X11_measure : qX11_measure.1.cls ≠ "java/lang/invoke/MethodHandle" ∧ qX11_measure.1.cls ≠ "java/lang/invoke/VarHandle" ∧ (parseMethodDescriptor qX11_measure.1.desc).map (fun d => d.parameters.length) = some 2 := by decide +kernel
abbrev qX11_rule : MI := (yX11_rule, cX11_rule, 5, (some .int))
theorem hq_X11_rule : qX11_rule.1.cls ≠ "java/lang/invoke/MethodHandle" ∧ qX11_rule.1.cls ≠ "java/lang/invoke/VarHandle" ∧ (parseMethodDescriptor qX11_rule.1.desc).map (fun d => d.parameters.length) = some 2 := by decide +kernel
abbrev qX11_seam : MI := (yX11_seam, cX11_seam, 3, (some .int))
theorem hq_X11_seam : qX11_seam.1.cls ≠ "java/lang/invoke/MethodHandle" ∧ qX11_seam.1.cls ≠ "java/lang/invoke/VarHandle" ∧ (parseMethodDescriptor qX11_seam.1.desc).map (fun d => d.parameters.length) = some 1 := by decide +kernel
abbrev qX11_place : MI := (yX11_place, cX11_place, 2, (some .long))
theorem hq_X11_place : qX11_place.1.cls ≠ "java/lang/invoke/MethodHandle" ∧ qX11_place.1.cls ≠ "java/lang/invoke/VarHandle" ∧ (parseMethodDescriptor qX11_place.1.desc).map (fun d => d.parameters.length) = some 1 := by decide +kernel
abbrev qX11_places : MI := (yX11_places, cX11_places, 3, (some .long))
theorem hq_X11_places : qX11_places.1.cls ≠ "java/lang/invoke/MethodHandle" ∧ qX11_places.1.cls ≠ "java/lang/invoke/VarHandle" ∧ (parseMethodDescriptor qX11_places.1.desc).map (fun d => d.parameters.length) = some 1 := by decide +kernel
abbrev qX11_bolt : MI := (yX11_bolt, cX11_bolt, 3, (some .int))
theorem hq_X11_bolt : qX11_bolt.1.cls ≠ "java/lang/invoke/MethodHandle" ∧ qX11_bolt.1.cls ≠ "java/lang/invoke/VarHandle" ∧ (parseMethodDescriptor qX11_bolt.1.desc).map (fun d => d.parameters.length) = some 2 := by decide +kernel
abbrev qX11_told : MI := (yX11_told, cX11_told, 5, (some .int))
theorem hq_X11_told : qX11_told.1.cls ≠ "java/lang/invoke/MethodHandle" ∧ qX11_told.1.cls ≠ "java/lang/invoke/VarHandle" ∧ (parseMethodDescriptor qX11_told.1.desc).map (fun d => d.parameters.length) = some 2 := by decide +kernel
abbrev qX11_cut : MI := (yX11_cut, cX11_cut, 4, (some .int))
theorem hq_X11_cut : qX11_cut.1.cls ≠ "java/lang/invoke/MethodHandle" ∧ qX11_cut.1.cls ≠ "java/lang/invoke/VarHandle" ∧ (parseMethodDescriptor qX11_cut.1.desc).map (fun d => d.parameters.length) = some 2 := by decide +kernel
abbrev qX11_join : MI := (yX11_join, cX11_join, 5, (some .int))
theorem hq_X11_join : qX11_join.1.cls ≠ "java/lang/invoke/MethodHandle" ∧ qX11_join.1.cls ≠ "java/lang/invoke/VarHandle" ∧ (parseMethodDescriptor qX11_join.1.desc).map (fun d => d.parameters.length) = some 2 := by decide +kernel
abbrev qX11_type : MI := (yX11_type, cX11_type, 5, (some .int))
theorem hq_X11_type : qX11_type.1.cls ≠ "java/lang/invoke/MethodHandle" ∧ qX11_type.1.cls ≠ "java/lang/invoke/VarHandle" ∧ (parseMethodDescriptor qX11_type.1.desc).map (fun d => d.parameters.length) = some 2 := by decide +kernel
abbrev qX11_towns : MI := (yX11_towns, cX11_towns, 2, (some .int))
theorem hq_X11_towns : qX11_towns.1.cls ≠ "java/lang/invoke/MethodHandle" ∧ qX11_towns.1.cls ≠ "java/lang/invoke/VarHandle" ∧ (parseMethodDescriptor qX11_towns.1.desc).map (fun d => d.parameters.length) = some 0 := by decide +kernel
abbrev qX11_count : MI := (yX11_count, cX11_count, 2, (some .int))
theorem hq_X11_count : qX11_count.1.cls ≠ "java/lang/invoke/MethodHandle" ∧ qX11_count.1.cls ≠ "java/lang/invoke/VarHandle" ∧ (parseMethodDescriptor qX11_count.1.desc).map (fun d => d.parameters.length) = some 1 := by decide +kernel
abbrev qX11_most : MI := (yX11_most, cX11_most, 3, (some .int))
theorem hq_X11_most : qX11_most.1.cls ≠ "java/lang/invoke/MethodHandle" ∧ qX11_most.1.cls ≠ "java/lang/invoke/VarHandle" ∧ (parseMethodDescriptor qX11_most.1.desc).map (fun d => d.parameters.length) = some 2 := by decide +kernel
abbrev qX11_buyer : MI := (yX11_buyer, cX11_buyer, 2, (some .int))
theorem hq_X11_buyer : qX11_buyer.1.cls ≠ "java/lang/invoke/MethodHandle" ∧ qX11_buyer.1.cls ≠ "java/lang/invoke/VarHandle" ∧ (parseMethodDescriptor qX11_buyer.1.desc).map (fun d => d.parameters.length) = some 1 := by decide +kernel
abbrev qX11_home : MI := (yX11_home, cX11_home, 2, (some .int))
theorem hq_X11_home : qX11_home.1.cls ≠ "java/lang/invoke/MethodHandle" ∧ qX11_home.1.cls ≠ "java/lang/invoke/VarHandle" ∧ (parseMethodDescriptor qX11_home.1.desc).map (fun d => d.parameters.length) = some 0 := by decide +kernel
abbrev qX11_price : MI := (yX11_price, cX11_price, 2, (some .long))
theorem hq_X11_price : qX11_price.1.cls ≠ "java/lang/invoke/MethodHandle" ∧ qX11_price.1.cls ≠ "java/lang/invoke/VarHandle" ∧ (parseMethodDescriptor qX11_price.1.desc).map (fun d => d.parameters.length) = some 1 := by decide +kernel
abbrev qX11_parties : MI := (yX11_parties, cX11_parties, 3, (some .long))
theorem hq_X11_parties : qX11_parties.1.cls ≠ "java/lang/invoke/MethodHandle" ∧ qX11_parties.1.cls ≠ "java/lang/invoke/VarHandle" ∧ (parseMethodDescriptor qX11_parties.1.desc).map (fun d => d.parameters.length) = some 2 := by decide +kernel
abbrev qX11_third : MI := (yX11_third, cX11_third, 7, (some .int))
theorem hq_X11_third : qX11_third.1.cls ≠ "java/lang/invoke/MethodHandle" ∧ qX11_third.1.cls ≠ "java/lang/invoke/VarHandle" ∧ (parseMethodDescriptor qX11_third.1.desc).map (fun d => d.parameters.length) = some 1 := by decide +kernel
abbrev qX11_worn : MI := (yX11_worn, cX11_worn, 7, (some .int))
theorem hq_X11_worn : qX11_worn.1.cls ≠ "java/lang/invoke/MethodHandle" ∧ qX11_worn.1.cls ≠ "java/lang/invoke/VarHandle" ∧ (parseMethodDescriptor qX11_worn.1.desc).map (fun d => d.parameters.length) = some 1 := by decide +kernel
abbrev qX11_rate : MI := (yX11_rate, cX11_rate, 6, (some .int))
theorem hq_X11_rate : qX11_rate.1.cls ≠ "java/lang/invoke/MethodHandle" ∧ qX11_rate.1.cls ≠ "java/lang/invoke/VarHandle" ∧ (parseMethodDescriptor qX11_rate.1.desc).map (fun d => d.parameters.length) = some 4 := by decide +kernel
abbrev qX11_rings : MI := (yX11_rings, cX11_rings, 6, (some .int))
theorem hq_X11_rings : qX11_rings.1.cls ≠ "java/lang/invoke/MethodHandle" ∧ qX11_rings.1.cls ≠ "java/lang/invoke/VarHandle" ∧ (parseMethodDescriptor qX11_rings.1.desc).map (fun d => d.parameters.length) = some 1 := by decide +kernel
abbrev qX11_turn : MI := (yX11_turn, cX11_turn, 12, (some .long))
theorem hq_X11_turn : qX11_turn.1.cls ≠ "java/lang/invoke/MethodHandle" ∧ qX11_turn.1.cls ≠ "java/lang/invoke/VarHandle" ∧ (parseMethodDescriptor qX11_turn.1.desc).map (fun d => d.parameters.length) = some 4 := by decide +kernel
abbrev qX11_image : MI := (yX11_image, cX11_image, 1, (some .int))
theorem hq_X11_image : qX11_image.1.cls ≠ "java/lang/invoke/MethodHandle" ∧ qX11_image.1.cls ≠ "java/lang/invoke/VarHandle" ∧ (parseMethodDescriptor qX11_image.1.desc).map (fun d => d.parameters.length) = some 0 := by decide +kernel
abbrev qX11_restore : MI := (yX11_restore, cX11_restore, 1, (some .int))
theorem hq_X11_restore : qX11_restore.1.cls ≠ "java/lang/invoke/MethodHandle" ∧ qX11_restore.1.cls ≠ "java/lang/invoke/VarHandle" ∧ (parseMethodDescriptor qX11_restore.1.desc).map (fun d => d.parameters.length) = some 0 := by decide +kernel
abbrev qX11_leaves : MI := (yX11_leaves, cX11_leaves, 9, (some .int))
theorem hq_X11_leaves : qX11_leaves.1.cls ≠ "java/lang/invoke/MethodHandle" ∧ qX11_leaves.1.cls ≠ "java/lang/invoke/VarHandle" ∧ (parseMethodDescriptor qX11_leaves.1.desc).map (fun d => d.parameters.length) = some 3 := by decide +kernel
abbrev qX11_fit : MI := (yX11_fit, cX11_fit, 10, (some .int))
theorem hq_X11_fit : qX11_fit.1.cls ≠ "java/lang/invoke/MethodHandle" ∧ qX11_fit.1.cls ≠ "java/lang/invoke/VarHandle" ∧ (parseMethodDescriptor qX11_fit.1.desc).map (fun d => d.parameters.length) = some 5 := by decide +kernel
abbrev qX11_film : MI := (yX11_film, cX11_film, 8, (some .int))
theorem hq_X11_film : qX11_film.1.cls ≠ "java/lang/invoke/MethodHandle" ∧ qX11_film.1.cls ≠ "java/lang/invoke/VarHandle" ∧ (parseMethodDescriptor qX11_film.1.desc).map (fun d => d.parameters.length) = some 3 := by decide +kernel
abbrev qX11_sheet : MI := (yX11_sheet, cX11_sheet, 5, (some .int))
theorem hq_X11_sheet : qX11_sheet.1.cls ≠ "java/lang/invoke/MethodHandle" ∧ qX11_sheet.1.cls ≠ "java/lang/invoke/VarHandle" ∧ (parseMethodDescriptor qX11_sheet.1.desc).map (fun d => d.parameters.length) = some 3 := by decide +kernel
abbrev qX11_drop : MI := (yX11_drop, cX11_drop, 3, (some .int))
theorem hq_X11_drop : qX11_drop.1.cls ≠ "java/lang/invoke/MethodHandle" ∧ qX11_drop.1.cls ≠ "java/lang/invoke/VarHandle" ∧ (parseMethodDescriptor qX11_drop.1.desc).map (fun d => d.parameters.length) = some 1 := by decide +kernel
abbrev qX11_item : MI := (yX11_item, cX11_item, 8, (some .int))
theorem hq_X11_item : qX11_item.1.cls ≠ "java/lang/invoke/MethodHandle" ∧ qX11_item.1.cls ≠ "java/lang/invoke/VarHandle" ∧ (parseMethodDescriptor qX11_item.1.desc).map (fun d => d.parameters.length) = some 4 := by decide +kernel
abbrev qX11_copy : MI := (yX11_copy, cX11_copy, 8, (some .int))
theorem hq_X11_copy : qX11_copy.1.cls ≠ "java/lang/invoke/MethodHandle" ∧ qX11_copy.1.cls ≠ "java/lang/invoke/VarHandle" ∧ (parseMethodDescriptor qX11_copy.1.desc).map (fun d => d.parameters.length) = some 5 := by decide +kernel
abbrev qX11_within : MI := (yX11_within, cX11_within, 3, (some .boolean))
theorem hq_X11_within : qX11_within.1.cls ≠ "java/lang/invoke/MethodHandle" ∧ qX11_within.1.cls ≠ "java/lang/invoke/VarHandle" ∧ (parseMethodDescriptor qX11_within.1.desc).map (fun d => d.parameters.length) = some 3 := by decide +kernel
abbrev qX11_isCloth : MI := (yX11_isCloth, cX11_isCloth, 1, (some .boolean))
theorem hq_X11_isCloth : qX11_isCloth.1.cls ≠ "java/lang/invoke/MethodHandle" ∧ qX11_isCloth.1.cls ≠ "java/lang/invoke/VarHandle" ∧ (parseMethodDescriptor qX11_isCloth.1.desc).map (fun d => d.parameters.length) = some 1 := by decide +kernel
abbrev qX11_byteOf : MI := (yX11_byteOf, cX11_byteOf, 3, (some .int))
theorem hq_X11_byteOf : qX11_byteOf.1.cls ≠ "java/lang/invoke/MethodHandle" ∧ qX11_byteOf.1.cls ≠ "java/lang/invoke/VarHandle" ∧ (parseMethodDescriptor qX11_byteOf.1.desc).map (fun d => d.parameters.length) = some 2 := by decide +kernel
abbrev qX11_marksNow : MI := (yX11_marksNow, cX11_marksNow, 1, (some (.object "WholeMarks$Marks")))
theorem hq_X11_marksNow : qX11_marksNow.1.cls ≠ "java/lang/invoke/MethodHandle" ∧ qX11_marksNow.1.cls ≠ "java/lang/invoke/VarHandle" ∧ (parseMethodDescriptor qX11_marksNow.1.desc).map (fun d => d.parameters.length) = some 0 := by decide +kernel
abbrev qX11_priceOf : MI := (yX11_priceOf, cX11_priceOf, 3, (some .long))
theorem hq_X11_priceOf : qX11_priceOf.1.cls ≠ "java/lang/invoke/MethodHandle" ∧ qX11_priceOf.1.cls ≠ "java/lang/invoke/VarHandle" ∧ (parseMethodDescriptor qX11_priceOf.1.desc).map (fun d => d.parameters.length) = some 2 := by decide +kernel
abbrev qX11_groupBolts : MI := (yX11_groupBolts, cX11_groupBolts, 6, none)
theorem hq_X11_groupBolts : qX11_groupBolts.1.cls ≠ "java/lang/invoke/MethodHandle" ∧ qX11_groupBolts.1.cls ≠ "java/lang/invoke/VarHandle" ∧ (parseMethodDescriptor qX11_groupBolts.1.desc).map (fun d => d.parameters.length) = some 1 := by decide +kernel
abbrev qX11_groupBuyers : MI := (yX11_groupBuyers, cX11_groupBuyers, 4, none)
theorem hq_X11_groupBuyers : qX11_groupBuyers.1.cls ≠ "java/lang/invoke/MethodHandle" ∧ qX11_groupBuyers.1.cls ≠ "java/lang/invoke/VarHandle" ∧ (parseMethodDescriptor qX11_groupBuyers.1.desc).map (fun d => d.parameters.length) = some 1 := by decide +kernel
abbrev qX11_sheetOf : MI := (yX11_sheetOf, cX11_sheetOf, 2, (some (.object "WholeMarks$Sheet")))
theorem hq_X11_sheetOf : qX11_sheetOf.1.cls ≠ "java/lang/invoke/MethodHandle" ∧ qX11_sheetOf.1.cls ≠ "java/lang/invoke/VarHandle" ∧ (parseMethodDescriptor qX11_sheetOf.1.desc).map (fun d => d.parameters.length) = some 1 := by decide +kernel
abbrev qX11_refusal : MI := (yX11_refusal, cX11_refusal, 6, (some .int))
theorem hq_X11_refusal : qX11_refusal.1.cls ≠ "java/lang/invoke/MethodHandle" ∧ qX11_refusal.1.cls ≠ "java/lang/invoke/VarHandle" ∧ (parseMethodDescriptor qX11_refusal.1.desc).map (fun d => d.parameters.length) = some 4 := by decide +kernel
abbrev qX11_howManyFit : MI := (yX11_howManyFit, cX11_howManyFit, 4, (some .int))
theorem hq_X11_howManyFit : qX11_howManyFit.1.cls ≠ "java/lang/invoke/MethodHandle" ∧ qX11_howManyFit.1.cls ≠ "java/lang/invoke/VarHandle" ∧ (parseMethodDescriptor qX11_howManyFit.1.desc).map (fun d => d.parameters.length) = some 1 := by decide +kernel
abbrev qX11_bestFit : MI := (yX11_bestFit, cX11_bestFit, 9, (some .int))
theorem hq_X11_bestFit : qX11_bestFit.1.cls ≠ "java/lang/invoke/MethodHandle" ∧ qX11_bestFit.1.cls ≠ "java/lang/invoke/VarHandle" ∧ (parseMethodDescriptor qX11_bestFit.1.desc).map (fun d => d.parameters.length) = some 1 := by decide +kernel
abbrev qX12_in : MI := (yX12_in, cX12_in, 6, (some .boolean))
theorem hq_X12_in : qX12_in.1.cls ≠ "java/lang/invoke/MethodHandle" ∧ qX12_in.1.cls ≠ "java/lang/invoke/VarHandle" ∧ (parseMethodDescriptor qX12_in.1.desc).map (fun d => d.parameters.length) = some 3 := by decide +kernel
abbrev qX12_has : MI := (yX12_has, cX12_has, 2, (some .boolean))
theorem hq_X12_has : qX12_has.1.cls ≠ "java/lang/invoke/MethodHandle" ∧ qX12_has.1.cls ≠ "java/lang/invoke/VarHandle" ∧ (parseMethodDescriptor qX12_has.1.desc).map (fun d => d.parameters.length) = some 2 := by decide +kernel
abbrev qX12_lesser : MI := (yX12_lesser, cX12_lesser, 4, (some .long))
theorem hq_X12_lesser : qX12_lesser.1.cls ≠ "java/lang/invoke/MethodHandle" ∧ qX12_lesser.1.cls ≠ "java/lang/invoke/VarHandle" ∧ (parseMethodDescriptor qX12_lesser.1.desc).map (fun d => d.parameters.length) = some 2 := by decide +kernel
abbrev qX12_greater : MI := (yX12_greater, cX12_greater, 4, (some .long))
theorem hq_X12_greater : qX12_greater.1.cls ≠ "java/lang/invoke/MethodHandle" ∧ qX12_greater.1.cls ≠ "java/lang/invoke/VarHandle" ∧ (parseMethodDescriptor qX12_greater.1.desc).map (fun d => d.parameters.length) = some 2 := by decide +kernel
abbrev qX12_ones : MI := (yX12_ones, cX12_ones, 3, (some .int))
theorem hq_X12_ones : qX12_ones.1.cls ≠ "java/lang/invoke/MethodHandle" ∧ qX12_ones.1.cls ≠ "java/lang/invoke/VarHandle" ∧ (parseMethodDescriptor qX12_ones.1.desc).map (fun d => d.parameters.length) = some 1 := by decide +kernel
abbrev qX12_divisor : MI := (yX12_divisor, cX12_divisor, 10, (some .long))
theorem hq_X12_divisor : qX12_divisor.1.cls ≠ "java/lang/invoke/MethodHandle" ∧ qX12_divisor.1.cls ≠ "java/lang/invoke/VarHandle" ∧ (parseMethodDescriptor qX12_divisor.1.desc).map (fun d => d.parameters.length) = some 2 := by decide +kernel
abbrev qX12_common : MI := (yX12_common, cX12_common, 4, (some .long))
theorem hq_X12_common : qX12_common.1.cls ≠ "java/lang/invoke/MethodHandle" ∧ qX12_common.1.cls ≠ "java/lang/invoke/VarHandle" ∧ (parseMethodDescriptor qX12_common.1.desc).map (fun d => d.parameters.length) = some 2 := by decide +kernel
abbrev qX12_lay : MI := (yX12_lay, cX12_lay, 8, none)
theorem hq_X12_lay : qX12_lay.1.cls ≠ "java/lang/invoke/MethodHandle" ∧ qX12_lay.1.cls ≠ "java/lang/invoke/VarHandle" ∧ (parseMethodDescriptor qX12_lay.1.desc).map (fun d => d.parameters.length) = some 3 := by decide +kernel
abbrev qX12_layNow : MI := (yX12_layNow, cX12_layNow, 1, none)
theorem hq_X12_layNow : qX12_layNow.1.cls ≠ "java/lang/invoke/MethodHandle" ∧ qX12_layNow.1.cls ≠ "java/lang/invoke/VarHandle" ∧ (parseMethodDescriptor qX12_layNow.1.desc).map (fun d => d.parameters.length) = some 0 := by decide +kernel
abbrev qX12_below : MI := (yX12_below, cX12_below, 6, (some .long))
theorem hq_X12_below : qX12_below.1.cls ≠ "java/lang/invoke/MethodHandle" ∧ qX12_below.1.cls ≠ "java/lang/invoke/VarHandle" ∧ (parseMethodDescriptor qX12_below.1.desc).map (fun d => d.parameters.length) = some 1 := by decide +kernel
abbrev qX12_above : MI := (yX12_above, cX12_above, 6, (some .long))
theorem hq_X12_above : qX12_above.1.cls ≠ "java/lang/invoke/MethodHandle" ∧ qX12_above.1.cls ≠ "java/lang/invoke/VarHandle" ∧ (parseMethodDescriptor qX12_above.1.desc).map (fun d => d.parameters.length) = some 1 := by decide +kernel
abbrev qX12_manyUpTo : MI := (yX12_manyUpTo, cX12_manyUpTo, 6, (some .long))
theorem hq_X12_manyUpTo : qX12_manyUpTo.1.cls ≠ "java/lang/invoke/MethodHandle" ∧ qX12_manyUpTo.1.cls ≠ "java/lang/invoke/VarHandle" ∧ (parseMethodDescriptor qX12_manyUpTo.1.desc).map (fun d => d.parameters.length) = some 1 := by decide +kernel
abbrev qX12_measure : MI := (yX12_measure, cX12_measure, 4, (some .int))
theorem hq_X12_measure : qX12_measure.1.cls ≠ "java/lang/invoke/MethodHandle" ∧ qX12_measure.1.cls ≠ "java/lang/invoke/VarHandle" ∧ (parseMethodDescriptor qX12_measure.1.desc).map (fun d => d.parameters.length) = some 2 := by decide +kernel
abbrev qX12_rule : MI := (yX12_rule, cX12_rule, 4, (some .int))
theorem hq_X12_rule : qX12_rule.1.cls ≠ "java/lang/invoke/MethodHandle" ∧ qX12_rule.1.cls ≠ "java/lang/invoke/VarHandle" ∧ (parseMethodDescriptor qX12_rule.1.desc).map (fun d => d.parameters.length) = some 2 := by decide +kernel
abbrev qX12_seam : MI := (yX12_seam, cX12_seam, 3, (some .int))
theorem hq_X12_seam : qX12_seam.1.cls ≠ "java/lang/invoke/MethodHandle" ∧ qX12_seam.1.cls ≠ "java/lang/invoke/VarHandle" ∧ (parseMethodDescriptor qX12_seam.1.desc).map (fun d => d.parameters.length) = some 1 := by decide +kernel
abbrev qX12_place : MI := (yX12_place, cX12_place, 8, (some .long))
theorem hq_X12_place : qX12_place.1.cls ≠ "java/lang/invoke/MethodHandle" ∧ qX12_place.1.cls ≠ "java/lang/invoke/VarHandle" ∧ (parseMethodDescriptor qX12_place.1.desc).map (fun d => d.parameters.length) = some 1 := by decide +kernel
abbrev qX12_places : MI := (yX12_places, cX12_places, 3, (some .long))
theorem hq_X12_places : qX12_places.1.cls ≠ "java/lang/invoke/MethodHandle" ∧ qX12_places.1.cls ≠ "java/lang/invoke/VarHandle" ∧ (parseMethodDescriptor qX12_places.1.desc).map (fun d => d.parameters.length) = some 1 := by decide +kernel
abbrev qX12_isBolt : MI := (yX12_isBolt, cX12_isBolt, 2, (some .boolean))
theorem hq_X12_isBolt : qX12_isBolt.1.cls ≠ "java/lang/invoke/MethodHandle" ∧ qX12_isBolt.1.cls ≠ "java/lang/invoke/VarHandle" ∧ (parseMethodDescriptor qX12_isBolt.1.desc).map (fun d => d.parameters.length) = some 1 := by decide +kernel
abbrev qX12_bolt : MI := (yX12_bolt, cX12_bolt, 4, (some .int))
theorem hq_X12_bolt : qX12_bolt.1.cls ≠ "java/lang/invoke/MethodHandle" ∧ qX12_bolt.1.cls ≠ "java/lang/invoke/VarHandle" ∧ (parseMethodDescriptor qX12_bolt.1.desc).map (fun d => d.parameters.length) = some 2 := by decide +kernel
abbrev qX12_told : MI := (yX12_told, cX12_told, 3, (some .int))
theorem hq_X12_told : qX12_told.1.cls ≠ "java/lang/invoke/MethodHandle" ∧ qX12_told.1.cls ≠ "java/lang/invoke/VarHandle" ∧ (parseMethodDescriptor qX12_told.1.desc).map (fun d => d.parameters.length) = some 2 := by decide +kernel
abbrev qX12_cut : MI := (yX12_cut, cX12_cut, 5, (some .int))
theorem hq_X12_cut : qX12_cut.1.cls ≠ "java/lang/invoke/MethodHandle" ∧ qX12_cut.1.cls ≠ "java/lang/invoke/VarHandle" ∧ (parseMethodDescriptor qX12_cut.1.desc).map (fun d => d.parameters.length) = some 2 := by decide +kernel
abbrev qX12_seamOf : MI := (yX12_seamOf, cX12_seamOf, 2, (some .int))
theorem hq_X12_seamOf : qX12_seamOf.1.cls ≠ "java/lang/invoke/MethodHandle" ∧ qX12_seamOf.1.cls ≠ "java/lang/invoke/VarHandle" ∧ (parseMethodDescriptor qX12_seamOf.1.desc).map (fun d => d.parameters.length) = some 1 := by decide +kernel
abbrev qX12_join : MI := (yX12_join, cX12_join, 6, (some .int))
theorem hq_X12_join : qX12_join.1.cls ≠ "java/lang/invoke/MethodHandle" ∧ qX12_join.1.cls ≠ "java/lang/invoke/VarHandle" ∧ (parseMethodDescriptor qX12_join.1.desc).map (fun d => d.parameters.length) = some 2 := by decide +kernel
abbrev qX12_type : MI := (yX12_type, cX12_type, 5, (some .int))
theorem hq_X12_type : qX12_type.1.cls ≠ "java/lang/invoke/MethodHandle" ∧ qX12_type.1.cls ≠ "java/lang/invoke/VarHandle" ∧ (parseMethodDescriptor qX12_type.1.desc).map (fun d => d.parameters.length) = some 2 := by decide +kernel
abbrev qX12_ahead : MI := (yX12_ahead, cX12_ahead, 1, (some .int))
theorem hq_X12_ahead : qX12_ahead.1.cls ≠ "java/lang/invoke/MethodHandle" ∧ qX12_ahead.1.cls ≠ "java/lang/invoke/VarHandle" ∧ (parseMethodDescriptor qX12_ahead.1.desc).map (fun d => d.parameters.length) = some 0 := by decide +kernel
abbrev qX12_faultOf : MI := (yX12_faultOf, cX12_faultOf, 4, (some .int))
theorem hq_X12_faultOf : qX12_faultOf.1.cls ≠ "java/lang/invoke/MethodHandle" ∧ qX12_faultOf.1.cls ≠ "java/lang/invoke/VarHandle" ∧ (parseMethodDescriptor qX12_faultOf.1.desc).map (fun d => d.parameters.length) = some 0 := by decide +kernel
abbrev qX12_towns : MI := (yX12_towns, cX12_towns, 3, (some .int))
theorem hq_X12_towns : qX12_towns.1.cls ≠ "java/lang/invoke/MethodHandle" ∧ qX12_towns.1.cls ≠ "java/lang/invoke/VarHandle" ∧ (parseMethodDescriptor qX12_towns.1.desc).map (fun d => d.parameters.length) = some 0 := by decide +kernel
abbrev qX12_sumOf : MI := (yX12_sumOf, cX12_sumOf, 5, (some .int))
theorem hq_X12_sumOf : qX12_sumOf.1.cls ≠ "java/lang/invoke/MethodHandle" ∧ qX12_sumOf.1.cls ≠ "java/lang/invoke/VarHandle" ∧ (parseMethodDescriptor qX12_sumOf.1.desc).map (fun d => d.parameters.length) = some 2 := by decide +kernel
abbrev qX12_wasteOf : MI := (yX12_wasteOf, cX12_wasteOf, 3, (some .int))
theorem hq_X12_wasteOf : qX12_wasteOf.1.cls ≠ "java/lang/invoke/MethodHandle" ∧ qX12_wasteOf.1.cls ≠ "java/lang/invoke/VarHandle" ∧ (parseMethodDescriptor qX12_wasteOf.1.desc).map (fun d => d.parameters.length) = some 0 := by decide +kernel
abbrev qX12_count : MI := (yX12_count, cX12_count, 2, (some .int))
theorem hq_X12_count : qX12_count.1.cls ≠ "java/lang/invoke/MethodHandle" ∧ qX12_count.1.cls ≠ "java/lang/invoke/VarHandle" ∧ (parseMethodDescriptor qX12_count.1.desc).map (fun d => d.parameters.length) = some 1 := by decide +kernel
abbrev qX12_goesOn : MI := (yX12_goesOn, cX12_goesOn, 5, (some .boolean))
theorem hq_X12_goesOn : qX12_goesOn.1.cls ≠ "java/lang/invoke/MethodHandle" ∧ qX12_goesOn.1.cls ≠ "java/lang/invoke/VarHandle" ∧ (parseMethodDescriptor qX12_goesOn.1.desc).map (fun d => d.parameters.length) = some 1 := by decide +kernel
abbrev qX12_begin : MI := (yX12_begin, cX12_begin, 2, none)
theorem hq_X12_begin : qX12_begin.1.cls ≠ "java/lang/invoke/MethodHandle" ∧ qX12_begin.1.cls ≠ "java/lang/invoke/VarHandle" ∧ (parseMethodDescriptor qX12_begin.1.desc).map (fun d => d.parameters.length) = some 0 := by decide +kernel
abbrev qX12_groupsOf : MI := (yX12_groupsOf, cX12_groupsOf, 4, (some .int))
theorem hq_X12_groupsOf : qX12_groupsOf.1.cls ≠ "java/lang/invoke/MethodHandle" ∧ qX12_groupsOf.1.cls ≠ "java/lang/invoke/VarHandle" ∧ (parseMethodDescriptor qX12_groupsOf.1.desc).map (fun d => d.parameters.length) = some 1 := by decide +kernel
abbrev qX12_take : MI := (yX12_take, cX12_take, 4, none)
theorem hq_X12_take : qX12_take.1.cls ≠ "java/lang/invoke/MethodHandle" ∧ qX12_take.1.cls ≠ "java/lang/invoke/VarHandle" ∧ (parseMethodDescriptor qX12_take.1.desc).map (fun d => d.parameters.length) = some 2 := by decide +kernel
abbrev qX12_most : MI := (yX12_most, cX12_most, 14, (some .int))
theorem hq_X12_most : qX12_most.1.cls ≠ "java/lang/invoke/MethodHandle" ∧ qX12_most.1.cls ≠ "java/lang/invoke/VarHandle" ∧ (parseMethodDescriptor qX12_most.1.desc).map (fun d => d.parameters.length) = some 2 := by decide +kernel
abbrev qX12_buyer : MI := (yX12_buyer, cX12_buyer, 3, (some .int))
theorem hq_X12_buyer : qX12_buyer.1.cls ≠ "java/lang/invoke/MethodHandle" ∧ qX12_buyer.1.cls ≠ "java/lang/invoke/VarHandle" ∧ (parseMethodDescriptor qX12_buyer.1.desc).map (fun d => d.parameters.length) = some 1 := by decide +kernel
abbrev qX12_home : MI := (yX12_home, cX12_home, 2, (some .int))
theorem hq_X12_home : qX12_home.1.cls ≠ "java/lang/invoke/MethodHandle" ∧ qX12_home.1.cls ≠ "java/lang/invoke/VarHandle" ∧ (parseMethodDescriptor qX12_home.1.desc).map (fun d => d.parameters.length) = some 0 := by decide +kernel
abbrev qX12_priceOf : MI := (yX12_priceOf, cX12_priceOf, 4, (some .long))
theorem hq_X12_priceOf : qX12_priceOf.1.cls ≠ "java/lang/invoke/MethodHandle" ∧ qX12_priceOf.1.cls ≠ "java/lang/invoke/VarHandle" ∧ (parseMethodDescriptor qX12_priceOf.1.desc).map (fun d => d.parameters.length) = some 1 := by decide +kernel
abbrev qX12_price : MI := (yX12_price, cX12_price, 2, (some .long))
theorem hq_X12_price : qX12_price.1.cls ≠ "java/lang/invoke/MethodHandle" ∧ qX12_price.1.cls ≠ "java/lang/invoke/VarHandle" ∧ (parseMethodDescriptor qX12_price.1.desc).map (fun d => d.parameters.length) = some 1 := by decide +kernel
abbrev qX12_parties : MI := (yX12_parties, cX12_parties, 14, (some .long))
theorem hq_X12_parties : qX12_parties.1.cls ≠ "java/lang/invoke/MethodHandle" ∧ qX12_parties.1.cls ≠ "java/lang/invoke/VarHandle" ∧ (parseMethodDescriptor qX12_parties.1.desc).map (fun d => d.parameters.length) = some 2 := by decide +kernel
abbrev qX12_third : MI := (yX12_third, cX12_third, 6, (some .int))
theorem hq_X12_third : qX12_third.1.cls ≠ "java/lang/invoke/MethodHandle" ∧ qX12_third.1.cls ≠ "java/lang/invoke/VarHandle" ∧ (parseMethodDescriptor qX12_third.1.desc).map (fun d => d.parameters.length) = some 1 := by decide +kernel
abbrev qX12_worn : MI := (yX12_worn, cX12_worn, 6, (some .int))
theorem hq_X12_worn : qX12_worn.1.cls ≠ "java/lang/invoke/MethodHandle" ∧ qX12_worn.1.cls ≠ "java/lang/invoke/VarHandle" ∧ (parseMethodDescriptor qX12_worn.1.desc).map (fun d => d.parameters.length) = some 1 := by decide +kernel
abbrev qX12_rateAt : MI := (yX12_rateAt, cX12_rateAt, 2, (some .int))
theorem hq_X12_rateAt : qX12_rateAt.1.cls ≠ "java/lang/invoke/MethodHandle" ∧ qX12_rateAt.1.cls ≠ "java/lang/invoke/VarHandle" ∧ (parseMethodDescriptor qX12_rateAt.1.desc).map (fun d => d.parameters.length) = some 2 := by decide +kernel
abbrev qX12_isCoin : MI := (yX12_isCoin, cX12_isCoin, 1, (some .boolean))
theorem hq_X12_isCoin : qX12_isCoin.1.cls ≠ "java/lang/invoke/MethodHandle" ∧ qX12_isCoin.1.cls ≠ "java/lang/invoke/VarHandle" ∧ (parseMethodDescriptor qX12_isCoin.1.desc).map (fun d => d.parameters.length) = some 1 := by decide +kernel
abbrev qX12_rate : MI := (yX12_rate, cX12_rate, 7, (some .int))
theorem hq_X12_rate : qX12_rate.1.cls ≠ "java/lang/invoke/MethodHandle" ∧ qX12_rate.1.cls ≠ "java/lang/invoke/VarHandle" ∧ (parseMethodDescriptor qX12_rate.1.desc).map (fun d => d.parameters.length) = some 4 := by decide +kernel
abbrev qX12_gains : MI := (yX12_gains, cX12_gains, 11, (some .boolean))
theorem hq_X12_gains : qX12_gains.1.cls ≠ "java/lang/invoke/MethodHandle" ∧ qX12_gains.1.cls ≠ "java/lang/invoke/VarHandle" ∧ (parseMethodDescriptor qX12_gains.1.desc).map (fun d => d.parameters.length) = some 1 := by decide +kernel
abbrev qX12_rings : MI := (yX12_rings, cX12_rings, 5, (some .int))
theorem hq_X12_rings : qX12_rings.1.cls ≠ "java/lang/invoke/MethodHandle" ∧ qX12_rings.1.cls ≠ "java/lang/invoke/VarHandle" ∧ (parseMethodDescriptor qX12_rings.1.desc).map (fun d => d.parameters.length) = some 1 := by decide +kernel
abbrev qX12_turn : MI := (yX12_turn, cX12_turn, 15, (some .long))
theorem hq_X12_turn : qX12_turn.1.cls ≠ "java/lang/invoke/MethodHandle" ∧ qX12_turn.1.cls ≠ "java/lang/invoke/VarHandle" ∧ (parseMethodDescriptor qX12_turn.1.desc).map (fun d => d.parameters.length) = some 4 := by decide +kernel
abbrev qX12_image : MI := (yX12_image, cX12_image, 2, (some .int))
theorem hq_X12_image : qX12_image.1.cls ≠ "java/lang/invoke/MethodHandle" ∧ qX12_image.1.cls ≠ "java/lang/invoke/VarHandle" ∧ (parseMethodDescriptor qX12_image.1.desc).map (fun d => d.parameters.length) = some 0 := by decide +kernel
abbrev qX12_restore : MI := (yX12_restore, cX12_restore, 2, (some .int))
theorem hq_X12_restore : qX12_restore.1.cls ≠ "java/lang/invoke/MethodHandle" ∧ qX12_restore.1.cls ≠ "java/lang/invoke/VarHandle" ∧ (parseMethodDescriptor qX12_restore.1.desc).map (fun d => d.parameters.length) = some 0 := by decide +kernel
abbrev qX12_isSheet : MI := (yX12_isSheet, cX12_isSheet, 1, (some .boolean))
theorem hq_X12_isSheet : qX12_isSheet.1.cls ≠ "java/lang/invoke/MethodHandle" ∧ qX12_isSheet.1.cls ≠ "java/lang/invoke/VarHandle" ∧ (parseMethodDescriptor qX12_isSheet.1.desc).map (fun d => d.parameters.length) = some 1 := by decide +kernel
abbrev qX12_bars : MI := (yX12_bars, cX12_bars, 5, (some .int))
theorem hq_X12_bars : qX12_bars.1.cls ≠ "java/lang/invoke/MethodHandle" ∧ qX12_bars.1.cls ≠ "java/lang/invoke/VarHandle" ∧ (parseMethodDescriptor qX12_bars.1.desc).map (fun d => d.parameters.length) = some 4 := by decide +kernel
abbrev qX12_cutTo : MI := (yX12_cutTo, cX12_cutTo, 3, (some .long))
theorem hq_X12_cutTo : qX12_cutTo.1.cls ≠ "java/lang/invoke/MethodHandle" ∧ qX12_cutTo.1.cls ≠ "java/lang/invoke/VarHandle" ∧ (parseMethodDescriptor qX12_cutTo.1.desc).map (fun d => d.parameters.length) = some 2 := by decide +kernel
abbrev qX12_leaves : MI := (yX12_leaves, cX12_leaves, 11, (some .int))
theorem hq_X12_leaves : qX12_leaves.1.cls ≠ "java/lang/invoke/MethodHandle" ∧ qX12_leaves.1.cls ≠ "java/lang/invoke/VarHandle" ∧ (parseMethodDescriptor qX12_leaves.1.desc).map (fun d => d.parameters.length) = some 3 := by decide +kernel
abbrev qX12_fit : MI := (yX12_fit, cX12_fit, 15, (some .int))
theorem hq_X12_fit : qX12_fit.1.cls ≠ "java/lang/invoke/MethodHandle" ∧ qX12_fit.1.cls ≠ "java/lang/invoke/VarHandle" ∧ (parseMethodDescriptor qX12_fit.1.desc).map (fun d => d.parameters.length) = some 5 := by decide +kernel
abbrev qX12_film : MI := (yX12_film, cX12_film, 6, (some .int))
theorem hq_X12_film : qX12_film.1.cls ≠ "java/lang/invoke/MethodHandle" ∧ qX12_film.1.cls ≠ "java/lang/invoke/VarHandle" ∧ (parseMethodDescriptor qX12_film.1.desc).map (fun d => d.parameters.length) = some 3 := by decide +kernel
abbrev qX12_sheet : MI := (yX12_sheet, cX12_sheet, 5, (some .int))
theorem hq_X12_sheet : qX12_sheet.1.cls ≠ "java/lang/invoke/MethodHandle" ∧ qX12_sheet.1.cls ≠ "java/lang/invoke/VarHandle" ∧ (parseMethodDescriptor qX12_sheet.1.desc).map (fun d => d.parameters.length) = some 3 := by decide +kernel
abbrev qX12_drop : MI := (yX12_drop, cX12_drop, 2, (some .int))
theorem hq_X12_drop : qX12_drop.1.cls ≠ "java/lang/invoke/MethodHandle" ∧ qX12_drop.1.cls ≠ "java/lang/invoke/VarHandle" ∧ (parseMethodDescriptor qX12_drop.1.desc).map (fun d => d.parameters.length) = some 1 := by decide +kernel
abbrev qX12_item : MI := (yX12_item, cX12_item, 7, (some .int))
theorem hq_X12_item : qX12_item.1.cls ≠ "java/lang/invoke/MethodHandle" ∧ qX12_item.1.cls ≠ "java/lang/invoke/VarHandle" ∧ (parseMethodDescriptor qX12_item.1.desc).map (fun d => d.parameters.length) = some 4 := by decide +kernel
abbrev qX12_copy : MI := (yX12_copy, cX12_copy, 8, (some .int))
theorem hq_X12_copy : qX12_copy.1.cls ≠ "java/lang/invoke/MethodHandle" ∧ qX12_copy.1.cls ≠ "java/lang/invoke/VarHandle" ∧ (parseMethodDescriptor qX12_copy.1.desc).map (fun d => d.parameters.length) = some 5 := by decide +kernel
