def VJ6_bitCount_0f7a4_0 (E : FX) (l : Launch) (D : Nat) (post : Option AV → MM → Prop) (M : MM) (x0 : Int) : Prop :=
  ∀ y1 : Int, y1 = x0 - (iand (iushr x0 1) 1431655765) → (∀ y3 : Int, y3 = (iand y1 858993459) + (iand (iushr y1 2) 858993459) → (∀ y5 : Int, y5 = iand (y3 + (iushr y3 4)) 252645135 → (∀ y7 : Int, y7 = y5 + (iushr y5 8) → (∀ y9 : Int, y9 = y7 + (iushr y7 16) → (post (some (vi (iand y9 63))) M)))))
set_option maxRecDepth 20000 in
theorem SJ6_bitCount_0f7a4_0 {E : FX} {l : Launch} {D : Nat} {post : Option AV → MM → Prop} {z : RT} (C : Cx E z D RJ6 cJ6_bitCount_0f7a4 1) (r : Rt E z (some .int) post) {M : MM} {x0 : Int} (h : VJ6_bitCount_0f7a4_0 E l D post M x0) : Aj E l z 0 [(0, vi x0)] [] M := by
  unfold VJ6_bitCount_0f7a4_0 at h
  refine v_iload_n (i := 0) C dJ6_bitCount_0f7a4_0 rfl rfl ?_
  refine v_iload_n (i := 0) C dJ6_bitCount_0f7a4_1 rfl rfl ?_
  refine v_iconst C dJ6_bitCount_0f7a4_2 ?_
  refine v_iushr C dJ6_bitCount_0f7a4_3 ?_
  refine v_ldcw (x := 1431655765) C cs_RJ6_265 (by decide) dJ6_bitCount_0f7a4_4 ?_
  refine v_iand C dJ6_bitCount_0f7a4_7 ?_
  refine v_isub C dJ6_bitCount_0f7a4_8 ?_
  obtain ⟨y1, hy1⟩ : ∃ y : Int, y = x0 - (iand (iushr x0 1) 1431655765) := ⟨_, rfl⟩
  have g2 := h y1 hy1
  refine v_eqi hy1 ?_
  refine v_istore_n (L' := [(0, vi y1)]) C dJ6_bitCount_0f7a4_9 rfl (by decide) rfl ?_
  refine v_iload_n (i := 0) C dJ6_bitCount_0f7a4_10 rfl rfl ?_
  refine v_ldcw (x := 858993459) C cs_RJ6_266 (by decide) dJ6_bitCount_0f7a4_11 ?_
  refine v_iand C dJ6_bitCount_0f7a4_14 ?_
  refine v_iload_n (i := 0) C dJ6_bitCount_0f7a4_15 rfl rfl ?_
  refine v_iconst C dJ6_bitCount_0f7a4_16 ?_
  refine v_iushr C dJ6_bitCount_0f7a4_17 ?_
  refine v_ldcw (x := 858993459) C cs_RJ6_266 (by decide) dJ6_bitCount_0f7a4_18 ?_
  refine v_iand C dJ6_bitCount_0f7a4_21 ?_
  refine v_iadd C dJ6_bitCount_0f7a4_22 ?_
  obtain ⟨y3, hy3⟩ : ∃ y : Int, y = (iand y1 858993459) + (iand (iushr y1 2) 858993459) := ⟨_, rfl⟩
  have g4 := g2 y3 hy3
  refine v_eqi hy3 ?_
  refine v_istore_n (L' := [(0, vi y3)]) C dJ6_bitCount_0f7a4_23 rfl (by decide) rfl ?_
  refine v_iload_n (i := 0) C dJ6_bitCount_0f7a4_24 rfl rfl ?_
  refine v_iload_n (i := 0) C dJ6_bitCount_0f7a4_25 rfl rfl ?_
  refine v_iconst C dJ6_bitCount_0f7a4_26 ?_
  refine v_iushr C dJ6_bitCount_0f7a4_27 ?_
  refine v_iadd C dJ6_bitCount_0f7a4_28 ?_
  refine v_ldcw (x := 252645135) C cs_RJ6_267 (by decide) dJ6_bitCount_0f7a4_29 ?_
  refine v_iand C dJ6_bitCount_0f7a4_32 ?_
  obtain ⟨y5, hy5⟩ : ∃ y : Int, y = iand (y3 + (iushr y3 4)) 252645135 := ⟨_, rfl⟩
  have g6 := g4 y5 hy5
  refine v_eqi hy5 ?_
  refine v_istore_n (L' := [(0, vi y5)]) C dJ6_bitCount_0f7a4_33 rfl (by decide) rfl ?_
  refine v_iload_n (i := 0) C dJ6_bitCount_0f7a4_34 rfl rfl ?_
  refine v_iload_n (i := 0) C dJ6_bitCount_0f7a4_35 rfl rfl ?_
  refine v_bipush C dJ6_bitCount_0f7a4_36 (by decide) ?_
  refine v_iushr C dJ6_bitCount_0f7a4_38 ?_
  refine v_iadd C dJ6_bitCount_0f7a4_39 ?_
  obtain ⟨y7, hy7⟩ : ∃ y : Int, y = y5 + (iushr y5 8) := ⟨_, rfl⟩
  have g8 := g6 y7 hy7
  refine v_eqi hy7 ?_
  refine v_istore_n (L' := [(0, vi y7)]) C dJ6_bitCount_0f7a4_40 rfl (by decide) rfl ?_
  refine v_iload_n (i := 0) C dJ6_bitCount_0f7a4_41 rfl rfl ?_
  refine v_iload_n (i := 0) C dJ6_bitCount_0f7a4_42 rfl rfl ?_
  refine v_bipush C dJ6_bitCount_0f7a4_43 (by decide) ?_
  refine v_iushr C dJ6_bitCount_0f7a4_45 ?_
  refine v_iadd C dJ6_bitCount_0f7a4_46 ?_
  obtain ⟨y9, hy9⟩ : ∃ y : Int, y = y7 + (iushr y7 16) := ⟨_, rfl⟩
  have g10 := g8 y9 hy9
  refine v_eqi hy9 ?_
  refine v_istore_n (L' := [(0, vi y9)]) C dJ6_bitCount_0f7a4_47 rfl (by decide) rfl ?_
  refine v_iload_n (i := 0) C dJ6_bitCount_0f7a4_48 rfl rfl ?_
  refine v_bipush C dJ6_bitCount_0f7a4_49 (by decide) ?_
  refine v_iand C dJ6_bitCount_0f7a4_51 ?_
  exact v_iret C r dJ6_bitCount_0f7a4_52 g10
theorem RJ6_bitCount_0f7a4 {E : FX} {l : Launch} {D : Nat} {post : Option AV → MM → Prop} {M : MM} {x0 : Int} (h0 : VJ6_bitCount_0f7a4_0 E l D post M x0) : Con E l (D + 1) qJ6_bitCount_0f7a4 [vi x0] M post := by
  refine con_of (by decide +kernel) (Nat.le_of_ble_eq_true rfl) (fun z C r => ?_)
  exact v_sub [0] rfl (SJ6_bitCount_0f7a4_0 C r h0)
