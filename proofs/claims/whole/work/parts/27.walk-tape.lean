def VX9_add_0 (E : FX) (l : Launch) (D : Nat) (post : Option AV → MM → Prop) (M : MM) (x1 : Int) : Prop :=
  Con E l D qX7_put [vr 26, vi (M 25 1), vi x1] M (fun r M1 => r = none ∧ (∀ M3 : MM, M3 = up M1 25 1 ((M1 25 1) + 1) → (post none M3)))
set_option maxRecDepth 20000 in
theorem SX9_add_0 {E : FX} {l : Launch} {D : Nat} {post : Option AV → MM → Prop} {z : RT} (C : Cx E z D RX9 cX9_add 2) (r : Rt E z none post) {M : MM} {x1 : Int} (h : VX9_add_0 E l D post M x1) : Aj E l z 0 [(0, vr 25), (1, vi x1)] [] M := by
  unfold VX9_add_0 at h
  refine v_aload_n (i := 0) C dX9_add_0 rfl rfl ?_
  refine v_getf (k := 25) C fl_RX9_9 rfl rfl dX9_add_1 ?_
  show Aj E l z (1 + 3) [(0, vr 25), (1, vi x1)] [vr 26] M
  refine v_aload_n (i := 0) C dX9_add_4 rfl rfl ?_
  refine v_getf (k := 25) C fl_RX9_18 rfl rfl dX9_add_5 ?_
  show Aj E l z (5 + 3) [(0, vr 25), (1, vi x1)] [vi (M 25 1), vr 26] M
  refine v_iload_n (i := 1) C dX9_add_8 rfl rfl ?_
  refine v_callS (q := qX7_put) (As := [vr 26, vi (M 25 1), vi x1]) (S := []) C co_yX7_put ml_RX9_22 st_yX7_put ini_RX7 hq_X7_put (by decide) (Nat.le_of_ble_eq_true rfl) rfl dX9_add_9 (Con.mono h (fun rr M1 hr => ?_) (Nat.le_refl _))
  obtain ⟨rfl, g2⟩ := hr
  show Aj E l z (9 + 3) [(0, vr 25), (1, vi x1)] [] M1
  refine v_aload_n (i := 0) C dX9_add_12 rfl rfl ?_
  refine v_dup C rfl dX9_add_13 ?_
  refine v_getf (k := 25) C fl_RX9_18 rfl rfl dX9_add_14 ?_
  show Aj E l z (14 + 3) [(0, vr 25), (1, vi x1)] [vi (M1 25 1), vr 25] M1
  refine v_iconst C dX9_add_17 ?_
  refine v_iadd C dX9_add_18 ?_
  refine v_putf (k := 25) (x := (M1 25 1) + 1) (t := 0) C fp_RX9_18 rfl rfl (by decide) (by simp [fv, up]) rfl rfl dX9_add_19 ?_
  obtain ⟨M3, hM3⟩ : ∃ X : MM, X = up M1 25 1 ((M1 25 1) + 1) := ⟨_, rfl⟩
  refine v_eqM hM3 ?_
  have g4 := g2 M3 hM3
  exact v_vret C r dX9_add_22 g4
theorem RX9_add {E : FX} {l : Launch} {D : Nat} {post : Option AV → MM → Prop} {M : MM} {x1 : Int} (h0 : VX9_add_0 E l D post M x1) : Con E l (D + 1) qX9_add [vr 25, vi x1] M post := by
  refine con_of (by decide +kernel) (Nat.le_of_ble_eq_true rfl) (fun z C r => ?_)
  exact v_sub [0, 1] rfl (SX9_add_0 C r h0)
def VX9_read_38 (E : FX) (l : Launch) (D : Nat) (post : Option AV → MM → Prop) (M : MM) : Prop :=
  post (some (vi ((-20) - (M 25 2)))) M
set_option maxRecDepth 20000 in
theorem SX9_read_38 {E : FX} {l : Launch} {D : Nat} {post : Option AV → MM → Prop} {z : RT} (C : Cx E z D RX9 cX9_read 1) (r : Rt E z (some .int) post) {M : MM} (h : VX9_read_38 E l D post M) : Aj E l z 38 [(0, vr 25)] [] M := by
  unfold VX9_read_38 at h
  refine v_bipush C dX9_read_38 (by decide) ?_
  refine v_aload_n (i := 0) C dX9_read_40 rfl rfl ?_
  refine v_getf (k := 25) C fl_RX9_28 rfl rfl dX9_read_41 ?_
  show Aj E l z (41 + 3) [(0, vr 25)] [vi (M 25 2), vi (-20)] M
  refine v_isub C dX9_read_44 ?_
  exact v_iret C r dX9_read_45 h
def VX9_read_94 (E : FX) (l : Launch) (D : Nat) (post : Option AV → MM → Prop) (M : MM) (s0 : Int) : Prop :=
  post (some (vi s0)) M
set_option maxRecDepth 20000 in
theorem SX9_read_94 {E : FX} {l : Launch} {D : Nat} {post : Option AV → MM → Prop} {z : RT} (C : Cx E z D RX9 cX9_read 1) (r : Rt E z (some .int) post) {M : MM} {s0 : Int} (h : VX9_read_94 E l D post M s0) : Aj E l z 94 [] [vi s0] M := by
  unfold VX9_read_94 at h
  exact v_iret C r dX9_read_94 h
def VX9_read_70 (E : FX) (l : Launch) (D : Nat) (post : Option AV → MM → Prop) (M : MM) : Prop :=
  Con E l D qX9_peek [vr 25] M (fun r M1 => ∃ y2 : Int, r = some (vi y2) ∧ (R32 y2 ∧ ((0 ≤ y2 → VX9_read_94 E l D post M1 ((-20) - (M1 25 2))) ∧ (¬ 0 ≤ y2 → Con E l D qJ6_bitCount_0f7a4 [vi (M1 25 4)] M1 (fun r M6 => ∃ y7 : Int, r = some (vi y7) ∧ (VX9_read_94 E l D post M6 y7))))))
set_option maxRecDepth 20000 in
theorem SX9_read_70 {E : FX} {l : Launch} {D : Nat} {post : Option AV → MM → Prop} {z : RT} (C : Cx E z D RX9 cX9_read 1) (r : Rt E z (some .int) post) {M : MM} (h : VX9_read_70 E l D post M) : Aj E l z 70 [(0, vr 25)] [] M := by
  unfold VX9_read_70 at h
  refine v_aload_n (i := 0) C dX9_read_70 rfl rfl ?_
  refine v_callV (q := qX9_peek) (k := 25) (As := []) (S := []) C co_yX9_peek ml_RX9_41 im_yX9_peek se_yX9_peek ini_RX9 rfl rfl hq_X9_peek (by decide) (Nat.le_of_ble_eq_true rfl) rfl dX9_read_71 (Con.mono h (fun rr M1 hr => ?_) (Nat.le_refl _))
  obtain ⟨y2, rfl, g3⟩ := hr
  show Aj E l z (71 + 3) [(0, vr 25)] [vi y2] M1
  refine v_if_ge (tgt := 87) C g3.1 dX9_read_74 (by decide) (fun c => ?_) (fun c => ?_)
  · have g4 := g3.2.1 c
    refine v_bipush C dX9_read_87 (by decide) ?_
    refine v_aload_n (i := 0) C dX9_read_89 rfl rfl ?_
    refine v_getf (k := 25) C fl_RX9_28 rfl rfl dX9_read_90 ?_
    show Aj E l z (90 + 3) [(0, vr 25)] [vi (M1 25 2), vi (-20)] M1
    refine v_isub C dX9_read_93 ?_
    exact v_sub [] rfl (SX9_read_94 C r g4)
  · have g5 := g3.2.2 c
    refine v_aload_n (i := 0) C dX9_read_77 rfl rfl ?_
    refine v_getf (k := 25) C fl_RX9_31 rfl rfl dX9_read_78 ?_
    show Aj E l z (78 + 3) [(0, vr 25)] [vi (M1 25 4)] M1
    refine v_callS (q := qJ6_bitCount_0f7a4) (As := [vi (M1 25 4)]) (S := []) C co_yJ6_bitCount_0f7a4 ml_RX9_48 st_yJ6_bitCount_0f7a4 ini_RJ6 hq_J6_bitCount_0f7a4 (by decide) (Nat.le_of_ble_eq_true rfl) rfl dX9_read_81 (Con.mono g5 (fun rr M6 hr => ?_) (Nat.le_refl _))
    obtain ⟨y7, rfl, g8⟩ := hr
    show Aj E l z (81 + 3) [(0, vr 25)] [vi y7] M6
    refine v_goto C dX9_read_84 (tgt := 94) (by decide) ?_
    exact v_sub [] rfl (SX9_read_94 C r g8)
def VX9_read_46 (E : FX) (l : Launch) (D : Nat) (post : Option AV → MM → Prop) (M : MM) : Prop :=
  Con E l D qX9_peek [vr 25] M (fun r M9 => ∃ y10 : Int, r = some (vi y10) ∧ (R32 y10 ∧ ((¬ y10 = 116 → Con E l D qX9_peek [vr 25] M9 (fun r M14 => ∃ y15 : Int, r = some (vi y15) ∧ (R32 y15 ∧ ((0 ≤ y15 → VX9_read_94 E l D post M14 ((-20) - (M14 25 2))) ∧ (¬ 0 ≤ y15 → Con E l D qJ6_bitCount_0f7a4 [vi (M14 25 4)] M14 (fun r M19 => ∃ y20 : Int, r = some (vi y20) ∧ (VX9_read_94 E l D post M19 y20))))))) ∧ (y10 = 116 → ∀ M22 : MM, M22 = up M9 25 5 1 → (∀ M24 : MM, M24 = up M22 25 2 ((M22 25 2) + 1) → (VX9_read_70 E l D post M24 ))))))
set_option maxRecDepth 20000 in
theorem SX9_read_46 {E : FX} {l : Launch} {D : Nat} {post : Option AV → MM → Prop} {z : RT} (C : Cx E z D RX9 cX9_read 1) (r : Rt E z (some .int) post) {M : MM} (h : VX9_read_46 E l D post M) : Aj E l z 46 [(0, vr 25)] [] M := by
  unfold VX9_read_46 at h
  refine v_aload_n (i := 0) C dX9_read_46 rfl rfl ?_
  refine v_callV (q := qX9_peek) (k := 25) (As := []) (S := []) C co_yX9_peek ml_RX9_41 im_yX9_peek se_yX9_peek ini_RX9 rfl rfl hq_X9_peek (by decide) (Nat.le_of_ble_eq_true rfl) rfl dX9_read_47 (Con.mono h (fun rr M9 hr => ?_) (Nat.le_refl _))
  obtain ⟨y10, rfl, g11⟩ := hr
  show Aj E l z (47 + 3) [(0, vr 25)] [vi y10] M9
  refine v_bipush C dX9_read_50 (by decide) ?_
  refine v_icmp_ne (tgt := 70) C g11.1 (by decide) dX9_read_52 (by decide) (fun c => ?_) (fun c => ?_)
  · have g12 := g11.2.1 c
    refine v_aload_n (i := 0) C dX9_read_70 rfl rfl ?_
    refine v_callV (q := qX9_peek) (k := 25) (As := []) (S := []) C co_yX9_peek ml_RX9_41 im_yX9_peek se_yX9_peek ini_RX9 rfl rfl hq_X9_peek (by decide) (Nat.le_of_ble_eq_true rfl) rfl dX9_read_71 (Con.mono g12 (fun rr M14 hr => ?_) (Nat.le_refl _))
    obtain ⟨y15, rfl, g16⟩ := hr
    show Aj E l z (71 + 3) [(0, vr 25)] [vi y15] M14
    refine v_if_ge (tgt := 87) C g16.1 dX9_read_74 (by decide) (fun c => ?_) (fun c => ?_)
    · have g17 := g16.2.1 c
      refine v_bipush C dX9_read_87 (by decide) ?_
      refine v_aload_n (i := 0) C dX9_read_89 rfl rfl ?_
      refine v_getf (k := 25) C fl_RX9_28 rfl rfl dX9_read_90 ?_
      show Aj E l z (90 + 3) [(0, vr 25)] [vi (M14 25 2), vi (-20)] M14
      refine v_isub C dX9_read_93 ?_
      exact v_sub [] rfl (SX9_read_94 C r g17)
    · have g18 := g16.2.2 c
      refine v_aload_n (i := 0) C dX9_read_77 rfl rfl ?_
      refine v_getf (k := 25) C fl_RX9_31 rfl rfl dX9_read_78 ?_
      show Aj E l z (78 + 3) [(0, vr 25)] [vi (M14 25 4)] M14
      refine v_callS (q := qJ6_bitCount_0f7a4) (As := [vi (M14 25 4)]) (S := []) C co_yJ6_bitCount_0f7a4 ml_RX9_48 st_yJ6_bitCount_0f7a4 ini_RJ6 hq_J6_bitCount_0f7a4 (by decide) (Nat.le_of_ble_eq_true rfl) rfl dX9_read_81 (Con.mono g18 (fun rr M19 hr => ?_) (Nat.le_refl _))
      obtain ⟨y20, rfl, g21⟩ := hr
      show Aj E l z (81 + 3) [(0, vr 25)] [vi y20] M19
      refine v_goto C dX9_read_84 (tgt := 94) (by decide) ?_
      exact v_sub [] rfl (SX9_read_94 C r g21)
  · have g13 := g11.2.2 c
    refine v_aload_n (i := 0) C dX9_read_55 rfl rfl ?_
    refine v_iconst C dX9_read_56 ?_
    refine v_putf (k := 25) (x := 1) (t := 0) C fp_RX9_34 rfl rfl (by decide) (by simp [fv, up]) rfl rfl dX9_read_57 ?_
    obtain ⟨M22, hM22⟩ : ∃ X : MM, X = up M9 25 5 1 := ⟨_, rfl⟩
    refine v_eqM hM22 ?_
    have g23 := g13 M22 hM22
    refine v_aload_n (i := 0) C dX9_read_60 rfl rfl ?_
    refine v_dup C rfl dX9_read_61 ?_
    refine v_getf (k := 25) C fl_RX9_28 rfl rfl dX9_read_62 ?_
    show Aj E l z (62 + 3) [(0, vr 25)] [vi (M22 25 2), vr 25] M22
    refine v_iconst C dX9_read_65 ?_
    refine v_iadd C dX9_read_66 ?_
    refine v_putf (k := 25) (x := (M22 25 2) + 1) (t := 0) C fp_RX9_28 rfl rfl (by decide) (by simp [fv, up]) rfl rfl dX9_read_67 ?_
    obtain ⟨M24, hM24⟩ : ∃ X : MM, X = up M22 25 2 ((M22 25 2) + 1) := ⟨_, rfl⟩
    refine v_eqM hM24 ?_
    have g25 := g23 M24 hM24
    exact v_sub [0] rfl (SX9_read_70 C r g25)
def VX9_read_0 (E : FX) (l : Launch) (D : Nat) (post : Option AV → MM → Prop) (M : MM) : Prop :=
  ∀ M26 : MM, M26 = up M 25 2 0 → (∀ M28 : MM, M28 = up M26 25 4 3 → (∀ M30 : MM, M30 = up M28 25 5 0 → (Con E l D qX9_readMeasures [vr 25] M30 (fun r M32 => ∃ y33 : Int, r = some (vi y33) ∧ (R32 y33 ∧ ((y33 = 0 → post (some (vi ((-20) - (M32 25 2)))) M32) ∧ (¬ y33 = 0 → Con E l D qX9_peek [vr 25] M32 (fun r M37 => ∃ y38 : Int, r = some (vi y38) ∧ (R32 y38 ∧ ((¬ y38 = 59 → Con E l D qX9_peek [vr 25] M37 (fun r M42 => ∃ y43 : Int, r = some (vi y43) ∧ (R32 y43 ∧ ((¬ y43 = 116 → Con E l D qX9_peek [vr 25] M42 (fun r M47 => ∃ y48 : Int, r = some (vi y48) ∧ (R32 y48 ∧ ((0 ≤ y48 → VX9_read_94 E l D post M47 ((-20) - (M47 25 2))) ∧ (¬ 0 ≤ y48 → Con E l D qJ6_bitCount_0f7a4 [vi (M47 25 4)] M47 (fun r M52 => ∃ y53 : Int, r = some (vi y53) ∧ (VX9_read_94 E l D post M52 y53))))))) ∧ (y43 = 116 → ∀ M55 : MM, M55 = up M42 25 5 1 → (∀ M57 : MM, M57 = up M55 25 2 ((M55 25 2) + 1) → (VX9_read_70 E l D post M57 ))))))) ∧ (y38 = 59 → Con E l D qX9_readCounting [vr 25] M37 (fun r M59 => ∃ y60 : Int, r = some (vi y60) ∧ (R32 y60 ∧ ((¬ y60 = 0 → Con E l D qX9_peek [vr 25] M59 (fun r M64 => ∃ y65 : Int, r = some (vi y65) ∧ (R32 y65 ∧ ((¬ y65 = 116 → Con E l D qX9_peek [vr 25] M64 (fun r M69 => ∃ y70 : Int, r = some (vi y70) ∧ (R32 y70 ∧ ((0 ≤ y70 → VX9_read_94 E l D post M69 ((-20) - (M69 25 2))) ∧ (¬ 0 ≤ y70 → Con E l D qJ6_bitCount_0f7a4 [vi (M69 25 4)] M69 (fun r M74 => ∃ y75 : Int, r = some (vi y75) ∧ (VX9_read_94 E l D post M74 y75))))))) ∧ (y65 = 116 → ∀ M77 : MM, M77 = up M64 25 5 1 → (∀ M79 : MM, M79 = up M77 25 2 ((M77 25 2) + 1) → (VX9_read_70 E l D post M79 ))))))) ∧ (y60 = 0 → post (some (vi ((-20) - (M59 25 2)))) M59)))))))))))))))
set_option maxRecDepth 20000 in
theorem SX9_read_0 {E : FX} {l : Launch} {D : Nat} {post : Option AV → MM → Prop} {z : RT} (C : Cx E z D RX9 cX9_read 1) (r : Rt E z (some .int) post) {M : MM} (h : VX9_read_0 E l D post M) : Aj E l z 0 [(0, vr 25)] [] M := by
  unfold VX9_read_0 at h
  refine v_aload_n (i := 0) C dX9_read_0 rfl rfl ?_
  refine v_iconst C dX9_read_1 ?_
  refine v_putf (k := 25) (x := 0) (t := 0) C fp_RX9_28 rfl rfl (by decide) (by simp [fv, up]) rfl rfl dX9_read_2 ?_
  obtain ⟨M26, hM26⟩ : ∃ X : MM, X = up M 25 2 0 := ⟨_, rfl⟩
  refine v_eqM hM26 ?_
  have g27 := h M26 hM26
  refine v_aload_n (i := 0) C dX9_read_5 rfl rfl ?_
  refine v_iconst C dX9_read_6 ?_
  refine v_putf (k := 25) (x := 3) (t := 0) C fp_RX9_31 rfl rfl (by decide) (by simp [fv, up]) rfl rfl dX9_read_7 ?_
  obtain ⟨M28, hM28⟩ : ∃ X : MM, X = up M26 25 4 3 := ⟨_, rfl⟩
  refine v_eqM hM28 ?_
  have g29 := g27 M28 hM28
  refine v_aload_n (i := 0) C dX9_read_10 rfl rfl ?_
  refine v_iconst C dX9_read_11 ?_
  refine v_putf (k := 25) (x := 0) (t := 0) C fp_RX9_34 rfl rfl (by decide) (by simp [fv, up]) rfl rfl dX9_read_12 ?_
  obtain ⟨M30, hM30⟩ : ∃ X : MM, X = up M28 25 5 0 := ⟨_, rfl⟩
  refine v_eqM hM30 ?_
  have g31 := g29 M30 hM30
  refine v_aload_n (i := 0) C dX9_read_15 rfl rfl ?_
  refine v_callV (q := qX9_readMeasures) (k := 25) (As := []) (S := []) C co_yX9_readMeasures ml_RX9_37 im_yX9_readMeasures se_yX9_readMeasures ini_RX9 rfl rfl hq_X9_readMeasures (by decide) (Nat.le_of_ble_eq_true rfl) rfl dX9_read_16 (Con.mono g31 (fun rr M32 hr => ?_) (Nat.le_refl _))
  obtain ⟨y33, rfl, g34⟩ := hr
  show Aj E l z (16 + 3) [(0, vr 25)] [vi y33] M32
  refine v_if_eq (tgt := 38) C g34.1 dX9_read_19 (by decide) (fun c => ?_) (fun c => ?_)
  · have g35 := g34.2.1 c
    refine v_bipush C dX9_read_38 (by decide) ?_
    refine v_aload_n (i := 0) C dX9_read_40 rfl rfl ?_
    refine v_getf (k := 25) C fl_RX9_28 rfl rfl dX9_read_41 ?_
    show Aj E l z (41 + 3) [(0, vr 25)] [vi (M32 25 2), vi (-20)] M32
    refine v_isub C dX9_read_44 ?_
    exact v_iret C r dX9_read_45 g35
  · have g36 := g34.2.2 c
    refine v_aload_n (i := 0) C dX9_read_22 rfl rfl ?_
    refine v_callV (q := qX9_peek) (k := 25) (As := []) (S := []) C co_yX9_peek ml_RX9_41 im_yX9_peek se_yX9_peek ini_RX9 rfl rfl hq_X9_peek (by decide) (Nat.le_of_ble_eq_true rfl) rfl dX9_read_23 (Con.mono g36 (fun rr M37 hr => ?_) (Nat.le_refl _))
    obtain ⟨y38, rfl, g39⟩ := hr
    show Aj E l z (23 + 3) [(0, vr 25)] [vi y38] M37
    refine v_bipush C dX9_read_26 (by decide) ?_
    refine v_icmp_ne (tgt := 46) C g39.1 (by decide) dX9_read_28 (by decide) (fun c => ?_) (fun c => ?_)
    · have g40 := g39.2.1 c
      refine v_aload_n (i := 0) C dX9_read_46 rfl rfl ?_
      refine v_callV (q := qX9_peek) (k := 25) (As := []) (S := []) C co_yX9_peek ml_RX9_41 im_yX9_peek se_yX9_peek ini_RX9 rfl rfl hq_X9_peek (by decide) (Nat.le_of_ble_eq_true rfl) rfl dX9_read_47 (Con.mono g40 (fun rr M42 hr => ?_) (Nat.le_refl _))
      obtain ⟨y43, rfl, g44⟩ := hr
      show Aj E l z (47 + 3) [(0, vr 25)] [vi y43] M42
      refine v_bipush C dX9_read_50 (by decide) ?_
      refine v_icmp_ne (tgt := 70) C g44.1 (by decide) dX9_read_52 (by decide) (fun c => ?_) (fun c => ?_)
      · have g45 := g44.2.1 c
        refine v_aload_n (i := 0) C dX9_read_70 rfl rfl ?_
        refine v_callV (q := qX9_peek) (k := 25) (As := []) (S := []) C co_yX9_peek ml_RX9_41 im_yX9_peek se_yX9_peek ini_RX9 rfl rfl hq_X9_peek (by decide) (Nat.le_of_ble_eq_true rfl) rfl dX9_read_71 (Con.mono g45 (fun rr M47 hr => ?_) (Nat.le_refl _))
        obtain ⟨y48, rfl, g49⟩ := hr
        show Aj E l z (71 + 3) [(0, vr 25)] [vi y48] M47
        refine v_if_ge (tgt := 87) C g49.1 dX9_read_74 (by decide) (fun c => ?_) (fun c => ?_)
        · have g50 := g49.2.1 c
          refine v_bipush C dX9_read_87 (by decide) ?_
          refine v_aload_n (i := 0) C dX9_read_89 rfl rfl ?_
          refine v_getf (k := 25) C fl_RX9_28 rfl rfl dX9_read_90 ?_
          show Aj E l z (90 + 3) [(0, vr 25)] [vi (M47 25 2), vi (-20)] M47
          refine v_isub C dX9_read_93 ?_
          exact v_sub [] rfl (SX9_read_94 C r g50)
        · have g51 := g49.2.2 c
          refine v_aload_n (i := 0) C dX9_read_77 rfl rfl ?_
          refine v_getf (k := 25) C fl_RX9_31 rfl rfl dX9_read_78 ?_
          show Aj E l z (78 + 3) [(0, vr 25)] [vi (M47 25 4)] M47
          refine v_callS (q := qJ6_bitCount_0f7a4) (As := [vi (M47 25 4)]) (S := []) C co_yJ6_bitCount_0f7a4 ml_RX9_48 st_yJ6_bitCount_0f7a4 ini_RJ6 hq_J6_bitCount_0f7a4 (by decide) (Nat.le_of_ble_eq_true rfl) rfl dX9_read_81 (Con.mono g51 (fun rr M52 hr => ?_) (Nat.le_refl _))
          obtain ⟨y53, rfl, g54⟩ := hr
          show Aj E l z (81 + 3) [(0, vr 25)] [vi y53] M52
          refine v_goto C dX9_read_84 (tgt := 94) (by decide) ?_
          exact v_sub [] rfl (SX9_read_94 C r g54)
      · have g46 := g44.2.2 c
        refine v_aload_n (i := 0) C dX9_read_55 rfl rfl ?_
        refine v_iconst C dX9_read_56 ?_
        refine v_putf (k := 25) (x := 1) (t := 0) C fp_RX9_34 rfl rfl (by decide) (by simp [fv, up]) rfl rfl dX9_read_57 ?_
        obtain ⟨M55, hM55⟩ : ∃ X : MM, X = up M42 25 5 1 := ⟨_, rfl⟩
        refine v_eqM hM55 ?_
        have g56 := g46 M55 hM55
        refine v_aload_n (i := 0) C dX9_read_60 rfl rfl ?_
        refine v_dup C rfl dX9_read_61 ?_
        refine v_getf (k := 25) C fl_RX9_28 rfl rfl dX9_read_62 ?_
        show Aj E l z (62 + 3) [(0, vr 25)] [vi (M55 25 2), vr 25] M55
        refine v_iconst C dX9_read_65 ?_
        refine v_iadd C dX9_read_66 ?_
        refine v_putf (k := 25) (x := (M55 25 2) + 1) (t := 0) C fp_RX9_28 rfl rfl (by decide) (by simp [fv, up]) rfl rfl dX9_read_67 ?_
        obtain ⟨M57, hM57⟩ : ∃ X : MM, X = up M55 25 2 ((M55 25 2) + 1) := ⟨_, rfl⟩
        refine v_eqM hM57 ?_
        have g58 := g56 M57 hM57
        exact v_sub [0] rfl (SX9_read_70 C r g58)
    · have g41 := g39.2.2 c
      refine v_aload_n (i := 0) C dX9_read_31 rfl rfl ?_
      refine v_callV (q := qX9_readCounting) (k := 25) (As := []) (S := []) C co_yX9_readCounting ml_RX9_45 im_yX9_readCounting se_yX9_readCounting ini_RX9 rfl rfl hq_X9_readCounting (by decide) (Nat.le_of_ble_eq_true rfl) rfl dX9_read_32 (Con.mono g41 (fun rr M59 hr => ?_) (Nat.le_refl _))
      obtain ⟨y60, rfl, g61⟩ := hr
      show Aj E l z (32 + 3) [(0, vr 25)] [vi y60] M59
      refine v_if_ne (tgt := 46) C g61.1 dX9_read_35 (by decide) (fun c => ?_) (fun c => ?_)
      · have g62 := g61.2.1 c
        refine v_aload_n (i := 0) C dX9_read_46 rfl rfl ?_
        refine v_callV (q := qX9_peek) (k := 25) (As := []) (S := []) C co_yX9_peek ml_RX9_41 im_yX9_peek se_yX9_peek ini_RX9 rfl rfl hq_X9_peek (by decide) (Nat.le_of_ble_eq_true rfl) rfl dX9_read_47 (Con.mono g62 (fun rr M64 hr => ?_) (Nat.le_refl _))
        obtain ⟨y65, rfl, g66⟩ := hr
        show Aj E l z (47 + 3) [(0, vr 25)] [vi y65] M64
        refine v_bipush C dX9_read_50 (by decide) ?_
        refine v_icmp_ne (tgt := 70) C g66.1 (by decide) dX9_read_52 (by decide) (fun c => ?_) (fun c => ?_)
        · have g67 := g66.2.1 c
          refine v_aload_n (i := 0) C dX9_read_70 rfl rfl ?_
          refine v_callV (q := qX9_peek) (k := 25) (As := []) (S := []) C co_yX9_peek ml_RX9_41 im_yX9_peek se_yX9_peek ini_RX9 rfl rfl hq_X9_peek (by decide) (Nat.le_of_ble_eq_true rfl) rfl dX9_read_71 (Con.mono g67 (fun rr M69 hr => ?_) (Nat.le_refl _))
          obtain ⟨y70, rfl, g71⟩ := hr
          show Aj E l z (71 + 3) [(0, vr 25)] [vi y70] M69
          refine v_if_ge (tgt := 87) C g71.1 dX9_read_74 (by decide) (fun c => ?_) (fun c => ?_)
          · have g72 := g71.2.1 c
            refine v_bipush C dX9_read_87 (by decide) ?_
            refine v_aload_n (i := 0) C dX9_read_89 rfl rfl ?_
            refine v_getf (k := 25) C fl_RX9_28 rfl rfl dX9_read_90 ?_
            show Aj E l z (90 + 3) [(0, vr 25)] [vi (M69 25 2), vi (-20)] M69
            refine v_isub C dX9_read_93 ?_
            exact v_sub [] rfl (SX9_read_94 C r g72)
          · have g73 := g71.2.2 c
            refine v_aload_n (i := 0) C dX9_read_77 rfl rfl ?_
            refine v_getf (k := 25) C fl_RX9_31 rfl rfl dX9_read_78 ?_
            show Aj E l z (78 + 3) [(0, vr 25)] [vi (M69 25 4)] M69
            refine v_callS (q := qJ6_bitCount_0f7a4) (As := [vi (M69 25 4)]) (S := []) C co_yJ6_bitCount_0f7a4 ml_RX9_48 st_yJ6_bitCount_0f7a4 ini_RJ6 hq_J6_bitCount_0f7a4 (by decide) (Nat.le_of_ble_eq_true rfl) rfl dX9_read_81 (Con.mono g73 (fun rr M74 hr => ?_) (Nat.le_refl _))
            obtain ⟨y75, rfl, g76⟩ := hr
            show Aj E l z (81 + 3) [(0, vr 25)] [vi y75] M74
            refine v_goto C dX9_read_84 (tgt := 94) (by decide) ?_
            exact v_sub [] rfl (SX9_read_94 C r g76)
        · have g68 := g66.2.2 c
          refine v_aload_n (i := 0) C dX9_read_55 rfl rfl ?_
          refine v_iconst C dX9_read_56 ?_
          refine v_putf (k := 25) (x := 1) (t := 0) C fp_RX9_34 rfl rfl (by decide) (by simp [fv, up]) rfl rfl dX9_read_57 ?_
          obtain ⟨M77, hM77⟩ : ∃ X : MM, X = up M64 25 5 1 := ⟨_, rfl⟩
          refine v_eqM hM77 ?_
          have g78 := g68 M77 hM77
          refine v_aload_n (i := 0) C dX9_read_60 rfl rfl ?_
          refine v_dup C rfl dX9_read_61 ?_
          refine v_getf (k := 25) C fl_RX9_28 rfl rfl dX9_read_62 ?_
          show Aj E l z (62 + 3) [(0, vr 25)] [vi (M77 25 2), vr 25] M77
          refine v_iconst C dX9_read_65 ?_
          refine v_iadd C dX9_read_66 ?_
          refine v_putf (k := 25) (x := (M77 25 2) + 1) (t := 0) C fp_RX9_28 rfl rfl (by decide) (by simp [fv, up]) rfl rfl dX9_read_67 ?_
          obtain ⟨M79, hM79⟩ : ∃ X : MM, X = up M77 25 2 ((M77 25 2) + 1) := ⟨_, rfl⟩
          refine v_eqM hM79 ?_
          have g80 := g78 M79 hM79
          exact v_sub [0] rfl (SX9_read_70 C r g80)
      · have g63 := g61.2.2 c
        refine v_bipush C dX9_read_38 (by decide) ?_
        refine v_aload_n (i := 0) C dX9_read_40 rfl rfl ?_
        refine v_getf (k := 25) C fl_RX9_28 rfl rfl dX9_read_41 ?_
        show Aj E l z (41 + 3) [(0, vr 25)] [vi (M59 25 2), vi (-20)] M59
        refine v_isub C dX9_read_44 ?_
        exact v_iret C r dX9_read_45 g63
theorem RX9_read {E : FX} {l : Launch} {D : Nat} {post : Option AV → MM → Prop} {M : MM} (h0 : VX9_read_0 E l D post M) : Con E l (D + 1) qX9_read [vr 25] M post := by
  refine con_of (by decide +kernel) (Nat.le_of_ble_eq_true rfl) (fun z C r => ?_)
  exact v_sub [0] rfl (SX9_read_0 C r h0)
def VX9_peek_66 (E : FX) (l : Launch) (D : Nat) (post : Option AV → MM → Prop) (J0 : MM → Prop) (M : MM) (s0 : Int) : Prop :=
  post (some (vi s0)) M
set_option maxRecDepth 20000 in
theorem SX9_peek_66 {E : FX} {l : Launch} {D : Nat} {post : Option AV → MM → Prop} {z : RT} {J0 : MM → Prop} (C : Cx E z D RX9 cX9_peek 1) (r : Rt E z (some .int) post) (hJ0 : ∀ (M : MM), J0 M → Aj E l z 0 [(0, vr 25)] [] M) {M : MM} {s0 : Int} (h : VX9_peek_66 E l D post J0 M s0) : Aj E l z 66 [] [vi s0] M := by
  unfold VX9_peek_66 at h
  exact v_iret C r dX9_peek_66 h
def VX9_peek_40 (E : FX) (l : Launch) (D : Nat) (post : Option AV → MM → Prop) (J0 : MM → Prop) (M : MM) : Prop :=
  R32 (M 25 2) ∧ (R32 (M 25 1) ∧ ((M 25 1 ≤ M 25 2 → VX9_peek_66 E l D post J0 M (-1)) ∧ (¬ M 25 1 ≤ M 25 2 → Con E l D qX7_at [vr 26, vi (M 25 2)] M (fun r M3 => ∃ y4 : Int, r = some (vi y4) ∧ (VX9_peek_66 E l D post J0 M3 y4)))))
set_option maxRecDepth 20000 in
theorem SX9_peek_40 {E : FX} {l : Launch} {D : Nat} {post : Option AV → MM → Prop} {z : RT} {J0 : MM → Prop} (C : Cx E z D RX9 cX9_peek 1) (r : Rt E z (some .int) post) (hJ0 : ∀ (M : MM), J0 M → Aj E l z 0 [(0, vr 25)] [] M) {M : MM} (h : VX9_peek_40 E l D post J0 M) : Aj E l z 40 [(0, vr 25)] [] M := by
  unfold VX9_peek_40 at h
  refine v_aload_n (i := 0) C dX9_peek_40 rfl rfl ?_
  refine v_getf (k := 25) C fl_RX9_28 rfl rfl dX9_peek_41 ?_
  show Aj E l z (41 + 3) [(0, vr 25)] [vi (M 25 2)] M
  refine v_aload_n (i := 0) C dX9_peek_44 rfl rfl ?_
  refine v_getf (k := 25) C fl_RX9_18 rfl rfl dX9_peek_45 ?_
  show Aj E l z (45 + 3) [(0, vr 25)] [vi (M 25 1), vi (M 25 2)] M
  refine v_icmp_ge (tgt := 65) C h.1 h.2.1 dX9_peek_48 (by decide) (fun c => ?_) (fun c => ?_)
  · have g1 := h.2.2.1 c
    refine v_iconst C dX9_peek_65 ?_
    exact v_sub [] rfl (SX9_peek_66 C r hJ0 g1)
  · have g2 := h.2.2.2 c
    refine v_aload_n (i := 0) C dX9_peek_51 rfl rfl ?_
    refine v_getf (k := 25) C fl_RX9_9 rfl rfl dX9_peek_52 ?_
    show Aj E l z (52 + 3) [(0, vr 25)] [vr 26] M
    refine v_aload_n (i := 0) C dX9_peek_55 rfl rfl ?_
    refine v_getf (k := 25) C fl_RX9_28 rfl rfl dX9_peek_56 ?_
    show Aj E l z (56 + 3) [(0, vr 25)] [vi (M 25 2), vr 26] M
    refine v_callS (q := qX7_at) (As := [vr 26, vi (M 25 2)]) (S := []) C co_yX7_at ml_RX9_54 st_yX7_at ini_RX7 hq_X7_at (by decide) (Nat.le_of_ble_eq_true rfl) rfl dX9_peek_59 (Con.mono g2 (fun rr M3 hr => ?_) (Nat.le_refl _))
    obtain ⟨y4, rfl, g5⟩ := hr
    show Aj E l z (59 + 3) [(0, vr 25)] [vi y4] M3
    refine v_goto C dX9_peek_62 (tgt := 66) (by decide) ?_
    exact v_sub [] rfl (SX9_peek_66 C r hJ0 g5)
def VX9_peek_0 (E : FX) (l : Launch) (D : Nat) (post : Option AV → MM → Prop) (J0 : MM → Prop) (M : MM) : Prop :=
  R32 (M 25 2) ∧ (R32 (M 25 1) ∧ ((M 25 1 ≤ M 25 2 → R32 (M 25 2) ∧ (R32 (M 25 1) ∧ ((M 25 1 ≤ M 25 2 → VX9_peek_66 E l D post J0 M (-1)) ∧ (¬ M 25 1 ≤ M 25 2 → Con E l D qX7_at [vr 26, vi (M 25 2)] M (fun r M10 => ∃ y11 : Int, r = some (vi y11) ∧ (VX9_peek_66 E l D post J0 M10 y11)))))) ∧ (¬ M 25 1 ≤ M 25 2 → Con E l D qX7_at [vr 26, vi (M 25 2)] M (fun r M13 => ∃ y14 : Int, r = some (vi y14) ∧ (R32 y14 ∧ ((¬ y14 = 32 → R32 (M13 25 2) ∧ (R32 (M13 25 1) ∧ ((M13 25 1 ≤ M13 25 2 → VX9_peek_66 E l D post J0 M13 (-1)) ∧ (¬ M13 25 1 ≤ M13 25 2 → Con E l D qX7_at [vr 26, vi (M13 25 2)] M13 (fun r M20 => ∃ y21 : Int, r = some (vi y21) ∧ (VX9_peek_66 E l D post J0 M20 y21)))))) ∧ (y14 = 32 → ∀ M23 : MM, M23 = up M13 25 2 ((M13 25 2) + 1) → (J0 M23 ))))))))
set_option maxRecDepth 20000 in
theorem SX9_peek_0 {E : FX} {l : Launch} {D : Nat} {post : Option AV → MM → Prop} {z : RT} {J0 : MM → Prop} (C : Cx E z D RX9 cX9_peek 1) (r : Rt E z (some .int) post) (hJ0 : ∀ (M : MM), J0 M → Aj E l z 0 [(0, vr 25)] [] M) {M : MM} (h : VX9_peek_0 E l D post J0 M) : Aj E l z 0 [(0, vr 25)] [] M := by
  unfold VX9_peek_0 at h
  refine v_aload_n (i := 0) C dX9_peek_0 rfl rfl ?_
  refine v_getf (k := 25) C fl_RX9_28 rfl rfl dX9_peek_1 ?_
  show Aj E l z (1 + 3) [(0, vr 25)] [vi (M 25 2)] M
  refine v_aload_n (i := 0) C dX9_peek_4 rfl rfl ?_
  refine v_getf (k := 25) C fl_RX9_18 rfl rfl dX9_peek_5 ?_
  show Aj E l z (5 + 3) [(0, vr 25)] [vi (M 25 1), vi (M 25 2)] M
  refine v_icmp_ge (tgt := 40) C h.1 h.2.1 dX9_peek_8 (by decide) (fun c => ?_) (fun c => ?_)
  · have g6 := h.2.2.1 c
    refine v_aload_n (i := 0) C dX9_peek_40 rfl rfl ?_
    refine v_getf (k := 25) C fl_RX9_28 rfl rfl dX9_peek_41 ?_
    show Aj E l z (41 + 3) [(0, vr 25)] [vi (M 25 2)] M
    refine v_aload_n (i := 0) C dX9_peek_44 rfl rfl ?_
    refine v_getf (k := 25) C fl_RX9_18 rfl rfl dX9_peek_45 ?_
    show Aj E l z (45 + 3) [(0, vr 25)] [vi (M 25 1), vi (M 25 2)] M
    refine v_icmp_ge (tgt := 65) C g6.1 g6.2.1 dX9_peek_48 (by decide) (fun c => ?_) (fun c => ?_)
    · have g8 := g6.2.2.1 c
      refine v_iconst C dX9_peek_65 ?_
      exact v_sub [] rfl (SX9_peek_66 C r hJ0 g8)
    · have g9 := g6.2.2.2 c
      refine v_aload_n (i := 0) C dX9_peek_51 rfl rfl ?_
      refine v_getf (k := 25) C fl_RX9_9 rfl rfl dX9_peek_52 ?_
      show Aj E l z (52 + 3) [(0, vr 25)] [vr 26] M
      refine v_aload_n (i := 0) C dX9_peek_55 rfl rfl ?_
      refine v_getf (k := 25) C fl_RX9_28 rfl rfl dX9_peek_56 ?_
      show Aj E l z (56 + 3) [(0, vr 25)] [vi (M 25 2), vr 26] M
      refine v_callS (q := qX7_at) (As := [vr 26, vi (M 25 2)]) (S := []) C co_yX7_at ml_RX9_54 st_yX7_at ini_RX7 hq_X7_at (by decide) (Nat.le_of_ble_eq_true rfl) rfl dX9_peek_59 (Con.mono g9 (fun rr M10 hr => ?_) (Nat.le_refl _))
      obtain ⟨y11, rfl, g12⟩ := hr
      show Aj E l z (59 + 3) [(0, vr 25)] [vi y11] M10
      refine v_goto C dX9_peek_62 (tgt := 66) (by decide) ?_
      exact v_sub [] rfl (SX9_peek_66 C r hJ0 g12)
  · have g7 := h.2.2.2 c
    refine v_aload_n (i := 0) C dX9_peek_11 rfl rfl ?_
    refine v_getf (k := 25) C fl_RX9_9 rfl rfl dX9_peek_12 ?_
    show Aj E l z (12 + 3) [(0, vr 25)] [vr 26] M
    refine v_aload_n (i := 0) C dX9_peek_15 rfl rfl ?_
    refine v_getf (k := 25) C fl_RX9_28 rfl rfl dX9_peek_16 ?_
    show Aj E l z (16 + 3) [(0, vr 25)] [vi (M 25 2), vr 26] M
    refine v_callS (q := qX7_at) (As := [vr 26, vi (M 25 2)]) (S := []) C co_yX7_at ml_RX9_54 st_yX7_at ini_RX7 hq_X7_at (by decide) (Nat.le_of_ble_eq_true rfl) rfl dX9_peek_19 (Con.mono g7 (fun rr M13 hr => ?_) (Nat.le_refl _))
    obtain ⟨y14, rfl, g15⟩ := hr
    show Aj E l z (19 + 3) [(0, vr 25)] [vi y14] M13
    refine v_bipush C dX9_peek_22 (by decide) ?_
    refine v_icmp_ne (tgt := 40) C g15.1 (by decide) dX9_peek_24 (by decide) (fun c => ?_) (fun c => ?_)
    · have g16 := g15.2.1 c
      refine v_aload_n (i := 0) C dX9_peek_40 rfl rfl ?_
      refine v_getf (k := 25) C fl_RX9_28 rfl rfl dX9_peek_41 ?_
      show Aj E l z (41 + 3) [(0, vr 25)] [vi (M13 25 2)] M13
      refine v_aload_n (i := 0) C dX9_peek_44 rfl rfl ?_
      refine v_getf (k := 25) C fl_RX9_18 rfl rfl dX9_peek_45 ?_
      show Aj E l z (45 + 3) [(0, vr 25)] [vi (M13 25 1), vi (M13 25 2)] M13
      refine v_icmp_ge (tgt := 65) C g16.1 g16.2.1 dX9_peek_48 (by decide) (fun c => ?_) (fun c => ?_)
      · have g18 := g16.2.2.1 c
        refine v_iconst C dX9_peek_65 ?_
        exact v_sub [] rfl (SX9_peek_66 C r hJ0 g18)
      · have g19 := g16.2.2.2 c
        refine v_aload_n (i := 0) C dX9_peek_51 rfl rfl ?_
        refine v_getf (k := 25) C fl_RX9_9 rfl rfl dX9_peek_52 ?_
        show Aj E l z (52 + 3) [(0, vr 25)] [vr 26] M13
        refine v_aload_n (i := 0) C dX9_peek_55 rfl rfl ?_
        refine v_getf (k := 25) C fl_RX9_28 rfl rfl dX9_peek_56 ?_
        show Aj E l z (56 + 3) [(0, vr 25)] [vi (M13 25 2), vr 26] M13
        refine v_callS (q := qX7_at) (As := [vr 26, vi (M13 25 2)]) (S := []) C co_yX7_at ml_RX9_54 st_yX7_at ini_RX7 hq_X7_at (by decide) (Nat.le_of_ble_eq_true rfl) rfl dX9_peek_59 (Con.mono g19 (fun rr M20 hr => ?_) (Nat.le_refl _))
        obtain ⟨y21, rfl, g22⟩ := hr
        show Aj E l z (59 + 3) [(0, vr 25)] [vi y21] M20
        refine v_goto C dX9_peek_62 (tgt := 66) (by decide) ?_
        exact v_sub [] rfl (SX9_peek_66 C r hJ0 g22)
    · have g17 := g15.2.2 c
      refine v_aload_n (i := 0) C dX9_peek_27 rfl rfl ?_
      refine v_dup C rfl dX9_peek_28 ?_
      refine v_getf (k := 25) C fl_RX9_28 rfl rfl dX9_peek_29 ?_
      show Aj E l z (29 + 3) [(0, vr 25)] [vi (M13 25 2), vr 25] M13
      refine v_iconst C dX9_peek_32 ?_
      refine v_iadd C dX9_peek_33 ?_
      refine v_putf (k := 25) (x := (M13 25 2) + 1) (t := 0) C fp_RX9_28 rfl rfl (by decide) (by simp [fv, up]) rfl rfl dX9_peek_34 ?_
      obtain ⟨M23, hM23⟩ : ∃ X : MM, X = up M13 25 2 ((M13 25 2) + 1) := ⟨_, rfl⟩
      refine v_eqM hM23 ?_
      have g24 := g17 M23 hM23
      refine v_goto C dX9_peek_37 (tgt := 0) (by decide) ?_
      exact v_sub [0] rfl (hJ0 _ g24)
theorem RX9_peek {E : FX} {l : Launch} {D : Nat} {post : Option AV → MM → Prop} (I0 : MM → Prop) (m0 : MM → Nat) {M : MM} (h0 : I0 M) (h0I : ∀ (M : MM), I0 M → VX9_peek_0 E l D post (fun M' => I0 M' ∧ m0 M' < m0 M) M) : Con E l (D + 1) qX9_peek [vr 25] M post := by
  refine con_of (by decide +kernel) (Nat.le_of_ble_eq_true rfl) (fun z C r => ?_)
  have all : ∀ n : Nat, (∀ (M : MM), I0 M → m0 M < n → Aj E l z 0 [(0, vr 25)] [] M) := by
    intro n
    induction n with
    | zero => exact fun _ _ hm => absurd hm (Nat.not_lt_zero _)
    | succ n ih => exact fun M hi hm => SX9_peek_0 C r (fun M' hj => ih M' hj.1 (by omega)) (h0I M hi)
  exact v_sub [0] rfl ((all _) _ h0 (Nat.lt_succ_self _))
def VX9_readMeasures_0 (E : FX) (l : Launch) (D : Nat) (post : Option AV → MM → Prop) (J2 : MM → Int → Prop) (M : MM) : Prop :=
  J2 M 0
set_option maxRecDepth 20000 in
theorem SX9_readMeasures_0 {E : FX} {l : Launch} {D : Nat} {post : Option AV → MM → Prop} {z : RT} {J2 : MM → Int → Prop} (C : Cx E z D RX9 cX9_readMeasures 3) (r : Rt E z (some .boolean) post) (hJ2 : ∀ (M : MM) (x1 : Int), J2 M x1 → Aj E l z 2 [(0, vr 25), (1, vi x1)] [] M) {M : MM} (h : VX9_readMeasures_0 E l D post J2 M) : Aj E l z 0 [(0, vr 25)] [] M := by
  unfold VX9_readMeasures_0 at h
  refine v_iconst C dX9_readMeasures_0 ?_
  refine v_istore_n (L' := [(1, vi 0), (0, vr 25)]) C dX9_readMeasures_1 rfl (by decide) rfl ?_
  exact v_sub [1, 0] rfl (hJ2 _ _ h)
def VX9_readMeasures_32 (E : FX) (l : Launch) (D : Nat) (post : Option AV → MM → Prop) (J2 : MM → Int → Prop) (M : MM) (x1 : Int) : Prop :=
  Con E l D qX9_readNumber [vr 25] M (fun r M1 => ∃ y2 : Int, r = some (vi y2) ∧ (R32 y2 ∧ ((1 ≤ y2 → Con E l D qX7_put [vr 27, vi x1, vi y2] M1 (fun r M6 => r = none ∧ (∀ y8 : Int, y8 = x1 + 1 → (J2 M6 y8)))) ∧ (¬ 1 ≤ y2 → post (some (vi 0)) M1))))
set_option maxRecDepth 20000 in
theorem SX9_readMeasures_32 {E : FX} {l : Launch} {D : Nat} {post : Option AV → MM → Prop} {z : RT} {J2 : MM → Int → Prop} (C : Cx E z D RX9 cX9_readMeasures 3) (r : Rt E z (some .boolean) post) (hJ2 : ∀ (M : MM) (x1 : Int), J2 M x1 → Aj E l z 2 [(0, vr 25), (1, vi x1)] [] M) {M : MM} {x1 : Int} (h : VX9_readMeasures_32 E l D post J2 M x1) : Aj E l z 32 [(0, vr 25), (1, vi x1)] [] M := by
  unfold VX9_readMeasures_32 at h
  refine v_aload_n (i := 0) C dX9_readMeasures_32 rfl rfl ?_
  refine v_callV (q := qX9_readNumber) (k := 25) (As := []) (S := []) C co_yX9_readNumber ml_RX9_57 im_yX9_readNumber se_yX9_readNumber ini_RX9 rfl rfl hq_X9_readNumber (by decide) (Nat.le_of_ble_eq_true rfl) rfl dX9_readMeasures_33 (Con.mono h (fun rr M1 hr => ?_) (Nat.le_refl _))
  obtain ⟨y2, rfl, g3⟩ := hr
  show Aj E l z (33 + 3) [(0, vr 25), (1, vi x1)] [vi y2] M1
  refine v_istore_n (L' := [(2, vi y2), (0, vr 25), (1, vi x1)]) C dX9_readMeasures_36 rfl (by decide) rfl ?_
  refine v_iload_n (i := 0) C dX9_readMeasures_37 rfl rfl ?_
  refine v_iconst C dX9_readMeasures_38 ?_
  refine v_icmp_ge (tgt := 44) C g3.1 (by decide) dX9_readMeasures_39 (by decide) (fun c => ?_) (fun c => ?_)
  · have g4 := g3.2.1 c
    refine v_aload_n (i := 1) C dX9_readMeasures_44 rfl rfl ?_
    refine v_getf (k := 25) C fl_RX9_15 rfl rfl dX9_readMeasures_45 ?_
    show Aj E l z (45 + 3) [(2, vi y2), (0, vr 25), (1, vi x1)] [vr 27] M1
    refine v_iload_n (i := 2) C dX9_readMeasures_48 rfl rfl ?_
    refine v_iload_n (i := 0) C dX9_readMeasures_49 rfl rfl ?_
    refine v_callS (q := qX7_put) (As := [vr 27, vi x1, vi y2]) (S := []) C co_yX7_put ml_RX9_22 st_yX7_put ini_RX7 hq_X7_put (by decide) (Nat.le_of_ble_eq_true rfl) rfl dX9_readMeasures_50 (Con.mono g4 (fun rr M6 hr => ?_) (Nat.le_refl _))
    obtain ⟨rfl, g7⟩ := hr
    show Aj E l z (50 + 3) [(2, vi y2), (0, vr 25), (1, vi x1)] [] M6
    obtain ⟨y8, hy8⟩ : ∃ y : Int, y = x1 + 1 := ⟨_, rfl⟩
    have g9 := g7 y8 hy8
    refine v_iinc (i := 2) (L' := [(1, vi y8), (2, vi y2), (0, vr 25)]) C dX9_readMeasures_53 rfl (by decide) hy8 rfl ?_
    refine v_goto C dX9_readMeasures_56 (tgt := 2) (by decide) ?_
    exact v_sub [2, 0] rfl (hJ2 _ _ g9)
  · have g5 := g3.2.2 c
    refine v_iconst C dX9_readMeasures_42 ?_
    exact v_zret C r (by decide) dX9_readMeasures_43 g5
def VX9_readMeasures_2 (E : FX) (l : Launch) (D : Nat) (post : Option AV → MM → Prop) (J2 : MM → Int → Prop) (M : MM) (x1 : Int) : Prop :=
  R32 x1 ∧ ((3 ≤ x1 → post (some (vi 1)) M) ∧ (¬ 3 ≤ x1 → R32 x1 ∧ ((x1 ≤ 0 → Con E l D qX9_readNumber [vr 25] M (fun r M14 => ∃ y15 : Int, r = some (vi y15) ∧ (R32 y15 ∧ ((1 ≤ y15 → Con E l D qX7_put [vr 27, vi x1, vi y15] M14 (fun r M19 => r = none ∧ (∀ y21 : Int, y21 = x1 + 1 → (J2 M19 y21)))) ∧ (¬ 1 ≤ y15 → post (some (vi 0)) M14))))) ∧ (¬ x1 ≤ 0 → Con E l D qX9_peek [vr 25] M (fun r M23 => ∃ y24 : Int, r = some (vi y24) ∧ (R32 y24 ∧ ((y24 = 44 → ∀ M28 : MM, M28 = up M23 25 2 ((M23 25 2) + 1) → (VX9_readMeasures_32 E l D post J2 M28 x1)) ∧ (¬ y24 = 44 → post (some (vi 0)) M23))))))))
set_option maxRecDepth 20000 in
theorem SX9_readMeasures_2 {E : FX} {l : Launch} {D : Nat} {post : Option AV → MM → Prop} {z : RT} {J2 : MM → Int → Prop} (C : Cx E z D RX9 cX9_readMeasures 3) (r : Rt E z (some .boolean) post) (hJ2 : ∀ (M : MM) (x1 : Int), J2 M x1 → Aj E l z 2 [(0, vr 25), (1, vi x1)] [] M) {M : MM} {x1 : Int} (h : VX9_readMeasures_2 E l D post J2 M x1) : Aj E l z 2 [(0, vr 25), (1, vi x1)] [] M := by
  unfold VX9_readMeasures_2 at h
  refine v_iload_n (i := 1) C dX9_readMeasures_2 rfl rfl ?_
  refine v_iconst C dX9_readMeasures_3 ?_
  refine v_icmp_ge (tgt := 59) C h.1 (by decide) dX9_readMeasures_4 (by decide) (fun c => ?_) (fun c => ?_)
  · have g10 := h.2.1 c
    refine v_iconst C dX9_readMeasures_59 ?_
    exact v_zret C r (by decide) dX9_readMeasures_60 g10
  · have g11 := h.2.2 c
    refine v_iload_n (i := 1) C dX9_readMeasures_7 rfl rfl ?_
    refine v_if_le (tgt := 32) C g11.1 dX9_readMeasures_8 (by decide) (fun c => ?_) (fun c => ?_)
    · have g12 := g11.2.1 c
      refine v_aload_n (i := 0) C dX9_readMeasures_32 rfl rfl ?_
      refine v_callV (q := qX9_readNumber) (k := 25) (As := []) (S := []) C co_yX9_readNumber ml_RX9_57 im_yX9_readNumber se_yX9_readNumber ini_RX9 rfl rfl hq_X9_readNumber (by decide) (Nat.le_of_ble_eq_true rfl) rfl dX9_readMeasures_33 (Con.mono g12 (fun rr M14 hr => ?_) (Nat.le_refl _))
      obtain ⟨y15, rfl, g16⟩ := hr
      show Aj E l z (33 + 3) [(0, vr 25), (1, vi x1)] [vi y15] M14
      refine v_istore_n (L' := [(2, vi y15), (0, vr 25), (1, vi x1)]) C dX9_readMeasures_36 rfl (by decide) rfl ?_
      refine v_iload_n (i := 0) C dX9_readMeasures_37 rfl rfl ?_
      refine v_iconst C dX9_readMeasures_38 ?_
      refine v_icmp_ge (tgt := 44) C g16.1 (by decide) dX9_readMeasures_39 (by decide) (fun c => ?_) (fun c => ?_)
      · have g17 := g16.2.1 c
        refine v_aload_n (i := 1) C dX9_readMeasures_44 rfl rfl ?_
        refine v_getf (k := 25) C fl_RX9_15 rfl rfl dX9_readMeasures_45 ?_
        show Aj E l z (45 + 3) [(2, vi y15), (0, vr 25), (1, vi x1)] [vr 27] M14
        refine v_iload_n (i := 2) C dX9_readMeasures_48 rfl rfl ?_
        refine v_iload_n (i := 0) C dX9_readMeasures_49 rfl rfl ?_
        refine v_callS (q := qX7_put) (As := [vr 27, vi x1, vi y15]) (S := []) C co_yX7_put ml_RX9_22 st_yX7_put ini_RX7 hq_X7_put (by decide) (Nat.le_of_ble_eq_true rfl) rfl dX9_readMeasures_50 (Con.mono g17 (fun rr M19 hr => ?_) (Nat.le_refl _))
        obtain ⟨rfl, g20⟩ := hr
        show Aj E l z (50 + 3) [(2, vi y15), (0, vr 25), (1, vi x1)] [] M19
        obtain ⟨y21, hy21⟩ : ∃ y : Int, y = x1 + 1 := ⟨_, rfl⟩
        have g22 := g20 y21 hy21
        refine v_iinc (i := 2) (L' := [(1, vi y21), (2, vi y15), (0, vr 25)]) C dX9_readMeasures_53 rfl (by decide) hy21 rfl ?_
        refine v_goto C dX9_readMeasures_56 (tgt := 2) (by decide) ?_
        exact v_sub [2, 0] rfl (hJ2 _ _ g22)
      · have g18 := g16.2.2 c
        refine v_iconst C dX9_readMeasures_42 ?_
        exact v_zret C r (by decide) dX9_readMeasures_43 g18
    · have g13 := g11.2.2 c
      refine v_aload_n (i := 0) C dX9_readMeasures_11 rfl rfl ?_
      refine v_callV (q := qX9_peek) (k := 25) (As := []) (S := []) C co_yX9_peek ml_RX9_41 im_yX9_peek se_yX9_peek ini_RX9 rfl rfl hq_X9_peek (by decide) (Nat.le_of_ble_eq_true rfl) rfl dX9_readMeasures_12 (Con.mono g13 (fun rr M23 hr => ?_) (Nat.le_refl _))
      obtain ⟨y24, rfl, g25⟩ := hr
      show Aj E l z (12 + 3) [(0, vr 25), (1, vi x1)] [vi y24] M23
      refine v_bipush C dX9_readMeasures_15 (by decide) ?_
      refine v_icmp_eq (tgt := 22) C g25.1 (by decide) dX9_readMeasures_17 (by decide) (fun c => ?_) (fun c => ?_)
      · have g26 := g25.2.1 c
        refine v_aload_n (i := 0) C dX9_readMeasures_22 rfl rfl ?_
        refine v_dup C rfl dX9_readMeasures_23 ?_
        refine v_getf (k := 25) C fl_RX9_28 rfl rfl dX9_readMeasures_24 ?_
        show Aj E l z (24 + 3) [(0, vr 25), (1, vi x1)] [vi (M23 25 2), vr 25] M23
        refine v_iconst C dX9_readMeasures_27 ?_
        refine v_iadd C dX9_readMeasures_28 ?_
        refine v_putf (k := 25) (x := (M23 25 2) + 1) (t := 0) C fp_RX9_28 rfl rfl (by decide) (by simp [fv, up]) rfl rfl dX9_readMeasures_29 ?_
        obtain ⟨M28, hM28⟩ : ∃ X : MM, X = up M23 25 2 ((M23 25 2) + 1) := ⟨_, rfl⟩
        refine v_eqM hM28 ?_
        have g29 := g26 M28 hM28
        exact v_sub [0, 1] rfl (SX9_readMeasures_32 C r hJ2 g29)
      · have g27 := g25.2.2 c
        refine v_iconst C dX9_readMeasures_20 ?_
        exact v_zret C r (by decide) dX9_readMeasures_21 g27
theorem RX9_readMeasures {E : FX} {l : Launch} {D : Nat} {post : Option AV → MM → Prop} (I2 : MM → Int → Prop) (m2 : MM → Int → Nat) {M : MM} (h0 : VX9_readMeasures_0 E l D post I2 M) (h2I : ∀ (M : MM) (x1 : Int), I2 M x1 → VX9_readMeasures_2 E l D post (fun M' x1' => I2 M' x1' ∧ m2 M' x1' < m2 M x1) M x1) : Con E l (D + 1) qX9_readMeasures [vr 25] M post := by
  refine con_of (by decide +kernel) (Nat.le_of_ble_eq_true rfl) (fun z C r => ?_)
  have all : ∀ n : Nat, (∀ (M : MM) (x1 : Int), I2 M x1 → m2 M x1 < n → Aj E l z 2 [(0, vr 25), (1, vi x1)] [] M) := by
    intro n
    induction n with
    | zero => exact fun _ _ _ hm => absurd hm (Nat.not_lt_zero _)
    | succ n ih => exact fun M x1 hi hm => SX9_readMeasures_2 C r (fun M' x1' hj => ih M' x1' hj.1 (by omega)) (h2I M x1 hi)
  exact v_sub [0] rfl (SX9_readMeasures_0 C r (fun M' x1' hj => (all _) M' x1' hj (Nat.lt_succ_self _)) h0)
def VX9_readNumber_0 (E : FX) (l : Launch) (D : Nat) (post : Option AV → MM → Prop) (J12 : MM → Int → Int → Prop) (M : MM) : Prop :=
  Con E l D qX9_peek [vr 25] M (fun r M1 => ∃ y2 : Int, r = some (vi y2) ∧ (∀ y4 : Int, y4 = M1 25 2 → (J12 M1 y4 0)))
set_option maxRecDepth 20000 in
theorem SX9_readNumber_0 {E : FX} {l : Launch} {D : Nat} {post : Option AV → MM → Prop} {z : RT} {J12 : MM → Int → Int → Prop} (C : Cx E z D RX9 cX9_readNumber 3) (r : Rt E z (some .int) post) (hD : 1 ≤ D) (hJ12 : ∀ (M : MM) (x1 : Int) (x2 : Int), J12 M x1 x2 → Aj E l z 12 [(0, vr 25), (1, vi x1), (2, vi x2)] [] M) {M : MM} (h : VX9_readNumber_0 E l D post J12 M) : Aj E l z 0 [(0, vr 25)] [] M := by
  unfold VX9_readNumber_0 at h
  refine v_aload_n (i := 0) C dX9_readNumber_0 rfl rfl ?_
  refine v_callV (q := qX9_peek) (k := 25) (As := []) (S := []) C co_yX9_peek ml_RX9_41 im_yX9_peek se_yX9_peek ini_RX9 rfl rfl hq_X9_peek (by decide) (Nat.le_of_ble_eq_true rfl) rfl dX9_readNumber_1 (Con.mono h (fun rr M1 hr => ?_) (Nat.le_refl _))
  obtain ⟨y2, rfl, g3⟩ := hr
  show Aj E l z (1 + 3) [(0, vr 25)] [vi y2] M1
  refine v_pop C rfl dX9_readNumber_4 ?_
  refine v_aload_n (i := 0) C dX9_readNumber_5 rfl rfl ?_
  refine v_getf (k := 25) C fl_RX9_28 rfl rfl dX9_readNumber_6 ?_
  show Aj E l z (6 + 3) [(0, vr 25)] [vi (M1 25 2)] M1
  obtain ⟨y4, hy4⟩ : ∃ y : Int, y = M1 25 2 := ⟨_, rfl⟩
  have g5 := g3 y4 hy4
  refine v_eqi hy4 ?_
  refine v_istore_n (L' := [(1, vi y4), (0, vr 25)]) C dX9_readNumber_9 rfl (by decide) rfl ?_
  refine v_iconst C dX9_readNumber_10 ?_
  refine v_istore_n (L' := [(2, vi 0), (1, vi y4), (0, vr 25)]) C dX9_readNumber_11 rfl (by decide) rfl ?_
  exact v_sub [2, 1, 0] rfl (hJ12 _ _ _ g5)
def VX9_readNumber_91 (E : FX) (l : Launch) (D : Nat) (post : Option AV → MM → Prop) (J12 : MM → Int → Int → Prop) (M : MM) (x1 : Int) : Prop :=
  ∀ M6 : MM, M6 = up M 25 2 x1 → (post (some (vi 0)) M6)
set_option maxRecDepth 20000 in
theorem SX9_readNumber_91 {E : FX} {l : Launch} {D : Nat} {post : Option AV → MM → Prop} {z : RT} {J12 : MM → Int → Int → Prop} (C : Cx E z D RX9 cX9_readNumber 3) (r : Rt E z (some .int) post) (hD : 1 ≤ D) (hJ12 : ∀ (M : MM) (x1 : Int) (x2 : Int), J12 M x1 x2 → Aj E l z 12 [(0, vr 25), (1, vi x1), (2, vi x2)] [] M) {M : MM} {x1 : Int} (h : VX9_readNumber_91 E l D post J12 M x1) : Aj E l z 91 [(0, vr 25), (1, vi x1)] [] M := by
  unfold VX9_readNumber_91 at h
  refine v_aload_n (i := 0) C dX9_readNumber_91 rfl rfl ?_
  refine v_iload_n (i := 1) C dX9_readNumber_92 rfl rfl ?_
  refine v_putf (k := 25) (x := x1) (t := 0) C fp_RX9_28 rfl rfl (by decide) (by simp [fv, up]) rfl rfl dX9_readNumber_93 ?_
  obtain ⟨M6, hM6⟩ : ∃ X : MM, X = up M 25 2 x1 := ⟨_, rfl⟩
  refine v_eqM hM6 ?_
  have g7 := h M6 hM6
  refine v_iconst C dX9_readNumber_96 ?_
  exact v_iret C r dX9_readNumber_97 g7
def VX9_readNumber_79 (E : FX) (l : Launch) (D : Nat) (post : Option AV → MM → Prop) (J12 : MM → Int → Int → Prop) (M : MM) (x1 : Int) (x2 : Int) : Prop :=
  R32 x2 ∧ ((x2 < 1 → ∀ M10 : MM, M10 = up M 25 2 x1 → (post (some (vi 0)) M10)) ∧ (¬ x2 < 1 → R32 x2 ∧ ((x2 ≤ 999 → post (some (vi x2)) M) ∧ (¬ x2 ≤ 999 → ∀ M14 : MM, M14 = up M 25 2 x1 → (post (some (vi 0)) M14)))))
set_option maxRecDepth 20000 in
theorem SX9_readNumber_79 {E : FX} {l : Launch} {D : Nat} {post : Option AV → MM → Prop} {z : RT} {J12 : MM → Int → Int → Prop} (C : Cx E z D RX9 cX9_readNumber 3) (r : Rt E z (some .int) post) (hD : 1 ≤ D) (hJ12 : ∀ (M : MM) (x1 : Int) (x2 : Int), J12 M x1 x2 → Aj E l z 12 [(0, vr 25), (1, vi x1), (2, vi x2)] [] M) {M : MM} {x1 : Int} {x2 : Int} (h : VX9_readNumber_79 E l D post J12 M x1 x2) : Aj E l z 79 [(0, vr 25), (1, vi x1), (2, vi x2)] [] M := by
  unfold VX9_readNumber_79 at h
  refine v_iload_n (i := 2) C dX9_readNumber_79 rfl rfl ?_
  refine v_iconst C dX9_readNumber_80 ?_
  refine v_icmp_lt (tgt := 91) C h.1 (by decide) dX9_readNumber_81 (by decide) (fun c => ?_) (fun c => ?_)
  · have g8 := h.2.1 c
    refine v_aload_n (i := 0) C dX9_readNumber_91 rfl rfl ?_
    refine v_iload_n (i := 1) C dX9_readNumber_92 rfl rfl ?_
    refine v_putf (k := 25) (x := x1) (t := 0) C fp_RX9_28 rfl rfl (by decide) (by simp [fv, up]) rfl rfl dX9_readNumber_93 ?_
    obtain ⟨M10, hM10⟩ : ∃ X : MM, X = up M 25 2 x1 := ⟨_, rfl⟩
    refine v_eqM hM10 ?_
    have g11 := g8 M10 hM10
    refine v_iconst C dX9_readNumber_96 ?_
    exact v_iret C r dX9_readNumber_97 g11
  · have g9 := h.2.2 c
    refine v_iload_n (i := 2) C dX9_readNumber_84 rfl rfl ?_
    refine v_sipush C dX9_readNumber_85 (by decide) ?_
    refine v_icmp_le (tgt := 98) C g9.1 (by decide) dX9_readNumber_88 (by decide) (fun c => ?_) (fun c => ?_)
    · have g12 := g9.2.1 c
      refine v_iload_n (i := 2) C dX9_readNumber_98 rfl rfl ?_
      exact v_iret C r dX9_readNumber_99 g12
    · have g13 := g9.2.2 c
      refine v_aload_n (i := 0) C dX9_readNumber_91 rfl rfl ?_
      refine v_iload_n (i := 1) C dX9_readNumber_92 rfl rfl ?_
      refine v_putf (k := 25) (x := x1) (t := 0) C fp_RX9_28 rfl rfl (by decide) (by simp [fv, up]) rfl rfl dX9_readNumber_93 ?_
      obtain ⟨M14, hM14⟩ : ∃ X : MM, X = up M 25 2 x1 := ⟨_, rfl⟩
      refine v_eqM hM14 ?_
      have g15 := g13 M14 hM14
      refine v_iconst C dX9_readNumber_96 ?_
      exact v_iret C r dX9_readNumber_97 g15
def VX9_readNumber_12 (E : FX) (l : Launch) (D : Nat) (post : Option AV → MM → Prop) (J12 : MM → Int → Int → Prop) (M : MM) (x1 : Int) (x2 : Int) : Prop :=
  R32 (M 25 2) ∧ (R32 (M 25 1) ∧ ((M 25 1 ≤ M 25 2 → R32 x2 ∧ ((x2 < 1 → ∀ M20 : MM, M20 = up M 25 2 x1 → (post (some (vi 0)) M20)) ∧ (¬ x2 < 1 → R32 x2 ∧ ((x2 ≤ 999 → post (some (vi x2)) M) ∧ (¬ x2 ≤ 999 → ∀ M24 : MM, M24 = up M 25 2 x1 → (post (some (vi 0)) M24)))))) ∧ (¬ M 25 1 ≤ M 25 2 → Con E l D qX7_at [vr 26, vi (M 25 2)] M (fun r M26 => ∃ y27 : Int, r = some (vi y27) ∧ (Con E l D qX9_isDigit [vi y27] M26 (fun r M29 => ∃ y30 : Int, r = some (vi y30) ∧ (R32 y30 ∧ ((y30 = 0 → R32 x2 ∧ ((x2 < 1 → ∀ M36 : MM, M36 = up M29 25 2 x1 → (post (some (vi 0)) M36)) ∧ (¬ x2 < 1 → R32 x2 ∧ ((x2 ≤ 999 → post (some (vi x2)) M29) ∧ (¬ x2 ≤ 999 → ∀ M40 : MM, M40 = up M29 25 2 x1 → (post (some (vi 0)) M40)))))) ∧ (¬ y30 = 0 → Con E l D qX7_at [vr 26, vi (M29 25 2)] M29 (fun r M42 => ∃ y43 : Int, r = some (vi y43) ∧ (R32 (((10 * x2) + y43) - 48) ∧ (∀ y45 : Int, y45 = (if (((10 * x2) + y43) - 48) < 1000 then (((10 * x2) + y43) - 48) else 1000) → (∀ M47 : MM, M47 = up M42 25 2 ((M42 25 2) + 1) → (J12 M47 x1 y45))))))))))))))
set_option maxRecDepth 20000 in
theorem SX9_readNumber_12 {E : FX} {l : Launch} {D : Nat} {post : Option AV → MM → Prop} {z : RT} {J12 : MM → Int → Int → Prop} (C : Cx E z D RX9 cX9_readNumber 3) (r : Rt E z (some .int) post) (hD : 1 ≤ D) (hJ12 : ∀ (M : MM) (x1 : Int) (x2 : Int), J12 M x1 x2 → Aj E l z 12 [(0, vr 25), (1, vi x1), (2, vi x2)] [] M) {M : MM} {x1 : Int} {x2 : Int} (h : VX9_readNumber_12 E l D post J12 M x1 x2) : Aj E l z 12 [(0, vr 25), (1, vi x1), (2, vi x2)] [] M := by
  unfold VX9_readNumber_12 at h
  refine v_aload_n (i := 0) C dX9_readNumber_12 rfl rfl ?_
  refine v_getf (k := 25) C fl_RX9_28 rfl rfl dX9_readNumber_13 ?_
  show Aj E l z (13 + 3) [(0, vr 25), (1, vi x1), (2, vi x2)] [vi (M 25 2)] M
  refine v_aload_n (i := 0) C dX9_readNumber_16 rfl rfl ?_
  refine v_getf (k := 25) C fl_RX9_18 rfl rfl dX9_readNumber_17 ?_
  show Aj E l z (17 + 3) [(0, vr 25), (1, vi x1), (2, vi x2)] [vi (M 25 1), vi (M 25 2)] M
  refine v_icmp_ge (tgt := 79) C h.1 h.2.1 dX9_readNumber_20 (by decide) (fun c => ?_) (fun c => ?_)
  · have g16 := h.2.2.1 c
    refine v_iload_n (i := 2) C dX9_readNumber_79 rfl rfl ?_
    refine v_iconst C dX9_readNumber_80 ?_
    refine v_icmp_lt (tgt := 91) C g16.1 (by decide) dX9_readNumber_81 (by decide) (fun c => ?_) (fun c => ?_)
    · have g18 := g16.2.1 c
      refine v_aload_n (i := 0) C dX9_readNumber_91 rfl rfl ?_
      refine v_iload_n (i := 1) C dX9_readNumber_92 rfl rfl ?_
      refine v_putf (k := 25) (x := x1) (t := 0) C fp_RX9_28 rfl rfl (by decide) (by simp [fv, up]) rfl rfl dX9_readNumber_93 ?_
      obtain ⟨M20, hM20⟩ : ∃ X : MM, X = up M 25 2 x1 := ⟨_, rfl⟩
      refine v_eqM hM20 ?_
      have g21 := g18 M20 hM20
      refine v_iconst C dX9_readNumber_96 ?_
      exact v_iret C r dX9_readNumber_97 g21
    · have g19 := g16.2.2 c
      refine v_iload_n (i := 2) C dX9_readNumber_84 rfl rfl ?_
      refine v_sipush C dX9_readNumber_85 (by decide) ?_
      refine v_icmp_le (tgt := 98) C g19.1 (by decide) dX9_readNumber_88 (by decide) (fun c => ?_) (fun c => ?_)
      · have g22 := g19.2.1 c
        refine v_iload_n (i := 2) C dX9_readNumber_98 rfl rfl ?_
        exact v_iret C r dX9_readNumber_99 g22
      · have g23 := g19.2.2 c
        refine v_aload_n (i := 0) C dX9_readNumber_91 rfl rfl ?_
        refine v_iload_n (i := 1) C dX9_readNumber_92 rfl rfl ?_
        refine v_putf (k := 25) (x := x1) (t := 0) C fp_RX9_28 rfl rfl (by decide) (by simp [fv, up]) rfl rfl dX9_readNumber_93 ?_
        obtain ⟨M24, hM24⟩ : ∃ X : MM, X = up M 25 2 x1 := ⟨_, rfl⟩
        refine v_eqM hM24 ?_
        have g25 := g23 M24 hM24
        refine v_iconst C dX9_readNumber_96 ?_
        exact v_iret C r dX9_readNumber_97 g25
  · have g17 := h.2.2.2 c
    refine v_aload_n (i := 0) C dX9_readNumber_23 rfl rfl ?_
    refine v_getf (k := 25) C fl_RX9_9 rfl rfl dX9_readNumber_24 ?_
    show Aj E l z (24 + 3) [(0, vr 25), (1, vi x1), (2, vi x2)] [vr 26] M
    refine v_aload_n (i := 0) C dX9_readNumber_27 rfl rfl ?_
    refine v_getf (k := 25) C fl_RX9_28 rfl rfl dX9_readNumber_28 ?_
    show Aj E l z (28 + 3) [(0, vr 25), (1, vi x1), (2, vi x2)] [vi (M 25 2), vr 26] M
    refine v_callS (q := qX7_at) (As := [vr 26, vi (M 25 2)]) (S := []) C co_yX7_at ml_RX9_54 st_yX7_at ini_RX7 hq_X7_at (by decide) (Nat.le_of_ble_eq_true rfl) rfl dX9_readNumber_31 (Con.mono g17 (fun rr M26 hr => ?_) (Nat.le_refl _))
    obtain ⟨y27, rfl, g28⟩ := hr
    show Aj E l z (31 + 3) [(0, vr 25), (1, vi x1), (2, vi x2)] [vi y27] M26
    refine v_callS (q := qX9_isDigit) (As := [vi y27]) (S := []) C co_yX9_isDigit ml_RX9_60 st_yX9_isDigit ini_RX9 hq_X9_isDigit (by decide) (Nat.le_of_ble_eq_true rfl) rfl dX9_readNumber_34 (Con.mono g28 (fun rr M29 hr => ?_) (Nat.le_refl _))
    obtain ⟨y30, rfl, g31⟩ := hr
    show Aj E l z (34 + 3) [(0, vr 25), (1, vi x1), (2, vi x2)] [vi y30] M29
    refine v_if_eq (tgt := 79) C g31.1 dX9_readNumber_37 (by decide) (fun c => ?_) (fun c => ?_)
    · have g32 := g31.2.1 c
      refine v_iload_n (i := 2) C dX9_readNumber_79 rfl rfl ?_
      refine v_iconst C dX9_readNumber_80 ?_
      refine v_icmp_lt (tgt := 91) C g32.1 (by decide) dX9_readNumber_81 (by decide) (fun c => ?_) (fun c => ?_)
      · have g34 := g32.2.1 c
        refine v_aload_n (i := 0) C dX9_readNumber_91 rfl rfl ?_
        refine v_iload_n (i := 1) C dX9_readNumber_92 rfl rfl ?_
        refine v_putf (k := 25) (x := x1) (t := 0) C fp_RX9_28 rfl rfl (by decide) (by simp [fv, up]) rfl rfl dX9_readNumber_93 ?_
        obtain ⟨M36, hM36⟩ : ∃ X : MM, X = up M29 25 2 x1 := ⟨_, rfl⟩
        refine v_eqM hM36 ?_
        have g37 := g34 M36 hM36
        refine v_iconst C dX9_readNumber_96 ?_
        exact v_iret C r dX9_readNumber_97 g37
      · have g35 := g32.2.2 c
        refine v_iload_n (i := 2) C dX9_readNumber_84 rfl rfl ?_
        refine v_sipush C dX9_readNumber_85 (by decide) ?_
        refine v_icmp_le (tgt := 98) C g35.1 (by decide) dX9_readNumber_88 (by decide) (fun c => ?_) (fun c => ?_)
        · have g38 := g35.2.1 c
          refine v_iload_n (i := 2) C dX9_readNumber_98 rfl rfl ?_
          exact v_iret C r dX9_readNumber_99 g38
        · have g39 := g35.2.2 c
          refine v_aload_n (i := 0) C dX9_readNumber_91 rfl rfl ?_
          refine v_iload_n (i := 1) C dX9_readNumber_92 rfl rfl ?_
          refine v_putf (k := 25) (x := x1) (t := 0) C fp_RX9_28 rfl rfl (by decide) (by simp [fv, up]) rfl rfl dX9_readNumber_93 ?_
          obtain ⟨M40, hM40⟩ : ∃ X : MM, X = up M29 25 2 x1 := ⟨_, rfl⟩
          refine v_eqM hM40 ?_
          have g41 := g39 M40 hM40
          refine v_iconst C dX9_readNumber_96 ?_
          exact v_iret C r dX9_readNumber_97 g41
    · have g33 := g31.2.2 c
      refine v_sipush C dX9_readNumber_40 (by decide) ?_
      refine v_bipush C dX9_readNumber_43 (by decide) ?_
      refine v_iload_n (i := 2) C dX9_readNumber_45 rfl rfl ?_
      refine v_imul C dX9_readNumber_46 ?_
      refine v_aload_n (i := 0) C dX9_readNumber_47 rfl rfl ?_
      refine v_getf (k := 25) C fl_RX9_9 rfl rfl dX9_readNumber_48 ?_
      show Aj E l z (48 + 3) [(0, vr 25), (1, vi x1), (2, vi x2)] [vr 26, vi (10 * x2), vi 1000] M29
      refine v_aload_n (i := 0) C dX9_readNumber_51 rfl rfl ?_
      refine v_getf (k := 25) C fl_RX9_28 rfl rfl dX9_readNumber_52 ?_
      show Aj E l z (52 + 3) [(0, vr 25), (1, vi x1), (2, vi x2)] [vi (M29 25 2), vr 26, vi (10 * x2), vi 1000] M29
      refine v_callS (q := qX7_at) (As := [vr 26, vi (M29 25 2)]) (S := [vi (10 * x2), vi 1000]) C co_yX7_at ml_RX9_54 st_yX7_at ini_RX7 hq_X7_at (by decide) (Nat.le_of_ble_eq_true rfl) rfl dX9_readNumber_55 (Con.mono g33 (fun rr M42 hr => ?_) (Nat.le_refl _))
      obtain ⟨y43, rfl, g44⟩ := hr
      show Aj E l z (55 + 3) [(0, vr 25), (1, vi x1), (2, vi x2)] [vi y43, vi (10 * x2), vi 1000] M42
      refine v_iadd C dX9_readNumber_58 ?_
      refine v_bipush C dX9_readNumber_59 (by decide) ?_
      refine v_isub C dX9_readNumber_61 ?_
      refine v_min (S := []) C hD ml_RX9_64 (Nat.le_of_ble_eq_true rfl) (by decide) g44.1 dX9_readNumber_62 ?_
      obtain ⟨y45, hy45⟩ : ∃ y : Int, y = (if (((10 * x2) + y43) - 48) < 1000 then (((10 * x2) + y43) - 48) else 1000) := ⟨_, rfl⟩
      have g46 := g44.2 y45 hy45
      refine v_eqi hy45 ?_
      refine v_istore_n (L' := [(2, vi y45), (0, vr 25), (1, vi x1)]) C dX9_readNumber_65 rfl (by decide) rfl ?_
      refine v_aload_n (i := 1) C dX9_readNumber_66 rfl rfl ?_
      refine v_dup C rfl dX9_readNumber_67 ?_
      refine v_getf (k := 25) C fl_RX9_28 rfl rfl dX9_readNumber_68 ?_
      show Aj E l z (68 + 3) [(2, vi y45), (0, vr 25), (1, vi x1)] [vi (M42 25 2), vr 25] M42
      refine v_iconst C dX9_readNumber_71 ?_
      refine v_iadd C dX9_readNumber_72 ?_
      refine v_putf (k := 25) (x := (M42 25 2) + 1) (t := 0) C fp_RX9_28 rfl rfl (by decide) (by simp [fv, up]) rfl rfl dX9_readNumber_73 ?_
      obtain ⟨M47, hM47⟩ : ∃ X : MM, X = up M42 25 2 ((M42 25 2) + 1) := ⟨_, rfl⟩
      refine v_eqM hM47 ?_
      have g48 := g46 M47 hM47
      refine v_goto C dX9_readNumber_76 (tgt := 12) (by decide) ?_
      exact v_sub [1, 2, 0] rfl (hJ12 _ _ _ g48)
theorem RX9_readNumber {E : FX} {l : Launch} {D : Nat} {post : Option AV → MM → Prop} (hD : 1 ≤ D) (I12 : MM → Int → Int → Prop) (m12 : MM → Int → Int → Nat) {M : MM} (h0 : VX9_readNumber_0 E l D post I12 M) (h12I : ∀ (M : MM) (x1 : Int) (x2 : Int), I12 M x1 x2 → VX9_readNumber_12 E l D post (fun M' x1' x2' => I12 M' x1' x2' ∧ m12 M' x1' x2' < m12 M x1 x2) M x1 x2) : Con E l (D + 1) qX9_readNumber [vr 25] M post := by
  refine con_of (by decide +kernel) (Nat.le_of_ble_eq_true rfl) (fun z C r => ?_)
  have all : ∀ n : Nat, (∀ (M : MM) (x1 : Int) (x2 : Int), I12 M x1 x2 → m12 M x1 x2 < n → Aj E l z 12 [(0, vr 25), (1, vi x1), (2, vi x2)] [] M) := by
    intro n
    induction n with
    | zero => exact fun _ _ _ _ hm => absurd hm (Nat.not_lt_zero _)
    | succ n ih => exact fun M x1 x2 hi hm => SX9_readNumber_12 C r hD (fun M' x1' x2' hj => ih M' x1' x2' hj.1 (by omega)) (h12I M x1 x2 hi)
  exact v_sub [0] rfl (SX9_readNumber_0 C r hD (fun M' x1' x2' hj => (all _) M' x1' x2' hj (Nat.lt_succ_self _)) h0)
def VX9_isDigit_17 (E : FX) (l : Launch) (D : Nat) (post : Option AV → MM → Prop) (M : MM) (s0 : Int) : Prop :=
  (s0 = 0 ∨ s0 = 1) ∧ (post (some (vi s0)) M)
set_option maxRecDepth 20000 in
theorem SX9_isDigit_17 {E : FX} {l : Launch} {D : Nat} {post : Option AV → MM → Prop} {z : RT} (C : Cx E z D RX9 cX9_isDigit 1) (r : Rt E z (some .boolean) post) {M : MM} {s0 : Int} (h : VX9_isDigit_17 E l D post M s0) : Aj E l z 17 [] [vi s0] M := by
  unfold VX9_isDigit_17 at h
  exact v_zret C r h.1 dX9_isDigit_17 h.2
def VX9_isDigit_16 (E : FX) (l : Launch) (D : Nat) (post : Option AV → MM → Prop) (M : MM) : Prop :=
  VX9_isDigit_17 E l D post M 0
set_option maxRecDepth 20000 in
theorem SX9_isDigit_16 {E : FX} {l : Launch} {D : Nat} {post : Option AV → MM → Prop} {z : RT} (C : Cx E z D RX9 cX9_isDigit 1) (r : Rt E z (some .boolean) post) {M : MM} (h : VX9_isDigit_16 E l D post M) : Aj E l z 16 [] [] M := by
  unfold VX9_isDigit_16 at h
  refine v_iconst C dX9_isDigit_16 ?_
  exact v_sub [] rfl (SX9_isDigit_17 C r h)
def VX9_isDigit_0 (E : FX) (l : Launch) (D : Nat) (post : Option AV → MM → Prop) (M : MM) (x0 : Int) : Prop :=
  R32 x0 ∧ ((x0 < 48 → VX9_isDigit_17 E l D post M 0) ∧ (¬ x0 < 48 → R32 x0 ∧ ((57 < x0 → VX9_isDigit_17 E l D post M 0) ∧ (¬ 57 < x0 → VX9_isDigit_17 E l D post M 1))))
set_option maxRecDepth 20000 in
theorem SX9_isDigit_0 {E : FX} {l : Launch} {D : Nat} {post : Option AV → MM → Prop} {z : RT} (C : Cx E z D RX9 cX9_isDigit 1) (r : Rt E z (some .boolean) post) {M : MM} {x0 : Int} (h : VX9_isDigit_0 E l D post M x0) : Aj E l z 0 [(0, vi x0)] [] M := by
  unfold VX9_isDigit_0 at h
  refine v_iload_n (i := 0) C dX9_isDigit_0 rfl rfl ?_
  refine v_bipush C dX9_isDigit_1 (by decide) ?_
  refine v_icmp_lt (tgt := 16) C h.1 (by decide) dX9_isDigit_3 (by decide) (fun c => ?_) (fun c => ?_)
  · have g1 := h.2.1 c
    refine v_iconst C dX9_isDigit_16 ?_
    exact v_sub [] rfl (SX9_isDigit_17 C r g1)
  · have g2 := h.2.2 c
    refine v_iload_n (i := 0) C dX9_isDigit_6 rfl rfl ?_
    refine v_bipush C dX9_isDigit_7 (by decide) ?_
    refine v_icmp_gt (tgt := 16) C g2.1 (by decide) dX9_isDigit_9 (by decide) (fun c => ?_) (fun c => ?_)
    · have g3 := g2.2.1 c
      refine v_iconst C dX9_isDigit_16 ?_
      exact v_sub [] rfl (SX9_isDigit_17 C r g3)
    · have g4 := g2.2.2 c
      refine v_iconst C dX9_isDigit_12 ?_
      refine v_goto C dX9_isDigit_13 (tgt := 17) (by decide) ?_
      exact v_sub [] rfl (SX9_isDigit_17 C r g4)
theorem RX9_isDigit {E : FX} {l : Launch} {D : Nat} {post : Option AV → MM → Prop} {M : MM} {x0 : Int} (h0 : VX9_isDigit_0 E l D post M x0) : Con E l (D + 1) qX9_isDigit [vi x0] M post := by
  refine con_of (by decide +kernel) (Nat.le_of_ble_eq_true rfl) (fun z C r => ?_)
  exact v_sub [0] rfl (SX9_isDigit_0 C r h0)
def VX9_readCounting_0 (E : FX) (l : Launch) (D : Nat) (post : Option AV → MM → Prop) (J14 : MM → Int → Int → Prop) (M : MM) : Prop :=
  ∀ M1 : MM, M1 = up M 25 2 ((M 25 2) + 1) → (J14 M1 0 0)
set_option maxRecDepth 20000 in
theorem SX9_readCounting_0 {E : FX} {l : Launch} {D : Nat} {post : Option AV → MM → Prop} {z : RT} {J14 : MM → Int → Int → Prop} (C : Cx E z D RX9 cX9_readCounting 4) (r : Rt E z (some .boolean) post) (hJ14 : ∀ (M : MM) (x1 : Int) (x2 : Int), J14 M x1 x2 → Aj E l z 14 [(0, vr 25), (1, vi x1), (2, vi x2)] [] M) {M : MM} (h : VX9_readCounting_0 E l D post J14 M) : Aj E l z 0 [(0, vr 25)] [] M := by
  unfold VX9_readCounting_0 at h
  refine v_aload_n (i := 0) C dX9_readCounting_0 rfl rfl ?_
  refine v_dup C rfl dX9_readCounting_1 ?_
  refine v_getf (k := 25) C fl_RX9_28 rfl rfl dX9_readCounting_2 ?_
  show Aj E l z (2 + 3) [(0, vr 25)] [vi (M 25 2), vr 25] M
  refine v_iconst C dX9_readCounting_5 ?_
  refine v_iadd C dX9_readCounting_6 ?_
  refine v_putf (k := 25) (x := (M 25 2) + 1) (t := 0) C fp_RX9_28 rfl rfl (by decide) (by simp [fv, up]) rfl rfl dX9_readCounting_7 ?_
  obtain ⟨M1, hM1⟩ : ∃ X : MM, X = up M 25 2 ((M 25 2) + 1) := ⟨_, rfl⟩
  refine v_eqM hM1 ?_
  have g2 := h M1 hM1
  refine v_iconst C dX9_readCounting_10 ?_
  refine v_istore_n (L' := [(1, vi 0), (0, vr 25)]) C dX9_readCounting_11 rfl (by decide) rfl ?_
  refine v_iconst C dX9_readCounting_12 ?_
  refine v_istore_n (L' := [(2, vi 0), (1, vi 0), (0, vr 25)]) C dX9_readCounting_13 rfl (by decide) rfl ?_
  exact v_sub [2, 1, 0] rfl (hJ14 _ _ _ g2)
def VX9_readCounting_88 (E : FX) (l : Launch) (D : Nat) (post : Option AV → MM → Prop) (J14 : MM → Int → Int → Prop) (M : MM) (s0 : Int) : Prop :=
  (s0 = 0 ∨ s0 = 1) ∧ (post (some (vi s0)) M)
set_option maxRecDepth 20000 in
theorem SX9_readCounting_88 {E : FX} {l : Launch} {D : Nat} {post : Option AV → MM → Prop} {z : RT} {J14 : MM → Int → Int → Prop} (C : Cx E z D RX9 cX9_readCounting 4) (r : Rt E z (some .boolean) post) (hJ14 : ∀ (M : MM) (x1 : Int) (x2 : Int), J14 M x1 x2 → Aj E l z 14 [(0, vr 25), (1, vi x1), (2, vi x2)] [] M) {M : MM} {s0 : Int} (h : VX9_readCounting_88 E l D post J14 M s0) : Aj E l z 88 [] [vi s0] M := by
  unfold VX9_readCounting_88 at h
  exact v_zret C r h.1 dX9_readCounting_88 h.2
def VX9_readCounting_70 (E : FX) (l : Launch) (D : Nat) (post : Option AV → MM → Prop) (J14 : MM → Int → Int → Prop) (M : MM) (x1 : Int) : Prop :=
  ∀ M3 : MM, M3 = up M 25 4 x1 → (Con E l D qJ6_bitCount_0f7a4 [vi x1] M3 (fun r M5 => ∃ y6 : Int, r = some (vi y6) ∧ (R32 y6 ∧ ((y6 < 2 → VX9_readCounting_88 E l D post J14 M5 0) ∧ (¬ y6 < 2 → VX9_readCounting_88 E l D post J14 M5 1)))))
set_option maxRecDepth 20000 in
theorem SX9_readCounting_70 {E : FX} {l : Launch} {D : Nat} {post : Option AV → MM → Prop} {z : RT} {J14 : MM → Int → Int → Prop} (C : Cx E z D RX9 cX9_readCounting 4) (r : Rt E z (some .boolean) post) (hJ14 : ∀ (M : MM) (x1 : Int) (x2 : Int), J14 M x1 x2 → Aj E l z 14 [(0, vr 25), (1, vi x1), (2, vi x2)] [] M) {M : MM} {x1 : Int} (h : VX9_readCounting_70 E l D post J14 M x1) : Aj E l z 70 [(0, vr 25), (1, vi x1)] [] M := by
  unfold VX9_readCounting_70 at h
  refine v_aload_n (i := 0) C dX9_readCounting_70 rfl rfl ?_
  refine v_iload_n (i := 1) C dX9_readCounting_71 rfl rfl ?_
  refine v_putf (k := 25) (x := x1) (t := 0) C fp_RX9_31 rfl rfl (by decide) (by simp [fv, up]) rfl rfl dX9_readCounting_72 ?_
  obtain ⟨M3, hM3⟩ : ∃ X : MM, X = up M 25 4 x1 := ⟨_, rfl⟩
  refine v_eqM hM3 ?_
  have g4 := h M3 hM3
  refine v_iload_n (i := 1) C dX9_readCounting_75 rfl rfl ?_
  refine v_callS (q := qJ6_bitCount_0f7a4) (As := [vi x1]) (S := []) C co_yJ6_bitCount_0f7a4 ml_RX9_48 st_yJ6_bitCount_0f7a4 ini_RJ6 hq_J6_bitCount_0f7a4 (by decide) (Nat.le_of_ble_eq_true rfl) rfl dX9_readCounting_76 (Con.mono g4 (fun rr M5 hr => ?_) (Nat.le_refl _))
  obtain ⟨y6, rfl, g7⟩ := hr
  show Aj E l z (76 + 3) [(0, vr 25), (1, vi x1)] [vi y6] M5
  refine v_iconst C dX9_readCounting_79 ?_
  refine v_icmp_lt (tgt := 87) C g7.1 (by decide) dX9_readCounting_80 (by decide) (fun c => ?_) (fun c => ?_)
  · have g8 := g7.2.1 c
    refine v_iconst C dX9_readCounting_87 ?_
    exact v_sub [] rfl (SX9_readCounting_88 C r hJ14 g8)
  · have g9 := g7.2.2 c
    refine v_iconst C dX9_readCounting_83 ?_
    refine v_goto C dX9_readCounting_84 (tgt := 88) (by decide) ?_
    exact v_sub [] rfl (SX9_readCounting_88 C r hJ14 g9)
def VX9_readCounting_14 (E : FX) (l : Launch) (D : Nat) (post : Option AV → MM → Prop) (J14 : MM → Int → Int → Prop) (M : MM) (x1 : Int) (x2 : Int) : Prop :=
  R32 x2 ∧ ((3 ≤ x2 → ∀ M12 : MM, M12 = up M 25 4 x1 → (Con E l D qJ6_bitCount_0f7a4 [vi x1] M12 (fun r M14 => ∃ y15 : Int, r = some (vi y15) ∧ (R32 y15 ∧ ((y15 < 2 → VX9_readCounting_88 E l D post J14 M14 0) ∧ (¬ y15 < 2 → VX9_readCounting_88 E l D post J14 M14 1)))))) ∧ (¬ 3 ≤ x2 → Con E l D qX9_peek [vr 25] M (fun r M19 => ∃ y20 : Int, r = some (vi y20) ∧ (∀ y22 : Int, y22 = y20 - 48 → (R32 y22 ∧ ((y22 < 0 → ∀ M26 : MM, M26 = up M19 25 4 x1 → (Con E l D qJ6_bitCount_0f7a4 [vi x1] M26 (fun r M28 => ∃ y29 : Int, r = some (vi y29) ∧ (R32 y29 ∧ ((y29 < 2 → VX9_readCounting_88 E l D post J14 M28 0) ∧ (¬ y29 < 2 → VX9_readCounting_88 E l D post J14 M28 1)))))) ∧ (¬ y22 < 0 → R32 y22 ∧ ((3 ≤ y22 → ∀ M35 : MM, M35 = up M19 25 4 x1 → (Con E l D qJ6_bitCount_0f7a4 [vi x1] M35 (fun r M37 => ∃ y38 : Int, r = some (vi y38) ∧ (R32 y38 ∧ ((y38 < 2 → VX9_readCounting_88 E l D post J14 M37 0) ∧ (¬ y38 < 2 → VX9_readCounting_88 E l D post J14 M37 1)))))) ∧ (¬ 3 ≤ y22 → R32 (iand (ishr x1 y22) 1) ∧ ((¬ iand (ishr x1 y22) 1 = 1 → ∀ y44 : Int, y44 = ior x1 (ishl 1 y22) → (∀ M46 : MM, M46 = up M19 25 2 ((M19 25 2) + 1) → (∀ y48 : Int, y48 = x2 + 1 → (J14 M46 y44 y48)))) ∧ (iand (ishr x1 y22) 1 = 1 → VX9_readCounting_70 E l D post J14 M19 x1)))))))))))
set_option maxRecDepth 20000 in
theorem SX9_readCounting_14 {E : FX} {l : Launch} {D : Nat} {post : Option AV → MM → Prop} {z : RT} {J14 : MM → Int → Int → Prop} (C : Cx E z D RX9 cX9_readCounting 4) (r : Rt E z (some .boolean) post) (hJ14 : ∀ (M : MM) (x1 : Int) (x2 : Int), J14 M x1 x2 → Aj E l z 14 [(0, vr 25), (1, vi x1), (2, vi x2)] [] M) {M : MM} {x1 : Int} {x2 : Int} (h : VX9_readCounting_14 E l D post J14 M x1 x2) : Aj E l z 14 [(0, vr 25), (1, vi x1), (2, vi x2)] [] M := by
  unfold VX9_readCounting_14 at h
  refine v_iload_n (i := 2) C dX9_readCounting_14 rfl rfl ?_
  refine v_iconst C dX9_readCounting_15 ?_
  refine v_icmp_ge (tgt := 70) C h.1 (by decide) dX9_readCounting_16 (by decide) (fun c => ?_) (fun c => ?_)
  · have g10 := h.2.1 c
    refine v_aload_n (i := 0) C dX9_readCounting_70 rfl rfl ?_
    refine v_iload_n (i := 1) C dX9_readCounting_71 rfl rfl ?_
    refine v_putf (k := 25) (x := x1) (t := 0) C fp_RX9_31 rfl rfl (by decide) (by simp [fv, up]) rfl rfl dX9_readCounting_72 ?_
    obtain ⟨M12, hM12⟩ : ∃ X : MM, X = up M 25 4 x1 := ⟨_, rfl⟩
    refine v_eqM hM12 ?_
    have g13 := g10 M12 hM12
    refine v_iload_n (i := 1) C dX9_readCounting_75 rfl rfl ?_
    refine v_callS (q := qJ6_bitCount_0f7a4) (As := [vi x1]) (S := []) C co_yJ6_bitCount_0f7a4 ml_RX9_48 st_yJ6_bitCount_0f7a4 ini_RJ6 hq_J6_bitCount_0f7a4 (by decide) (Nat.le_of_ble_eq_true rfl) rfl dX9_readCounting_76 (Con.mono g13 (fun rr M14 hr => ?_) (Nat.le_refl _))
    obtain ⟨y15, rfl, g16⟩ := hr
    show Aj E l z (76 + 3) [(0, vr 25), (1, vi x1), (2, vi x2)] [vi y15] M14
    refine v_iconst C dX9_readCounting_79 ?_
    refine v_icmp_lt (tgt := 87) C g16.1 (by decide) dX9_readCounting_80 (by decide) (fun c => ?_) (fun c => ?_)
    · have g17 := g16.2.1 c
      refine v_iconst C dX9_readCounting_87 ?_
      exact v_sub [] rfl (SX9_readCounting_88 C r hJ14 g17)
    · have g18 := g16.2.2 c
      refine v_iconst C dX9_readCounting_83 ?_
      refine v_goto C dX9_readCounting_84 (tgt := 88) (by decide) ?_
      exact v_sub [] rfl (SX9_readCounting_88 C r hJ14 g18)
  · have g11 := h.2.2 c
    refine v_aload_n (i := 0) C dX9_readCounting_19 rfl rfl ?_
    refine v_callV (q := qX9_peek) (k := 25) (As := []) (S := []) C co_yX9_peek ml_RX9_41 im_yX9_peek se_yX9_peek ini_RX9 rfl rfl hq_X9_peek (by decide) (Nat.le_of_ble_eq_true rfl) rfl dX9_readCounting_20 (Con.mono g11 (fun rr M19 hr => ?_) (Nat.le_refl _))
    obtain ⟨y20, rfl, g21⟩ := hr
    show Aj E l z (20 + 3) [(0, vr 25), (1, vi x1), (2, vi x2)] [vi y20] M19
    refine v_bipush C dX9_readCounting_23 (by decide) ?_
    refine v_isub C dX9_readCounting_25 ?_
    obtain ⟨y22, hy22⟩ : ∃ y : Int, y = y20 - 48 := ⟨_, rfl⟩
    have g23 := g21 y22 hy22
    refine v_eqi hy22 ?_
    refine v_istore_n (L' := [(3, vi y22), (0, vr 25), (1, vi x1), (2, vi x2)]) C dX9_readCounting_26 rfl (by decide) rfl ?_
    refine v_iload_n (i := 0) C dX9_readCounting_27 rfl rfl ?_
    refine v_if_lt (tgt := 70) C g23.1 dX9_readCounting_28 (by decide) (fun c => ?_) (fun c => ?_)
    · have g24 := g23.2.1 c
      refine v_aload_n (i := 1) C dX9_readCounting_70 rfl rfl ?_
      refine v_iload_n (i := 2) C dX9_readCounting_71 rfl rfl ?_
      refine v_putf (k := 25) (x := x1) (t := 0) C fp_RX9_31 rfl rfl (by decide) (by simp [fv, up]) rfl rfl dX9_readCounting_72 ?_
      obtain ⟨M26, hM26⟩ : ∃ X : MM, X = up M19 25 4 x1 := ⟨_, rfl⟩
      refine v_eqM hM26 ?_
      have g27 := g24 M26 hM26
      refine v_iload_n (i := 2) C dX9_readCounting_75 rfl rfl ?_
      refine v_callS (q := qJ6_bitCount_0f7a4) (As := [vi x1]) (S := []) C co_yJ6_bitCount_0f7a4 ml_RX9_48 st_yJ6_bitCount_0f7a4 ini_RJ6 hq_J6_bitCount_0f7a4 (by decide) (Nat.le_of_ble_eq_true rfl) rfl dX9_readCounting_76 (Con.mono g27 (fun rr M28 hr => ?_) (Nat.le_refl _))
      obtain ⟨y29, rfl, g30⟩ := hr
      show Aj E l z (76 + 3) [(3, vi y22), (0, vr 25), (1, vi x1), (2, vi x2)] [vi y29] M28
      refine v_iconst C dX9_readCounting_79 ?_
      refine v_icmp_lt (tgt := 87) C g30.1 (by decide) dX9_readCounting_80 (by decide) (fun c => ?_) (fun c => ?_)
      · have g31 := g30.2.1 c
        refine v_iconst C dX9_readCounting_87 ?_
        exact v_sub [] rfl (SX9_readCounting_88 C r hJ14 g31)
      · have g32 := g30.2.2 c
        refine v_iconst C dX9_readCounting_83 ?_
        refine v_goto C dX9_readCounting_84 (tgt := 88) (by decide) ?_
        exact v_sub [] rfl (SX9_readCounting_88 C r hJ14 g32)
    · have g25 := g23.2.2 c
      refine v_iload_n (i := 0) C dX9_readCounting_31 rfl rfl ?_
      refine v_iconst C dX9_readCounting_32 ?_
      refine v_icmp_ge (tgt := 70) C g25.1 (by decide) dX9_readCounting_33 (by decide) (fun c => ?_) (fun c => ?_)
      · have g33 := g25.2.1 c
        refine v_aload_n (i := 1) C dX9_readCounting_70 rfl rfl ?_
        refine v_iload_n (i := 2) C dX9_readCounting_71 rfl rfl ?_
        refine v_putf (k := 25) (x := x1) (t := 0) C fp_RX9_31 rfl rfl (by decide) (by simp [fv, up]) rfl rfl dX9_readCounting_72 ?_
        obtain ⟨M35, hM35⟩ : ∃ X : MM, X = up M19 25 4 x1 := ⟨_, rfl⟩
        refine v_eqM hM35 ?_
        have g36 := g33 M35 hM35
        refine v_iload_n (i := 2) C dX9_readCounting_75 rfl rfl ?_
        refine v_callS (q := qJ6_bitCount_0f7a4) (As := [vi x1]) (S := []) C co_yJ6_bitCount_0f7a4 ml_RX9_48 st_yJ6_bitCount_0f7a4 ini_RJ6 hq_J6_bitCount_0f7a4 (by decide) (Nat.le_of_ble_eq_true rfl) rfl dX9_readCounting_76 (Con.mono g36 (fun rr M37 hr => ?_) (Nat.le_refl _))
        obtain ⟨y38, rfl, g39⟩ := hr
        show Aj E l z (76 + 3) [(3, vi y22), (0, vr 25), (1, vi x1), (2, vi x2)] [vi y38] M37
        refine v_iconst C dX9_readCounting_79 ?_
        refine v_icmp_lt (tgt := 87) C g39.1 (by decide) dX9_readCounting_80 (by decide) (fun c => ?_) (fun c => ?_)
        · have g40 := g39.2.1 c
          refine v_iconst C dX9_readCounting_87 ?_
          exact v_sub [] rfl (SX9_readCounting_88 C r hJ14 g40)
        · have g41 := g39.2.2 c
          refine v_iconst C dX9_readCounting_83 ?_
          refine v_goto C dX9_readCounting_84 (tgt := 88) (by decide) ?_
          exact v_sub [] rfl (SX9_readCounting_88 C r hJ14 g41)
      · have g34 := g25.2.2 c
        refine v_iload_n (i := 2) C dX9_readCounting_36 rfl rfl ?_
        refine v_iload_n (i := 0) C dX9_readCounting_37 rfl rfl ?_
        refine v_ishr C dX9_readCounting_38 ?_
        refine v_iconst C dX9_readCounting_39 ?_
        refine v_iand C dX9_readCounting_40 ?_
        refine v_iconst C dX9_readCounting_41 ?_
        refine v_icmp_ne (tgt := 48) C g34.1 (by decide) dX9_readCounting_42 (by decide) (fun c => ?_) (fun c => ?_)
        · have g42 := g34.2.1 c
          refine v_iload_n (i := 2) C dX9_readCounting_48 rfl rfl ?_
          refine v_iconst C dX9_readCounting_49 ?_
          refine v_iload_n (i := 0) C dX9_readCounting_50 rfl rfl ?_
          refine v_ishl C dX9_readCounting_51 ?_
          refine v_ior C dX9_readCounting_52 ?_
          obtain ⟨y44, hy44⟩ : ∃ y : Int, y = ior x1 (ishl 1 y22) := ⟨_, rfl⟩
          have g45 := g42 y44 hy44
          refine v_eqi hy44 ?_
          refine v_istore_n (L' := [(1, vi y44), (3, vi y22), (0, vr 25), (2, vi x2)]) C dX9_readCounting_53 rfl (by decide) rfl ?_
          refine v_aload_n (i := 2) C dX9_readCounting_54 rfl rfl ?_
          refine v_dup C rfl dX9_readCounting_55 ?_
          refine v_getf (k := 25) C fl_RX9_28 rfl rfl dX9_readCounting_56 ?_
          show Aj E l z (56 + 3) [(1, vi y44), (3, vi y22), (0, vr 25), (2, vi x2)] [vi (M19 25 2), vr 25] M19
          refine v_iconst C dX9_readCounting_59 ?_
          refine v_iadd C dX9_readCounting_60 ?_
          refine v_putf (k := 25) (x := (M19 25 2) + 1) (t := 0) C fp_RX9_28 rfl rfl (by decide) (by simp [fv, up]) rfl rfl dX9_readCounting_61 ?_
          obtain ⟨M46, hM46⟩ : ∃ X : MM, X = up M19 25 2 ((M19 25 2) + 1) := ⟨_, rfl⟩
          refine v_eqM hM46 ?_
          have g47 := g45 M46 hM46
          obtain ⟨y48, hy48⟩ : ∃ y : Int, y = x2 + 1 := ⟨_, rfl⟩
          have g49 := g47 y48 hy48
          refine v_iinc (i := 3) (L' := [(2, vi y48), (1, vi y44), (3, vi y22), (0, vr 25)]) C dX9_readCounting_64 rfl (by decide) hy48 rfl ?_
          refine v_goto C dX9_readCounting_67 (tgt := 14) (by decide) ?_
          exact v_sub [3, 1, 0] rfl (hJ14 _ _ _ g49)
        · have g43 := g34.2.2 c
          refine v_goto C dX9_readCounting_45 (tgt := 70) (by decide) ?_
          exact v_sub [1, 2] rfl (SX9_readCounting_70 C r hJ14 g43)
theorem RX9_readCounting {E : FX} {l : Launch} {D : Nat} {post : Option AV → MM → Prop} (I14 : MM → Int → Int → Prop) (m14 : MM → Int → Int → Nat) {M : MM} (h0 : VX9_readCounting_0 E l D post I14 M) (h14I : ∀ (M : MM) (x1 : Int) (x2 : Int), I14 M x1 x2 → VX9_readCounting_14 E l D post (fun M' x1' x2' => I14 M' x1' x2' ∧ m14 M' x1' x2' < m14 M x1 x2) M x1 x2) : Con E l (D + 1) qX9_readCounting [vr 25] M post := by
  refine con_of (by decide +kernel) (Nat.le_of_ble_eq_true rfl) (fun z C r => ?_)
  have all : ∀ n : Nat, (∀ (M : MM) (x1 : Int) (x2 : Int), I14 M x1 x2 → m14 M x1 x2 < n → Aj E l z 14 [(0, vr 25), (1, vi x1), (2, vi x2)] [] M) := by
    intro n
    induction n with
    | zero => exact fun _ _ _ _ hm => absurd hm (Nat.not_lt_zero _)
    | succ n ih => exact fun M x1 x2 hi hm => SX9_readCounting_14 C r (fun M' x1' x2' hj => ih M' x1' x2' hj.1 (by omega)) (h14I M x1 x2 hi)
  exact v_sub [0] rfl (SX9_readCounting_0 C r (fun M' x1' x2' hj => (all _) M' x1' x2' hj (Nat.lt_succ_self _)) h0)
