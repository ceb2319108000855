def VX11_measure_20 (E : FX) (l : Launch) (D : Nat) (post : Option AV → MM → Prop) (M : MM) : Prop :=
  post (some (vi (-1))) M
set_option maxRecDepth 20000 in
theorem SX11_measure_20 {E : FX} {l : Launch} {D : Nat} {post : Option AV → MM → Prop} {z : RT} (C : Cx E z D RX11 cX11_measure 4) (r : Rt E z (some .int) post) {M : MM} (h : VX11_measure_20 E l D post M) : Aj E l z 20 [] [] M := by
  unfold VX11_measure_20 at h
  refine v_iconst C dX11_measure_20 ?_
  exact v_iret C r dX11_measure_21 h
def VX11_measure_0 (E : FX) (l : Launch) (D : Nat) (post : Option AV → MM → Prop) (M : MM) (x1 : Int) (x2 : Int) : Prop :=
  Con E l D qX11_within [vi x1, vi 0, vi 2] M (fun r M1 => ∃ y2 : Int, r = some (vi y2) ∧ (R32 y2 ∧ ((y2 = 0 → post (some (vi (-1))) M1) ∧ (¬ y2 = 0 → Con E l D qX11_within [vi x2, vi 1, vi 999] M1 (fun r M6 => ∃ y7 : Int, r = some (vi y7) ∧ (R32 y7 ∧ ((¬ y7 = 0 → Con E l D qX7_at [vr 4, vi x1] M6 (fun r M11 => ∃ y12 : Int, r = some (vi y12) ∧ (Con E l D qX7_put [vr 4, vi x1, vi x2] M11 (fun r M14 => r = none ∧ (post (some (vi y12)) M14))))) ∧ (y7 = 0 → post (some (vi (-1))) M6))))))))
set_option maxRecDepth 20000 in
theorem SX11_measure_0 {E : FX} {l : Launch} {D : Nat} {post : Option AV → MM → Prop} {z : RT} (C : Cx E z D RX11 cX11_measure 4) (r : Rt E z (some .int) post) {M : MM} {x1 : Int} {x2 : Int} (h : VX11_measure_0 E l D post M x1 x2) : Aj E l z 0 [(0, vr 0), (1, vi x1), (2, vi x2)] [] M := by
  unfold VX11_measure_0 at h
  refine v_iload_n (i := 1) C dX11_measure_0 rfl rfl ?_
  refine v_iconst C dX11_measure_1 ?_
  refine v_iconst C dX11_measure_2 ?_
  refine v_callS (q := qX11_within) (As := [vi x1, vi 0, vi 2]) (S := []) C co_yX11_within ml_RX11_47 st_yX11_within ini_RX11 hq_X11_within (by decide) (Nat.le_of_ble_eq_true rfl) rfl dX11_measure_3 (Con.mono h (fun rr M1 hr => ?_) (Nat.le_refl _))
  obtain ⟨y2, rfl, g3⟩ := hr
  show Aj E l z (3 + 3) [(0, vr 0), (1, vi x1), (2, vi x2)] [vi y2] M1
  refine v_if_eq (tgt := 20) C g3.1 dX11_measure_6 (by decide) (fun c => ?_) (fun c => ?_)
  · have g4 := g3.2.1 c
    refine v_iconst C dX11_measure_20 ?_
    exact v_iret C r dX11_measure_21 g4
  · have g5 := g3.2.2 c
    refine v_iload_n (i := 2) C dX11_measure_9 rfl rfl ?_
    refine v_iconst C dX11_measure_10 ?_
    refine v_sipush C dX11_measure_11 (by decide) ?_
    refine v_callS (q := qX11_within) (As := [vi x2, vi 1, vi 999]) (S := []) C co_yX11_within ml_RX11_47 st_yX11_within ini_RX11 hq_X11_within (by decide) (Nat.le_of_ble_eq_true rfl) rfl dX11_measure_14 (Con.mono g5 (fun rr M6 hr => ?_) (Nat.le_refl _))
    obtain ⟨y7, rfl, g8⟩ := hr
    show Aj E l z (14 + 3) [(0, vr 0), (1, vi x1), (2, vi x2)] [vi y7] M6
    refine v_if_ne (tgt := 22) C g8.1 dX11_measure_17 (by decide) (fun c => ?_) (fun c => ?_)
    · have g9 := g8.2.1 c
      refine v_aload_n (i := 0) C dX11_measure_22 rfl rfl ?_
      refine v_getf (k := 0) C fl_RX11_10 rfl rfl dX11_measure_23 ?_
      show Aj E l z (23 + 3) [(0, vr 0), (1, vi x1), (2, vi x2)] [vr 1] M6
      refine v_getf (k := 1) C fl_RX11_51 rfl rfl dX11_measure_26 ?_
      show Aj E l z (26 + 3) [(0, vr 0), (1, vi x1), (2, vi x2)] [vr 3] M6
      refine v_getf (k := 3) C fl_RX11_55 rfl rfl dX11_measure_29 ?_
      show Aj E l z (29 + 3) [(0, vr 0), (1, vi x1), (2, vi x2)] [vr 4] M6
      refine v_iload_n (i := 1) C dX11_measure_32 rfl rfl ?_
      refine v_callS (q := qX7_at) (As := [vr 4, vi x1]) (S := []) C co_yX7_at ml_RX11_61 st_yX7_at ini_RX7 hq_X7_at (by decide) (Nat.le_of_ble_eq_true rfl) rfl dX11_measure_33 (Con.mono g9 (fun rr M11 hr => ?_) (Nat.le_refl _))
      obtain ⟨y12, rfl, g13⟩ := hr
      show Aj E l z (33 + 3) [(0, vr 0), (1, vi x1), (2, vi x2)] [vi y12] M11
      refine v_istore_n (L' := [(3, vi y12), (0, vr 0), (1, vi x1), (2, vi x2)]) C dX11_measure_36 rfl (by decide) rfl ?_
      refine v_aload_n (i := 1) C dX11_measure_37 rfl rfl ?_
      refine v_getf (k := 0) C fl_RX11_10 rfl rfl dX11_measure_38 ?_
      show Aj E l z (38 + 3) [(3, vi y12), (0, vr 0), (1, vi x1), (2, vi x2)] [vr 1] M11
      refine v_getf (k := 1) C fl_RX11_51 rfl rfl dX11_measure_41 ?_
      show Aj E l z (41 + 3) [(3, vi y12), (0, vr 0), (1, vi x1), (2, vi x2)] [vr 3] M11
      refine v_getf (k := 3) C fl_RX11_55 rfl rfl dX11_measure_44 ?_
      show Aj E l z (44 + 3) [(3, vi y12), (0, vr 0), (1, vi x1), (2, vi x2)] [vr 4] M11
      refine v_iload_n (i := 2) C dX11_measure_47 rfl rfl ?_
      refine v_iload_n (i := 3) C dX11_measure_48 rfl rfl ?_
      refine v_callS (q := qX7_put) (As := [vr 4, vi x1, vi x2]) (S := []) C co_yX7_put ml_RX11_67 st_yX7_put ini_RX7 hq_X7_put (by decide) (Nat.le_of_ble_eq_true rfl) rfl dX11_measure_49 (Con.mono g13 (fun rr M14 hr => ?_) (Nat.le_refl _))
      obtain ⟨rfl, g15⟩ := hr
      show Aj E l z (49 + 3) [(3, vi y12), (0, vr 0), (1, vi x1), (2, vi x2)] [] M14
      refine v_iload_n (i := 0) C dX11_measure_52 rfl rfl ?_
      exact v_iret C r dX11_measure_53 g15
    · have g10 := g8.2.2 c
      refine v_iconst C dX11_measure_20 ?_
      exact v_iret C r dX11_measure_21 g10
theorem RX11_measure {E : FX} {l : Launch} {D : Nat} {post : Option AV → MM → Prop} {M : MM} {x1 : Int} {x2 : Int} (h0 : VX11_measure_0 E l D post M x1 x2) : Con E l (D + 1) qX11_measure [vr 0, vi x1, vi x2] M post := by
  refine con_of (by decide +kernel) (Nat.le_of_ble_eq_true rfl) (fun z C r => ?_)
  exact v_sub [0, 1, 2] rfl (SX11_measure_0 C r h0)
def VX11_rule_37 (E : FX) (l : Launch) (D : Nat) (post : Option AV → MM → Prop) (M : MM) : Prop :=
  post (some (vi (-1))) M
set_option maxRecDepth 20000 in
theorem SX11_rule_37 {E : FX} {l : Launch} {D : Nat} {post : Option AV → MM → Prop} {z : RT} (C : Cx E z D RX11 cX11_rule 5) (r : Rt E z (some .int) post) {M : MM} (h : VX11_rule_37 E l D post M) : Aj E l z 37 [] [] M := by
  unfold VX11_rule_37 at h
  refine v_iconst C dX11_rule_37 ?_
  exact v_iret C r dX11_rule_38 h
def VX11_rule_23 (E : FX) (l : Launch) (D : Nat) (post : Option AV → MM → Prop) (M : MM) (x1 : Int) (x2 : Int) (s0 : Int) : Prop :=
  R32 s0 ∧ ((s0 = 0 → post (some (vi (-1))) M) ∧ (¬ s0 = 0 → Con E l D qX11_within [vi x2, vi 0, vi 1] M (fun r M3 => ∃ y4 : Int, r = some (vi y4) ∧ (R32 y4 ∧ ((¬ y4 = 0 → ∀ y8 : Int, y8 = (10 * (M3 3 1)) + (M3 3 2) → (∀ M10 : MM, M10 = up M3 3 1 x1 → (∀ M12 : MM, M12 = up M10 3 2 x2 → (post (some (vi y8)) M12)))) ∧ (y4 = 0 → post (some (vi (-1))) M3))))))
set_option maxRecDepth 20000 in
theorem SX11_rule_23 {E : FX} {l : Launch} {D : Nat} {post : Option AV → MM → Prop} {z : RT} (C : Cx E z D RX11 cX11_rule 5) (r : Rt E z (some .int) post) {M : MM} {x1 : Int} {x2 : Int} {s0 : Int} (h : VX11_rule_23 E l D post M x1 x2 s0) : Aj E l z 23 [(0, vr 0), (1, vi x1), (2, vi x2)] [vi s0] M := by
  unfold VX11_rule_23 at h
  refine v_istore_n (L' := [(3, vi s0), (0, vr 0), (1, vi x1), (2, vi x2)]) C dX11_rule_23 rfl (by decide) rfl ?_
  refine v_iload_n (i := 0) C dX11_rule_24 rfl rfl ?_
  refine v_if_eq (tgt := 37) C h.1 dX11_rule_25 (by decide) (fun c => ?_) (fun c => ?_)
  · have g1 := h.2.1 c
    refine v_iconst C dX11_rule_37 ?_
    exact v_iret C r dX11_rule_38 g1
  · have g2 := h.2.2 c
    refine v_iload_n (i := 3) C dX11_rule_28 rfl rfl ?_
    refine v_iconst C dX11_rule_29 ?_
    refine v_iconst C dX11_rule_30 ?_
    refine v_callS (q := qX11_within) (As := [vi x2, vi 0, vi 1]) (S := []) C co_yX11_within ml_RX11_47 st_yX11_within ini_RX11 hq_X11_within (by decide) (Nat.le_of_ble_eq_true rfl) rfl dX11_rule_31 (Con.mono g2 (fun rr M3 hr => ?_) (Nat.le_refl _))
    obtain ⟨y4, rfl, g5⟩ := hr
    show Aj E l z (31 + 3) [(3, vi s0), (0, vr 0), (1, vi x1), (2, vi x2)] [vi y4] M3
    refine v_if_ne (tgt := 39) C g5.1 dX11_rule_34 (by decide) (fun c => ?_) (fun c => ?_)
    · have g6 := g5.2.1 c
      refine v_bipush C dX11_rule_39 (by decide) ?_
      refine v_aload_n (i := 1) C dX11_rule_41 rfl rfl ?_
      refine v_getf (k := 0) C fl_RX11_10 rfl rfl dX11_rule_42 ?_
      show Aj E l z (42 + 3) [(3, vi s0), (0, vr 0), (1, vi x1), (2, vi x2)] [vr 1, vi 10] M3
      refine v_getf (k := 1) C fl_RX11_51 rfl rfl dX11_rule_45 ?_
      show Aj E l z (45 + 3) [(3, vi s0), (0, vr 0), (1, vi x1), (2, vi x2)] [vr 3, vi 10] M3
      refine v_getf (k := 3) C fl_RX11_77 rfl rfl dX11_rule_48 ?_
      show Aj E l z (48 + 3) [(3, vi s0), (0, vr 0), (1, vi x1), (2, vi x2)] [vi (M3 3 1), vi 10] M3
      refine v_imul C dX11_rule_51 ?_
      refine v_aload_n (i := 1) C dX11_rule_52 rfl rfl ?_
      refine v_getf (k := 0) C fl_RX11_10 rfl rfl dX11_rule_53 ?_
      show Aj E l z (53 + 3) [(3, vi s0), (0, vr 0), (1, vi x1), (2, vi x2)] [vr 1, vi (10 * (M3 3 1))] M3
      refine v_getf (k := 1) C fl_RX11_51 rfl rfl dX11_rule_56 ?_
      show Aj E l z (56 + 3) [(3, vi s0), (0, vr 0), (1, vi x1), (2, vi x2)] [vr 3, vi (10 * (M3 3 1))] M3
      refine v_getf (k := 3) C fl_RX11_81 rfl rfl dX11_rule_59 ?_
      show Aj E l z (59 + 3) [(3, vi s0), (0, vr 0), (1, vi x1), (2, vi x2)] [vi (M3 3 2), vi (10 * (M3 3 1))] M3
      refine v_iadd C dX11_rule_62 ?_
      obtain ⟨y8, hy8⟩ : ∃ y : Int, y = (10 * (M3 3 1)) + (M3 3 2) := ⟨_, rfl⟩
      have g9 := g6 y8 hy8
      refine v_eqi hy8 ?_
      refine v_istore (L' := [(4, vi y8), (3, vi s0), (0, vr 0), (1, vi x1), (2, vi x2)]) C dX11_rule_63 (by decide) rfl ?_
      refine v_aload_n (i := 2) C dX11_rule_65 rfl rfl ?_
      refine v_getf (k := 0) C fl_RX11_10 rfl rfl dX11_rule_66 ?_
      show Aj E l z (66 + 3) [(4, vi y8), (3, vi s0), (0, vr 0), (1, vi x1), (2, vi x2)] [vr 1] M3
      refine v_getf (k := 1) C fl_RX11_51 rfl rfl dX11_rule_69 ?_
      show Aj E l z (69 + 3) [(4, vi y8), (3, vi s0), (0, vr 0), (1, vi x1), (2, vi x2)] [vr 3] M3
      refine v_iload_n (i := 3) C dX11_rule_72 rfl rfl ?_
      refine v_putf (k := 3) (x := x1) (t := 0) C fp_RX11_77 rfl rfl (by decide) (by simp [fv, up]) rfl rfl dX11_rule_73 ?_
      obtain ⟨M10, hM10⟩ : ∃ X : MM, X = up M3 3 1 x1 := ⟨_, rfl⟩
      refine v_eqM hM10 ?_
      have g11 := g9 M10 hM10
      refine v_aload_n (i := 2) C dX11_rule_76 rfl rfl ?_
      refine v_getf (k := 0) C fl_RX11_10 rfl rfl dX11_rule_77 ?_
      show Aj E l z (77 + 3) [(4, vi y8), (3, vi s0), (0, vr 0), (1, vi x1), (2, vi x2)] [vr 1] M10
      refine v_getf (k := 1) C fl_RX11_51 rfl rfl dX11_rule_80 ?_
      show Aj E l z (80 + 3) [(4, vi y8), (3, vi s0), (0, vr 0), (1, vi x1), (2, vi x2)] [vr 3] M10
      refine v_iload_n (i := 4) C dX11_rule_83 rfl rfl ?_
      refine v_putf (k := 3) (x := x2) (t := 0) C fp_RX11_81 rfl rfl (by decide) (by simp [fv, up]) rfl rfl dX11_rule_84 ?_
      obtain ⟨M12, hM12⟩ : ∃ X : MM, X = up M10 3 2 x2 := ⟨_, rfl⟩
      refine v_eqM hM12 ?_
      have g13 := g11 M12 hM12
      refine v_iload (i := 0) C dX11_rule_87 rfl ?_
      exact v_iret C r dX11_rule_89 g13
    · have g7 := g5.2.2 c
      refine v_iconst C dX11_rule_37 ?_
      exact v_iret C r dX11_rule_38 g7
def VX11_rule_22 (E : FX) (l : Launch) (D : Nat) (post : Option AV → MM → Prop) (M : MM) (x1 : Int) (x2 : Int) : Prop :=
  VX11_rule_23 E l D post M x1 x2 0
set_option maxRecDepth 20000 in
theorem SX11_rule_22 {E : FX} {l : Launch} {D : Nat} {post : Option AV → MM → Prop} {z : RT} (C : Cx E z D RX11 cX11_rule 5) (r : Rt E z (some .int) post) {M : MM} {x1 : Int} {x2 : Int} (h : VX11_rule_22 E l D post M x1 x2) : Aj E l z 22 [(0, vr 0), (1, vi x1), (2, vi x2)] [] M := by
  unfold VX11_rule_22 at h
  refine v_iconst C dX11_rule_22 ?_
  exact v_sub [0, 1, 2] rfl (SX11_rule_23 C r h)
def VX11_rule_0 (E : FX) (l : Launch) (D : Nat) (post : Option AV → MM → Prop) (M : MM) (x1 : Int) (x2 : Int) : Prop :=
  Con E l D qX11_within [vi x1, vi 1, vi 7] M (fun r M14 => ∃ y15 : Int, r = some (vi y15) ∧ (R32 y15 ∧ ((y15 = 0 → VX11_rule_23 E l D post M14 x1 x2 0) ∧ (¬ y15 = 0 → Con E l D qJ6_bitCount_0f7a4 [vi x1] M14 (fun r M19 => ∃ y20 : Int, r = some (vi y20) ∧ (R32 y20 ∧ ((y20 < 2 → VX11_rule_23 E l D post M19 x1 x2 0) ∧ (¬ y20 < 2 → VX11_rule_23 E l D post M19 x1 x2 1))))))))
set_option maxRecDepth 20000 in
theorem SX11_rule_0 {E : FX} {l : Launch} {D : Nat} {post : Option AV → MM → Prop} {z : RT} (C : Cx E z D RX11 cX11_rule 5) (r : Rt E z (some .int) post) {M : MM} {x1 : Int} {x2 : Int} (h : VX11_rule_0 E l D post M x1 x2) : Aj E l z 0 [(0, vr 0), (1, vi x1), (2, vi x2)] [] M := by
  unfold VX11_rule_0 at h
  refine v_iload_n (i := 1) C dX11_rule_0 rfl rfl ?_
  refine v_iconst C dX11_rule_1 ?_
  refine v_bipush C dX11_rule_2 (by decide) ?_
  refine v_callS (q := qX11_within) (As := [vi x1, vi 1, vi 7]) (S := []) C co_yX11_within ml_RX11_47 st_yX11_within ini_RX11 hq_X11_within (by decide) (Nat.le_of_ble_eq_true rfl) rfl dX11_rule_4 (Con.mono h (fun rr M14 hr => ?_) (Nat.le_refl _))
  obtain ⟨y15, rfl, g16⟩ := hr
  show Aj E l z (4 + 3) [(0, vr 0), (1, vi x1), (2, vi x2)] [vi y15] M14
  refine v_if_eq (tgt := 22) C g16.1 dX11_rule_7 (by decide) (fun c => ?_) (fun c => ?_)
  · have g17 := g16.2.1 c
    refine v_iconst C dX11_rule_22 ?_
    exact v_sub [0, 1, 2] rfl (SX11_rule_23 C r g17)
  · have g18 := g16.2.2 c
    refine v_iload_n (i := 1) C dX11_rule_10 rfl rfl ?_
    refine v_callS (q := qJ6_bitCount_0f7a4) (As := [vi x1]) (S := []) C co_yJ6_bitCount_0f7a4 ml_RX11_71 st_yJ6_bitCount_0f7a4 ini_RJ6 hq_J6_bitCount_0f7a4 (by decide) (Nat.le_of_ble_eq_true rfl) rfl dX11_rule_11 (Con.mono g18 (fun rr M19 hr => ?_) (Nat.le_refl _))
    obtain ⟨y20, rfl, g21⟩ := hr
    show Aj E l z (11 + 3) [(0, vr 0), (1, vi x1), (2, vi x2)] [vi y20] M19
    refine v_iconst C dX11_rule_14 ?_
    refine v_icmp_lt (tgt := 22) C g21.1 (by decide) dX11_rule_15 (by decide) (fun c => ?_) (fun c => ?_)
    · have g22 := g21.2.1 c
      refine v_iconst C dX11_rule_22 ?_
      exact v_sub [0, 1, 2] rfl (SX11_rule_23 C r g22)
    · have g23 := g21.2.2 c
      refine v_iconst C dX11_rule_18 ?_
      refine v_goto C dX11_rule_19 (tgt := 23) (by decide) ?_
      exact v_sub [0, 1, 2] rfl (SX11_rule_23 C r g23)
theorem RX11_rule {E : FX} {l : Launch} {D : Nat} {post : Option AV → MM → Prop} {M : MM} {x1 : Int} {x2 : Int} (h0 : VX11_rule_0 E l D post M x1 x2) : Con E l (D + 1) qX11_rule [vr 0, vi x1, vi x2] M post := by
  refine con_of (by decide +kernel) (Nat.le_of_ble_eq_true rfl) (fun z C r => ?_)
  exact v_sub [0, 1, 2] rfl (SX11_rule_0 C r h0)
def VX11_seam_0 (E : FX) (l : Launch) (D : Nat) (post : Option AV → MM → Prop) (M : MM) (x1 : Int) : Prop :=
  Con E l D qX11_within [vi x1, vi 0, vi 99] M (fun r M1 => ∃ y2 : Int, r = some (vi y2) ∧ (R32 y2 ∧ ((¬ y2 = 0 → ∀ y6 : Int, y6 = M1 5 5 → (∀ M8 : MM, M8 = up M1 5 5 x1 → (post (some (vi y6)) M8))) ∧ (y2 = 0 → post (some (vi (-1))) M1))))
set_option maxRecDepth 20000 in
theorem SX11_seam_0 {E : FX} {l : Launch} {D : Nat} {post : Option AV → MM → Prop} {z : RT} (C : Cx E z D RX11 cX11_seam 3) (r : Rt E z (some .int) post) {M : MM} {x1 : Int} (h : VX11_seam_0 E l D post M x1) : Aj E l z 0 [(0, vr 0), (1, vi x1)] [] M := by
  unfold VX11_seam_0 at h
  refine v_iload_n (i := 1) C dX11_seam_0 rfl rfl ?_
  refine v_iconst C dX11_seam_1 ?_
  refine v_bipush C dX11_seam_2 (by decide) ?_
  refine v_callS (q := qX11_within) (As := [vi x1, vi 0, vi 99]) (S := []) C co_yX11_within ml_RX11_47 st_yX11_within ini_RX11 hq_X11_within (by decide) (Nat.le_of_ble_eq_true rfl) rfl dX11_seam_4 (Con.mono h (fun rr M1 hr => ?_) (Nat.le_refl _))
  obtain ⟨y2, rfl, g3⟩ := hr
  show Aj E l z (4 + 3) [(0, vr 0), (1, vi x1)] [vi y2] M1
  refine v_if_ne (tgt := 12) C g3.1 dX11_seam_7 (by decide) (fun c => ?_) (fun c => ?_)
  · have g4 := g3.2.1 c
    refine v_aload_n (i := 0) C dX11_seam_12 rfl rfl ?_
    refine v_getf (k := 0) C fl_RX11_10 rfl rfl dX11_seam_13 ?_
    show Aj E l z (13 + 3) [(0, vr 0), (1, vi x1)] [vr 1] M1
    refine v_getf (k := 1) C fl_RX11_84 rfl rfl dX11_seam_16 ?_
    show Aj E l z (16 + 3) [(0, vr 0), (1, vi x1)] [vr 5] M1
    refine v_getf (k := 5) C fl_RX11_88 rfl rfl dX11_seam_19 ?_
    show Aj E l z (19 + 3) [(0, vr 0), (1, vi x1)] [vi (M1 5 5)] M1
    obtain ⟨y6, hy6⟩ : ∃ y : Int, y = M1 5 5 := ⟨_, rfl⟩
    have g7 := g4 y6 hy6
    refine v_eqi hy6 ?_
    refine v_istore_n (L' := [(2, vi y6), (0, vr 0), (1, vi x1)]) C dX11_seam_22 rfl (by decide) rfl ?_
    refine v_aload_n (i := 1) C dX11_seam_23 rfl rfl ?_
    refine v_getf (k := 0) C fl_RX11_10 rfl rfl dX11_seam_24 ?_
    show Aj E l z (24 + 3) [(2, vi y6), (0, vr 0), (1, vi x1)] [vr 1] M1
    refine v_getf (k := 1) C fl_RX11_84 rfl rfl dX11_seam_27 ?_
    show Aj E l z (27 + 3) [(2, vi y6), (0, vr 0), (1, vi x1)] [vr 5] M1
    refine v_iload_n (i := 2) C dX11_seam_30 rfl rfl ?_
    refine v_putf (k := 5) (x := x1) (t := 0) C fp_RX11_88 rfl rfl (by decide) (by simp [fv, up]) rfl rfl dX11_seam_31 ?_
    obtain ⟨M8, hM8⟩ : ∃ X : MM, X = up M1 5 5 x1 := ⟨_, rfl⟩
    refine v_eqM hM8 ?_
    have g9 := g7 M8 hM8
    refine v_iload_n (i := 0) C dX11_seam_34 rfl rfl ?_
    exact v_iret C r dX11_seam_35 g9
  · have g5 := g3.2.2 c
    refine v_iconst C dX11_seam_10 ?_
    exact v_iret C r dX11_seam_11 g5
theorem RX11_seam {E : FX} {l : Launch} {D : Nat} {post : Option AV → MM → Prop} {M : MM} {x1 : Int} (h0 : VX11_seam_0 E l D post M x1) : Con E l (D + 1) qX11_seam [vr 0, vi x1] M post := by
  refine con_of (by decide +kernel) (Nat.le_of_ble_eq_true rfl) (fun z C r => ?_)
  exact v_sub [0, 1] rfl (SX11_seam_0 C r h0)
def VX11_place_0 (E : FX) (l : Launch) (D : Nat) (post : Option AV → MM → Prop) (M : MM) (x1 : Int) : Prop :=
  Con E l D qX11_within [vi x1, vi 1, vi 999999] M (fun r M1 => ∃ y2 : Int, r = some (vi y2) ∧ (R32 y2 ∧ ((¬ y2 = 0 → Con E l D qX11_marksNow [vr 0] M1 (fun r M6 => r = some (vr 37) ∧ (Con E l D qX6_nth [vr 37, vi x1] M6 (fun r M9 => ∃ y10 : Int, r = some (vj y10) ∧ (post (some (vj y10)) M9))))) ∧ (y2 = 0 → post (some (vj (-1))) M1))))
set_option maxRecDepth 20000 in
theorem SX11_place_0 {E : FX} {l : Launch} {D : Nat} {post : Option AV → MM → Prop} {z : RT} (C : Cx E z D RX11 cX11_place 2) (r : Rt E z (some .long) post) {M : MM} {x1 : Int} (h : VX11_place_0 E l D post M x1) : Aj E l z 0 [(0, vr 0), (1, vi x1)] [] M := by
  unfold VX11_place_0 at h
  refine v_iload_n (i := 1) C dX11_place_0 rfl rfl ?_
  refine v_iconst C dX11_place_1 ?_
  refine v_ldc (x := 999999) C cs_RX11_93 (by decide) dX11_place_2 ?_
  refine v_callS (q := qX11_within) (As := [vi x1, vi 1, vi 999999]) (S := []) C co_yX11_within ml_RX11_47 st_yX11_within ini_RX11 hq_X11_within (by decide) (Nat.le_of_ble_eq_true rfl) rfl dX11_place_4 (Con.mono h (fun rr M1 hr => ?_) (Nat.le_refl _))
  obtain ⟨y2, rfl, g3⟩ := hr
  show Aj E l z (4 + 3) [(0, vr 0), (1, vi x1)] [vi y2] M1
  refine v_if_ne (tgt := 14) C g3.1 dX11_place_7 (by decide) (fun c => ?_) (fun c => ?_)
  · have g4 := g3.2.1 c
    refine v_aload_n (i := 0) C dX11_place_14 rfl rfl ?_
    refine v_callV (q := qX11_marksNow) (k := 0) (As := []) (S := []) C co_yX11_marksNow ml_RX11_96 im_yX11_marksNow se_yX11_marksNow ini_RX11 rfl rfl hq_X11_marksNow (by decide) (Nat.le_of_ble_eq_true rfl) rfl dX11_place_15 (Con.mono g4 (fun rr M6 hr => ?_) (Nat.le_refl _))
    obtain ⟨rfl, g8⟩ := hr
    show Aj E l z (15 + 3) [(0, vr 0), (1, vi x1)] [vr 37] M6
    refine v_iload_n (i := 1) C dX11_place_18 rfl rfl ?_
    refine v_callV (q := qX6_nth) (k := 37) (As := [vi x1]) (S := []) C co_yX6_nth ml_RX11_100 im_yX6_nth se_yX6_nth ini_RX6 rfl rfl hq_X6_nth (by decide) (Nat.le_of_ble_eq_true rfl) rfl dX11_place_19 (Con.mono g8 (fun rr M9 hr => ?_) (Nat.le_refl _))
    obtain ⟨y10, rfl, g11⟩ := hr
    show Aj E l z (19 + 3) [(0, vr 0), (1, vi x1)] [vj y10] M9
    exact v_lret C r dX11_place_22 g11
  · have g5 := g3.2.2 c
    refine v_ldc2 (x := -1) C cs_RX11_94 (by decide) dX11_place_10 ?_
    exact v_lret C r dX11_place_13 g5
theorem RX11_place {E : FX} {l : Launch} {D : Nat} {post : Option AV → MM → Prop} {M : MM} {x1 : Int} (h0 : VX11_place_0 E l D post M x1) : Con E l (D + 1) qX11_place [vr 0, vi x1] M post := by
  refine con_of (by decide +kernel) (Nat.le_of_ble_eq_true rfl) (fun z C r => ?_)
  exact v_sub [0, 1] rfl (SX11_place_0 C r h0)
def VX11_places_14 (E : FX) (l : Launch) (D : Nat) (post : Option AV → MM → Prop) (M : MM) : Prop :=
  post (some (vj (-1))) M
set_option maxRecDepth 20000 in
theorem SX11_places_14 {E : FX} {l : Launch} {D : Nat} {post : Option AV → MM → Prop} {z : RT} (C : Cx E z D RX11 cX11_places 3) (r : Rt E z (some .long) post) {M : MM} (h : VX11_places_14 E l D post M) : Aj E l z 14 [] [] M := by
  unfold VX11_places_14 at h
  refine v_ldc2 (x := -1) C cs_RX11_94 (by decide) dX11_places_14 ?_
  exact v_lret C r dX11_places_17 h
def VX11_places_0 (E : FX) (l : Launch) (D : Nat) (post : Option AV → MM → Prop) (M : MM) (x1 : Int) : Prop :=
  R64 x1 ∧ ((x1 < 0 → post (some (vj (-1))) M) ∧ (¬ x1 < 0 → R64 x1 ∧ ((x1 ≤ 1000000000000000 → Con E l D qX11_marksNow [vr 0] M (fun r M5 => r = some (vr 37) ∧ (Con E l D qX6_howManyTo [vr 37, vj x1] M5 (fun r M8 => ∃ y9 : Int, r = some (vj y9) ∧ (post (some (vj y9)) M8))))) ∧ (¬ x1 ≤ 1000000000000000 → post (some (vj (-1))) M))))
set_option maxRecDepth 20000 in
theorem SX11_places_0 {E : FX} {l : Launch} {D : Nat} {post : Option AV → MM → Prop} {z : RT} (C : Cx E z D RX11 cX11_places 3) (r : Rt E z (some .long) post) {M : MM} {x1 : Int} (h : VX11_places_0 E l D post M x1) : Aj E l z 0 [(0, vr 0), (1, vj x1)] [] M := by
  unfold VX11_places_0 at h
  refine v_lload_n (i := 1) C dX11_places_0 rfl rfl ?_
  refine v_lconst (x := 0) C dX11_places_1 (by decide) ?_
  refine v_lif_lt (tgt := 14) C h.1 (by decide) dX11_places_2 dX11_places_3 (by decide) (fun c => ?_) (fun c => ?_)
  · have g1 := h.2.1 c
    refine v_ldc2 (x := -1) C cs_RX11_94 (by decide) dX11_places_14 ?_
    exact v_lret C r dX11_places_17 g1
  · have g2 := h.2.2 c
    refine v_lload_n (i := 1) C dX11_places_6 rfl rfl ?_
    refine v_ldc2 (x := 1000000000000000) C cs_RX11_104 (by decide) dX11_places_7 ?_
    refine v_lif_le (tgt := 18) C g2.1 (by decide) dX11_places_10 dX11_places_11 (by decide) (fun c => ?_) (fun c => ?_)
    · have g3 := g2.2.1 c
      refine v_aload_n (i := 0) C dX11_places_18 rfl rfl ?_
      refine v_callV (q := qX11_marksNow) (k := 0) (As := []) (S := []) C co_yX11_marksNow ml_RX11_96 im_yX11_marksNow se_yX11_marksNow ini_RX11 rfl rfl hq_X11_marksNow (by decide) (Nat.le_of_ble_eq_true rfl) rfl dX11_places_19 (Con.mono g3 (fun rr M5 hr => ?_) (Nat.le_refl _))
      obtain ⟨rfl, g7⟩ := hr
      show Aj E l z (19 + 3) [(0, vr 0), (1, vj x1)] [vr 37] M5
      refine v_lload_n (i := 1) C dX11_places_22 rfl rfl ?_
      refine v_callV (q := qX6_howManyTo) (k := 37) (As := [vj x1]) (S := []) C co_yX6_howManyTo ml_RX11_106 im_yX6_howManyTo se_yX6_howManyTo ini_RX6 rfl rfl hq_X6_howManyTo (by decide) (Nat.le_of_ble_eq_true rfl) rfl dX11_places_23 (Con.mono g7 (fun rr M8 hr => ?_) (Nat.le_refl _))
      obtain ⟨y9, rfl, g10⟩ := hr
      show Aj E l z (23 + 3) [(0, vr 0), (1, vj x1)] [vj y9] M8
      exact v_lret C r dX11_places_26 g10
    · have g4 := g2.2.2 c
      refine v_ldc2 (x := -1) C cs_RX11_94 (by decide) dX11_places_14 ?_
      exact v_lret C r dX11_places_17 g4
theorem RX11_places {E : FX} {l : Launch} {D : Nat} {post : Option AV → MM → Prop} {M : MM} {x1 : Int} (h0 : VX11_places_0 E l D post M x1) : Con E l (D + 1) qX11_places [vr 0, vj x1] M post := by
  refine con_of (by decide +kernel) (Nat.le_of_ble_eq_true rfl) (fun z C r => ?_)
  exact v_sub [0, 1] rfl (SX11_places_0 C r h0)
def VX11_bolt_17 (E : FX) (l : Launch) (D : Nat) (post : Option AV → MM → Prop) (M : MM) : Prop :=
  post (some (vi (-1))) M
set_option maxRecDepth 20000 in
theorem SX11_bolt_17 {E : FX} {l : Launch} {D : Nat} {post : Option AV → MM → Prop} {z : RT} (C : Cx E z D RX11 cX11_bolt 3) (r : Rt E z (some .int) post) {M : MM} (h : VX11_bolt_17 E l D post M) : Aj E l z 17 [] [] M := by
  unfold VX11_bolt_17 at h
  refine v_iconst C dX11_bolt_17 ?_
  exact v_iret C r dX11_bolt_18 h
def VX11_bolt_51 (E : FX) (l : Launch) (D : Nat) (post : Option AV → MM → Prop) (M : MM) (s0 : Int) : Prop :=
  post (some (vi s0)) M
set_option maxRecDepth 20000 in
theorem SX11_bolt_51 {E : FX} {l : Launch} {D : Nat} {post : Option AV → MM → Prop} {z : RT} (C : Cx E z D RX11 cX11_bolt 3) (r : Rt E z (some .int) post) {M : MM} {s0 : Int} (h : VX11_bolt_51 E l D post M s0) : Aj E l z 51 [] [vi s0] M := by
  unfold VX11_bolt_51 at h
  exact v_iret C r dX11_bolt_51 h
def VX11_bolt_0 (E : FX) (l : Launch) (D : Nat) (post : Option AV → MM → Prop) (M : MM) (x1 : Int) (x2 : Int) : Prop :=
  Con E l D qX11_isCloth [vi x1] M (fun r M1 => ∃ y2 : Int, r = some (vi y2) ∧ (R32 y2 ∧ ((y2 = 0 → post (some (vi (-1))) M1) ∧ (¬ y2 = 0 → Con E l D qX11_within [vi x2, vi 1, vi 99999] M1 (fun r M6 => ∃ y7 : Int, r = some (vi y7) ∧ (R32 y7 ∧ ((¬ y7 = 0 → R32 (M6 5 3) ∧ ((M6 5 3 < 8 → Con E l D qX0_add [vr 5, vi x1, vi x2] M6 (fun r M13 => ∃ y14 : Int, r = some (vi y14) ∧ (VX11_bolt_51 E l D post M13 y14))) ∧ (¬ M6 5 3 < 8 → VX11_bolt_51 E l D post M6 (-3)))) ∧ (y7 = 0 → post (some (vi (-1))) M6))))))))
set_option maxRecDepth 20000 in
theorem SX11_bolt_0 {E : FX} {l : Launch} {D : Nat} {post : Option AV → MM → Prop} {z : RT} (C : Cx E z D RX11 cX11_bolt 3) (r : Rt E z (some .int) post) {M : MM} {x1 : Int} {x2 : Int} (h : VX11_bolt_0 E l D post M x1 x2) : Aj E l z 0 [(0, vr 0), (1, vi x1), (2, vi x2)] [] M := by
  unfold VX11_bolt_0 at h
  refine v_iload_n (i := 1) C dX11_bolt_0 rfl rfl ?_
  refine v_callS (q := qX11_isCloth) (As := [vi x1]) (S := []) C co_yX11_isCloth ml_RX11_110 st_yX11_isCloth ini_RX11 hq_X11_isCloth (by decide) (Nat.le_of_ble_eq_true rfl) rfl dX11_bolt_1 (Con.mono h (fun rr M1 hr => ?_) (Nat.le_refl _))
  obtain ⟨y2, rfl, g3⟩ := hr
  show Aj E l z (1 + 3) [(0, vr 0), (1, vi x1), (2, vi x2)] [vi y2] M1
  refine v_if_eq (tgt := 17) C g3.1 dX11_bolt_4 (by decide) (fun c => ?_) (fun c => ?_)
  · have g4 := g3.2.1 c
    refine v_iconst C dX11_bolt_17 ?_
    exact v_iret C r dX11_bolt_18 g4
  · have g5 := g3.2.2 c
    refine v_iload_n (i := 2) C dX11_bolt_7 rfl rfl ?_
    refine v_iconst C dX11_bolt_8 ?_
    refine v_ldc (x := 99999) C cs_RX11_114 (by decide) dX11_bolt_9 ?_
    refine v_callS (q := qX11_within) (As := [vi x2, vi 1, vi 99999]) (S := []) C co_yX11_within ml_RX11_47 st_yX11_within ini_RX11 hq_X11_within (by decide) (Nat.le_of_ble_eq_true rfl) rfl dX11_bolt_11 (Con.mono g5 (fun rr M6 hr => ?_) (Nat.le_refl _))
    obtain ⟨y7, rfl, g8⟩ := hr
    show Aj E l z (11 + 3) [(0, vr 0), (1, vi x1), (2, vi x2)] [vi y7] M6
    refine v_if_ne (tgt := 19) C g8.1 dX11_bolt_14 (by decide) (fun c => ?_) (fun c => ?_)
    · have g9 := g8.2.1 c
      refine v_aload_n (i := 0) C dX11_bolt_19 rfl rfl ?_
      refine v_getf (k := 0) C fl_RX11_10 rfl rfl dX11_bolt_20 ?_
      show Aj E l z (20 + 3) [(0, vr 0), (1, vi x1), (2, vi x2)] [vr 1] M6
      refine v_getf (k := 1) C fl_RX11_84 rfl rfl dX11_bolt_23 ?_
      show Aj E l z (23 + 3) [(0, vr 0), (1, vi x1), (2, vi x2)] [vr 5] M6
      refine v_getf (k := 5) C fl_RX11_115 rfl rfl dX11_bolt_26 ?_
      show Aj E l z (26 + 3) [(0, vr 0), (1, vi x1), (2, vi x2)] [vi (M6 5 3)] M6
      refine v_bipush C dX11_bolt_29 (by decide) ?_
      refine v_icmp_lt (tgt := 39) C g9.1 (by decide) dX11_bolt_31 (by decide) (fun c => ?_) (fun c => ?_)
      · have g11 := g9.2.1 c
        refine v_aload_n (i := 0) C dX11_bolt_39 rfl rfl ?_
        refine v_getf (k := 0) C fl_RX11_10 rfl rfl dX11_bolt_40 ?_
        show Aj E l z (40 + 3) [(0, vr 0), (1, vi x1), (2, vi x2)] [vr 1] M6
        refine v_getf (k := 1) C fl_RX11_84 rfl rfl dX11_bolt_43 ?_
        show Aj E l z (43 + 3) [(0, vr 0), (1, vi x1), (2, vi x2)] [vr 5] M6
        refine v_iload_n (i := 1) C dX11_bolt_46 rfl rfl ?_
        refine v_iload_n (i := 2) C dX11_bolt_47 rfl rfl ?_
        refine v_callV (q := qX0_add) (k := 5) (As := [vi x1, vi x2]) (S := []) C co_yX0_add ml_RX11_118 im_yX0_add se_yX0_add ini_RX0 rfl rfl hq_X0_add (by decide) (Nat.le_of_ble_eq_true rfl) rfl dX11_bolt_48 (Con.mono g11 (fun rr M13 hr => ?_) (Nat.le_refl _))
        obtain ⟨y14, rfl, g15⟩ := hr
        show Aj E l z (48 + 3) [(0, vr 0), (1, vi x1), (2, vi x2)] [vi y14] M13
        exact v_sub [] rfl (SX11_bolt_51 C r g15)
      · have g12 := g9.2.2 c
        refine v_bipush C dX11_bolt_34 (by decide) ?_
        refine v_goto C dX11_bolt_36 (tgt := 51) (by decide) ?_
        exact v_sub [] rfl (SX11_bolt_51 C r g12)
    · have g10 := g8.2.2 c
      refine v_iconst C dX11_bolt_17 ?_
      exact v_iret C r dX11_bolt_18 g10
theorem RX11_bolt {E : FX} {l : Launch} {D : Nat} {post : Option AV → MM → Prop} {M : MM} {x1 : Int} {x2 : Int} (h0 : VX11_bolt_0 E l D post M x1 x2) : Con E l (D + 1) qX11_bolt [vr 0, vi x1, vi x2] M post := by
  refine con_of (by decide +kernel) (Nat.le_of_ble_eq_true rfl) (fun z C r => ?_)
  exact v_sub [0, 1, 2] rfl (SX11_bolt_0 C r h0)
def VX11_told_25 (E : FX) (l : Launch) (D : Nat) (post : Option AV → MM → Prop) (M : MM) : Prop :=
  post (some (vi (-1))) M
set_option maxRecDepth 20000 in
theorem SX11_told_25 {E : FX} {l : Launch} {D : Nat} {post : Option AV → MM → Prop} {z : RT} (C : Cx E z D RX11 cX11_told 5) (r : Rt E z (some .int) post) {M : MM} (h : VX11_told_25 E l D post M) : Aj E l z 25 [] [] M := by
  unfold VX11_told_25 at h
  refine v_iconst C dX11_told_25 ?_
  exact v_iret C r dX11_told_26 h
def VX11_told_71 (E : FX) (l : Launch) (D : Nat) (post : Option AV → MM → Prop) (M : MM) (s0 : Int) : Prop :=
  post (some (vi s0)) M
set_option maxRecDepth 20000 in
theorem SX11_told_71 {E : FX} {l : Launch} {D : Nat} {post : Option AV → MM → Prop} {z : RT} (C : Cx E z D RX11 cX11_told 5) (r : Rt E z (some .int) post) {M : MM} {s0 : Int} (h : VX11_told_71 E l D post M s0) : Aj E l z 71 [] [vi s0] M := by
  unfold VX11_told_71 at h
  exact v_iret C r dX11_told_71 h
def VX11_told_0 (E : FX) (l : Launch) (D : Nat) (post : Option AV → MM → Prop) (M : MM) (x1 : Int) (x2 : Int) : Prop :=
  Con E l D qX0_has [vr 5, vi x1] M (fun r M1 => ∃ y2 : Int, r = some (vi y2) ∧ (R32 y2 ∧ ((y2 = 0 → post (some (vi (-1))) M1) ∧ (¬ y2 = 0 → Con E l D qX11_within [vi x2, vi 0, vi 2] M1 (fun r M6 => ∃ y7 : Int, r = some (vi y7) ∧ (R32 y7 ∧ ((¬ y7 = 0 → R32 x2 ∧ ((¬ x2 = 0 → Con E l D qX7_at [vr 7, vi x1] M6 (fun r M13 => ∃ y14 : Int, r = some (vi y14) ∧ (R32 x2 ∧ ((¬ x2 = 1 → Con E l D qX11_marksNow [vr 0] M13 (fun r M18 => r = some (vr 37) ∧ (R32 y14 ∧ (Con E l D qX6_lastTo [vr 37, vj y14] M18 (fun r M21 => ∃ y22 : Int, r = some (vj y22) ∧ (VX11_told_71 E l D post M21 (w32 y22))))))) ∧ (x2 = 1 → VX11_told_71 E l D post M13 y14))))) ∧ (x2 = 0 → Con E l D qX7_at [vr 6, vi x1] M6 (fun r M24 => ∃ y25 : Int, r = some (vi y25) ∧ (post (some (vi y25)) M24))))) ∧ (y7 = 0 → post (some (vi (-1))) M6))))))))
set_option maxRecDepth 20000 in
theorem SX11_told_0 {E : FX} {l : Launch} {D : Nat} {post : Option AV → MM → Prop} {z : RT} (C : Cx E z D RX11 cX11_told 5) (r : Rt E z (some .int) post) {M : MM} {x1 : Int} {x2 : Int} (h : VX11_told_0 E l D post M x1 x2) : Aj E l z 0 [(0, vr 0), (1, vi x1), (2, vi x2)] [] M := by
  unfold VX11_told_0 at h
  refine v_aload_n (i := 0) C dX11_told_0 rfl rfl ?_
  refine v_getf (k := 0) C fl_RX11_10 rfl rfl dX11_told_1 ?_
  show Aj E l z (1 + 3) [(0, vr 0), (1, vi x1), (2, vi x2)] [vr 1] M
  refine v_getf (k := 1) C fl_RX11_84 rfl rfl dX11_told_4 ?_
  show Aj E l z (4 + 3) [(0, vr 0), (1, vi x1), (2, vi x2)] [vr 5] M
  refine v_astore_n (L' := [(3, vr 5), (0, vr 0), (1, vi x1), (2, vi x2)]) C dX11_told_7 rfl (by decide) rfl ?_
  refine v_aload_n (i := 0) C dX11_told_8 rfl rfl ?_
  refine v_iload_n (i := 2) C dX11_told_9 rfl rfl ?_
  refine v_callV (q := qX0_has) (k := 5) (As := [vi x1]) (S := []) C co_yX0_has ml_RX11_122 im_yX0_has se_yX0_has ini_RX0 rfl rfl hq_X0_has (by decide) (Nat.le_of_ble_eq_true rfl) rfl dX11_told_10 (Con.mono h (fun rr M1 hr => ?_) (Nat.le_refl _))
  obtain ⟨y2, rfl, g3⟩ := hr
  show Aj E l z (10 + 3) [(3, vr 5), (0, vr 0), (1, vi x1), (2, vi x2)] [vi y2] M1
  refine v_if_eq (tgt := 25) C g3.1 dX11_told_13 (by decide) (fun c => ?_) (fun c => ?_)
  · have g4 := g3.2.1 c
    refine v_iconst C dX11_told_25 ?_
    exact v_iret C r dX11_told_26 g4
  · have g5 := g3.2.2 c
    refine v_iload_n (i := 3) C dX11_told_16 rfl rfl ?_
    refine v_iconst C dX11_told_17 ?_
    refine v_iconst C dX11_told_18 ?_
    refine v_callS (q := qX11_within) (As := [vi x2, vi 0, vi 2]) (S := []) C co_yX11_within ml_RX11_47 st_yX11_within ini_RX11 hq_X11_within (by decide) (Nat.le_of_ble_eq_true rfl) rfl dX11_told_19 (Con.mono g5 (fun rr M6 hr => ?_) (Nat.le_refl _))
    obtain ⟨y7, rfl, g8⟩ := hr
    show Aj E l z (19 + 3) [(3, vr 5), (0, vr 0), (1, vi x1), (2, vi x2)] [vi y7] M6
    refine v_if_ne (tgt := 27) C g8.1 dX11_told_22 (by decide) (fun c => ?_) (fun c => ?_)
    · have g9 := g8.2.1 c
      refine v_iload_n (i := 3) C dX11_told_27 rfl rfl ?_
      refine v_if_ne (tgt := 40) C g9.1 dX11_told_28 (by decide) (fun c => ?_) (fun c => ?_)
      · have g11 := g9.2.1 c
        refine v_aload_n (i := 0) C dX11_told_40 rfl rfl ?_
        refine v_getf (k := 5) C fl_RX11_128 rfl rfl dX11_told_41 ?_
        show Aj E l z (41 + 3) [(3, vr 5), (0, vr 0), (1, vi x1), (2, vi x2)] [vr 7] M6
        refine v_iload_n (i := 2) C dX11_told_44 rfl rfl ?_
        refine v_callS (q := qX7_at) (As := [vr 7, vi x1]) (S := []) C co_yX7_at ml_RX11_61 st_yX7_at ini_RX7 hq_X7_at (by decide) (Nat.le_of_ble_eq_true rfl) rfl dX11_told_45 (Con.mono g11 (fun rr M13 hr => ?_) (Nat.le_refl _))
        obtain ⟨y14, rfl, g15⟩ := hr
        show Aj E l z (45 + 3) [(3, vr 5), (0, vr 0), (1, vi x1), (2, vi x2)] [vi y14] M13
        refine v_istore (L' := [(4, vi y14), (3, vr 5), (0, vr 0), (1, vi x1), (2, vi x2)]) C dX11_told_48 (by decide) rfl ?_
        refine v_iload_n (i := 4) C dX11_told_50 rfl rfl ?_
        refine v_iconst C dX11_told_51 ?_
        refine v_icmp_ne (tgt := 60) C g15.1 (by decide) dX11_told_52 (by decide) (fun c => ?_) (fun c => ?_)
        · have g16 := g15.2.1 c
          refine v_aload_n (i := 2) C dX11_told_60 rfl rfl ?_
          refine v_callV (q := qX11_marksNow) (k := 0) (As := []) (S := []) C co_yX11_marksNow ml_RX11_96 im_yX11_marksNow se_yX11_marksNow ini_RX11 rfl rfl hq_X11_marksNow (by decide) (Nat.le_of_ble_eq_true rfl) rfl dX11_told_61 (Con.mono g16 (fun rr M18 hr => ?_) (Nat.le_refl _))
          obtain ⟨rfl, g20⟩ := hr
          show Aj E l z (61 + 3) [(4, vi y14), (3, vr 5), (0, vr 0), (1, vi x1), (2, vi x2)] [vr 37] M18
          refine v_iload (i := 0) C dX11_told_64 rfl ?_
          refine v_i2l C g20.1 dX11_told_66 ?_
          refine v_callV (q := qX6_lastTo) (k := 37) (As := [vj y14]) (S := []) C co_yX6_lastTo ml_RX11_131 im_yX6_lastTo se_yX6_lastTo ini_RX6 rfl rfl hq_X6_lastTo (by decide) (Nat.le_of_ble_eq_true rfl) rfl dX11_told_67 (Con.mono g20.2 (fun rr M21 hr => ?_) (Nat.le_refl _))
          obtain ⟨y22, rfl, g23⟩ := hr
          show Aj E l z (67 + 3) [(4, vi y14), (3, vr 5), (0, vr 0), (1, vi x1), (2, vi x2)] [vj y22] M21
          refine v_l2i C dX11_told_70 ?_
          exact v_sub [] rfl (SX11_told_71 C r g23)
        · have g17 := g15.2.2 c
          refine v_iload (i := 0) C dX11_told_55 rfl ?_
          refine v_goto C dX11_told_57 (tgt := 71) (by decide) ?_
          exact v_sub [] rfl (SX11_told_71 C r g17)
      · have g12 := g9.2.2 c
        refine v_aload_n (i := 0) C dX11_told_31 rfl rfl ?_
        refine v_getf (k := 5) C fl_RX11_125 rfl rfl dX11_told_32 ?_
        show Aj E l z (32 + 3) [(3, vr 5), (0, vr 0), (1, vi x1), (2, vi x2)] [vr 6] M6
        refine v_iload_n (i := 2) C dX11_told_35 rfl rfl ?_
        refine v_callS (q := qX7_at) (As := [vr 6, vi x1]) (S := []) C co_yX7_at ml_RX11_61 st_yX7_at ini_RX7 hq_X7_at (by decide) (Nat.le_of_ble_eq_true rfl) rfl dX11_told_36 (Con.mono g12 (fun rr M24 hr => ?_) (Nat.le_refl _))
        obtain ⟨y25, rfl, g26⟩ := hr
        show Aj E l z (36 + 3) [(3, vr 5), (0, vr 0), (1, vi x1), (2, vi x2)] [vi y25] M24
        exact v_iret C r dX11_told_39 g26
    · have g10 := g8.2.2 c
      refine v_iconst C dX11_told_25 ?_
      exact v_iret C r dX11_told_26 g10
theorem RX11_told {E : FX} {l : Launch} {D : Nat} {post : Option AV → MM → Prop} {M : MM} {x1 : Int} {x2 : Int} (h0 : VX11_told_0 E l D post M x1 x2) : Con E l (D + 1) qX11_told [vr 0, vi x1, vi x2] M post := by
  refine con_of (by decide +kernel) (Nat.le_of_ble_eq_true rfl) (fun z C r => ?_)
  exact v_sub [0, 1, 2] rfl (SX11_told_0 C r h0)
def VX11_cut_42 (E : FX) (l : Launch) (D : Nat) (post : Option AV → MM → Prop) (M : MM) : Prop :=
  post (some (vi (-2))) M
set_option maxRecDepth 20000 in
theorem SX11_cut_42 {E : FX} {l : Launch} {D : Nat} {post : Option AV → MM → Prop} {z : RT} (C : Cx E z D RX11 cX11_cut 4) (r : Rt E z (some .int) post) {M : MM} (h : VX11_cut_42 E l D post M) : Aj E l z 42 [] [] M := by
  unfold VX11_cut_42 at h
  refine v_bipush C dX11_cut_42 (by decide) ?_
  exact v_iret C r dX11_cut_44 h
def VX11_cut_0 (E : FX) (l : Launch) (D : Nat) (post : Option AV → MM → Prop) (M : MM) (x1 : Int) (x2 : Int) : Prop :=
  Con E l D qX0_has [vr 5, vi x1] M (fun r M1 => ∃ y2 : Int, r = some (vi y2) ∧ (R32 y2 ∧ ((¬ y2 = 0 → Con E l D qX7_at [vr 7, vi x1] M1 (fun r M6 => ∃ y7 : Int, r = some (vi y7) ∧ (R32 x2 ∧ (R32 y7 ∧ ((y7 < x2 → post (some (vi (-2))) M6) ∧ (¬ y7 < x2 → Con E l D qX11_marksNow [vr 0] M6 (fun r M11 => r = some (vr 37) ∧ (R32 x2 ∧ (Con E l D qX6_areMetAt [vr 37, vj x2] M11 (fun r M14 => ∃ y15 : Int, r = some (vi y15) ∧ (R32 y15 ∧ ((¬ y15 = 0 → Con E l D qX0_sell [vr 5, vi x1, vi x2] M14 (fun r M19 => ∃ y20 : Int, r = some (vi y20) ∧ (post (some (vi y20)) M19))) ∧ (y15 = 0 → post (some (vi (-2))) M14))))))))))))) ∧ (y2 = 0 → post (some (vi (-1))) M1))))
set_option maxRecDepth 20000 in
theorem SX11_cut_0 {E : FX} {l : Launch} {D : Nat} {post : Option AV → MM → Prop} {z : RT} (C : Cx E z D RX11 cX11_cut 4) (r : Rt E z (some .int) post) {M : MM} {x1 : Int} {x2 : Int} (h : VX11_cut_0 E l D post M x1 x2) : Aj E l z 0 [(0, vr 0), (1, vi x1), (2, vi x2)] [] M := by
  unfold VX11_cut_0 at h
  refine v_aload_n (i := 0) C dX11_cut_0 rfl rfl ?_
  refine v_getf (k := 0) C fl_RX11_10 rfl rfl dX11_cut_1 ?_
  show Aj E l z (1 + 3) [(0, vr 0), (1, vi x1), (2, vi x2)] [vr 1] M
  refine v_getf (k := 1) C fl_RX11_84 rfl rfl dX11_cut_4 ?_
  show Aj E l z (4 + 3) [(0, vr 0), (1, vi x1), (2, vi x2)] [vr 5] M
  refine v_astore_n (L' := [(3, vr 5), (0, vr 0), (1, vi x1), (2, vi x2)]) C dX11_cut_7 rfl (by decide) rfl ?_
  refine v_aload_n (i := 0) C dX11_cut_8 rfl rfl ?_
  refine v_iload_n (i := 2) C dX11_cut_9 rfl rfl ?_
  refine v_callV (q := qX0_has) (k := 5) (As := [vi x1]) (S := []) C co_yX0_has ml_RX11_122 im_yX0_has se_yX0_has ini_RX0 rfl rfl hq_X0_has (by decide) (Nat.le_of_ble_eq_true rfl) rfl dX11_cut_10 (Con.mono h (fun rr M1 hr => ?_) (Nat.le_refl _))
  obtain ⟨y2, rfl, g3⟩ := hr
  show Aj E l z (10 + 3) [(3, vr 5), (0, vr 0), (1, vi x1), (2, vi x2)] [vi y2] M1
  refine v_if_ne (tgt := 18) C g3.1 dX11_cut_13 (by decide) (fun c => ?_) (fun c => ?_)
  · have g4 := g3.2.1 c
    refine v_iload_n (i := 3) C dX11_cut_18 rfl rfl ?_
    refine v_aload_n (i := 0) C dX11_cut_19 rfl rfl ?_
    refine v_getf (k := 5) C fl_RX11_128 rfl rfl dX11_cut_20 ?_
    show Aj E l z (20 + 3) [(3, vr 5), (0, vr 0), (1, vi x1), (2, vi x2)] [vr 7, vi x2] M1
    refine v_iload_n (i := 2) C dX11_cut_23 rfl rfl ?_
    refine v_callS (q := qX7_at) (As := [vr 7, vi x1]) (S := [vi x2]) C co_yX7_at ml_RX11_61 st_yX7_at ini_RX7 hq_X7_at (by decide) (Nat.le_of_ble_eq_true rfl) rfl dX11_cut_24 (Con.mono g4 (fun rr M6 hr => ?_) (Nat.le_refl _))
    obtain ⟨y7, rfl, g8⟩ := hr
    show Aj E l z (24 + 3) [(3, vr 5), (0, vr 0), (1, vi x1), (2, vi x2)] [vi y7, vi x2] M6
    refine v_icmp_gt (tgt := 42) C g8.1 g8.2.1 dX11_cut_27 (by decide) (fun c => ?_) (fun c => ?_)
    · have g9 := g8.2.2.1 c
      refine v_bipush C dX11_cut_42 (by decide) ?_
      exact v_iret C r dX11_cut_44 g9
    · have g10 := g8.2.2.2 c
      refine v_aload_n (i := 1) C dX11_cut_30 rfl rfl ?_
      refine v_callV (q := qX11_marksNow) (k := 0) (As := []) (S := []) C co_yX11_marksNow ml_RX11_96 im_yX11_marksNow se_yX11_marksNow ini_RX11 rfl rfl hq_X11_marksNow (by decide) (Nat.le_of_ble_eq_true rfl) rfl dX11_cut_31 (Con.mono g10 (fun rr M11 hr => ?_) (Nat.le_refl _))
      obtain ⟨rfl, g13⟩ := hr
      show Aj E l z (31 + 3) [(3, vr 5), (0, vr 0), (1, vi x1), (2, vi x2)] [vr 37] M11
      refine v_iload_n (i := 3) C dX11_cut_34 rfl rfl ?_
      refine v_i2l C g13.1 dX11_cut_35 ?_
      refine v_callV (q := qX6_areMetAt) (k := 37) (As := [vj x2]) (S := []) C co_yX6_areMetAt ml_RX11_134 im_yX6_areMetAt se_yX6_areMetAt ini_RX6 rfl rfl hq_X6_areMetAt (by decide) (Nat.le_of_ble_eq_true rfl) rfl dX11_cut_36 (Con.mono g13.2 (fun rr M14 hr => ?_) (Nat.le_refl _))
      obtain ⟨y15, rfl, g16⟩ := hr
      show Aj E l z (36 + 3) [(3, vr 5), (0, vr 0), (1, vi x1), (2, vi x2)] [vi y15] M14
      refine v_if_ne (tgt := 45) C g16.1 dX11_cut_39 (by decide) (fun c => ?_) (fun c => ?_)
      · have g17 := g16.2.1 c
        refine v_aload_n (i := 0) C dX11_cut_45 rfl rfl ?_
        refine v_iload_n (i := 2) C dX11_cut_46 rfl rfl ?_
        refine v_iload_n (i := 3) C dX11_cut_47 rfl rfl ?_
        refine v_callV (q := qX0_sell) (k := 5) (As := [vi x1, vi x2]) (S := []) C co_yX0_sell ml_RX11_138 im_yX0_sell se_yX0_sell ini_RX0 rfl rfl hq_X0_sell (by decide) (Nat.le_of_ble_eq_true rfl) rfl dX11_cut_48 (Con.mono g17 (fun rr M19 hr => ?_) (Nat.le_refl _))
        obtain ⟨y20, rfl, g21⟩ := hr
        show Aj E l z (48 + 3) [(3, vr 5), (0, vr 0), (1, vi x1), (2, vi x2)] [vi y20] M19
        exact v_iret C r dX11_cut_51 g21
      · have g18 := g16.2.2 c
        refine v_bipush C dX11_cut_42 (by decide) ?_
        exact v_iret C r dX11_cut_44 g18
  · have g5 := g3.2.2 c
    refine v_iconst C dX11_cut_16 ?_
    exact v_iret C r dX11_cut_17 g5
theorem RX11_cut {E : FX} {l : Launch} {D : Nat} {post : Option AV → MM → Prop} {M : MM} {x1 : Int} {x2 : Int} (h0 : VX11_cut_0 E l D post M x1 x2) : Con E l (D + 1) qX11_cut [vr 0, vi x1, vi x2] M post := by
  refine con_of (by decide +kernel) (Nat.le_of_ble_eq_true rfl) (fun z C r => ?_)
  exact v_sub [0, 1, 2] rfl (SX11_cut_0 C r h0)
def VX11_join_29 (E : FX) (l : Launch) (D : Nat) (post : Option AV → MM → Prop) (M : MM) : Prop :=
  post (some (vi (-1))) M
set_option maxRecDepth 20000 in
theorem SX11_join_29 {E : FX} {l : Launch} {D : Nat} {post : Option AV → MM → Prop} {z : RT} (C : Cx E z D RX11 cX11_join 5) (r : Rt E z (some .int) post) {M : MM} (h : VX11_join_29 E l D post M) : Aj E l z 29 [] [] M := by
  unfold VX11_join_29 at h
  refine v_iconst C dX11_join_29 ?_
  exact v_iret C r dX11_join_30 h
def VX11_join_0 (E : FX) (l : Launch) (D : Nat) (post : Option AV → MM → Prop) (M : MM) (x1 : Int) (x2 : Int) : Prop :=
  Con E l D qX0_has [vr 5, vi x1] M (fun r M1 => ∃ y2 : Int, r = some (vi y2) ∧ (R32 y2 ∧ ((y2 = 0 → post (some (vi (-1))) M1) ∧ (¬ y2 = 0 → Con E l D qX0_has [vr 5, vi x2] M1 (fun r M6 => ∃ y7 : Int, r = some (vi y7) ∧ (R32 y7 ∧ ((y7 = 0 → post (some (vi (-1))) M6) ∧ (¬ y7 = 0 → R32 x1 ∧ (R32 x2 ∧ ((¬ x1 = x2 → Con E l D qX0_canBeSewn [vr 5, vi x1, vi x2] M6 (fun r M13 => ∃ y14 : Int, r = some (vi y14) ∧ (R32 y14 ∧ ((¬ y14 = 0 → Con E l D qX7_at [vr 6, vi x1] M13 (fun r M18 => ∃ y19 : Int, r = some (vi y19) ∧ (Con E l D qX0_lengthOfAll [vr 5, vi (ior (ishl 1 x1) (ishl 1 x2)), vi y19] M18 (fun r M21 => ∃ y22 : Int, r = some (vi y22) ∧ (R32 y22 ∧ ((y22 ≤ 99999 → Con E l D qX0_sew [vr 5, vi x1, vi x2, vi y22] M21 (fun r M26 => r = none ∧ (post (some (vi y22)) M26))) ∧ (¬ y22 ≤ 99999 → post (some (vi (-3))) M21))))))) ∧ (y14 = 0 → post (some (vi (-2))) M13))))) ∧ (x1 = x2 → post (some (vi (-1))) M6)))))))))))
set_option maxRecDepth 20000 in
theorem SX11_join_0 {E : FX} {l : Launch} {D : Nat} {post : Option AV → MM → Prop} {z : RT} (C : Cx E z D RX11 cX11_join 5) (r : Rt E z (some .int) post) {M : MM} {x1 : Int} {x2 : Int} (h : VX11_join_0 E l D post M x1 x2) : Aj E l z 0 [(0, vr 0), (1, vi x1), (2, vi x2)] [] M := by
  unfold VX11_join_0 at h
  refine v_aload_n (i := 0) C dX11_join_0 rfl rfl ?_
  refine v_getf (k := 0) C fl_RX11_10 rfl rfl dX11_join_1 ?_
  show Aj E l z (1 + 3) [(0, vr 0), (1, vi x1), (2, vi x2)] [vr 1] M
  refine v_getf (k := 1) C fl_RX11_84 rfl rfl dX11_join_4 ?_
  show Aj E l z (4 + 3) [(0, vr 0), (1, vi x1), (2, vi x2)] [vr 5] M
  refine v_astore_n (L' := [(3, vr 5), (0, vr 0), (1, vi x1), (2, vi x2)]) C dX11_join_7 rfl (by decide) rfl ?_
  refine v_aload_n (i := 0) C dX11_join_8 rfl rfl ?_
  refine v_iload_n (i := 2) C dX11_join_9 rfl rfl ?_
  refine v_callV (q := qX0_has) (k := 5) (As := [vi x1]) (S := []) C co_yX0_has ml_RX11_122 im_yX0_has se_yX0_has ini_RX0 rfl rfl hq_X0_has (by decide) (Nat.le_of_ble_eq_true rfl) rfl dX11_join_10 (Con.mono h (fun rr M1 hr => ?_) (Nat.le_refl _))
  obtain ⟨y2, rfl, g3⟩ := hr
  show Aj E l z (10 + 3) [(3, vr 5), (0, vr 0), (1, vi x1), (2, vi x2)] [vi y2] M1
  refine v_if_eq (tgt := 29) C g3.1 dX11_join_13 (by decide) (fun c => ?_) (fun c => ?_)
  · have g4 := g3.2.1 c
    refine v_iconst C dX11_join_29 ?_
    exact v_iret C r dX11_join_30 g4
  · have g5 := g3.2.2 c
    refine v_aload_n (i := 0) C dX11_join_16 rfl rfl ?_
    refine v_iload_n (i := 3) C dX11_join_17 rfl rfl ?_
    refine v_callV (q := qX0_has) (k := 5) (As := [vi x2]) (S := []) C co_yX0_has ml_RX11_122 im_yX0_has se_yX0_has ini_RX0 rfl rfl hq_X0_has (by decide) (Nat.le_of_ble_eq_true rfl) rfl dX11_join_18 (Con.mono g5 (fun rr M6 hr => ?_) (Nat.le_refl _))
    obtain ⟨y7, rfl, g8⟩ := hr
    show Aj E l z (18 + 3) [(3, vr 5), (0, vr 0), (1, vi x1), (2, vi x2)] [vi y7] M6
    refine v_if_eq (tgt := 29) C g8.1 dX11_join_21 (by decide) (fun c => ?_) (fun c => ?_)
    · have g9 := g8.2.1 c
      refine v_iconst C dX11_join_29 ?_
      exact v_iret C r dX11_join_30 g9
    · have g10 := g8.2.2 c
      refine v_iload_n (i := 2) C dX11_join_24 rfl rfl ?_
      refine v_iload_n (i := 3) C dX11_join_25 rfl rfl ?_
      refine v_icmp_ne (tgt := 31) C g10.1 g10.2.1 dX11_join_26 (by decide) (fun c => ?_) (fun c => ?_)
      · have g11 := g10.2.2.1 c
        refine v_aload_n (i := 0) C dX11_join_31 rfl rfl ?_
        refine v_iload_n (i := 2) C dX11_join_32 rfl rfl ?_
        refine v_iload_n (i := 3) C dX11_join_33 rfl rfl ?_
        refine v_callV (q := qX0_canBeSewn) (k := 5) (As := [vi x1, vi x2]) (S := []) C co_yX0_canBeSewn ml_RX11_141 im_yX0_canBeSewn se_yX0_canBeSewn ini_RX0 rfl rfl hq_X0_canBeSewn (by decide) (Nat.le_of_ble_eq_true rfl) rfl dX11_join_34 (Con.mono g11 (fun rr M13 hr => ?_) (Nat.le_refl _))
        obtain ⟨y14, rfl, g15⟩ := hr
        show Aj E l z (34 + 3) [(3, vr 5), (0, vr 0), (1, vi x1), (2, vi x2)] [vi y14] M13
        refine v_if_ne (tgt := 43) C g15.1 dX11_join_37 (by decide) (fun c => ?_) (fun c => ?_)
        · have g16 := g15.2.1 c
          refine v_aload_n (i := 0) C dX11_join_43 rfl rfl ?_
          refine v_iconst C dX11_join_44 ?_
          refine v_iload_n (i := 2) C dX11_join_45 rfl rfl ?_
          refine v_ishl C dX11_join_46 ?_
          refine v_iconst C dX11_join_47 ?_
          refine v_iload_n (i := 3) C dX11_join_48 rfl rfl ?_
          refine v_ishl C dX11_join_49 ?_
          refine v_ior C dX11_join_50 ?_
          refine v_aload_n (i := 0) C dX11_join_51 rfl rfl ?_
          refine v_getf (k := 5) C fl_RX11_125 rfl rfl dX11_join_52 ?_
          show Aj E l z (52 + 3) [(3, vr 5), (0, vr 0), (1, vi x1), (2, vi x2)] [vr 6, vi (ior (ishl 1 x1) (ishl 1 x2)), vr 5] M13
          refine v_iload_n (i := 2) C dX11_join_55 rfl rfl ?_
          refine v_callS (q := qX7_at) (As := [vr 6, vi x1]) (S := [vi (ior (ishl 1 x1) (ishl 1 x2)), vr 5]) C co_yX7_at ml_RX11_61 st_yX7_at ini_RX7 hq_X7_at (by decide) (Nat.le_of_ble_eq_true rfl) rfl dX11_join_56 (Con.mono g16 (fun rr M18 hr => ?_) (Nat.le_refl _))
          obtain ⟨y19, rfl, g20⟩ := hr
          show Aj E l z (56 + 3) [(3, vr 5), (0, vr 0), (1, vi x1), (2, vi x2)] [vi y19, vi (ior (ishl 1 x1) (ishl 1 x2)), vr 5] M18
          refine v_callV (q := qX0_lengthOfAll) (k := 5) (As := [vi (ior (ishl 1 x1) (ishl 1 x2)), vi y19]) (S := []) C co_yX0_lengthOfAll ml_RX11_145 im_yX0_lengthOfAll se_yX0_lengthOfAll ini_RX0 rfl rfl hq_X0_lengthOfAll (by decide) (Nat.le_of_ble_eq_true rfl) rfl dX11_join_59 (Con.mono g20 (fun rr M21 hr => ?_) (Nat.le_refl _))
          obtain ⟨y22, rfl, g23⟩ := hr
          show Aj E l z (59 + 3) [(3, vr 5), (0, vr 0), (1, vi x1), (2, vi x2)] [vi y22] M21
          refine v_istore (L' := [(4, vi y22), (3, vr 5), (0, vr 0), (1, vi x1), (2, vi x2)]) C dX11_join_62 (by decide) rfl ?_
          refine v_iload (i := 0) C dX11_join_64 rfl ?_
          refine v_ldc (x := 99999) C cs_RX11_114 (by decide) dX11_join_66 ?_
          refine v_icmp_le (tgt := 74) C g23.1 (by decide) dX11_join_68 (by decide) (fun c => ?_) (fun c => ?_)
          · have g24 := g23.2.1 c
            refine v_aload_n (i := 1) C dX11_join_74 rfl rfl ?_
            refine v_iload_n (i := 3) C dX11_join_75 rfl rfl ?_
            refine v_iload_n (i := 4) C dX11_join_76 rfl rfl ?_
            refine v_iload (i := 0) C dX11_join_77 rfl ?_
            refine v_callV (q := qX0_sew) (k := 5) (As := [vi x1, vi x2, vi y22]) (S := []) C co_yX0_sew ml_RX11_148 im_yX0_sew se_yX0_sew ini_RX0 rfl rfl hq_X0_sew (by decide) (Nat.le_of_ble_eq_true rfl) rfl dX11_join_79 (Con.mono g24 (fun rr M26 hr => ?_) (Nat.le_refl _))
            obtain ⟨rfl, g27⟩ := hr
            show Aj E l z (79 + 3) [(4, vi y22), (3, vr 5), (0, vr 0), (1, vi x1), (2, vi x2)] [] M26
            refine v_iload (i := 0) C dX11_join_82 rfl ?_
            exact v_iret C r dX11_join_84 g27
          · have g25 := g23.2.2 c
            refine v_bipush C dX11_join_71 (by decide) ?_
            exact v_iret C r dX11_join_73 g25
        · have g17 := g15.2.2 c
          refine v_bipush C dX11_join_40 (by decide) ?_
          exact v_iret C r dX11_join_42 g17
      · have g12 := g10.2.2.2 c
        refine v_iconst C dX11_join_29 ?_
        exact v_iret C r dX11_join_30 g12
theorem RX11_join {E : FX} {l : Launch} {D : Nat} {post : Option AV → MM → Prop} {M : MM} {x1 : Int} {x2 : Int} (h0 : VX11_join_0 E l D post M x1 x2) : Con E l (D + 1) qX11_join [vr 0, vi x1, vi x2] M post := by
  refine con_of (by decide +kernel) (Nat.le_of_ble_eq_true rfl) (fun z C r => ?_)
  exact v_sub [0, 1, 2] rfl (SX11_join_0 C r h0)
def VX11_type_0 (E : FX) (l : Launch) (D : Nat) (post : Option AV → MM → Prop) (J15 : MM → Int → Int → Int → Prop) (J67 : MM → Int → Int → Prop) (M : MM) (x1 : Int) (x3 : Int) : Prop :=
  Con E l D qX11_within [vi x3, vi 1, vi 8] M (fun r M1 => ∃ y2 : Int, r = some (vi y2) ∧ (R32 y2 ∧ ((¬ y2 = 0 → J15 M1 x1 x3 0) ∧ (y2 = 0 → post (some (vi (-1))) M1))))
set_option maxRecDepth 20000 in
theorem SX11_type_0 {E : FX} {l : Launch} {D : Nat} {post : Option AV → MM → Prop} {z : RT} {J15 : MM → Int → Int → Int → Prop} {J67 : MM → Int → Int → Prop} (C : Cx E z D RX11 cX11_type 5) (r : Rt E z (some .int) post) (hJ15 : ∀ (M : MM) (x1 : Int) (x3 : Int) (x4 : Int), J15 M x1 x3 x4 → Aj E l z 15 [(0, vr 0), (1, vj x1), (3, vi x3), (4, vi x4)] [] M) (hJ67 : ∀ (M : MM) (x1 : Int) (x4 : Int), J67 M x1 x4 → Aj E l z 67 [(0, vr 0), (1, vj x1), (4, vi x4)] [] M) {M : MM} {x1 : Int} {x3 : Int} (h : VX11_type_0 E l D post J15 J67 M x1 x3) : Aj E l z 0 [(0, vr 0), (1, vj x1), (3, vi x3)] [] M := by
  unfold VX11_type_0 at h
  refine v_iload_n (i := 2) C dX11_type_0 rfl rfl ?_
  refine v_iconst C dX11_type_1 ?_
  refine v_bipush C dX11_type_2 (by decide) ?_
  refine v_callS (q := qX11_within) (As := [vi x3, vi 1, vi 8]) (S := []) C co_yX11_within ml_RX11_47 st_yX11_within ini_RX11 hq_X11_within (by decide) (Nat.le_of_ble_eq_true rfl) rfl dX11_type_4 (Con.mono h (fun rr M1 hr => ?_) (Nat.le_refl _))
  obtain ⟨y2, rfl, g3⟩ := hr
  show Aj E l z (4 + 3) [(0, vr 0), (1, vj x1), (3, vi x3)] [vi y2] M1
  refine v_if_ne (tgt := 12) C g3.1 dX11_type_7 (by decide) (fun c => ?_) (fun c => ?_)
  · have g4 := g3.2.1 c
    refine v_iconst C dX11_type_12 ?_
    refine v_istore (L' := [(4, vi 0), (0, vr 0), (1, vj x1), (3, vi x3)]) C dX11_type_13 (by decide) rfl ?_
    exact v_sub [1, 2, 3, 0] rfl (hJ15 _ _ _ _ g4)
  · have g5 := g3.2.2 c
    refine v_iconst C dX11_type_10 ?_
    exact v_iret C r dX11_type_11 g5
def VX11_type_15 (E : FX) (l : Launch) (D : Nat) (post : Option AV → MM → Prop) (J15 : MM → Int → Int → Int → Prop) (J67 : MM → Int → Int → Prop) (M : MM) (x1 : Int) (x3 : Int) (x4 : Int) : Prop :=
  R32 x4 ∧ (R32 x3 ∧ ((x3 ≤ x4 → R32 x3 ∧ (R32 (40 - (M 25 1)) ∧ ((x3 ≤ 40 - (M 25 1) → ∀ y10 : Int, y10 = x3 - 1 → (J67 M x1 y10)) ∧ (¬ x3 ≤ 40 - (M 25 1) → post (some (vi (-3))) M)))) ∧ (¬ x3 ≤ x4 → Con E l D qX11_byteOf [vj x1, vi x4] M (fun r M12 => ∃ y13 : Int, r = some (vi y13) ∧ (Con E l D qX11_within [vi y13, vi 32, vi 126] M12 (fun r M15 => ∃ y16 : Int, r = some (vi y16) ∧ (R32 y16 ∧ ((¬ y16 = 0 → ∀ y20 : Int, y20 = x4 + 1 → (J15 M15 x1 x3 y20)) ∧ (y16 = 0 → post (some (vi (-1))) M15)))))))))
set_option maxRecDepth 20000 in
theorem SX11_type_15 {E : FX} {l : Launch} {D : Nat} {post : Option AV → MM → Prop} {z : RT} {J15 : MM → Int → Int → Int → Prop} {J67 : MM → Int → Int → Prop} (C : Cx E z D RX11 cX11_type 5) (r : Rt E z (some .int) post) (hJ15 : ∀ (M : MM) (x1 : Int) (x3 : Int) (x4 : Int), J15 M x1 x3 x4 → Aj E l z 15 [(0, vr 0), (1, vj x1), (3, vi x3), (4, vi x4)] [] M) (hJ67 : ∀ (M : MM) (x1 : Int) (x4 : Int), J67 M x1 x4 → Aj E l z 67 [(0, vr 0), (1, vj x1), (4, vi x4)] [] M) {M : MM} {x1 : Int} {x3 : Int} {x4 : Int} (h : VX11_type_15 E l D post J15 J67 M x1 x3 x4) : Aj E l z 15 [(0, vr 0), (1, vj x1), (3, vi x3), (4, vi x4)] [] M := by
  unfold VX11_type_15 at h
  refine v_iload (i := 3) C dX11_type_15 rfl ?_
  refine v_iload_n (i := 2) C dX11_type_17 rfl rfl ?_
  refine v_icmp_ge (tgt := 45) C h.1 h.2.1 dX11_type_18 (by decide) (fun c => ?_) (fun c => ?_)
  · have g6 := h.2.2.1 c
    refine v_iload_n (i := 2) C dX11_type_45 rfl rfl ?_
    refine v_bipush C dX11_type_46 (by decide) ?_
    refine v_aload_n (i := 0) C dX11_type_48 rfl rfl ?_
    refine v_getf (k := 0) C fl_RX11_22 rfl rfl dX11_type_49 ?_
    show Aj E l z (49 + 3) [(0, vr 0), (1, vj x1), (3, vi x3), (4, vi x4)] [vr 25, vi 40, vi x3] M
    refine v_getf (k := 25) C fl_RX11_156 rfl rfl dX11_type_52 ?_
    show Aj E l z (52 + 3) [(0, vr 0), (1, vj x1), (3, vi x3), (4, vi x4)] [vi (M 25 1), vi 40, vi x3] M
    refine v_isub C dX11_type_55 ?_
    refine v_icmp_le (tgt := 62) C g6.1 g6.2.1 dX11_type_56 (by decide) (fun c => ?_) (fun c => ?_)
    · have g8 := g6.2.2.1 c
      refine v_iload_n (i := 2) C dX11_type_62 rfl rfl ?_
      refine v_iconst C dX11_type_63 ?_
      refine v_isub C dX11_type_64 ?_
      obtain ⟨y10, hy10⟩ : ∃ y : Int, y = x3 - 1 := ⟨_, rfl⟩
      have g11 := g8 y10 hy10
      refine v_eqi hy10 ?_
      refine v_istore (L' := [(4, vi y10), (0, vr 0), (1, vj x1), (3, vi x3)]) C dX11_type_65 (by decide) rfl ?_
      exact v_sub [1, 2, 0] rfl (hJ67 _ _ _ g11)
    · have g9 := g6.2.2.2 c
      refine v_bipush C dX11_type_59 (by decide) ?_
      exact v_iret C r dX11_type_61 g9
  · have g7 := h.2.2.2 c
    refine v_lload_n (i := 1) C dX11_type_21 rfl rfl ?_
    refine v_iload (i := 3) C dX11_type_22 rfl ?_
    refine v_callS (q := qX11_byteOf) (As := [vj x1, vi x4]) (S := []) C co_yX11_byteOf ml_RX11_152 st_yX11_byteOf ini_RX11 hq_X11_byteOf (by decide) (Nat.le_of_ble_eq_true rfl) rfl dX11_type_24 (Con.mono g7 (fun rr M12 hr => ?_) (Nat.le_refl _))
    obtain ⟨y13, rfl, g14⟩ := hr
    show Aj E l z (24 + 3) [(0, vr 0), (1, vj x1), (3, vi x3), (4, vi x4)] [vi y13] M12
    refine v_bipush C dX11_type_27 (by decide) ?_
    refine v_bipush C dX11_type_29 (by decide) ?_
    refine v_callS (q := qX11_within) (As := [vi y13, vi 32, vi 126]) (S := []) C co_yX11_within ml_RX11_47 st_yX11_within ini_RX11 hq_X11_within (by decide) (Nat.le_of_ble_eq_true rfl) rfl dX11_type_31 (Con.mono g14 (fun rr M15 hr => ?_) (Nat.le_refl _))
    obtain ⟨y16, rfl, g17⟩ := hr
    show Aj E l z (31 + 3) [(0, vr 0), (1, vj x1), (3, vi x3), (4, vi x4)] [vi y16] M15
    refine v_if_ne (tgt := 39) C g17.1 dX11_type_34 (by decide) (fun c => ?_) (fun c => ?_)
    · have g18 := g17.2.1 c
      obtain ⟨y20, hy20⟩ : ∃ y : Int, y = x4 + 1 := ⟨_, rfl⟩
      have g21 := g18 y20 hy20
      refine v_iinc (i := 3) (L' := [(4, vi y20), (0, vr 0), (1, vj x1), (3, vi x3)]) C dX11_type_39 rfl (by decide) hy20 rfl ?_
      refine v_goto C dX11_type_42 (tgt := 15) (by decide) ?_
      exact v_sub [1, 2, 3, 0] rfl (hJ15 _ _ _ _ g21)
    · have g19 := g17.2.2 c
      refine v_iconst C dX11_type_37 ?_
      exact v_iret C r dX11_type_38 g19
def VX11_type_67 (E : FX) (l : Launch) (D : Nat) (post : Option AV → MM → Prop) (J15 : MM → Int → Int → Int → Prop) (J67 : MM → Int → Int → Prop) (M : MM) (x1 : Int) (x4 : Int) : Prop :=
  R32 x4 ∧ ((x4 < 0 → post (some (vi (M 25 1))) M) ∧ (¬ x4 < 0 → Con E l D qX11_byteOf [vj x1, vi x4] M (fun r M24 => ∃ y25 : Int, r = some (vi y25) ∧ (Con E l D qX9_add [vr 25, vi y25] M24 (fun r M27 => r = none ∧ (∀ y29 : Int, y29 = x4 + (-1) → (J67 M27 x1 y29)))))))
set_option maxRecDepth 20000 in
theorem SX11_type_67 {E : FX} {l : Launch} {D : Nat} {post : Option AV → MM → Prop} {z : RT} {J15 : MM → Int → Int → Int → Prop} {J67 : MM → Int → Int → Prop} (C : Cx E z D RX11 cX11_type 5) (r : Rt E z (some .int) post) (hJ15 : ∀ (M : MM) (x1 : Int) (x3 : Int) (x4 : Int), J15 M x1 x3 x4 → Aj E l z 15 [(0, vr 0), (1, vj x1), (3, vi x3), (4, vi x4)] [] M) (hJ67 : ∀ (M : MM) (x1 : Int) (x4 : Int), J67 M x1 x4 → Aj E l z 67 [(0, vr 0), (1, vj x1), (4, vi x4)] [] M) {M : MM} {x1 : Int} {x4 : Int} (h : VX11_type_67 E l D post J15 J67 M x1 x4) : Aj E l z 67 [(0, vr 0), (1, vj x1), (4, vi x4)] [] M := by
  unfold VX11_type_67 at h
  refine v_iload (i := 2) C dX11_type_67 rfl ?_
  refine v_if_lt (tgt := 91) C h.1 dX11_type_69 (by decide) (fun c => ?_) (fun c => ?_)
  · have g22 := h.2.1 c
    refine v_aload_n (i := 0) C dX11_type_91 rfl rfl ?_
    refine v_getf (k := 0) C fl_RX11_22 rfl rfl dX11_type_92 ?_
    show Aj E l z (92 + 3) [(0, vr 0), (1, vj x1), (4, vi x4)] [vr 25] M
    refine v_getf (k := 25) C fl_RX11_156 rfl rfl dX11_type_95 ?_
    show Aj E l z (95 + 3) [(0, vr 0), (1, vj x1), (4, vi x4)] [vi (M 25 1)] M
    exact v_iret C r dX11_type_98 g22
  · have g23 := h.2.2 c
    refine v_aload_n (i := 0) C dX11_type_72 rfl rfl ?_
    refine v_getf (k := 0) C fl_RX11_22 rfl rfl dX11_type_73 ?_
    show Aj E l z (73 + 3) [(0, vr 0), (1, vj x1), (4, vi x4)] [vr 25] M
    refine v_lload_n (i := 1) C dX11_type_76 rfl rfl ?_
    refine v_iload (i := 2) C dX11_type_77 rfl ?_
    refine v_callS (q := qX11_byteOf) (As := [vj x1, vi x4]) (S := [vr 25]) C co_yX11_byteOf ml_RX11_152 st_yX11_byteOf ini_RX11 hq_X11_byteOf (by decide) (Nat.le_of_ble_eq_true rfl) rfl dX11_type_79 (Con.mono g23 (fun rr M24 hr => ?_) (Nat.le_refl _))
    obtain ⟨y25, rfl, g26⟩ := hr
    show Aj E l z (79 + 3) [(0, vr 0), (1, vj x1), (4, vi x4)] [vi y25, vr 25] M24
    refine v_callV (q := qX9_add) (k := 25) (As := [vi y25]) (S := []) C co_yX9_add ml_RX11_159 im_yX9_add se_yX9_add ini_RX9 rfl rfl hq_X9_add (by decide) (Nat.le_of_ble_eq_true rfl) rfl dX11_type_82 (Con.mono g26 (fun rr M27 hr => ?_) (Nat.le_refl _))
    obtain ⟨rfl, g28⟩ := hr
    show Aj E l z (82 + 3) [(0, vr 0), (1, vj x1), (4, vi x4)] [] M27
    obtain ⟨y29, hy29⟩ : ∃ y : Int, y = x4 + (-1) := ⟨_, rfl⟩
    have g30 := g28 y29 hy29
    refine v_iinc (i := 2) (L' := [(4, vi y29), (0, vr 0), (1, vj x1)]) C dX11_type_85 rfl (by decide) hy29 rfl ?_
    refine v_goto C dX11_type_88 (tgt := 67) (by decide) ?_
    exact v_sub [1, 2, 0] rfl (hJ67 _ _ _ g30)
theorem RX11_type {E : FX} {l : Launch} {D : Nat} {post : Option AV → MM → Prop} (I15 : MM → Int → Int → Int → Prop) (m15 : MM → Int → Int → Int → Nat) (I67 : MM → Int → Int → Prop) (m67 : MM → Int → Int → Nat) {M : MM} {x1 : Int} {x3 : Int} (h0 : VX11_type_0 E l D post I15 I67 M x1 x3) (h15I : ∀ (M : MM) (x1 : Int) (x3 : Int) (x4 : Int), I15 M x1 x3 x4 → VX11_type_15 E l D post (fun M' x1' x3' x4' => I15 M' x1' x3' x4' ∧ m15 M' x1' x3' x4' < m15 M x1 x3 x4) (fun M' x1' x4' => I67 M' x1' x4' ∧ m67 M' x1' x4' < m15 M x1 x3 x4) M x1 x3 x4) (h67I : ∀ (M : MM) (x1 : Int) (x4 : Int), I67 M x1 x4 → VX11_type_67 E l D post (fun M' x1' x3' x4' => I15 M' x1' x3' x4' ∧ m15 M' x1' x3' x4' < m67 M x1 x4) (fun M' x1' x4' => I67 M' x1' x4' ∧ m67 M' x1' x4' < m67 M x1 x4) M x1 x4) : Con E l (D + 1) qX11_type [vr 0, vj x1, vi x3] M post := by
  refine con_of (by decide +kernel) (Nat.le_of_ble_eq_true rfl) (fun z C r => ?_)
  have all : ∀ n : Nat, (∀ (M : MM) (x1 : Int) (x3 : Int) (x4 : Int), I15 M x1 x3 x4 → m15 M x1 x3 x4 < n → Aj E l z 15 [(0, vr 0), (1, vj x1), (3, vi x3), (4, vi x4)] [] M) ∧ (∀ (M : MM) (x1 : Int) (x4 : Int), I67 M x1 x4 → m67 M x1 x4 < n → Aj E l z 67 [(0, vr 0), (1, vj x1), (4, vi x4)] [] M) := by
    intro n
    induction n with
    | zero => exact ⟨fun _ _ _ _ _ hm => absurd hm (Nat.not_lt_zero _), fun _ _ _ _ hm => absurd hm (Nat.not_lt_zero _)⟩
    | succ n ih => exact ⟨fun M x1 x3 x4 hi hm => SX11_type_15 C r (fun M' x1' x3' x4' hj => ih.1 M' x1' x3' x4' hj.1 (by omega)) (fun M' x1' x4' hj => ih.2 M' x1' x4' hj.1 (by omega)) (h15I M x1 x3 x4 hi), fun M x1 x4 hi hm => SX11_type_67 C r (fun M' x1' x3' x4' hj => ih.1 M' x1' x3' x4' hj.1 (by omega)) (fun M' x1' x4' hj => ih.2 M' x1' x4' hj.1 (by omega)) (h67I M x1 x4 hi)⟩
  exact v_sub [0, 1, 2] rfl (SX11_type_0 C r (fun M' x1' x3' x4' hj => (all _).1 M' x1' x3' x4' hj (Nat.lt_succ_self _)) (fun M' x1' x4' hj => (all _).2 M' x1' x4' hj (Nat.lt_succ_self _)) h0)
def VX11_towns_26 (E : FX) (l : Launch) (D : Nat) (post : Option AV → MM → Prop) (M : MM) (x1 : Int) : Prop :=
  ∀ M1 : MM, M1 = up M 25 1 0 → (post (some (vi x1)) M1)
set_option maxRecDepth 20000 in
theorem SX11_towns_26 {E : FX} {l : Launch} {D : Nat} {post : Option AV → MM → Prop} {z : RT} (C : Cx E z D RX11 cX11_towns 2) (r : Rt E z (some .int) post) {M : MM} {x1 : Int} (h : VX11_towns_26 E l D post M x1) : Aj E l z 26 [(0, vr 0), (1, vi x1)] [] M := by
  unfold VX11_towns_26 at h
  refine v_aload_n (i := 0) C dX11_towns_26 rfl rfl ?_
  refine v_getf (k := 0) C fl_RX11_22 rfl rfl dX11_towns_27 ?_
  show Aj E l z (27 + 3) [(0, vr 0), (1, vi x1)] [vr 25] M
  refine v_iconst C dX11_towns_30 ?_
  refine v_putf (k := 25) (x := 0) (t := 0) C fp_RX11_156 rfl rfl (by decide) (by simp [fv, up]) rfl rfl dX11_towns_31 ?_
  obtain ⟨M1, hM1⟩ : ∃ X : MM, X = up M 25 1 0 := ⟨_, rfl⟩
  refine v_eqM hM1 ?_
  have g2 := h M1 hM1
  refine v_iload_n (i := 1) C dX11_towns_34 rfl rfl ?_
  exact v_iret C r dX11_towns_35 g2
def VX11_towns_0 (E : FX) (l : Launch) (D : Nat) (post : Option AV → MM → Prop) (M : MM) : Prop :=
  Con E l D qX9_read [vr 25] M (fun r M3 => ∃ y4 : Int, r = some (vi y4) ∧ (R32 y4 ∧ ((y4 ≤ 0 → ∀ M8 : MM, M8 = up M3 25 1 0 → (post (some (vi y4)) M8)) ∧ (¬ y4 ≤ 0 → Con E l D qX10_take [vr 3, vr 25] M3 (fun r M10 => r = none ∧ (VX11_towns_26 E l D post M10 y4))))))
set_option maxRecDepth 20000 in
theorem SX11_towns_0 {E : FX} {l : Launch} {D : Nat} {post : Option AV → MM → Prop} {z : RT} (C : Cx E z D RX11 cX11_towns 2) (r : Rt E z (some .int) post) {M : MM} (h : VX11_towns_0 E l D post M) : Aj E l z 0 [(0, vr 0)] [] M := by
  unfold VX11_towns_0 at h
  refine v_aload_n (i := 0) C dX11_towns_0 rfl rfl ?_
  refine v_getf (k := 0) C fl_RX11_22 rfl rfl dX11_towns_1 ?_
  show Aj E l z (1 + 3) [(0, vr 0)] [vr 25] M
  refine v_callV (q := qX9_read) (k := 25) (As := []) (S := []) C co_yX9_read ml_RX11_162 im_yX9_read se_yX9_read ini_RX9 rfl rfl hq_X9_read (by decide) (Nat.le_of_ble_eq_true rfl) rfl dX11_towns_4 (Con.mono h (fun rr M3 hr => ?_) (Nat.le_refl _))
  obtain ⟨y4, rfl, g5⟩ := hr
  show Aj E l z (4 + 3) [(0, vr 0)] [vi y4] M3
  refine v_istore_n (L' := [(1, vi y4), (0, vr 0)]) C dX11_towns_7 rfl (by decide) rfl ?_
  refine v_iload_n (i := 0) C dX11_towns_8 rfl rfl ?_
  refine v_if_le (tgt := 26) C g5.1 dX11_towns_9 (by decide) (fun c => ?_) (fun c => ?_)
  · have g6 := g5.2.1 c
    refine v_aload_n (i := 1) C dX11_towns_26 rfl rfl ?_
    refine v_getf (k := 0) C fl_RX11_22 rfl rfl dX11_towns_27 ?_
    show Aj E l z (27 + 3) [(1, vi y4), (0, vr 0)] [vr 25] M3
    refine v_iconst C dX11_towns_30 ?_
    refine v_putf (k := 25) (x := 0) (t := 0) C fp_RX11_156 rfl rfl (by decide) (by simp [fv, up]) rfl rfl dX11_towns_31 ?_
    obtain ⟨M8, hM8⟩ : ∃ X : MM, X = up M3 25 1 0 := ⟨_, rfl⟩
    refine v_eqM hM8 ?_
    have g9 := g6 M8 hM8
    refine v_iload_n (i := 0) C dX11_towns_34 rfl rfl ?_
    exact v_iret C r dX11_towns_35 g9
  · have g7 := g5.2.2 c
    refine v_aload_n (i := 1) C dX11_towns_12 rfl rfl ?_
    refine v_getf (k := 0) C fl_RX11_10 rfl rfl dX11_towns_13 ?_
    show Aj E l z (13 + 3) [(1, vi y4), (0, vr 0)] [vr 1] M3
    refine v_getf (k := 1) C fl_RX11_51 rfl rfl dX11_towns_16 ?_
    show Aj E l z (16 + 3) [(1, vi y4), (0, vr 0)] [vr 3] M3
    refine v_aload_n (i := 1) C dX11_towns_19 rfl rfl ?_
    refine v_getf (k := 0) C fl_RX11_22 rfl rfl dX11_towns_20 ?_
    show Aj E l z (20 + 3) [(1, vi y4), (0, vr 0)] [vr 25, vr 3] M3
    refine v_callV (q := qX10_take) (k := 3) (As := [vr 25]) (S := []) C co_yX10_take ml_RX11_166 im_yX10_take se_yX10_take ini_RX10 rfl rfl hq_X10_take (by decide) (Nat.le_of_ble_eq_true rfl) rfl dX11_towns_23 (Con.mono g7 (fun rr M10 hr => ?_) (Nat.le_refl _))
    obtain ⟨rfl, g11⟩ := hr
    show Aj E l z (23 + 3) [(1, vi y4), (0, vr 0)] [] M10
    exact v_sub [1, 0] rfl (SX11_towns_26 C r g11)
theorem RX11_towns {E : FX} {l : Launch} {D : Nat} {post : Option AV → MM → Prop} {M : MM} (h0 : VX11_towns_0 E l D post M) : Con E l (D + 1) qX11_towns [vr 0] M post := by
  refine con_of (by decide +kernel) (Nat.le_of_ble_eq_true rfl) (fun z C r => ?_)
  exact v_sub [0] rfl (SX11_towns_0 C r h0)
def VX11_count_0 (E : FX) (l : Launch) (D : Nat) (post : Option AV → MM → Prop) (M : MM) (x1 : Int) : Prop :=
  R32 x1 ∧ ((x1 < 0 ∨ 5 < x1 → post (some (vi (-1))) M) ∧ (x1 = 0 → post (some (vi (M 5 3))) M) ∧ (x1 = 1 → Con E l D qX0_inches [vr 5] M (fun r M4 => ∃ y5 : Int, r = some (vi y5) ∧ (post (some (vi y5)) M4))) ∧ (x1 = 2 → post (some (vi (M 5 4))) M) ∧ (x1 = 3 → post (some (vi (M 9 1))) M) ∧ (x1 = 4 → Con E l D qX1_everyone [vr 9] M (fun r M10 => ∃ y11 : Int, r = some (vi y11) ∧ (Con E l D qX1_wantedBy [vr 9, vi y11] M10 (fun r M13 => ∃ y14 : Int, r = some (vi y14) ∧ (post (some (vi y14)) M13))))) ∧ (x1 = 5 → Con E l D qX11_marksNow [vr 0] M (fun r M17 => r = some (vr 37) ∧ (Con E l D qX0_waste [vr 5, vr 37] M17 (fun r M20 => ∃ y21 : Int, r = some (vi y21) ∧ (post (some (vi y21)) M20))))))
set_option maxRecDepth 20000 in
theorem SX11_count_0 {E : FX} {l : Launch} {D : Nat} {post : Option AV → MM → Prop} {z : RT} (C : Cx E z D RX11 cX11_count 2) (r : Rt E z (some .int) post) {M : MM} {x1 : Int} (h : VX11_count_0 E l D post M x1) : Aj E l z 0 [(0, vr 0), (1, vi x1)] [] M := by
  unfold VX11_count_0 at h
  refine v_iload_n (i := 1) C dX11_count_0 rfl rfl ?_
  by_cases cs : x1 < 0 ∨ 5 < x1
  · refine v_tswOut C h.1 dX11_count_1 cs (tgt := 120) (by decide) ?_
    have g1 := h.2.1 cs
    refine v_iconst C dX11_count_120 ?_
    exact v_iret C r dX11_count_121 g1
  by_cases c0 : x1 = 0
  · refine v_tswIn C h.1 dX11_count_1 (by omega) (by omega) (off := 39) (by rw [c0]; rfl) (tgt := 40) (by decide) ?_
    have g2 := h.2.2.1 c0
    refine v_aload_n (i := 0) C dX11_count_40 rfl rfl ?_
    refine v_getf (k := 0) C fl_RX11_10 rfl rfl dX11_count_41 ?_
    show Aj E l z (41 + 3) [(0, vr 0), (1, vi x1)] [vr 1] M
    refine v_getf (k := 1) C fl_RX11_84 rfl rfl dX11_count_44 ?_
    show Aj E l z (44 + 3) [(0, vr 0), (1, vi x1)] [vr 5] M
    refine v_getf (k := 5) C fl_RX11_115 rfl rfl dX11_count_47 ?_
    show Aj E l z (47 + 3) [(0, vr 0), (1, vi x1)] [vi (M 5 3)] M
    exact v_iret C r dX11_count_50 g2
  by_cases c1 : x1 = 1
  · refine v_tswIn C h.1 dX11_count_1 (by omega) (by omega) (off := 50) (by rw [c1]; rfl) (tgt := 51) (by decide) ?_
    have g3 := h.2.2.2.1 c1
    refine v_aload_n (i := 0) C dX11_count_51 rfl rfl ?_
    refine v_getf (k := 0) C fl_RX11_10 rfl rfl dX11_count_52 ?_
    show Aj E l z (52 + 3) [(0, vr 0), (1, vi x1)] [vr 1] M
    refine v_getf (k := 1) C fl_RX11_84 rfl rfl dX11_count_55 ?_
    show Aj E l z (55 + 3) [(0, vr 0), (1, vi x1)] [vr 5] M
    refine v_callV (q := qX0_inches) (k := 5) (As := []) (S := []) C co_yX0_inches ml_RX11_170 im_yX0_inches se_yX0_inches ini_RX0 rfl rfl hq_X0_inches (by decide) (Nat.le_of_ble_eq_true rfl) rfl dX11_count_58 (Con.mono g3 (fun rr M4 hr => ?_) (Nat.le_refl _))
    obtain ⟨y5, rfl, g6⟩ := hr
    show Aj E l z (58 + 3) [(0, vr 0), (1, vi x1)] [vi y5] M4
    exact v_iret C r dX11_count_61 g6
  by_cases c2 : x1 = 2
  · refine v_tswIn C h.1 dX11_count_1 (by omega) (by omega) (off := 61) (by rw [c2]; rfl) (tgt := 62) (by decide) ?_
    have g7 := h.2.2.2.2.1 c2
    refine v_aload_n (i := 0) C dX11_count_62 rfl rfl ?_
    refine v_getf (k := 0) C fl_RX11_10 rfl rfl dX11_count_63 ?_
    show Aj E l z (63 + 3) [(0, vr 0), (1, vi x1)] [vr 1] M
    refine v_getf (k := 1) C fl_RX11_84 rfl rfl dX11_count_66 ?_
    show Aj E l z (66 + 3) [(0, vr 0), (1, vi x1)] [vr 5] M
    refine v_getf (k := 5) C fl_RX11_173 rfl rfl dX11_count_69 ?_
    show Aj E l z (69 + 3) [(0, vr 0), (1, vi x1)] [vi (M 5 4)] M
    exact v_iret C r dX11_count_72 g7
  by_cases c3 : x1 = 3
  · refine v_tswIn C h.1 dX11_count_1 (by omega) (by omega) (off := 72) (by rw [c3]; rfl) (tgt := 73) (by decide) ?_
    have g8 := h.2.2.2.2.2.1 c3
    refine v_aload_n (i := 0) C dX11_count_73 rfl rfl ?_
    refine v_getf (k := 0) C fl_RX11_10 rfl rfl dX11_count_74 ?_
    show Aj E l z (74 + 3) [(0, vr 0), (1, vi x1)] [vr 1] M
    refine v_getf (k := 1) C fl_RX11_176 rfl rfl dX11_count_77 ?_
    show Aj E l z (77 + 3) [(0, vr 0), (1, vi x1)] [vr 9] M
    refine v_getf (k := 9) C fl_RX11_180 rfl rfl dX11_count_80 ?_
    show Aj E l z (80 + 3) [(0, vr 0), (1, vi x1)] [vi (M 9 1)] M
    exact v_iret C r dX11_count_83 g8
  by_cases c4 : x1 = 4
  · refine v_tswIn C h.1 dX11_count_1 (by omega) (by omega) (off := 83) (by rw [c4]; rfl) (tgt := 84) (by decide) ?_
    have g9 := h.2.2.2.2.2.2.1 c4
    refine v_aload_n (i := 0) C dX11_count_84 rfl rfl ?_
    refine v_getf (k := 0) C fl_RX11_10 rfl rfl dX11_count_85 ?_
    show Aj E l z (85 + 3) [(0, vr 0), (1, vi x1)] [vr 1] M
    refine v_getf (k := 1) C fl_RX11_176 rfl rfl dX11_count_88 ?_
    show Aj E l z (88 + 3) [(0, vr 0), (1, vi x1)] [vr 9] M
    refine v_aload_n (i := 0) C dX11_count_91 rfl rfl ?_
    refine v_getf (k := 0) C fl_RX11_10 rfl rfl dX11_count_92 ?_
    show Aj E l z (92 + 3) [(0, vr 0), (1, vi x1)] [vr 1, vr 9] M
    refine v_getf (k := 1) C fl_RX11_176 rfl rfl dX11_count_95 ?_
    show Aj E l z (95 + 3) [(0, vr 0), (1, vi x1)] [vr 9, vr 9] M
    refine v_callV (q := qX1_everyone) (k := 9) (As := []) (S := [vr 9]) C co_yX1_everyone ml_RX11_183 im_yX1_everyone se_yX1_everyone ini_RX1 rfl rfl hq_X1_everyone (by decide) (Nat.le_of_ble_eq_true rfl) rfl dX11_count_98 (Con.mono g9 (fun rr M10 hr => ?_) (Nat.le_refl _))
    obtain ⟨y11, rfl, g12⟩ := hr
    show Aj E l z (98 + 3) [(0, vr 0), (1, vi x1)] [vi y11, vr 9] M10
    refine v_callV (q := qX1_wantedBy) (k := 9) (As := [vi y11]) (S := []) C co_yX1_wantedBy ml_RX11_186 im_yX1_wantedBy se_yX1_wantedBy ini_RX1 rfl rfl hq_X1_wantedBy (by decide) (Nat.le_of_ble_eq_true rfl) rfl dX11_count_101 (Con.mono g12 (fun rr M13 hr => ?_) (Nat.le_refl _))
    obtain ⟨y14, rfl, g15⟩ := hr
    show Aj E l z (101 + 3) [(0, vr 0), (1, vi x1)] [vi y14] M13
    exact v_iret C r dX11_count_104 g15
  by_cases c5 : x1 = 5
  · refine v_tswIn C h.1 dX11_count_1 (by omega) (by omega) (off := 104) (by rw [c5]; rfl) (tgt := 105) (by decide) ?_
    have g16 := h.2.2.2.2.2.2.2 c5
    refine v_aload_n (i := 0) C dX11_count_105 rfl rfl ?_
    refine v_getf (k := 0) C fl_RX11_10 rfl rfl dX11_count_106 ?_
    show Aj E l z (106 + 3) [(0, vr 0), (1, vi x1)] [vr 1] M
    refine v_getf (k := 1) C fl_RX11_84 rfl rfl dX11_count_109 ?_
    show Aj E l z (109 + 3) [(0, vr 0), (1, vi x1)] [vr 5] M
    refine v_aload_n (i := 0) C dX11_count_112 rfl rfl ?_
    refine v_callV (q := qX11_marksNow) (k := 0) (As := []) (S := [vr 5]) C co_yX11_marksNow ml_RX11_96 im_yX11_marksNow se_yX11_marksNow ini_RX11 rfl rfl hq_X11_marksNow (by decide) (Nat.le_of_ble_eq_true rfl) rfl dX11_count_113 (Con.mono g16 (fun rr M17 hr => ?_) (Nat.le_refl _))
    obtain ⟨rfl, g19⟩ := hr
    show Aj E l z (113 + 3) [(0, vr 0), (1, vi x1)] [vr 37, vr 5] M17
    refine v_callV (q := qX0_waste) (k := 5) (As := [vr 37]) (S := []) C co_yX0_waste ml_RX11_189 im_yX0_waste se_yX0_waste ini_RX0 rfl rfl hq_X0_waste (by decide) (Nat.le_of_ble_eq_true rfl) rfl dX11_count_116 (Con.mono g19 (fun rr M20 hr => ?_) (Nat.le_refl _))
    obtain ⟨y21, rfl, g22⟩ := hr
    show Aj E l z (116 + 3) [(0, vr 0), (1, vi x1)] [vi y21] M20
    exact v_iret C r dX11_count_119 g22
  omega
theorem RX11_count {E : FX} {l : Launch} {D : Nat} {post : Option AV → MM → Prop} {M : MM} {x1 : Int} (h0 : VX11_count_0 E l D post M x1) : Con E l (D + 1) qX11_count [vr 0, vi x1] M post := by
  refine con_of (by decide +kernel) (Nat.le_of_ble_eq_true rfl) (fun z C r => ?_)
  exact v_sub [0, 1] rfl (SX11_count_0 C r h0)
def VX11_most_65 (E : FX) (l : Launch) (D : Nat) (post : Option AV → MM → Prop) (M : MM) (s0 : Int) : Prop :=
  post (some (vi s0)) M
set_option maxRecDepth 20000 in
theorem SX11_most_65 {E : FX} {l : Launch} {D : Nat} {post : Option AV → MM → Prop} {z : RT} (C : Cx E z D RX11 cX11_most 3) (r : Rt E z (some .int) post) {M : MM} {s0 : Int} (h : VX11_most_65 E l D post M s0) : Aj E l z 65 [] [vi s0] M := by
  unfold VX11_most_65 at h
  exact v_iret C r dX11_most_65 h
def VX11_most_17 (E : FX) (l : Launch) (D : Nat) (post : Option AV → MM → Prop) (M : MM) : Prop :=
  post (some (vi (-1))) M
set_option maxRecDepth 20000 in
theorem SX11_most_17 {E : FX} {l : Launch} {D : Nat} {post : Option AV → MM → Prop} {z : RT} (C : Cx E z D RX11 cX11_most 3) (r : Rt E z (some .int) post) {M : MM} (h : VX11_most_17 E l D post M) : Aj E l z 17 [] [] M := by
  unfold VX11_most_17 at h
  refine v_iconst C dX11_most_17 ?_
  exact v_iret C r dX11_most_18 h
def VX11_most_0 (E : FX) (l : Launch) (D : Nat) (post : Option AV → MM → Prop) (M : MM) (x1 : Int) (x2 : Int) : Prop :=
  Con E l D qX11_isCloth [vi x1] M (fun r M1 => ∃ y2 : Int, r = some (vi y2) ∧ (R32 y2 ∧ ((y2 = 0 → post (some (vi (-1))) M1) ∧ (¬ y2 = 0 → Con E l D qX11_within [vi x2, vi (-1), vi 7] M1 (fun r M6 => ∃ y7 : Int, r = some (vi y7) ∧ (R32 y7 ∧ ((¬ y7 = 0 → Con E l D qX11_groupBolts [vr 0, vi x1] M6 (fun r M11 => r = none ∧ (R32 x2 ∧ ((¬ x2 = (-1) → R32 x2 ∧ (R32 (M11 39 7) ∧ ((M11 39 7 ≤ x2 → VX11_most_65 E l D post M11 (-4)) ∧ (¬ M11 39 7 ≤ x2 → Con E l D qX7_at [vr 43, vi x2] M11 (fun r M17 => ∃ y18 : Int, r = some (vi y18) ∧ (VX11_most_65 E l D post M17 y18)))))) ∧ (x2 = (-1) → post (some (vi (w32 (M11 39 8)))) M11))))) ∧ (y7 = 0 → post (some (vi (-1))) M6))))))))
set_option maxRecDepth 20000 in
theorem SX11_most_0 {E : FX} {l : Launch} {D : Nat} {post : Option AV → MM → Prop} {z : RT} (C : Cx E z D RX11 cX11_most 3) (r : Rt E z (some .int) post) {M : MM} {x1 : Int} {x2 : Int} (h : VX11_most_0 E l D post M x1 x2) : Aj E l z 0 [(0, vr 0), (1, vi x1), (2, vi x2)] [] M := by
  unfold VX11_most_0 at h
  refine v_iload_n (i := 1) C dX11_most_0 rfl rfl ?_
  refine v_callS (q := qX11_isCloth) (As := [vi x1]) (S := []) C co_yX11_isCloth ml_RX11_110 st_yX11_isCloth ini_RX11 hq_X11_isCloth (by decide) (Nat.le_of_ble_eq_true rfl) rfl dX11_most_1 (Con.mono h (fun rr M1 hr => ?_) (Nat.le_refl _))
  obtain ⟨y2, rfl, g3⟩ := hr
  show Aj E l z (1 + 3) [(0, vr 0), (1, vi x1), (2, vi x2)] [vi y2] M1
  refine v_if_eq (tgt := 17) C g3.1 dX11_most_4 (by decide) (fun c => ?_) (fun c => ?_)
  · have g4 := g3.2.1 c
    refine v_iconst C dX11_most_17 ?_
    exact v_iret C r dX11_most_18 g4
  · have g5 := g3.2.2 c
    refine v_iload_n (i := 2) C dX11_most_7 rfl rfl ?_
    refine v_iconst C dX11_most_8 ?_
    refine v_bipush C dX11_most_9 (by decide) ?_
    refine v_callS (q := qX11_within) (As := [vi x2, vi (-1), vi 7]) (S := []) C co_yX11_within ml_RX11_47 st_yX11_within ini_RX11 hq_X11_within (by decide) (Nat.le_of_ble_eq_true rfl) rfl dX11_most_11 (Con.mono g5 (fun rr M6 hr => ?_) (Nat.le_refl _))
    obtain ⟨y7, rfl, g8⟩ := hr
    show Aj E l z (11 + 3) [(0, vr 0), (1, vi x1), (2, vi x2)] [vi y7] M6
    refine v_if_ne (tgt := 19) C g8.1 dX11_most_14 (by decide) (fun c => ?_) (fun c => ?_)
    · have g9 := g8.2.1 c
      refine v_aload_n (i := 0) C dX11_most_19 rfl rfl ?_
      refine v_iload_n (i := 1) C dX11_most_20 rfl rfl ?_
      refine v_callV (q := qX11_groupBolts) (k := 0) (As := [vi x1]) (S := []) C co_yX11_groupBolts ml_RX11_193 im_yX11_groupBolts se_yX11_groupBolts ini_RX11 rfl rfl hq_X11_groupBolts (by decide) (Nat.le_of_ble_eq_true rfl) rfl dX11_most_21 (Con.mono g9 (fun rr M11 hr => ?_) (Nat.le_refl _))
      obtain ⟨rfl, g12⟩ := hr
      show Aj E l z (21 + 3) [(0, vr 0), (1, vi x1), (2, vi x2)] [] M11
      refine v_iload_n (i := 2) C dX11_most_24 rfl rfl ?_
      refine v_iconst C dX11_most_25 ?_
      refine v_icmp_ne (tgt := 38) C g12.1 (by decide) dX11_most_26 (by decide) (fun c => ?_) (fun c => ?_)
      · have g13 := g12.2.1 c
        refine v_iload_n (i := 2) C dX11_most_38 rfl rfl ?_
        refine v_aload_n (i := 0) C dX11_most_39 rfl rfl ?_
        refine v_getf (k := 0) C fl_RX11_42 rfl rfl dX11_most_40 ?_
        show Aj E l z (40 + 3) [(0, vr 0), (1, vi x1), (2, vi x2)] [vr 39, vi x2] M11
        refine v_getf (k := 39) C fl_RX11_200 rfl rfl dX11_most_43 ?_
        show Aj E l z (43 + 3) [(0, vr 0), (1, vi x1), (2, vi x2)] [vi (M11 39 7), vi x2] M11
        refine v_icmp_ge (tgt := 63) C g13.1 g13.2.1 dX11_most_46 (by decide) (fun c => ?_) (fun c => ?_)
        · have g15 := g13.2.2.1 c
          refine v_bipush C dX11_most_63 (by decide) ?_
          exact v_sub [] rfl (SX11_most_65 C r g15)
        · have g16 := g13.2.2.2 c
          refine v_aload_n (i := 0) C dX11_most_49 rfl rfl ?_
          refine v_getf (k := 0) C fl_RX11_42 rfl rfl dX11_most_50 ?_
          show Aj E l z (50 + 3) [(0, vr 0), (1, vi x1), (2, vi x2)] [vr 39] M11
          refine v_getf (k := 39) C fl_RX11_203 rfl rfl dX11_most_53 ?_
          show Aj E l z (53 + 3) [(0, vr 0), (1, vi x1), (2, vi x2)] [vr 43] M11
          refine v_iload_n (i := 2) C dX11_most_56 rfl rfl ?_
          refine v_callS (q := qX7_at) (As := [vr 43, vi x2]) (S := []) C co_yX7_at ml_RX11_61 st_yX7_at ini_RX7 hq_X7_at (by decide) (Nat.le_of_ble_eq_true rfl) rfl dX11_most_57 (Con.mono g16 (fun rr M17 hr => ?_) (Nat.le_refl _))
          obtain ⟨y18, rfl, g19⟩ := hr
          show Aj E l z (57 + 3) [(0, vr 0), (1, vi x1), (2, vi x2)] [vi y18] M17
          refine v_goto C dX11_most_60 (tgt := 65) (by decide) ?_
          exact v_sub [] rfl (SX11_most_65 C r g19)
      · have g14 := g12.2.2 c
        refine v_aload_n (i := 0) C dX11_most_29 rfl rfl ?_
        refine v_getf (k := 0) C fl_RX11_42 rfl rfl dX11_most_30 ?_
        show Aj E l z (30 + 3) [(0, vr 0), (1, vi x1), (2, vi x2)] [vr 39] M11
        refine v_getf (k := 39) C fl_RX11_196 rfl rfl dX11_most_33 ?_
        show Aj E l z (33 + 3) [(0, vr 0), (1, vi x1), (2, vi x2)] [vj (M11 39 8)] M11
        refine v_l2i C dX11_most_36 ?_
        exact v_iret C r dX11_most_37 g14
    · have g10 := g8.2.2 c
      refine v_iconst C dX11_most_17 ?_
      exact v_iret C r dX11_most_18 g10
theorem RX11_most {E : FX} {l : Launch} {D : Nat} {post : Option AV → MM → Prop} {M : MM} {x1 : Int} {x2 : Int} (h0 : VX11_most_0 E l D post M x1 x2) : Con E l (D + 1) qX11_most [vr 0, vi x1, vi x2] M post := by
  refine con_of (by decide +kernel) (Nat.le_of_ble_eq_true rfl) (fun z C r => ?_)
  exact v_sub [0, 1, 2] rfl (SX11_most_0 C r h0)
def VX11_buyer_44 (E : FX) (l : Launch) (D : Nat) (post : Option AV → MM → Prop) (M : MM) (s0 : Int) : Prop :=
  post (some (vi s0)) M
set_option maxRecDepth 20000 in
theorem SX11_buyer_44 {E : FX} {l : Launch} {D : Nat} {post : Option AV → MM → Prop} {z : RT} (C : Cx E z D RX11 cX11_buyer 2) (r : Rt E z (some .int) post) {M : MM} {s0 : Int} (h : VX11_buyer_44 E l D post M s0) : Aj E l z 44 [] [vi s0] M := by
  unfold VX11_buyer_44 at h
  exact v_iret C r dX11_buyer_44 h
def VX11_buyer_0 (E : FX) (l : Launch) (D : Nat) (post : Option AV → MM → Prop) (M : MM) (x1 : Int) : Prop :=
  Con E l D qX11_within [vi x1, vi 1, vi 9999] M (fun r M1 => ∃ y2 : Int, r = some (vi y2) ∧ (R32 y2 ∧ ((¬ y2 = 0 → R32 (M1 9 1) ∧ ((M1 9 1 < 6 → Con E l D qX1_add [vr 9, vi x1] M1 (fun r M8 => ∃ y9 : Int, r = some (vi y9) ∧ (VX11_buyer_44 E l D post M8 y9))) ∧ (¬ M1 9 1 < 6 → VX11_buyer_44 E l D post M1 (-3)))) ∧ (y2 = 0 → post (some (vi (-1))) M1))))
set_option maxRecDepth 20000 in
theorem SX11_buyer_0 {E : FX} {l : Launch} {D : Nat} {post : Option AV → MM → Prop} {z : RT} (C : Cx E z D RX11 cX11_buyer 2) (r : Rt E z (some .int) post) {M : MM} {x1 : Int} (h : VX11_buyer_0 E l D post M x1) : Aj E l z 0 [(0, vr 0), (1, vi x1)] [] M := by
  unfold VX11_buyer_0 at h
  refine v_iload_n (i := 1) C dX11_buyer_0 rfl rfl ?_
  refine v_iconst C dX11_buyer_1 ?_
  refine v_sipush C dX11_buyer_2 (by decide) ?_
  refine v_callS (q := qX11_within) (As := [vi x1, vi 1, vi 9999]) (S := []) C co_yX11_within ml_RX11_47 st_yX11_within ini_RX11 hq_X11_within (by decide) (Nat.le_of_ble_eq_true rfl) rfl dX11_buyer_5 (Con.mono h (fun rr M1 hr => ?_) (Nat.le_refl _))
  obtain ⟨y2, rfl, g3⟩ := hr
  show Aj E l z (5 + 3) [(0, vr 0), (1, vi x1)] [vi y2] M1
  refine v_if_ne (tgt := 13) C g3.1 dX11_buyer_8 (by decide) (fun c => ?_) (fun c => ?_)
  · have g4 := g3.2.1 c
    refine v_aload_n (i := 0) C dX11_buyer_13 rfl rfl ?_
    refine v_getf (k := 0) C fl_RX11_10 rfl rfl dX11_buyer_14 ?_
    show Aj E l z (14 + 3) [(0, vr 0), (1, vi x1)] [vr 1] M1
    refine v_getf (k := 1) C fl_RX11_176 rfl rfl dX11_buyer_17 ?_
    show Aj E l z (17 + 3) [(0, vr 0), (1, vi x1)] [vr 9] M1
    refine v_getf (k := 9) C fl_RX11_180 rfl rfl dX11_buyer_20 ?_
    show Aj E l z (20 + 3) [(0, vr 0), (1, vi x1)] [vi (M1 9 1)] M1
    refine v_bipush C dX11_buyer_23 (by decide) ?_
    refine v_icmp_lt (tgt := 33) C g4.1 (by decide) dX11_buyer_25 (by decide) (fun c => ?_) (fun c => ?_)
    · have g6 := g4.2.1 c
      refine v_aload_n (i := 0) C dX11_buyer_33 rfl rfl ?_
      refine v_getf (k := 0) C fl_RX11_10 rfl rfl dX11_buyer_34 ?_
      show Aj E l z (34 + 3) [(0, vr 0), (1, vi x1)] [vr 1] M1
      refine v_getf (k := 1) C fl_RX11_176 rfl rfl dX11_buyer_37 ?_
      show Aj E l z (37 + 3) [(0, vr 0), (1, vi x1)] [vr 9] M1
      refine v_iload_n (i := 1) C dX11_buyer_40 rfl rfl ?_
      refine v_callV (q := qX1_add) (k := 9) (As := [vi x1]) (S := []) C co_yX1_add ml_RX11_206 im_yX1_add se_yX1_add ini_RX1 rfl rfl hq_X1_add (by decide) (Nat.le_of_ble_eq_true rfl) rfl dX11_buyer_41 (Con.mono g6 (fun rr M8 hr => ?_) (Nat.le_refl _))
      obtain ⟨y9, rfl, g10⟩ := hr
      show Aj E l z (41 + 3) [(0, vr 0), (1, vi x1)] [vi y9] M8
      exact v_sub [] rfl (SX11_buyer_44 C r g10)
    · have g7 := g4.2.2 c
      refine v_bipush C dX11_buyer_28 (by decide) ?_
      refine v_goto C dX11_buyer_30 (tgt := 44) (by decide) ?_
      exact v_sub [] rfl (SX11_buyer_44 C r g7)
  · have g5 := g3.2.2 c
    refine v_iconst C dX11_buyer_11 ?_
    exact v_iret C r dX11_buyer_12 g5
theorem RX11_buyer {E : FX} {l : Launch} {D : Nat} {post : Option AV → MM → Prop} {M : MM} {x1 : Int} (h0 : VX11_buyer_0 E l D post M x1) : Con E l (D + 1) qX11_buyer [vr 0, vi x1] M post := by
  refine con_of (by decide +kernel) (Nat.le_of_ble_eq_true rfl) (fun z C r => ?_)
  exact v_sub [0, 1] rfl (SX11_buyer_0 C r h0)
def VX11_home_0 (E : FX) (l : Launch) (D : Nat) (post : Option AV → MM → Prop) (M : MM) : Prop :=
  ∀ y1 : Int, y1 = M 9 1 → (∀ M3 : MM, M3 = up M 9 1 0 → (post (some (vi y1)) M3))
set_option maxRecDepth 20000 in
theorem SX11_home_0 {E : FX} {l : Launch} {D : Nat} {post : Option AV → MM → Prop} {z : RT} (C : Cx E z D RX11 cX11_home 2) (r : Rt E z (some .int) post) {M : MM} (h : VX11_home_0 E l D post M) : Aj E l z 0 [(0, vr 0)] [] M := by
  unfold VX11_home_0 at h
  refine v_aload_n (i := 0) C dX11_home_0 rfl rfl ?_
  refine v_getf (k := 0) C fl_RX11_10 rfl rfl dX11_home_1 ?_
  show Aj E l z (1 + 3) [(0, vr 0)] [vr 1] M
  refine v_getf (k := 1) C fl_RX11_176 rfl rfl dX11_home_4 ?_
  show Aj E l z (4 + 3) [(0, vr 0)] [vr 9] M
  refine v_getf (k := 9) C fl_RX11_180 rfl rfl dX11_home_7 ?_
  show Aj E l z (7 + 3) [(0, vr 0)] [vi (M 9 1)] M
  obtain ⟨y1, hy1⟩ : ∃ y : Int, y = M 9 1 := ⟨_, rfl⟩
  have g2 := h y1 hy1
  refine v_eqi hy1 ?_
  refine v_istore_n (L' := [(1, vi y1), (0, vr 0)]) C dX11_home_10 rfl (by decide) rfl ?_
  refine v_aload_n (i := 1) C dX11_home_11 rfl rfl ?_
  refine v_getf (k := 0) C fl_RX11_10 rfl rfl dX11_home_12 ?_
  show Aj E l z (12 + 3) [(1, vi y1), (0, vr 0)] [vr 1] M
  refine v_getf (k := 1) C fl_RX11_176 rfl rfl dX11_home_15 ?_
  show Aj E l z (15 + 3) [(1, vi y1), (0, vr 0)] [vr 9] M
  refine v_iconst C dX11_home_18 ?_
  refine v_putf (k := 9) (x := 0) (t := 0) C fp_RX11_180 rfl rfl (by decide) (by simp [fv, up]) rfl rfl dX11_home_19 ?_
  obtain ⟨M3, hM3⟩ : ∃ X : MM, X = up M 9 1 0 := ⟨_, rfl⟩
  refine v_eqM hM3 ?_
  have g4 := g2 M3 hM3
  refine v_iload_n (i := 0) C dX11_home_22 rfl rfl ?_
  exact v_iret C r dX11_home_23 g4
theorem RX11_home {E : FX} {l : Launch} {D : Nat} {post : Option AV → MM → Prop} {M : MM} (h0 : VX11_home_0 E l D post M) : Con E l (D + 1) qX11_home [vr 0] M post := by
  refine con_of (by decide +kernel) (Nat.le_of_ble_eq_true rfl) (fun z C r => ?_)
  exact v_sub [0] rfl (SX11_home_0 C r h0)
def VX11_price_0 (E : FX) (l : Launch) (D : Nat) (post : Option AV → MM → Prop) (M : MM) (x1 : Int) : Prop :=
  Con E l D qX1_everyone [vr 9] M (fun r M1 => ∃ y2 : Int, r = some (vi y2) ∧ (Con E l D qX11_within [vi x1, vi 1, vi y2] M1 (fun r M4 => ∃ y5 : Int, r = some (vi y5) ∧ (R32 y5 ∧ ((¬ y5 = 0 → Con E l D qX11_marksNow [vr 0] M4 (fun r M9 => r = some (vr 37) ∧ (Con E l D qX11_priceOf [vr 0, vr 37, vi x1] M9 (fun r M12 => ∃ y13 : Int, r = some (vj y13) ∧ (post (some (vj y13)) M12))))) ∧ (y5 = 0 → post (some (vj (-1))) M4))))))
set_option maxRecDepth 20000 in
theorem SX11_price_0 {E : FX} {l : Launch} {D : Nat} {post : Option AV → MM → Prop} {z : RT} (C : Cx E z D RX11 cX11_price 2) (r : Rt E z (some .long) post) {M : MM} {x1 : Int} (h : VX11_price_0 E l D post M x1) : Aj E l z 0 [(0, vr 0), (1, vi x1)] [] M := by
  unfold VX11_price_0 at h
  refine v_iload_n (i := 1) C dX11_price_0 rfl rfl ?_
  refine v_iconst C dX11_price_1 ?_
  refine v_aload_n (i := 0) C dX11_price_2 rfl rfl ?_
  refine v_getf (k := 0) C fl_RX11_10 rfl rfl dX11_price_3 ?_
  show Aj E l z (3 + 3) [(0, vr 0), (1, vi x1)] [vr 1, vi 1, vi x1] M
  refine v_getf (k := 1) C fl_RX11_176 rfl rfl dX11_price_6 ?_
  show Aj E l z (6 + 3) [(0, vr 0), (1, vi x1)] [vr 9, vi 1, vi x1] M
  refine v_callV (q := qX1_everyone) (k := 9) (As := []) (S := [vi 1, vi x1]) C co_yX1_everyone ml_RX11_183 im_yX1_everyone se_yX1_everyone ini_RX1 rfl rfl hq_X1_everyone (by decide) (Nat.le_of_ble_eq_true rfl) rfl dX11_price_9 (Con.mono h (fun rr M1 hr => ?_) (Nat.le_refl _))
  obtain ⟨y2, rfl, g3⟩ := hr
  show Aj E l z (9 + 3) [(0, vr 0), (1, vi x1)] [vi y2, vi 1, vi x1] M1
  refine v_callS (q := qX11_within) (As := [vi x1, vi 1, vi y2]) (S := []) C co_yX11_within ml_RX11_47 st_yX11_within ini_RX11 hq_X11_within (by decide) (Nat.le_of_ble_eq_true rfl) rfl dX11_price_12 (Con.mono g3 (fun rr M4 hr => ?_) (Nat.le_refl _))
  obtain ⟨y5, rfl, g6⟩ := hr
  show Aj E l z (12 + 3) [(0, vr 0), (1, vi x1)] [vi y5] M4
  refine v_if_ne (tgt := 22) C g6.1 dX11_price_15 (by decide) (fun c => ?_) (fun c => ?_)
  · have g7 := g6.2.1 c
    refine v_aload_n (i := 0) C dX11_price_22 rfl rfl ?_
    refine v_aload_n (i := 0) C dX11_price_23 rfl rfl ?_
    refine v_callV (q := qX11_marksNow) (k := 0) (As := []) (S := [vr 0]) C co_yX11_marksNow ml_RX11_96 im_yX11_marksNow se_yX11_marksNow ini_RX11 rfl rfl hq_X11_marksNow (by decide) (Nat.le_of_ble_eq_true rfl) rfl dX11_price_24 (Con.mono g7 (fun rr M9 hr => ?_) (Nat.le_refl _))
    obtain ⟨rfl, g11⟩ := hr
    show Aj E l z (24 + 3) [(0, vr 0), (1, vi x1)] [vr 37, vr 0] M9
    refine v_iload_n (i := 1) C dX11_price_27 rfl rfl ?_
    refine v_callV (q := qX11_priceOf) (k := 0) (As := [vr 37, vi x1]) (S := []) C co_yX11_priceOf ml_RX11_208 im_yX11_priceOf se_yX11_priceOf ini_RX11 rfl rfl hq_X11_priceOf (by decide) (Nat.le_of_ble_eq_true rfl) rfl dX11_price_28 (Con.mono g11 (fun rr M12 hr => ?_) (Nat.le_refl _))
    obtain ⟨y13, rfl, g14⟩ := hr
    show Aj E l z (28 + 3) [(0, vr 0), (1, vi x1)] [vj y13] M12
    exact v_lret C r dX11_price_31 g14
  · have g8 := g6.2.2 c
    refine v_ldc2 (x := -1) C cs_RX11_94 (by decide) dX11_price_18 ?_
    exact v_lret C r dX11_price_21 g8
theorem RX11_price {E : FX} {l : Launch} {D : Nat} {post : Option AV → MM → Prop} {M : MM} {x1 : Int} (h0 : VX11_price_0 E l D post M x1) : Con E l (D + 1) qX11_price [vr 0, vi x1] M post := by
  refine con_of (by decide +kernel) (Nat.le_of_ble_eq_true rfl) (fun z C r => ?_)
  exact v_sub [0, 1] rfl (SX11_price_0 C r h0)
def VX11_parties_50 (E : FX) (l : Launch) (D : Nat) (post : Option AV → MM → Prop) (M : MM) : Prop :=
  post (some (vj (-4))) M
set_option maxRecDepth 20000 in
theorem SX11_parties_50 {E : FX} {l : Launch} {D : Nat} {post : Option AV → MM → Prop} {z : RT} (C : Cx E z D RX11 cX11_parties 3) (r : Rt E z (some .long) post) {M : MM} (h : VX11_parties_50 E l D post M) : Aj E l z 50 [] [] M := by
  unfold VX11_parties_50 at h
  refine v_ldc2 (x := -4) C cs_RX11_212 (by decide) dX11_parties_50 ?_
  exact v_lret C r dX11_parties_53 h
def VX11_parties_19 (E : FX) (l : Launch) (D : Nat) (post : Option AV → MM → Prop) (M : MM) : Prop :=
  post (some (vj (-1))) M
set_option maxRecDepth 20000 in
theorem SX11_parties_19 {E : FX} {l : Launch} {D : Nat} {post : Option AV → MM → Prop} {z : RT} (C : Cx E z D RX11 cX11_parties 3) (r : Rt E z (some .long) post) {M : MM} (h : VX11_parties_19 E l D post M) : Aj E l z 19 [] [] M := by
  unfold VX11_parties_19 at h
  refine v_ldc2 (x := -1) C cs_RX11_94 (by decide) dX11_parties_19 ?_
  exact v_lret C r dX11_parties_22 h
def VX11_parties_87 (E : FX) (l : Launch) (D : Nat) (post : Option AV → MM → Prop) (M : MM) (s0 : Int) : Prop :=
  post (some (vj s0)) M
set_option maxRecDepth 20000 in
theorem SX11_parties_87 {E : FX} {l : Launch} {D : Nat} {post : Option AV → MM → Prop} {z : RT} (C : Cx E z D RX11 cX11_parties 3) (r : Rt E z (some .long) post) {M : MM} {s0 : Int} (h : VX11_parties_87 E l D post M s0) : Aj E l z 87 [] [vj s0] M := by
  unfold VX11_parties_87 at h
  exact v_lret C r dX11_parties_87 h
def VX11_parties_0 (E : FX) (l : Launch) (D : Nat) (post : Option AV → MM → Prop) (M : MM) (x1 : Int) (x2 : Int) : Prop :=
  Con E l D qX11_within [vi x1, vi 1, vi 6] M (fun r M1 => ∃ y2 : Int, r = some (vi y2) ∧ (R32 y2 ∧ ((y2 = 0 → post (some (vj (-1))) M1) ∧ (¬ y2 = 0 → Con E l D qX11_within [vi x2, vi (-1), vi 5] M1 (fun r M6 => ∃ y7 : Int, r = some (vi y7) ∧ (R32 y7 ∧ ((¬ y7 = 0 → R32 x2 ∧ (R32 (M6 9 1) ∧ ((M6 9 1 ≤ x2 → post (some (vj (-4))) M6) ∧ (¬ M6 9 1 ≤ x2 → R32 (M6 9 1) ∧ ((¬ M6 9 1 = 0 → Con E l D qX11_groupBuyers [vr 0, vi x1] M6 (fun r M15 => r = none ∧ (R32 x2 ∧ ((¬ x2 = (-1) → Con E l D qX7_at [vr 43, vi x2] M15 (fun r M19 => ∃ y20 : Int, r = some (vi y20) ∧ (R32 y20 ∧ (VX11_parties_87 E l D post M19 y20)))) ∧ (x2 = (-1) → VX11_parties_87 E l D post M15 (-(M15 39 8))))))) ∧ (M6 9 1 = 0 → post (some (vj (-4))) M6)))))) ∧ (y7 = 0 → post (some (vj (-1))) M6))))))))
set_option maxRecDepth 20000 in
theorem SX11_parties_0 {E : FX} {l : Launch} {D : Nat} {post : Option AV → MM → Prop} {z : RT} (C : Cx E z D RX11 cX11_parties 3) (r : Rt E z (some .long) post) {M : MM} {x1 : Int} {x2 : Int} (h : VX11_parties_0 E l D post M x1 x2) : Aj E l z 0 [(0, vr 0), (1, vi x1), (2, vi x2)] [] M := by
  unfold VX11_parties_0 at h
  refine v_iload_n (i := 1) C dX11_parties_0 rfl rfl ?_
  refine v_iconst C dX11_parties_1 ?_
  refine v_bipush C dX11_parties_2 (by decide) ?_
  refine v_callS (q := qX11_within) (As := [vi x1, vi 1, vi 6]) (S := []) C co_yX11_within ml_RX11_47 st_yX11_within ini_RX11 hq_X11_within (by decide) (Nat.le_of_ble_eq_true rfl) rfl dX11_parties_4 (Con.mono h (fun rr M1 hr => ?_) (Nat.le_refl _))
  obtain ⟨y2, rfl, g3⟩ := hr
  show Aj E l z (4 + 3) [(0, vr 0), (1, vi x1), (2, vi x2)] [vi y2] M1
  refine v_if_eq (tgt := 19) C g3.1 dX11_parties_7 (by decide) (fun c => ?_) (fun c => ?_)
  · have g4 := g3.2.1 c
    refine v_ldc2 (x := -1) C cs_RX11_94 (by decide) dX11_parties_19 ?_
    exact v_lret C r dX11_parties_22 g4
  · have g5 := g3.2.2 c
    refine v_iload_n (i := 2) C dX11_parties_10 rfl rfl ?_
    refine v_iconst C dX11_parties_11 ?_
    refine v_iconst C dX11_parties_12 ?_
    refine v_callS (q := qX11_within) (As := [vi x2, vi (-1), vi 5]) (S := []) C co_yX11_within ml_RX11_47 st_yX11_within ini_RX11 hq_X11_within (by decide) (Nat.le_of_ble_eq_true rfl) rfl dX11_parties_13 (Con.mono g5 (fun rr M6 hr => ?_) (Nat.le_refl _))
    obtain ⟨y7, rfl, g8⟩ := hr
    show Aj E l z (13 + 3) [(0, vr 0), (1, vi x1), (2, vi x2)] [vi y7] M6
    refine v_if_ne (tgt := 23) C g8.1 dX11_parties_16 (by decide) (fun c => ?_) (fun c => ?_)
    · have g9 := g8.2.1 c
      refine v_iload_n (i := 2) C dX11_parties_23 rfl rfl ?_
      refine v_aload_n (i := 0) C dX11_parties_24 rfl rfl ?_
      refine v_getf (k := 0) C fl_RX11_10 rfl rfl dX11_parties_25 ?_
      show Aj E l z (25 + 3) [(0, vr 0), (1, vi x1), (2, vi x2)] [vr 1, vi x2] M6
      refine v_getf (k := 1) C fl_RX11_176 rfl rfl dX11_parties_28 ?_
      show Aj E l z (28 + 3) [(0, vr 0), (1, vi x1), (2, vi x2)] [vr 9, vi x2] M6
      refine v_getf (k := 9) C fl_RX11_180 rfl rfl dX11_parties_31 ?_
      show Aj E l z (31 + 3) [(0, vr 0), (1, vi x1), (2, vi x2)] [vi (M6 9 1), vi x2] M6
      refine v_icmp_ge (tgt := 50) C g9.1 g9.2.1 dX11_parties_34 (by decide) (fun c => ?_) (fun c => ?_)
      · have g11 := g9.2.2.1 c
        refine v_ldc2 (x := -4) C cs_RX11_212 (by decide) dX11_parties_50 ?_
        exact v_lret C r dX11_parties_53 g11
      · have g12 := g9.2.2.2 c
        refine v_aload_n (i := 0) C dX11_parties_37 rfl rfl ?_
        refine v_getf (k := 0) C fl_RX11_10 rfl rfl dX11_parties_38 ?_
        show Aj E l z (38 + 3) [(0, vr 0), (1, vi x1), (2, vi x2)] [vr 1] M6
        refine v_getf (k := 1) C fl_RX11_176 rfl rfl dX11_parties_41 ?_
        show Aj E l z (41 + 3) [(0, vr 0), (1, vi x1), (2, vi x2)] [vr 9] M6
        refine v_getf (k := 9) C fl_RX11_180 rfl rfl dX11_parties_44 ?_
        show Aj E l z (44 + 3) [(0, vr 0), (1, vi x1), (2, vi x2)] [vi (M6 9 1)] M6
        refine v_if_ne (tgt := 54) C g12.1 dX11_parties_47 (by decide) (fun c => ?_) (fun c => ?_)
        · have g13 := g12.2.1 c
          refine v_aload_n (i := 0) C dX11_parties_54 rfl rfl ?_
          refine v_iload_n (i := 1) C dX11_parties_55 rfl rfl ?_
          refine v_callV (q := qX11_groupBuyers) (k := 0) (As := [vi x1]) (S := []) C co_yX11_groupBuyers ml_RX11_214 im_yX11_groupBuyers se_yX11_groupBuyers ini_RX11 rfl rfl hq_X11_groupBuyers (by decide) (Nat.le_of_ble_eq_true rfl) rfl dX11_parties_56 (Con.mono g13 (fun rr M15 hr => ?_) (Nat.le_refl _))
          obtain ⟨rfl, g16⟩ := hr
          show Aj E l z (56 + 3) [(0, vr 0), (1, vi x1), (2, vi x2)] [] M15
          refine v_iload_n (i := 2) C dX11_parties_59 rfl rfl ?_
          refine v_iconst C dX11_parties_60 ?_
          refine v_icmp_ne (tgt := 75) C g16.1 (by decide) dX11_parties_61 (by decide) (fun c => ?_) (fun c => ?_)
          · have g17 := g16.2.1 c
            refine v_aload_n (i := 0) C dX11_parties_75 rfl rfl ?_
            refine v_getf (k := 0) C fl_RX11_42 rfl rfl dX11_parties_76 ?_
            show Aj E l z (76 + 3) [(0, vr 0), (1, vi x1), (2, vi x2)] [vr 39] M15
            refine v_getf (k := 39) C fl_RX11_203 rfl rfl dX11_parties_79 ?_
            show Aj E l z (79 + 3) [(0, vr 0), (1, vi x1), (2, vi x2)] [vr 43] M15
            refine v_iload_n (i := 2) C dX11_parties_82 rfl rfl ?_
            refine v_callS (q := qX7_at) (As := [vr 43, vi x2]) (S := []) C co_yX7_at ml_RX11_61 st_yX7_at ini_RX7 hq_X7_at (by decide) (Nat.le_of_ble_eq_true rfl) rfl dX11_parties_83 (Con.mono g17 (fun rr M19 hr => ?_) (Nat.le_refl _))
            obtain ⟨y20, rfl, g21⟩ := hr
            show Aj E l z (83 + 3) [(0, vr 0), (1, vi x1), (2, vi x2)] [vi y20] M19
            refine v_i2l C g21.1 dX11_parties_86 ?_
            exact v_sub [] rfl (SX11_parties_87 C r g21.2)
          · have g18 := g16.2.2 c
            refine v_aload_n (i := 0) C dX11_parties_64 rfl rfl ?_
            refine v_getf (k := 0) C fl_RX11_42 rfl rfl dX11_parties_65 ?_
            show Aj E l z (65 + 3) [(0, vr 0), (1, vi x1), (2, vi x2)] [vr 39] M15
            refine v_getf (k := 39) C fl_RX11_196 rfl rfl dX11_parties_68 ?_
            show Aj E l z (68 + 3) [(0, vr 0), (1, vi x1), (2, vi x2)] [vj (M15 39 8)] M15
            refine v_lneg C dX11_parties_71 ?_
            refine v_goto C dX11_parties_72 (tgt := 87) (by decide) ?_
            exact v_sub [] rfl (SX11_parties_87 C r g18)
        · have g14 := g12.2.2 c
          refine v_ldc2 (x := -4) C cs_RX11_212 (by decide) dX11_parties_50 ?_
          exact v_lret C r dX11_parties_53 g14
    · have g10 := g8.2.2 c
      refine v_ldc2 (x := -1) C cs_RX11_94 (by decide) dX11_parties_19 ?_
      exact v_lret C r dX11_parties_22 g10
theorem RX11_parties {E : FX} {l : Launch} {D : Nat} {post : Option AV → MM → Prop} {M : MM} {x1 : Int} {x2 : Int} (h0 : VX11_parties_0 E l D post M x1 x2) : Con E l (D + 1) qX11_parties [vr 0, vi x1, vi x2] M post := by
  refine con_of (by decide +kernel) (Nat.le_of_ble_eq_true rfl) (fun z C r => ?_)
  exact v_sub [0, 1, 2] rfl (SX11_parties_0 C r h0)
def VX11_third_0 (E : FX) (l : Launch) (D : Nat) (post : Option AV → MM → Prop) (J30 : MM → Int → Int → Int → Int → Prop) (M : MM) (x1 : Int) : Prop :=
  Con E l D qX11_within [vi x1, vi 0, vi 1] M (fun r M1 => ∃ y2 : Int, r = some (vi y2) ∧ (R32 y2 ∧ ((¬ y2 = 0 → J30 M1 x1 0 0 1) ∧ (y2 = 0 → post (some (vi (-1))) M1))))
set_option maxRecDepth 20000 in
theorem SX11_third_0 {E : FX} {l : Launch} {D : Nat} {post : Option AV → MM → Prop} {z : RT} {J30 : MM → Int → Int → Int → Int → Prop} (C : Cx E z D RX11 cX11_third 7) (r : Rt E z (some .int) post) (hJ30 : ∀ (M : MM) (x1 : Int) (x3 : Int) (x4 : Int) (x5 : Int), J30 M x1 x3 x4 x5 → Aj E l z 30 [(0, vr 0), (1, vi x1), (2, vr 4), (3, vi x3), (4, vi x4), (5, vi x5)] [] M) {M : MM} {x1 : Int} (h : VX11_third_0 E l D post J30 M x1) : Aj E l z 0 [(0, vr 0), (1, vi x1)] [] M := by
  unfold VX11_third_0 at h
  refine v_iload_n (i := 1) C dX11_third_0 rfl rfl ?_
  refine v_iconst C dX11_third_1 ?_
  refine v_iconst C dX11_third_2 ?_
  refine v_callS (q := qX11_within) (As := [vi x1, vi 0, vi 1]) (S := []) C co_yX11_within ml_RX11_47 st_yX11_within ini_RX11 hq_X11_within (by decide) (Nat.le_of_ble_eq_true rfl) rfl dX11_third_3 (Con.mono h (fun rr M1 hr => ?_) (Nat.le_refl _))
  obtain ⟨y2, rfl, g3⟩ := hr
  show Aj E l z (3 + 3) [(0, vr 0), (1, vi x1)] [vi y2] M1
  refine v_if_ne (tgt := 11) C g3.1 dX11_third_6 (by decide) (fun c => ?_) (fun c => ?_)
  · have g4 := g3.2.1 c
    refine v_aload_n (i := 0) C dX11_third_11 rfl rfl ?_
    refine v_getf (k := 0) C fl_RX11_10 rfl rfl dX11_third_12 ?_
    show Aj E l z (12 + 3) [(0, vr 0), (1, vi x1)] [vr 1] M1
    refine v_getf (k := 1) C fl_RX11_51 rfl rfl dX11_third_15 ?_
    show Aj E l z (15 + 3) [(0, vr 0), (1, vi x1)] [vr 3] M1
    refine v_getf (k := 3) C fl_RX11_55 rfl rfl dX11_third_18 ?_
    show Aj E l z (18 + 3) [(0, vr 0), (1, vi x1)] [vr 4] M1
    refine v_astore_n (L' := [(2, vr 4), (0, vr 0), (1, vi x1)]) C dX11_third_21 rfl (by decide) rfl ?_
    refine v_iconst C dX11_third_22 ?_
    refine v_istore_n (L' := [(3, vi 0), (2, vr 4), (0, vr 0), (1, vi x1)]) C dX11_third_23 rfl (by decide) rfl ?_
    refine v_iconst C dX11_third_24 ?_
    refine v_istore (L' := [(4, vi 0), (3, vi 0), (2, vr 4), (0, vr 0), (1, vi x1)]) C dX11_third_25 (by decide) rfl ?_
    refine v_iconst C dX11_third_27 ?_
    refine v_istore (L' := [(5, vi 1), (4, vi 0), (3, vi 0), (2, vr 4), (0, vr 0), (1, vi x1)]) C dX11_third_28 (by decide) rfl ?_
    exact v_sub [4, 5, 3, 2, 1, 0] rfl (hJ30 _ _ _ _ _ g4)
  · have g5 := g3.2.2 c
    refine v_iconst C dX11_third_9 ?_
    exact v_iret C r dX11_third_10 g5
def VX11_third_90 (E : FX) (l : Launch) (D : Nat) (post : Option AV → MM → Prop) (J30 : MM → Int → Int → Int → Int → Prop) (M : MM) (x1 : Int) (x3 : Int) (x4 : Int) (x5 : Int) : Prop :=
  ∀ y6 : Int, y6 = x5 + 1 → (J30 M x1 x3 x4 y6)
set_option maxRecDepth 20000 in
theorem SX11_third_90 {E : FX} {l : Launch} {D : Nat} {post : Option AV → MM → Prop} {z : RT} {J30 : MM → Int → Int → Int → Int → Prop} (C : Cx E z D RX11 cX11_third 7) (r : Rt E z (some .int) post) (hJ30 : ∀ (M : MM) (x1 : Int) (x3 : Int) (x4 : Int) (x5 : Int), J30 M x1 x3 x4 x5 → Aj E l z 30 [(0, vr 0), (1, vi x1), (2, vr 4), (3, vi x3), (4, vi x4), (5, vi x5)] [] M) {M : MM} {x1 : Int} {x3 : Int} {x4 : Int} {x5 : Int} (h : VX11_third_90 E l D post J30 M x1 x3 x4 x5) : Aj E l z 90 [(0, vr 0), (1, vi x1), (2, vr 4), (3, vi x3), (4, vi x4), (5, vi x5)] [] M := by
  unfold VX11_third_90 at h
  obtain ⟨y6, hy6⟩ : ∃ y : Int, y = x5 + 1 := ⟨_, rfl⟩
  have g7 := h y6 hy6
  refine v_iinc (i := 5) (L' := [(5, vi y6), (0, vr 0), (1, vi x1), (2, vr 4), (3, vi x3), (4, vi x4)]) C dX11_third_90 rfl (by decide) hy6 rfl ?_
  refine v_goto C dX11_third_93 (tgt := 30) (by decide) ?_
  exact v_sub [1, 2, 3, 4, 5, 0] rfl (hJ30 _ _ _ _ _ g7)
def VX11_third_83 (E : FX) (l : Launch) (D : Nat) (post : Option AV → MM → Prop) (J30 : MM → Int → Int → Int → Int → Prop) (M : MM) (x1 : Int) (x5 : Int) (x6 : Int) : Prop :=
  VX11_third_90 E l D post J30 M x1 x5 x6 x5
set_option maxRecDepth 20000 in
theorem SX11_third_83 {E : FX} {l : Launch} {D : Nat} {post : Option AV → MM → Prop} {z : RT} {J30 : MM → Int → Int → Int → Int → Prop} (C : Cx E z D RX11 cX11_third 7) (r : Rt E z (some .int) post) (hJ30 : ∀ (M : MM) (x1 : Int) (x3 : Int) (x4 : Int) (x5 : Int), J30 M x1 x3 x4 x5 → Aj E l z 30 [(0, vr 0), (1, vi x1), (2, vr 4), (3, vi x3), (4, vi x4), (5, vi x5)] [] M) {M : MM} {x1 : Int} {x5 : Int} {x6 : Int} (h : VX11_third_83 E l D post J30 M x1 x5 x6) : Aj E l z 83 [(0, vr 0), (1, vi x1), (2, vr 4), (5, vi x5), (6, vi x6)] [] M := by
  unfold VX11_third_83 at h
  refine v_iload (i := 4) C dX11_third_83 rfl ?_
  refine v_istore (L' := [(4, vi x6), (0, vr 0), (1, vi x1), (2, vr 4), (5, vi x5), (6, vi x6)]) C dX11_third_85 (by decide) rfl ?_
  refine v_iload (i := 4) C dX11_third_87 rfl ?_
  refine v_istore_n (L' := [(3, vi x5), (4, vi x6), (0, vr 0), (1, vi x1), (2, vr 4), (5, vi x5), (6, vi x6)]) C dX11_third_89 rfl (by decide) rfl ?_
  exact v_sub [2, 3, 4, 0, 1, 5] rfl (SX11_third_90 C r hJ30 h)
def VX11_third_106 (E : FX) (l : Launch) (D : Nat) (post : Option AV → MM → Prop) (J30 : MM → Int → Int → Int → Int → Prop) (M : MM) (s0 : Int) : Prop :=
  post (some (vi s0)) M
set_option maxRecDepth 20000 in
theorem SX11_third_106 {E : FX} {l : Launch} {D : Nat} {post : Option AV → MM → Prop} {z : RT} {J30 : MM → Int → Int → Int → Int → Prop} (C : Cx E z D RX11 cX11_third 7) (r : Rt E z (some .int) post) (hJ30 : ∀ (M : MM) (x1 : Int) (x3 : Int) (x4 : Int) (x5 : Int), J30 M x1 x3 x4 x5 → Aj E l z 30 [(0, vr 0), (1, vi x1), (2, vr 4), (3, vi x3), (4, vi x4), (5, vi x5)] [] M) {M : MM} {s0 : Int} (h : VX11_third_106 E l D post J30 M s0) : Aj E l z 106 [] [vi s0] M := by
  unfold VX11_third_106 at h
  exact v_iret C r dX11_third_106 h
def VX11_third_30 (E : FX) (l : Launch) (D : Nat) (post : Option AV → MM → Prop) (J30 : MM → Int → Int → Int → Int → Prop) (M : MM) (x1 : Int) (x3 : Int) (x4 : Int) (x5 : Int) : Prop :=
  R32 x5 ∧ ((99 < x5 → R32 x1 ∧ ((¬ x1 = 0 → VX11_third_106 E l D post J30 M x4) ∧ (x1 = 0 → VX11_third_106 E l D post J30 M x3))) ∧ (¬ 99 < x5 → Con E l D qX7_at [vr 4, vi 0] M (fun r M12 => ∃ y13 : Int, r = some (vi y13) ∧ (Con E l D qX7_at [vr 4, vi 1] M12 (fun r M15 => ∃ y16 : Int, r = some (vi y16) ∧ (Con E l D qX6_meetTwoOfThree [vr 37, vi y13, vi y16, vi x5] M15 (fun r M18 => r = none ∧ (Con E l D qX0_waste [vr 5, vr 37] M18 (fun r M20 => ∃ y21 : Int, r = some (vi y21) ∧ (R32 x3 ∧ ((x3 = 0 → VX11_third_90 E l D post J30 M20 x1 x5 y21 x5) ∧ (¬ x3 = 0 → R32 y21 ∧ (R32 x4 ∧ ((x4 ≤ y21 → ∀ y27 : Int, y27 = x5 + 1 → (J30 M20 x1 x3 x4 y27)) ∧ (¬ x4 ≤ y21 → VX11_third_90 E l D post J30 M20 x1 x5 y21 x5)))))))))))))))
set_option maxRecDepth 20000 in
theorem SX11_third_30 {E : FX} {l : Launch} {D : Nat} {post : Option AV → MM → Prop} {z : RT} {J30 : MM → Int → Int → Int → Int → Prop} (C : Cx E z D RX11 cX11_third 7) (r : Rt E z (some .int) post) (hJ30 : ∀ (M : MM) (x1 : Int) (x3 : Int) (x4 : Int) (x5 : Int), J30 M x1 x3 x4 x5 → Aj E l z 30 [(0, vr 0), (1, vi x1), (2, vr 4), (3, vi x3), (4, vi x4), (5, vi x5)] [] M) {M : MM} {x1 : Int} {x3 : Int} {x4 : Int} {x5 : Int} (h : VX11_third_30 E l D post J30 M x1 x3 x4 x5) : Aj E l z 30 [(0, vr 0), (1, vi x1), (2, vr 4), (3, vi x3), (4, vi x4), (5, vi x5)] [] M := by
  unfold VX11_third_30 at h
  refine v_iload (i := 5) C dX11_third_30 rfl ?_
  refine v_bipush C dX11_third_32 (by decide) ?_
  refine v_icmp_gt (tgt := 96) C h.1 (by decide) dX11_third_34 (by decide) (fun c => ?_) (fun c => ?_)
  · have g8 := h.2.1 c
    refine v_iload_n (i := 1) C dX11_third_96 rfl rfl ?_
    refine v_if_ne (tgt := 104) C g8.1 dX11_third_97 (by decide) (fun c => ?_) (fun c => ?_)
    · have g10 := g8.2.1 c
      refine v_iload (i := 4) C dX11_third_104 rfl ?_
      exact v_sub [] rfl (SX11_third_106 C r hJ30 g10)
    · have g11 := g8.2.2 c
      refine v_iload_n (i := 3) C dX11_third_100 rfl rfl ?_
      refine v_goto C dX11_third_101 (tgt := 106) (by decide) ?_
      exact v_sub [] rfl (SX11_third_106 C r hJ30 g11)
  · have g9 := h.2.2 c
    refine v_aload_n (i := 0) C dX11_third_37 rfl rfl ?_
    refine v_getf (k := 0) C fl_RX11_35 rfl rfl dX11_third_38 ?_
    show Aj E l z (38 + 3) [(0, vr 0), (1, vi x1), (2, vr 4), (3, vi x3), (4, vi x4), (5, vi x5)] [vr 37] M
    refine v_aload_n (i := 2) C dX11_third_41 rfl rfl ?_
    refine v_iconst C dX11_third_42 ?_
    refine v_callS (q := qX7_at) (As := [vr 4, vi 0]) (S := [vr 37]) C co_yX7_at ml_RX11_61 st_yX7_at ini_RX7 hq_X7_at (by decide) (Nat.le_of_ble_eq_true rfl) rfl dX11_third_43 (Con.mono g9 (fun rr M12 hr => ?_) (Nat.le_refl _))
    obtain ⟨y13, rfl, g14⟩ := hr
    show Aj E l z (43 + 3) [(0, vr 0), (1, vi x1), (2, vr 4), (3, vi x3), (4, vi x4), (5, vi x5)] [vi y13, vr 37] M12
    refine v_aload_n (i := 2) C dX11_third_46 rfl rfl ?_
    refine v_iconst C dX11_third_47 ?_
    refine v_callS (q := qX7_at) (As := [vr 4, vi 1]) (S := [vi y13, vr 37]) C co_yX7_at ml_RX11_61 st_yX7_at ini_RX7 hq_X7_at (by decide) (Nat.le_of_ble_eq_true rfl) rfl dX11_third_48 (Con.mono g14 (fun rr M15 hr => ?_) (Nat.le_refl _))
    obtain ⟨y16, rfl, g17⟩ := hr
    show Aj E l z (48 + 3) [(0, vr 0), (1, vi x1), (2, vr 4), (3, vi x3), (4, vi x4), (5, vi x5)] [vi y16, vi y13, vr 37] M15
    refine v_iload (i := 5) C dX11_third_51 rfl ?_
    refine v_callV (q := qX6_meetTwoOfThree) (k := 37) (As := [vi y13, vi y16, vi x5]) (S := []) C co_yX6_meetTwoOfThree ml_RX11_217 im_yX6_meetTwoOfThree se_yX6_meetTwoOfThree ini_RX6 rfl rfl hq_X6_meetTwoOfThree (by decide) (Nat.le_of_ble_eq_true rfl) rfl dX11_third_53 (Con.mono g17 (fun rr M18 hr => ?_) (Nat.le_refl _))
    obtain ⟨rfl, g19⟩ := hr
    show Aj E l z (53 + 3) [(0, vr 0), (1, vi x1), (2, vr 4), (3, vi x3), (4, vi x4), (5, vi x5)] [] M18
    refine v_aload_n (i := 0) C dX11_third_56 rfl rfl ?_
    refine v_getf (k := 0) C fl_RX11_10 rfl rfl dX11_third_57 ?_
    show Aj E l z (57 + 3) [(0, vr 0), (1, vi x1), (2, vr 4), (3, vi x3), (4, vi x4), (5, vi x5)] [vr 1] M18
    refine v_getf (k := 1) C fl_RX11_84 rfl rfl dX11_third_60 ?_
    show Aj E l z (60 + 3) [(0, vr 0), (1, vi x1), (2, vr 4), (3, vi x3), (4, vi x4), (5, vi x5)] [vr 5] M18
    refine v_aload_n (i := 0) C dX11_third_63 rfl rfl ?_
    refine v_getf (k := 0) C fl_RX11_35 rfl rfl dX11_third_64 ?_
    show Aj E l z (64 + 3) [(0, vr 0), (1, vi x1), (2, vr 4), (3, vi x3), (4, vi x4), (5, vi x5)] [vr 37, vr 5] M18
    refine v_callV (q := qX0_waste) (k := 5) (As := [vr 37]) (S := []) C co_yX0_waste ml_RX11_189 im_yX0_waste se_yX0_waste ini_RX0 rfl rfl hq_X0_waste (by decide) (Nat.le_of_ble_eq_true rfl) rfl dX11_third_67 (Con.mono g19 (fun rr M20 hr => ?_) (Nat.le_refl _))
    obtain ⟨y21, rfl, g22⟩ := hr
    show Aj E l z (67 + 3) [(0, vr 0), (1, vi x1), (2, vr 4), (3, vi x3), (4, vi x4), (5, vi x5)] [vi y21] M20
    refine v_istore (L' := [(6, vi y21), (0, vr 0), (1, vi x1), (2, vr 4), (3, vi x3), (4, vi x4), (5, vi x5)]) C dX11_third_70 (by decide) rfl ?_
    refine v_iload_n (i := 4) C dX11_third_72 rfl rfl ?_
    refine v_if_eq (tgt := 83) C g22.1 dX11_third_73 (by decide) (fun c => ?_) (fun c => ?_)
    · have g23 := g22.2.1 c
      refine v_iload (i := 0) C dX11_third_83 rfl ?_
      refine v_istore (L' := [(4, vi y21), (6, vi y21), (0, vr 0), (1, vi x1), (2, vr 4), (3, vi x3), (5, vi x5)]) C dX11_third_85 (by decide) rfl ?_
      refine v_iload (i := 6) C dX11_third_87 rfl ?_
      refine v_istore_n (L' := [(3, vi x5), (4, vi y21), (6, vi y21), (0, vr 0), (1, vi x1), (2, vr 4), (5, vi x5)]) C dX11_third_89 rfl (by decide) rfl ?_
      exact v_sub [3, 4, 5, 0, 1, 6] rfl (SX11_third_90 C r hJ30 g23)
    · have g24 := g22.2.2 c
      refine v_iload (i := 0) C dX11_third_76 rfl ?_
      refine v_iload (i := 5) C dX11_third_78 rfl ?_
      refine v_icmp_ge (tgt := 90) C g24.1 g24.2.1 dX11_third_80 (by decide) (fun c => ?_) (fun c => ?_)
      · have g25 := g24.2.2.1 c
        obtain ⟨y27, hy27⟩ : ∃ y : Int, y = x5 + 1 := ⟨_, rfl⟩
        have g28 := g25 y27 hy27
        refine v_iinc (i := 6) (L' := [(5, vi y27), (6, vi y21), (0, vr 0), (1, vi x1), (2, vr 4), (3, vi x3), (4, vi x4)]) C dX11_third_90 rfl (by decide) hy27 rfl ?_
        refine v_goto C dX11_third_93 (tgt := 30) (by decide) ?_
        exact v_sub [2, 3, 4, 5, 6, 0] rfl (hJ30 _ _ _ _ _ g28)
      · have g26 := g24.2.2.2 c
        refine v_iload (i := 0) C dX11_third_83 rfl ?_
        refine v_istore (L' := [(4, vi y21), (6, vi y21), (0, vr 0), (1, vi x1), (2, vr 4), (3, vi x3), (5, vi x5)]) C dX11_third_85 (by decide) rfl ?_
        refine v_iload (i := 6) C dX11_third_87 rfl ?_
        refine v_istore_n (L' := [(3, vi x5), (4, vi y21), (6, vi y21), (0, vr 0), (1, vi x1), (2, vr 4), (5, vi x5)]) C dX11_third_89 rfl (by decide) rfl ?_
        exact v_sub [3, 4, 5, 0, 1, 6] rfl (SX11_third_90 C r hJ30 g26)
theorem RX11_third {E : FX} {l : Launch} {D : Nat} {post : Option AV → MM → Prop} (I30 : MM → Int → Int → Int → Int → Prop) (m30 : MM → Int → Int → Int → Int → Nat) {M : MM} {x1 : Int} (h0 : VX11_third_0 E l D post I30 M x1) (h30I : ∀ (M : MM) (x1 : Int) (x3 : Int) (x4 : Int) (x5 : Int), I30 M x1 x3 x4 x5 → VX11_third_30 E l D post (fun M' x1' x3' x4' x5' => I30 M' x1' x3' x4' x5' ∧ m30 M' x1' x3' x4' x5' < m30 M x1 x3 x4 x5) M x1 x3 x4 x5) : Con E l (D + 1) qX11_third [vr 0, vi x1] M post := by
  refine con_of (by decide +kernel) (Nat.le_of_ble_eq_true rfl) (fun z C r => ?_)
  have all : ∀ n : Nat, (∀ (M : MM) (x1 : Int) (x3 : Int) (x4 : Int) (x5 : Int), I30 M x1 x3 x4 x5 → m30 M x1 x3 x4 x5 < n → Aj E l z 30 [(0, vr 0), (1, vi x1), (2, vr 4), (3, vi x3), (4, vi x4), (5, vi x5)] [] M) := by
    intro n
    induction n with
    | zero => exact fun _ _ _ _ _ _ hm => absurd hm (Nat.not_lt_zero _)
    | succ n ih => exact fun M x1 x3 x4 x5 hi hm => SX11_third_30 C r (fun M' x1' x3' x4' x5' hj => ih M' x1' x3' x4' x5' hj.1 (by omega)) (h30I M x1 x3 x4 x5 hi)
  exact v_sub [0, 1] rfl (SX11_third_0 C r (fun M' x1' x3' x4' x5' hj => (all _) M' x1' x3' x4' x5' hj (Nat.lt_succ_self _)) h0)
def VX11_worn_45 (E : FX) (l : Launch) (D : Nat) (post : Option AV → MM → Prop) (J50 : MM → Int → Int → Int → Int → Prop) (M : MM) : Prop :=
  post (some (vi (-1))) M
set_option maxRecDepth 20000 in
theorem SX11_worn_45 {E : FX} {l : Launch} {D : Nat} {post : Option AV → MM → Prop} {z : RT} {J50 : MM → Int → Int → Int → Int → Prop} (C : Cx E z D RX11 cX11_worn 7) (r : Rt E z (some .int) post) (hJ50 : ∀ (M : MM) (x1 : Int) (x3 : Int) (x4 : Int) (x5 : Int), J50 M x1 x3 x4 x5 → Aj E l z 50 [(1, vi x1), (3, vi x3), (4, vi x4), (5, vi x5)] [] M) {M : MM} (h : VX11_worn_45 E l D post J50 M) : Aj E l z 45 [] [] M := by
  unfold VX11_worn_45 at h
  refine v_iconst C dX11_worn_45 ?_
  exact v_iret C r dX11_worn_46 h
def VX11_worn_0 (E : FX) (l : Launch) (D : Nat) (post : Option AV → MM → Prop) (J50 : MM → Int → Int → Int → Int → Prop) (M : MM) (x1 : Int) : Prop :=
  Con E l D qX7_at [vr 4, vi 0] M (fun r M1 => ∃ y2 : Int, r = some (vi y2) ∧ (Con E l D qX7_at [vr 4, vi 1] M1 (fun r M4 => ∃ y5 : Int, r = some (vi y5) ∧ (Con E l D qX11_within [vi x1, vi 0, vi 9] M4 (fun r M7 => ∃ y8 : Int, r = some (vi y8) ∧ (R32 y8 ∧ ((y8 = 0 → post (some (vi (-1))) M7) ∧ (¬ y8 = 0 → R32 x1 ∧ (R32 y2 ∧ ((y2 ≤ x1 → post (some (vi (-1))) M7) ∧ (¬ y2 ≤ x1 → R32 x1 ∧ (R32 y5 ∧ ((x1 < y5 → J50 M7 x1 y2 y5 1) ∧ (¬ x1 < y5 → post (some (vi (-1))) M7))))))))))))))
set_option maxRecDepth 20000 in
theorem SX11_worn_0 {E : FX} {l : Launch} {D : Nat} {post : Option AV → MM → Prop} {z : RT} {J50 : MM → Int → Int → Int → Int → Prop} (C : Cx E z D RX11 cX11_worn 7) (r : Rt E z (some .int) post) (hJ50 : ∀ (M : MM) (x1 : Int) (x3 : Int) (x4 : Int) (x5 : Int), J50 M x1 x3 x4 x5 → Aj E l z 50 [(1, vi x1), (3, vi x3), (4, vi x4), (5, vi x5)] [] M) {M : MM} {x1 : Int} (h : VX11_worn_0 E l D post J50 M x1) : Aj E l z 0 [(0, vr 0), (1, vi x1)] [] M := by
  unfold VX11_worn_0 at h
  refine v_aload_n (i := 0) C dX11_worn_0 rfl rfl ?_
  refine v_getf (k := 0) C fl_RX11_10 rfl rfl dX11_worn_1 ?_
  show Aj E l z (1 + 3) [(0, vr 0), (1, vi x1)] [vr 1] M
  refine v_getf (k := 1) C fl_RX11_51 rfl rfl dX11_worn_4 ?_
  show Aj E l z (4 + 3) [(0, vr 0), (1, vi x1)] [vr 3] M
  refine v_getf (k := 3) C fl_RX11_55 rfl rfl dX11_worn_7 ?_
  show Aj E l z (7 + 3) [(0, vr 0), (1, vi x1)] [vr 4] M
  refine v_astore_n (L' := [(2, vr 4), (0, vr 0), (1, vi x1)]) C dX11_worn_10 rfl (by decide) rfl ?_
  refine v_aload_n (i := 0) C dX11_worn_11 rfl rfl ?_
  refine v_iconst C dX11_worn_12 ?_
  refine v_callS (q := qX7_at) (As := [vr 4, vi 0]) (S := []) C co_yX7_at ml_RX11_61 st_yX7_at ini_RX7 hq_X7_at (by decide) (Nat.le_of_ble_eq_true rfl) rfl dX11_worn_13 (Con.mono h (fun rr M1 hr => ?_) (Nat.le_refl _))
  obtain ⟨y2, rfl, g3⟩ := hr
  show Aj E l z (13 + 3) [(2, vr 4), (0, vr 0), (1, vi x1)] [vi y2] M1
  refine v_istore_n (L' := [(3, vi y2), (2, vr 4), (0, vr 0), (1, vi x1)]) C dX11_worn_16 rfl (by decide) rfl ?_
  refine v_aload_n (i := 1) C dX11_worn_17 rfl rfl ?_
  refine v_iconst C dX11_worn_18 ?_
  refine v_callS (q := qX7_at) (As := [vr 4, vi 1]) (S := []) C co_yX7_at ml_RX11_61 st_yX7_at ini_RX7 hq_X7_at (by decide) (Nat.le_of_ble_eq_true rfl) rfl dX11_worn_19 (Con.mono g3 (fun rr M4 hr => ?_) (Nat.le_refl _))
  obtain ⟨y5, rfl, g6⟩ := hr
  show Aj E l z (19 + 3) [(3, vi y2), (2, vr 4), (0, vr 0), (1, vi x1)] [vi y5] M4
  refine v_istore (L' := [(4, vi y5), (3, vi y2), (2, vr 4), (0, vr 0), (1, vi x1)]) C dX11_worn_22 (by decide) rfl ?_
  refine v_iload_n (i := 4) C dX11_worn_24 rfl rfl ?_
  refine v_iconst C dX11_worn_25 ?_
  refine v_bipush C dX11_worn_26 (by decide) ?_
  refine v_callS (q := qX11_within) (As := [vi x1, vi 0, vi 9]) (S := []) C co_yX11_within ml_RX11_47 st_yX11_within ini_RX11 hq_X11_within (by decide) (Nat.le_of_ble_eq_true rfl) rfl dX11_worn_28 (Con.mono g6 (fun rr M7 hr => ?_) (Nat.le_refl _))
  obtain ⟨y8, rfl, g9⟩ := hr
  show Aj E l z (28 + 3) [(4, vi y5), (3, vi y2), (2, vr 4), (0, vr 0), (1, vi x1)] [vi y8] M7
  refine v_if_eq (tgt := 45) C g9.1 dX11_worn_31 (by decide) (fun c => ?_) (fun c => ?_)
  · have g10 := g9.2.1 c
    refine v_iconst C dX11_worn_45 ?_
    exact v_iret C r dX11_worn_46 g10
  · have g11 := g9.2.2 c
    refine v_iload_n (i := 4) C dX11_worn_34 rfl rfl ?_
    refine v_iload_n (i := 1) C dX11_worn_35 rfl rfl ?_
    refine v_icmp_ge (tgt := 45) C g11.1 g11.2.1 dX11_worn_36 (by decide) (fun c => ?_) (fun c => ?_)
    · have g12 := g11.2.2.1 c
      refine v_iconst C dX11_worn_45 ?_
      exact v_iret C r dX11_worn_46 g12
    · have g13 := g11.2.2.2 c
      refine v_iload_n (i := 4) C dX11_worn_39 rfl rfl ?_
      refine v_iload (i := 0) C dX11_worn_40 rfl ?_
      refine v_icmp_lt (tgt := 47) C g13.1 g13.2.1 dX11_worn_42 (by decide) (fun c => ?_) (fun c => ?_)
      · have g14 := g13.2.2.1 c
        refine v_iconst C dX11_worn_47 ?_
        refine v_istore (L' := [(5, vi 1), (4, vi y5), (3, vi y2), (2, vr 4), (0, vr 0), (1, vi x1)]) C dX11_worn_48 (by decide) rfl ?_
        exact v_sub [5, 2, 1, 0] rfl (hJ50 _ _ _ _ _ g14)
      · have g15 := g13.2.2.2 c
        refine v_iconst C dX11_worn_45 ?_
        exact v_iret C r dX11_worn_46 g15
def VX11_worn_50 (E : FX) (l : Launch) (D : Nat) (post : Option AV → MM → Prop) (J50 : MM → Int → Int → Int → Int → Prop) (M : MM) (x1 : Int) (x3 : Int) (x4 : Int) (x5 : Int) : Prop :=
  R32 x5 ∧ ((9999 < x5 → post (some (vi (-4))) M) ∧ (¬ 9999 < x5 → R32 (((x5 * (x3 - x1)) + x4) - 1) ∧ (R32 x4 ∧ (Con E l D qX7_quotient [vj (((x5 * (x3 - x1)) + x4) - 1), vj x4] M (fun r M18 => ∃ y19 : Int, r = some (vj y19) ∧ (∀ y21 : Int, y21 = w32 y19 → (R32 (y21 * (x4 - x1)) ∧ (R32 (x5 * x3) ∧ ((x5 * x3 < y21 * (x4 - x1) → ∀ y25 : Int, y25 = x5 + 1 → (J50 M18 x1 x3 x4 y25)) ∧ (¬ x5 * x3 < y21 * (x4 - x1) → post (some (vi x5)) M18))))))))))
set_option maxRecDepth 20000 in
theorem SX11_worn_50 {E : FX} {l : Launch} {D : Nat} {post : Option AV → MM → Prop} {z : RT} {J50 : MM → Int → Int → Int → Int → Prop} (C : Cx E z D RX11 cX11_worn 7) (r : Rt E z (some .int) post) (hJ50 : ∀ (M : MM) (x1 : Int) (x3 : Int) (x4 : Int) (x5 : Int), J50 M x1 x3 x4 x5 → Aj E l z 50 [(1, vi x1), (3, vi x3), (4, vi x4), (5, vi x5)] [] M) {M : MM} {x1 : Int} {x3 : Int} {x4 : Int} {x5 : Int} (h : VX11_worn_50 E l D post J50 M x1 x3 x4 x5) : Aj E l z 50 [(1, vi x1), (3, vi x3), (4, vi x4), (5, vi x5)] [] M := by
  unfold VX11_worn_50 at h
  refine v_iload (i := 3) C dX11_worn_50 rfl ?_
  refine v_sipush C dX11_worn_52 (by decide) ?_
  refine v_icmp_gt (tgt := 102) C h.1 (by decide) dX11_worn_55 (by decide) (fun c => ?_) (fun c => ?_)
  · have g16 := h.2.1 c
    refine v_bipush C dX11_worn_102 (by decide) ?_
    exact v_iret C r dX11_worn_104 g16
  · have g17 := h.2.2 c
    refine v_iload (i := 3) C dX11_worn_58 rfl ?_
    refine v_iload_n (i := 1) C dX11_worn_60 rfl rfl ?_
    refine v_iload_n (i := 0) C dX11_worn_61 rfl rfl ?_
    refine v_isub C dX11_worn_62 ?_
    refine v_imul C dX11_worn_63 ?_
    refine v_iload (i := 2) C dX11_worn_64 rfl ?_
    refine v_iadd C dX11_worn_66 ?_
    refine v_iconst C dX11_worn_67 ?_
    refine v_isub C dX11_worn_68 ?_
    refine v_i2l C g17.1 dX11_worn_69 ?_
    refine v_iload (i := 2) C dX11_worn_70 rfl ?_
    refine v_i2l C g17.2.1 dX11_worn_72 ?_
    refine v_callS (q := qX7_quotient) (As := [vj (((x5 * (x3 - x1)) + x4) - 1), vj x4]) (S := []) C co_yX7_quotient ml_RX11_220 st_yX7_quotient ini_RX7 hq_X7_quotient (by decide) (Nat.le_of_ble_eq_true rfl) rfl dX11_worn_73 (Con.mono g17.2.2 (fun rr M18 hr => ?_) (Nat.le_refl _))
    obtain ⟨y19, rfl, g20⟩ := hr
    show Aj E l z (73 + 3) [(1, vi x1), (3, vi x3), (4, vi x4), (5, vi x5)] [vj y19] M18
    refine v_l2i C dX11_worn_76 ?_
    obtain ⟨y21, hy21⟩ : ∃ y : Int, y = w32 y19 := ⟨_, rfl⟩
    have g22 := g20 y21 hy21
    refine v_eqi hy21 ?_
    refine v_istore (L' := [(6, vi y21), (1, vi x1), (3, vi x3), (4, vi x4), (5, vi x5)]) C dX11_worn_77 (by decide) rfl ?_
    refine v_iload (i := 0) C dX11_worn_79 rfl ?_
    refine v_iload (i := 3) C dX11_worn_81 rfl ?_
    refine v_iload_n (i := 1) C dX11_worn_83 rfl rfl ?_
    refine v_isub C dX11_worn_84 ?_
    refine v_imul C dX11_worn_85 ?_
    refine v_iload (i := 4) C dX11_worn_86 rfl ?_
    refine v_iload_n (i := 2) C dX11_worn_88 rfl rfl ?_
    refine v_imul C dX11_worn_89 ?_
    refine v_icmp_gt (tgt := 96) C g22.1 g22.2.1 dX11_worn_90 (by decide) (fun c => ?_) (fun c => ?_)
    · have g23 := g22.2.2.1 c
      obtain ⟨y25, hy25⟩ : ∃ y : Int, y = x5 + 1 := ⟨_, rfl⟩
      have g26 := g23 y25 hy25
      refine v_iinc (i := 4) (L' := [(5, vi y25), (6, vi y21), (1, vi x1), (3, vi x3), (4, vi x4)]) C dX11_worn_96 rfl (by decide) hy25 rfl ?_
      refine v_goto C dX11_worn_99 (tgt := 50) (by decide) ?_
      exact v_sub [2, 3, 4, 0] rfl (hJ50 _ _ _ _ _ g26)
    · have g24 := g22.2.2.2 c
      refine v_iload (i := 4) C dX11_worn_93 rfl ?_
      exact v_iret C r dX11_worn_95 g24
theorem RX11_worn {E : FX} {l : Launch} {D : Nat} {post : Option AV → MM → Prop} (I50 : MM → Int → Int → Int → Int → Prop) (m50 : MM → Int → Int → Int → Int → Nat) {M : MM} {x1 : Int} (h0 : VX11_worn_0 E l D post I50 M x1) (h50I : ∀ (M : MM) (x1 : Int) (x3 : Int) (x4 : Int) (x5 : Int), I50 M x1 x3 x4 x5 → VX11_worn_50 E l D post (fun M' x1' x3' x4' x5' => I50 M' x1' x3' x4' x5' ∧ m50 M' x1' x3' x4' x5' < m50 M x1 x3 x4 x5) M x1 x3 x4 x5) : Con E l (D + 1) qX11_worn [vr 0, vi x1] M post := by
  refine con_of (by decide +kernel) (Nat.le_of_ble_eq_true rfl) (fun z C r => ?_)
  have all : ∀ n : Nat, (∀ (M : MM) (x1 : Int) (x3 : Int) (x4 : Int) (x5 : Int), I50 M x1 x3 x4 x5 → m50 M x1 x3 x4 x5 < n → Aj E l z 50 [(1, vi x1), (3, vi x3), (4, vi x4), (5, vi x5)] [] M) := by
    intro n
    induction n with
    | zero => exact fun _ _ _ _ _ _ hm => absurd hm (Nat.not_lt_zero _)
    | succ n ih => exact fun M x1 x3 x4 x5 hi hm => SX11_worn_50 C r (fun M' x1' x3' x4' x5' hj => ih M' x1' x3' x4' x5' hj.1 (by omega)) (h50I M x1 x3 x4 x5 hi)
  exact v_sub [0, 1] rfl (SX11_worn_0 C r (fun M' x1' x3' x4' x5' hj => (all _) M' x1' x3' x4' x5' hj (Nat.lt_succ_self _)) h0)
def VX11_rate_56 (E : FX) (l : Launch) (D : Nat) (post : Option AV → MM → Prop) (M : MM) : Prop :=
  post (some (vi (-1))) M
set_option maxRecDepth 20000 in
theorem SX11_rate_56 {E : FX} {l : Launch} {D : Nat} {post : Option AV → MM → Prop} {z : RT} (C : Cx E z D RX11 cX11_rate 6) (r : Rt E z (some .int) post) {M : MM} (h : VX11_rate_56 E l D post M) : Aj E l z 56 [] [] M := by
  unfold VX11_rate_56 at h
  refine v_iconst C dX11_rate_56 ?_
  exact v_iret C r dX11_rate_57 h
def VX11_rate_28 (E : FX) (l : Launch) (D : Nat) (post : Option AV → MM → Prop) (M : MM) (x1 : Int) (x2 : Int) (x3 : Int) (x4 : Int) (s0 : Int) : Prop :=
  R32 s0 ∧ ((s0 = 0 → post (some (vi (-1))) M) ∧ (¬ s0 = 0 → Con E l D qX11_within [vi x3, vi 1, vi 99] M (fun r M3 => ∃ y4 : Int, r = some (vi y4) ∧ (R32 y4 ∧ ((y4 = 0 → post (some (vi (-1))) M3) ∧ (¬ y4 = 0 → Con E l D qX11_within [vi x4, vi 1, vi 99] M3 (fun r M8 => ∃ y9 : Int, r = some (vi y9) ∧ (R32 y9 ∧ ((¬ y9 = 0 → Con E l D qX3_agree [vr 11, vi x1, vi x2, vi x3, vi x4] M8 (fun r M13 => ∃ y14 : Int, r = some (vi y14) ∧ (post (some (vi y14)) M13))) ∧ (y9 = 0 → post (some (vi (-1))) M8))))))))))
set_option maxRecDepth 20000 in
theorem SX11_rate_28 {E : FX} {l : Launch} {D : Nat} {post : Option AV → MM → Prop} {z : RT} (C : Cx E z D RX11 cX11_rate 6) (r : Rt E z (some .int) post) {M : MM} {x1 : Int} {x2 : Int} {x3 : Int} {x4 : Int} {s0 : Int} (h : VX11_rate_28 E l D post M x1 x2 x3 x4 s0) : Aj E l z 28 [(0, vr 0), (1, vi x1), (2, vi x2), (3, vi x3), (4, vi x4)] [vi s0] M := by
  unfold VX11_rate_28 at h
  refine v_istore (L' := [(5, vi s0), (0, vr 0), (1, vi x1), (2, vi x2), (3, vi x3), (4, vi x4)]) C dX11_rate_28 (by decide) rfl ?_
  refine v_iload (i := 0) C dX11_rate_30 rfl ?_
  refine v_if_eq (tgt := 56) C h.1 dX11_rate_32 (by decide) (fun c => ?_) (fun c => ?_)
  · have g1 := h.2.1 c
    refine v_iconst C dX11_rate_56 ?_
    exact v_iret C r dX11_rate_57 g1
  · have g2 := h.2.2 c
    refine v_iload_n (i := 4) C dX11_rate_35 rfl rfl ?_
    refine v_iconst C dX11_rate_36 ?_
    refine v_bipush C dX11_rate_37 (by decide) ?_
    refine v_callS (q := qX11_within) (As := [vi x3, vi 1, vi 99]) (S := []) C co_yX11_within ml_RX11_47 st_yX11_within ini_RX11 hq_X11_within (by decide) (Nat.le_of_ble_eq_true rfl) rfl dX11_rate_39 (Con.mono g2 (fun rr M3 hr => ?_) (Nat.le_refl _))
    obtain ⟨y4, rfl, g5⟩ := hr
    show Aj E l z (39 + 3) [(5, vi s0), (0, vr 0), (1, vi x1), (2, vi x2), (3, vi x3), (4, vi x4)] [vi y4] M3
    refine v_if_eq (tgt := 56) C g5.1 dX11_rate_42 (by decide) (fun c => ?_) (fun c => ?_)
    · have g6 := g5.2.1 c
      refine v_iconst C dX11_rate_56 ?_
      exact v_iret C r dX11_rate_57 g6
    · have g7 := g5.2.2 c
      refine v_iload (i := 5) C dX11_rate_45 rfl ?_
      refine v_iconst C dX11_rate_47 ?_
      refine v_bipush C dX11_rate_48 (by decide) ?_
      refine v_callS (q := qX11_within) (As := [vi x4, vi 1, vi 99]) (S := []) C co_yX11_within ml_RX11_47 st_yX11_within ini_RX11 hq_X11_within (by decide) (Nat.le_of_ble_eq_true rfl) rfl dX11_rate_50 (Con.mono g7 (fun rr M8 hr => ?_) (Nat.le_refl _))
      obtain ⟨y9, rfl, g10⟩ := hr
      show Aj E l z (50 + 3) [(5, vi s0), (0, vr 0), (1, vi x1), (2, vi x2), (3, vi x3), (4, vi x4)] [vi y9] M8
      refine v_if_ne (tgt := 58) C g10.1 dX11_rate_53 (by decide) (fun c => ?_) (fun c => ?_)
      · have g11 := g10.2.1 c
        refine v_aload_n (i := 1) C dX11_rate_58 rfl rfl ?_
        refine v_getf (k := 0) C fl_RX11_10 rfl rfl dX11_rate_59 ?_
        show Aj E l z (59 + 3) [(5, vi s0), (0, vr 0), (1, vi x1), (2, vi x2), (3, vi x3), (4, vi x4)] [vr 1] M8
        refine v_getf (k := 1) C fl_RX11_224 rfl rfl dX11_rate_62 ?_
        show Aj E l z (62 + 3) [(5, vi s0), (0, vr 0), (1, vi x1), (2, vi x2), (3, vi x3), (4, vi x4)] [vr 11] M8
        refine v_iload_n (i := 2) C dX11_rate_65 rfl rfl ?_
        refine v_iload_n (i := 3) C dX11_rate_66 rfl rfl ?_
        refine v_iload_n (i := 4) C dX11_rate_67 rfl rfl ?_
        refine v_iload (i := 5) C dX11_rate_68 rfl ?_
        refine v_callV (q := qX3_agree) (k := 11) (As := [vi x1, vi x2, vi x3, vi x4]) (S := []) C co_yX3_agree ml_RX11_228 im_yX3_agree se_yX3_agree ini_RX3 rfl rfl hq_X3_agree (by decide) (Nat.le_of_ble_eq_true rfl) rfl dX11_rate_70 (Con.mono g11 (fun rr M13 hr => ?_) (Nat.le_refl _))
        obtain ⟨y14, rfl, g15⟩ := hr
        show Aj E l z (70 + 3) [(5, vi s0), (0, vr 0), (1, vi x1), (2, vi x2), (3, vi x3), (4, vi x4)] [vi y14] M13
        exact v_iret C r dX11_rate_73 g15
      · have g12 := g10.2.2 c
        refine v_iconst C dX11_rate_56 ?_
        exact v_iret C r dX11_rate_57 g12
def VX11_rate_27 (E : FX) (l : Launch) (D : Nat) (post : Option AV → MM → Prop) (M : MM) (x1 : Int) (x2 : Int) (x3 : Int) (x4 : Int) : Prop :=
  VX11_rate_28 E l D post M x1 x2 x3 x4 0
set_option maxRecDepth 20000 in
theorem SX11_rate_27 {E : FX} {l : Launch} {D : Nat} {post : Option AV → MM → Prop} {z : RT} (C : Cx E z D RX11 cX11_rate 6) (r : Rt E z (some .int) post) {M : MM} {x1 : Int} {x2 : Int} {x3 : Int} {x4 : Int} (h : VX11_rate_27 E l D post M x1 x2 x3 x4) : Aj E l z 27 [(0, vr 0), (1, vi x1), (2, vi x2), (3, vi x3), (4, vi x4)] [] M := by
  unfold VX11_rate_27 at h
  refine v_iconst C dX11_rate_27 ?_
  exact v_sub [0, 1, 2, 3, 4] rfl (SX11_rate_28 C r h)
def VX11_rate_0 (E : FX) (l : Launch) (D : Nat) (post : Option AV → MM → Prop) (M : MM) (x1 : Int) (x2 : Int) (x3 : Int) (x4 : Int) : Prop :=
  Con E l D qX11_within [vi x1, vi 0, vi 3] M (fun r M16 => ∃ y17 : Int, r = some (vi y17) ∧ (R32 y17 ∧ ((y17 = 0 → VX11_rate_28 E l D post M16 x1 x2 x3 x4 0) ∧ (¬ y17 = 0 → Con E l D qX11_within [vi x2, vi 0, vi 3] M16 (fun r M21 => ∃ y22 : Int, r = some (vi y22) ∧ (R32 y22 ∧ ((y22 = 0 → VX11_rate_28 E l D post M21 x1 x2 x3 x4 0) ∧ (¬ y22 = 0 → R32 x1 ∧ (R32 x2 ∧ ((x1 = x2 → VX11_rate_28 E l D post M21 x1 x2 x3 x4 0) ∧ (¬ x1 = x2 → VX11_rate_28 E l D post M21 x1 x2 x3 x4 1)))))))))))
set_option maxRecDepth 20000 in
theorem SX11_rate_0 {E : FX} {l : Launch} {D : Nat} {post : Option AV → MM → Prop} {z : RT} (C : Cx E z D RX11 cX11_rate 6) (r : Rt E z (some .int) post) {M : MM} {x1 : Int} {x2 : Int} {x3 : Int} {x4 : Int} (h : VX11_rate_0 E l D post M x1 x2 x3 x4) : Aj E l z 0 [(0, vr 0), (1, vi x1), (2, vi x2), (3, vi x3), (4, vi x4)] [] M := by
  unfold VX11_rate_0 at h
  refine v_iload_n (i := 1) C dX11_rate_0 rfl rfl ?_
  refine v_iconst C dX11_rate_1 ?_
  refine v_iconst C dX11_rate_2 ?_
  refine v_callS (q := qX11_within) (As := [vi x1, vi 0, vi 3]) (S := []) C co_yX11_within ml_RX11_47 st_yX11_within ini_RX11 hq_X11_within (by decide) (Nat.le_of_ble_eq_true rfl) rfl dX11_rate_3 (Con.mono h (fun rr M16 hr => ?_) (Nat.le_refl _))
  obtain ⟨y17, rfl, g18⟩ := hr
  show Aj E l z (3 + 3) [(0, vr 0), (1, vi x1), (2, vi x2), (3, vi x3), (4, vi x4)] [vi y17] M16
  refine v_if_eq (tgt := 27) C g18.1 dX11_rate_6 (by decide) (fun c => ?_) (fun c => ?_)
  · have g19 := g18.2.1 c
    refine v_iconst C dX11_rate_27 ?_
    exact v_sub [0, 1, 2, 3, 4] rfl (SX11_rate_28 C r g19)
  · have g20 := g18.2.2 c
    refine v_iload_n (i := 2) C dX11_rate_9 rfl rfl ?_
    refine v_iconst C dX11_rate_10 ?_
    refine v_iconst C dX11_rate_11 ?_
    refine v_callS (q := qX11_within) (As := [vi x2, vi 0, vi 3]) (S := []) C co_yX11_within ml_RX11_47 st_yX11_within ini_RX11 hq_X11_within (by decide) (Nat.le_of_ble_eq_true rfl) rfl dX11_rate_12 (Con.mono g20 (fun rr M21 hr => ?_) (Nat.le_refl _))
    obtain ⟨y22, rfl, g23⟩ := hr
    show Aj E l z (12 + 3) [(0, vr 0), (1, vi x1), (2, vi x2), (3, vi x3), (4, vi x4)] [vi y22] M21
    refine v_if_eq (tgt := 27) C g23.1 dX11_rate_15 (by decide) (fun c => ?_) (fun c => ?_)
    · have g24 := g23.2.1 c
      refine v_iconst C dX11_rate_27 ?_
      exact v_sub [0, 1, 2, 3, 4] rfl (SX11_rate_28 C r g24)
    · have g25 := g23.2.2 c
      refine v_iload_n (i := 1) C dX11_rate_18 rfl rfl ?_
      refine v_iload_n (i := 2) C dX11_rate_19 rfl rfl ?_
      refine v_icmp_eq (tgt := 27) C g25.1 g25.2.1 dX11_rate_20 (by decide) (fun c => ?_) (fun c => ?_)
      · have g26 := g25.2.2.1 c
        refine v_iconst C dX11_rate_27 ?_
        exact v_sub [0, 1, 2, 3, 4] rfl (SX11_rate_28 C r g26)
      · have g27 := g25.2.2.2 c
        refine v_iconst C dX11_rate_23 ?_
        refine v_goto C dX11_rate_24 (tgt := 28) (by decide) ?_
        exact v_sub [0, 1, 2, 3, 4] rfl (SX11_rate_28 C r g27)
theorem RX11_rate {E : FX} {l : Launch} {D : Nat} {post : Option AV → MM → Prop} {M : MM} {x1 : Int} {x2 : Int} {x3 : Int} {x4 : Int} (h0 : VX11_rate_0 E l D post M x1 x2 x3 x4) : Con E l (D + 1) qX11_rate [vr 0, vi x1, vi x2, vi x3, vi x4] M post := by
  refine con_of (by decide +kernel) (Nat.le_of_ble_eq_true rfl) (fun z C r => ?_)
  exact v_sub [0, 1, 2, 3, 4] rfl (SX11_rate_0 C r h0)
def VX11_rings_0 (E : FX) (l : Launch) (D : Nat) (post : Option AV → MM → Prop) (J19 : MM → Int → Int → Int → Int → Prop) (J28 : MM → Int → Int → Int → Int → Int → Prop) (M : MM) (x1 : Int) : Prop :=
  Con E l D qX11_within [vi x1, vi 0, vi 1] M (fun r M1 => ∃ y2 : Int, r = some (vi y2) ∧ (R32 y2 ∧ ((¬ y2 = 0 → J19 M1 x1 0 (-4) 2) ∧ (y2 = 0 → post (some (vi (-1))) M1))))
set_option maxRecDepth 20000 in
theorem SX11_rings_0 {E : FX} {l : Launch} {D : Nat} {post : Option AV → MM → Prop} {z : RT} {J19 : MM → Int → Int → Int → Int → Prop} {J28 : MM → Int → Int → Int → Int → Int → Prop} (C : Cx E z D RX11 cX11_rings 6) (r : Rt E z (some .int) post) (hJ19 : ∀ (M : MM) (x1 : Int) (x2 : Int) (x3 : Int) (x4 : Int), J19 M x1 x2 x3 x4 → Aj E l z 19 [(0, vr 0), (1, vi x1), (2, vi x2), (3, vi x3), (4, vi x4)] [] M) (hJ28 : ∀ (M : MM) (x1 : Int) (x2 : Int) (x3 : Int) (x4 : Int) (x5 : Int), J28 M x1 x2 x3 x4 x5 → Aj E l z 28 [(0, vr 0), (1, vi x1), (2, vi x2), (3, vi x3), (4, vi x4), (5, vi x5)] [] M) {M : MM} {x1 : Int} (h : VX11_rings_0 E l D post J19 J28 M x1) : Aj E l z 0 [(0, vr 0), (1, vi x1)] [] M := by
  unfold VX11_rings_0 at h
  refine v_iload_n (i := 1) C dX11_rings_0 rfl rfl ?_
  refine v_iconst C dX11_rings_1 ?_
  refine v_iconst C dX11_rings_2 ?_
  refine v_callS (q := qX11_within) (As := [vi x1, vi 0, vi 1]) (S := []) C co_yX11_within ml_RX11_47 st_yX11_within ini_RX11 hq_X11_within (by decide) (Nat.le_of_ble_eq_true rfl) rfl dX11_rings_3 (Con.mono h (fun rr M1 hr => ?_) (Nat.le_refl _))
  obtain ⟨y2, rfl, g3⟩ := hr
  show Aj E l z (3 + 3) [(0, vr 0), (1, vi x1)] [vi y2] M1
  refine v_if_ne (tgt := 11) C g3.1 dX11_rings_6 (by decide) (fun c => ?_) (fun c => ?_)
  · have g4 := g3.2.1 c
    refine v_iconst C dX11_rings_11 ?_
    refine v_istore_n (L' := [(2, vi 0), (0, vr 0), (1, vi x1)]) C dX11_rings_12 rfl (by decide) rfl ?_
    refine v_bipush C dX11_rings_13 (by decide) ?_
    refine v_istore_n (L' := [(3, vi (-4)), (2, vi 0), (0, vr 0), (1, vi x1)]) C dX11_rings_15 rfl (by decide) rfl ?_
    refine v_iconst C dX11_rings_16 ?_
    refine v_istore (L' := [(4, vi 2), (3, vi (-4)), (2, vi 0), (0, vr 0), (1, vi x1)]) C dX11_rings_17 (by decide) rfl ?_
    exact v_sub [3, 4, 2, 1, 0] rfl (hJ19 _ _ _ _ _ g4)
  · have g5 := g3.2.2 c
    refine v_iconst C dX11_rings_9 ?_
    exact v_iret C r dX11_rings_10 g5
def VX11_rings_120 (E : FX) (l : Launch) (D : Nat) (post : Option AV → MM → Prop) (J19 : MM → Int → Int → Int → Int → Prop) (J28 : MM → Int → Int → Int → Int → Int → Prop) (M : MM) (s0 : Int) : Prop :=
  post (some (vi s0)) M
set_option maxRecDepth 20000 in
theorem SX11_rings_120 {E : FX} {l : Launch} {D : Nat} {post : Option AV → MM → Prop} {z : RT} {J19 : MM → Int → Int → Int → Int → Prop} {J28 : MM → Int → Int → Int → Int → Int → Prop} (C : Cx E z D RX11 cX11_rings 6) (r : Rt E z (some .int) post) (hJ19 : ∀ (M : MM) (x1 : Int) (x2 : Int) (x3 : Int) (x4 : Int), J19 M x1 x2 x3 x4 → Aj E l z 19 [(0, vr 0), (1, vi x1), (2, vi x2), (3, vi x3), (4, vi x4)] [] M) (hJ28 : ∀ (M : MM) (x1 : Int) (x2 : Int) (x3 : Int) (x4 : Int) (x5 : Int), J28 M x1 x2 x3 x4 x5 → Aj E l z 28 [(0, vr 0), (1, vi x1), (2, vi x2), (3, vi x3), (4, vi x4), (5, vi x5)] [] M) {M : MM} {s0 : Int} (h : VX11_rings_120 E l D post J19 J28 M s0) : Aj E l z 120 [] [vi s0] M := by
  unfold VX11_rings_120 at h
  exact v_iret C r dX11_rings_120 h
def VX11_rings_19 (E : FX) (l : Launch) (D : Nat) (post : Option AV → MM → Prop) (J19 : MM → Int → Int → Int → Int → Prop) (J28 : MM → Int → Int → Int → Int → Int → Prop) (M : MM) (x1 : Int) (x2 : Int) (x3 : Int) (x4 : Int) : Prop :=
  R32 x4 ∧ ((4 < x4 → R32 x1 ∧ ((¬ x1 = 0 → VX11_rings_120 E l D post J19 J28 M x3) ∧ (x1 = 0 → VX11_rings_120 E l D post J19 J28 M x2))) ∧ (¬ 4 < x4 → J28 M x1 x2 x3 x4 0))
set_option maxRecDepth 20000 in
theorem SX11_rings_19 {E : FX} {l : Launch} {D : Nat} {post : Option AV → MM → Prop} {z : RT} {J19 : MM → Int → Int → Int → Int → Prop} {J28 : MM → Int → Int → Int → Int → Int → Prop} (C : Cx E z D RX11 cX11_rings 6) (r : Rt E z (some .int) post) (hJ19 : ∀ (M : MM) (x1 : Int) (x2 : Int) (x3 : Int) (x4 : Int), J19 M x1 x2 x3 x4 → Aj E l z 19 [(0, vr 0), (1, vi x1), (2, vi x2), (3, vi x3), (4, vi x4)] [] M) (hJ28 : ∀ (M : MM) (x1 : Int) (x2 : Int) (x3 : Int) (x4 : Int) (x5 : Int), J28 M x1 x2 x3 x4 x5 → Aj E l z 28 [(0, vr 0), (1, vi x1), (2, vi x2), (3, vi x3), (4, vi x4), (5, vi x5)] [] M) {M : MM} {x1 : Int} {x2 : Int} {x3 : Int} {x4 : Int} (h : VX11_rings_19 E l D post J19 J28 M x1 x2 x3 x4) : Aj E l z 19 [(0, vr 0), (1, vi x1), (2, vi x2), (3, vi x3), (4, vi x4)] [] M := by
  unfold VX11_rings_19 at h
  refine v_iload (i := 4) C dX11_rings_19 rfl ?_
  refine v_iconst C dX11_rings_21 ?_
  refine v_icmp_gt (tgt := 111) C h.1 (by decide) dX11_rings_22 (by decide) (fun c => ?_) (fun c => ?_)
  · have g6 := h.2.1 c
    refine v_iload_n (i := 1) C dX11_rings_111 rfl rfl ?_
    refine v_if_ne (tgt := 119) C g6.1 dX11_rings_112 (by decide) (fun c => ?_) (fun c => ?_)
    · have g8 := g6.2.1 c
      refine v_iload_n (i := 3) C dX11_rings_119 rfl rfl ?_
      exact v_sub [] rfl (SX11_rings_120 C r hJ19 hJ28 g8)
    · have g9 := g6.2.2 c
      refine v_iload_n (i := 2) C dX11_rings_115 rfl rfl ?_
      refine v_goto C dX11_rings_116 (tgt := 120) (by decide) ?_
      exact v_sub [] rfl (SX11_rings_120 C r hJ19 hJ28 g9)
  · have g7 := h.2.2 c
    refine v_iconst C dX11_rings_25 ?_
    refine v_istore (L' := [(5, vi 0), (0, vr 0), (1, vi x1), (2, vi x2), (3, vi x3), (4, vi x4)]) C dX11_rings_26 (by decide) rfl ?_
    exact v_sub [1, 2, 3, 4, 5, 0] rfl (hJ28 _ _ _ _ _ _ g7)
def VX11_rings_99 (E : FX) (l : Launch) (D : Nat) (post : Option AV → MM → Prop) (J19 : MM → Int → Int → Int → Int → Prop) (J28 : MM → Int → Int → Int → Int → Int → Prop) (M : MM) (x1 : Int) (x2 : Int) (x3 : Int) (x4 : Int) (x5 : Int) : Prop :=
  ∀ y10 : Int, y10 = x5 + 1 → (J28 M x1 x2 x3 x4 y10)
set_option maxRecDepth 20000 in
theorem SX11_rings_99 {E : FX} {l : Launch} {D : Nat} {post : Option AV → MM → Prop} {z : RT} {J19 : MM → Int → Int → Int → Int → Prop} {J28 : MM → Int → Int → Int → Int → Int → Prop} (C : Cx E z D RX11 cX11_rings 6) (r : Rt E z (some .int) post) (hJ19 : ∀ (M : MM) (x1 : Int) (x2 : Int) (x3 : Int) (x4 : Int), J19 M x1 x2 x3 x4 → Aj E l z 19 [(0, vr 0), (1, vi x1), (2, vi x2), (3, vi x3), (4, vi x4)] [] M) (hJ28 : ∀ (M : MM) (x1 : Int) (x2 : Int) (x3 : Int) (x4 : Int) (x5 : Int), J28 M x1 x2 x3 x4 x5 → Aj E l z 28 [(0, vr 0), (1, vi x1), (2, vi x2), (3, vi x3), (4, vi x4), (5, vi x5)] [] M) {M : MM} {x1 : Int} {x2 : Int} {x3 : Int} {x4 : Int} {x5 : Int} (h : VX11_rings_99 E l D post J19 J28 M x1 x2 x3 x4 x5) : Aj E l z 99 [(0, vr 0), (1, vi x1), (2, vi x2), (3, vi x3), (4, vi x4), (5, vi x5)] [] M := by
  unfold VX11_rings_99 at h
  obtain ⟨y10, hy10⟩ : ∃ y : Int, y = x5 + 1 := ⟨_, rfl⟩
  have g11 := h y10 hy10
  refine v_iinc (i := 5) (L' := [(5, vi y10), (0, vr 0), (1, vi x1), (2, vi x2), (3, vi x3), (4, vi x4)]) C dX11_rings_99 rfl (by decide) hy10 rfl ?_
  refine v_goto C dX11_rings_102 (tgt := 28) (by decide) ?_
  exact v_sub [1, 2, 3, 4, 5, 0] rfl (hJ28 _ _ _ _ _ _ g11)
def VX11_rings_95 (E : FX) (l : Launch) (D : Nat) (post : Option AV → MM → Prop) (J19 : MM → Int → Int → Int → Int → Prop) (J28 : MM → Int → Int → Int → Int → Int → Prop) (M : MM) (x1 : Int) (x2 : Int) (x4 : Int) (x5 : Int) (s0 : Int) : Prop :=
  ∀ y12 : Int, y12 = x2 + 1 → (VX11_rings_99 E l D post J19 J28 M x1 y12 s0 x4 x5)
set_option maxRecDepth 20000 in
theorem SX11_rings_95 {E : FX} {l : Launch} {D : Nat} {post : Option AV → MM → Prop} {z : RT} {J19 : MM → Int → Int → Int → Int → Prop} {J28 : MM → Int → Int → Int → Int → Int → Prop} (C : Cx E z D RX11 cX11_rings 6) (r : Rt E z (some .int) post) (hJ19 : ∀ (M : MM) (x1 : Int) (x2 : Int) (x3 : Int) (x4 : Int), J19 M x1 x2 x3 x4 → Aj E l z 19 [(0, vr 0), (1, vi x1), (2, vi x2), (3, vi x3), (4, vi x4)] [] M) (hJ28 : ∀ (M : MM) (x1 : Int) (x2 : Int) (x3 : Int) (x4 : Int) (x5 : Int), J28 M x1 x2 x3 x4 x5 → Aj E l z 28 [(0, vr 0), (1, vi x1), (2, vi x2), (3, vi x3), (4, vi x4), (5, vi x5)] [] M) {M : MM} {x1 : Int} {x2 : Int} {x4 : Int} {x5 : Int} {s0 : Int} (h : VX11_rings_95 E l D post J19 J28 M x1 x2 x4 x5 s0) : Aj E l z 95 [(0, vr 0), (1, vi x1), (2, vi x2), (4, vi x4), (5, vi x5)] [vi s0] M := by
  unfold VX11_rings_95 at h
  refine v_istore_n (L' := [(3, vi s0), (0, vr 0), (1, vi x1), (2, vi x2), (4, vi x4), (5, vi x5)]) C dX11_rings_95 rfl (by decide) rfl ?_
  obtain ⟨y12, hy12⟩ : ∃ y : Int, y = x2 + 1 := ⟨_, rfl⟩
  have g13 := h y12 hy12
  refine v_iinc (i := 3) (L' := [(2, vi y12), (3, vi s0), (0, vr 0), (1, vi x1), (4, vi x4), (5, vi x5)]) C dX11_rings_96 rfl (by decide) hy12 rfl ?_
  exact v_sub [2, 3, 0, 1, 4, 5] rfl (SX11_rings_99 C r hJ19 hJ28 g13)
def VX11_rings_28 (E : FX) (l : Launch) (D : Nat) (post : Option AV → MM → Prop) (J19 : MM → Int → Int → Int → Int → Prop) (J28 : MM → Int → Int → Int → Int → Int → Prop) (M : MM) (x1 : Int) (x2 : Int) (x3 : Int) (x4 : Int) (x5 : Int) : Prop :=
  R32 x5 ∧ (R32 (ishl 1 (2 * x4)) ∧ ((ishl 1 (2 * x4) ≤ x5 → ∀ y16 : Int, y16 = x4 + 1 → (J19 M x1 x2 x3 y16)) ∧ (¬ ishl 1 (2 * x4) ≤ x5 → Con E l D qX3_isRing [vr 11, vi x5, vi x4] M (fun r M18 => ∃ y19 : Int, r = some (vi y19) ∧ (R32 y19 ∧ ((y19 = 0 → ∀ y23 : Int, y23 = x5 + 1 → (J28 M18 x1 x2 x3 x4 y23)) ∧ (¬ y19 = 0 → Con E l D qX3_gains [vr 11, vi x5, vi x4] M18 (fun r M25 => ∃ y26 : Int, r = some (vi y26) ∧ (R32 y26 ∧ ((y26 = 0 → ∀ y30 : Int, y30 = x5 + 1 → (J28 M25 x1 x2 x3 x4 y30)) ∧ (¬ y26 = 0 → R32 x2 ∧ ((¬ x2 = 0 → VX11_rings_95 E l D post J19 J28 M25 x1 x2 x4 x5 x3) ∧ (x2 = 0 → Con E l D qX3_named [vr 11, vi x5, vi x4] M25 (fun r M34 => ∃ y35 : Int, r = some (vi y35) ∧ (VX11_rings_95 E l D post J19 J28 M34 x1 x2 x4 x5 y35)))))))))))))))
set_option maxRecDepth 20000 in
theorem SX11_rings_28 {E : FX} {l : Launch} {D : Nat} {post : Option AV → MM → Prop} {z : RT} {J19 : MM → Int → Int → Int → Int → Prop} {J28 : MM → Int → Int → Int → Int → Int → Prop} (C : Cx E z D RX11 cX11_rings 6) (r : Rt E z (some .int) post) (hJ19 : ∀ (M : MM) (x1 : Int) (x2 : Int) (x3 : Int) (x4 : Int), J19 M x1 x2 x3 x4 → Aj E l z 19 [(0, vr 0), (1, vi x1), (2, vi x2), (3, vi x3), (4, vi x4)] [] M) (hJ28 : ∀ (M : MM) (x1 : Int) (x2 : Int) (x3 : Int) (x4 : Int) (x5 : Int), J28 M x1 x2 x3 x4 x5 → Aj E l z 28 [(0, vr 0), (1, vi x1), (2, vi x2), (3, vi x3), (4, vi x4), (5, vi x5)] [] M) {M : MM} {x1 : Int} {x2 : Int} {x3 : Int} {x4 : Int} {x5 : Int} (h : VX11_rings_28 E l D post J19 J28 M x1 x2 x3 x4 x5) : Aj E l z 28 [(0, vr 0), (1, vi x1), (2, vi x2), (3, vi x3), (4, vi x4), (5, vi x5)] [] M := by
  unfold VX11_rings_28 at h
  refine v_iload (i := 5) C dX11_rings_28 rfl ?_
  refine v_iconst C dX11_rings_30 ?_
  refine v_iconst C dX11_rings_31 ?_
  refine v_iload (i := 4) C dX11_rings_32 rfl ?_
  refine v_imul C dX11_rings_34 ?_
  refine v_ishl C dX11_rings_35 ?_
  refine v_icmp_ge (tgt := 105) C h.1 h.2.1 dX11_rings_36 (by decide) (fun c => ?_) (fun c => ?_)
  · have g14 := h.2.2.1 c
    obtain ⟨y16, hy16⟩ : ∃ y : Int, y = x4 + 1 := ⟨_, rfl⟩
    have g17 := g14 y16 hy16
    refine v_iinc (i := 4) (L' := [(4, vi y16), (0, vr 0), (1, vi x1), (2, vi x2), (3, vi x3), (5, vi x5)]) C dX11_rings_105 rfl (by decide) hy16 rfl ?_
    refine v_goto C dX11_rings_108 (tgt := 19) (by decide) ?_
    exact v_sub [1, 2, 3, 4, 0] rfl (hJ19 _ _ _ _ _ g17)
  · have g15 := h.2.2.2 c
    refine v_aload_n (i := 0) C dX11_rings_39 rfl rfl ?_
    refine v_getf (k := 0) C fl_RX11_10 rfl rfl dX11_rings_40 ?_
    show Aj E l z (40 + 3) [(0, vr 0), (1, vi x1), (2, vi x2), (3, vi x3), (4, vi x4), (5, vi x5)] [vr 1] M
    refine v_getf (k := 1) C fl_RX11_224 rfl rfl dX11_rings_43 ?_
    show Aj E l z (43 + 3) [(0, vr 0), (1, vi x1), (2, vi x2), (3, vi x3), (4, vi x4), (5, vi x5)] [vr 11] M
    refine v_iload (i := 5) C dX11_rings_46 rfl ?_
    refine v_iload (i := 4) C dX11_rings_48 rfl ?_
    refine v_callV (q := qX3_isRing) (k := 11) (As := [vi x5, vi x4]) (S := []) C co_yX3_isRing ml_RX11_234 im_yX3_isRing se_yX3_isRing ini_RX3 rfl rfl hq_X3_isRing (by decide) (Nat.le_of_ble_eq_true rfl) rfl dX11_rings_50 (Con.mono g15 (fun rr M18 hr => ?_) (Nat.le_refl _))
    obtain ⟨y19, rfl, g20⟩ := hr
    show Aj E l z (50 + 3) [(0, vr 0), (1, vi x1), (2, vi x2), (3, vi x3), (4, vi x4), (5, vi x5)] [vi y19] M18
    refine v_if_eq (tgt := 99) C g20.1 dX11_rings_53 (by decide) (fun c => ?_) (fun c => ?_)
    · have g21 := g20.2.1 c
      obtain ⟨y23, hy23⟩ : ∃ y : Int, y = x5 + 1 := ⟨_, rfl⟩
      have g24 := g21 y23 hy23
      refine v_iinc (i := 5) (L' := [(5, vi y23), (0, vr 0), (1, vi x1), (2, vi x2), (3, vi x3), (4, vi x4)]) C dX11_rings_99 rfl (by decide) hy23 rfl ?_
      refine v_goto C dX11_rings_102 (tgt := 28) (by decide) ?_
      exact v_sub [1, 2, 3, 4, 5, 0] rfl (hJ28 _ _ _ _ _ _ g24)
    · have g22 := g20.2.2 c
      refine v_aload_n (i := 0) C dX11_rings_56 rfl rfl ?_
      refine v_getf (k := 0) C fl_RX11_10 rfl rfl dX11_rings_57 ?_
      show Aj E l z (57 + 3) [(0, vr 0), (1, vi x1), (2, vi x2), (3, vi x3), (4, vi x4), (5, vi x5)] [vr 1] M18
      refine v_getf (k := 1) C fl_RX11_224 rfl rfl dX11_rings_60 ?_
      show Aj E l z (60 + 3) [(0, vr 0), (1, vi x1), (2, vi x2), (3, vi x3), (4, vi x4), (5, vi x5)] [vr 11] M18
      refine v_iload (i := 5) C dX11_rings_63 rfl ?_
      refine v_iload (i := 4) C dX11_rings_65 rfl ?_
      refine v_callV (q := qX3_gains) (k := 11) (As := [vi x5, vi x4]) (S := []) C co_yX3_gains ml_RX11_237 im_yX3_gains se_yX3_gains ini_RX3 rfl rfl hq_X3_gains (by decide) (Nat.le_of_ble_eq_true rfl) rfl dX11_rings_67 (Con.mono g22 (fun rr M25 hr => ?_) (Nat.le_refl _))
      obtain ⟨y26, rfl, g27⟩ := hr
      show Aj E l z (67 + 3) [(0, vr 0), (1, vi x1), (2, vi x2), (3, vi x3), (4, vi x4), (5, vi x5)] [vi y26] M25
      refine v_if_eq (tgt := 99) C g27.1 dX11_rings_70 (by decide) (fun c => ?_) (fun c => ?_)
      · have g28 := g27.2.1 c
        obtain ⟨y30, hy30⟩ : ∃ y : Int, y = x5 + 1 := ⟨_, rfl⟩
        have g31 := g28 y30 hy30
        refine v_iinc (i := 5) (L' := [(5, vi y30), (0, vr 0), (1, vi x1), (2, vi x2), (3, vi x3), (4, vi x4)]) C dX11_rings_99 rfl (by decide) hy30 rfl ?_
        refine v_goto C dX11_rings_102 (tgt := 28) (by decide) ?_
        exact v_sub [1, 2, 3, 4, 5, 0] rfl (hJ28 _ _ _ _ _ _ g31)
      · have g29 := g27.2.2 c
        refine v_iload_n (i := 2) C dX11_rings_73 rfl rfl ?_
        refine v_if_ne (tgt := 94) C g29.1 dX11_rings_74 (by decide) (fun c => ?_) (fun c => ?_)
        · have g32 := g29.2.1 c
          refine v_iload_n (i := 3) C dX11_rings_94 rfl rfl ?_
          exact v_sub [0, 1, 2, 4, 5] rfl (SX11_rings_95 C r hJ19 hJ28 g32)
        · have g33 := g29.2.2 c
          refine v_aload_n (i := 0) C dX11_rings_77 rfl rfl ?_
          refine v_getf (k := 0) C fl_RX11_10 rfl rfl dX11_rings_78 ?_
          show Aj E l z (78 + 3) [(0, vr 0), (1, vi x1), (2, vi x2), (3, vi x3), (4, vi x4), (5, vi x5)] [vr 1] M25
          refine v_getf (k := 1) C fl_RX11_224 rfl rfl dX11_rings_81 ?_
          show Aj E l z (81 + 3) [(0, vr 0), (1, vi x1), (2, vi x2), (3, vi x3), (4, vi x4), (5, vi x5)] [vr 11] M25
          refine v_iload (i := 5) C dX11_rings_84 rfl ?_
          refine v_iload (i := 4) C dX11_rings_86 rfl ?_
          refine v_callV (q := qX3_named) (k := 11) (As := [vi x5, vi x4]) (S := []) C co_yX3_named ml_RX11_240 im_yX3_named se_yX3_named ini_RX3 rfl rfl hq_X3_named (by decide) (Nat.le_of_ble_eq_true rfl) rfl dX11_rings_88 (Con.mono g33 (fun rr M34 hr => ?_) (Nat.le_refl _))
          obtain ⟨y35, rfl, g36⟩ := hr
          show Aj E l z (88 + 3) [(0, vr 0), (1, vi x1), (2, vi x2), (3, vi x3), (4, vi x4), (5, vi x5)] [vi y35] M34
          refine v_goto C dX11_rings_91 (tgt := 95) (by decide) ?_
          exact v_sub [0, 1, 2, 4, 5] rfl (SX11_rings_95 C r hJ19 hJ28 g36)
theorem RX11_rings {E : FX} {l : Launch} {D : Nat} {post : Option AV → MM → Prop} (I19 : MM → Int → Int → Int → Int → Prop) (m19 : MM → Int → Int → Int → Int → Nat) (I28 : MM → Int → Int → Int → Int → Int → Prop) (m28 : MM → Int → Int → Int → Int → Int → Nat) {M : MM} {x1 : Int} (h0 : VX11_rings_0 E l D post I19 I28 M x1) (h19I : ∀ (M : MM) (x1 : Int) (x2 : Int) (x3 : Int) (x4 : Int), I19 M x1 x2 x3 x4 → VX11_rings_19 E l D post (fun M' x1' x2' x3' x4' => I19 M' x1' x2' x3' x4' ∧ m19 M' x1' x2' x3' x4' < m19 M x1 x2 x3 x4) (fun M' x1' x2' x3' x4' x5' => I28 M' x1' x2' x3' x4' x5' ∧ m28 M' x1' x2' x3' x4' x5' < m19 M x1 x2 x3 x4) M x1 x2 x3 x4) (h28I : ∀ (M : MM) (x1 : Int) (x2 : Int) (x3 : Int) (x4 : Int) (x5 : Int), I28 M x1 x2 x3 x4 x5 → VX11_rings_28 E l D post (fun M' x1' x2' x3' x4' => I19 M' x1' x2' x3' x4' ∧ m19 M' x1' x2' x3' x4' < m28 M x1 x2 x3 x4 x5) (fun M' x1' x2' x3' x4' x5' => I28 M' x1' x2' x3' x4' x5' ∧ m28 M' x1' x2' x3' x4' x5' < m28 M x1 x2 x3 x4 x5) M x1 x2 x3 x4 x5) : Con E l (D + 1) qX11_rings [vr 0, vi x1] M post := by
  refine con_of (by decide +kernel) (Nat.le_of_ble_eq_true rfl) (fun z C r => ?_)
  have all : ∀ n : Nat, (∀ (M : MM) (x1 : Int) (x2 : Int) (x3 : Int) (x4 : Int), I19 M x1 x2 x3 x4 → m19 M x1 x2 x3 x4 < n → Aj E l z 19 [(0, vr 0), (1, vi x1), (2, vi x2), (3, vi x3), (4, vi x4)] [] M) ∧ (∀ (M : MM) (x1 : Int) (x2 : Int) (x3 : Int) (x4 : Int) (x5 : Int), I28 M x1 x2 x3 x4 x5 → m28 M x1 x2 x3 x4 x5 < n → Aj E l z 28 [(0, vr 0), (1, vi x1), (2, vi x2), (3, vi x3), (4, vi x4), (5, vi x5)] [] M) := by
    intro n
    induction n with
    | zero => exact ⟨fun _ _ _ _ _ _ hm => absurd hm (Nat.not_lt_zero _), fun _ _ _ _ _ _ _ hm => absurd hm (Nat.not_lt_zero _)⟩
    | succ n ih => exact ⟨fun M x1 x2 x3 x4 hi hm => SX11_rings_19 C r (fun M' x1' x2' x3' x4' hj => ih.1 M' x1' x2' x3' x4' hj.1 (by omega)) (fun M' x1' x2' x3' x4' x5' hj => ih.2 M' x1' x2' x3' x4' x5' hj.1 (by omega)) (h19I M x1 x2 x3 x4 hi), fun M x1 x2 x3 x4 x5 hi hm => SX11_rings_28 C r (fun M' x1' x2' x3' x4' hj => ih.1 M' x1' x2' x3' x4' hj.1 (by omega)) (fun M' x1' x2' x3' x4' x5' hj => ih.2 M' x1' x2' x3' x4' x5' hj.1 (by omega)) (h28I M x1 x2 x3 x4 x5 hi)⟩
  exact v_sub [0, 1] rfl (SX11_rings_0 C r (fun M' x1' x2' x3' x4' hj => (all _).1 M' x1' x2' x3' x4' hj (Nat.lt_succ_self _)) (fun M' x1' x2' x3' x4' x5' hj => (all _).2 M' x1' x2' x3' x4' x5' hj (Nat.lt_succ_self _)) h0)
def VX11_turn_52 (E : FX) (l : Launch) (D : Nat) (post : Option AV → MM → Prop) (J67 : MM → Int → Int → Int → Int → Int → Int → Int → Prop) (M : MM) : Prop :=
  post (some (vj (-1))) M
set_option maxRecDepth 20000 in
theorem SX11_turn_52 {E : FX} {l : Launch} {D : Nat} {post : Option AV → MM → Prop} {z : RT} {J67 : MM → Int → Int → Int → Int → Int → Int → Int → Prop} (C : Cx E z D RX11 cX11_turn 12) (r : Rt E z (some .long) post) (hJ67 : ∀ (M : MM) (x1 : Int) (x2 : Int) (x3 : Int) (x4 : Int) (x6 : Int) (x8 : Int) (x9 : Int), J67 M x1 x2 x3 x4 x6 x8 x9 → Aj E l z 67 [(0, vr 0), (1, vi x1), (2, vi x2), (3, vi x3), (4, vi x4), (6, vj x6), (8, vi x8), (9, vi x9)] [] M) {M : MM} (h : VX11_turn_52 E l D post J67 M) : Aj E l z 52 [] [] M := by
  unfold VX11_turn_52 at h
  refine v_ldc2 (x := -1) C cs_RX11_94 (by decide) dX11_turn_52 ?_
  exact v_lret C r dX11_turn_55 h
def VX11_turn_24 (E : FX) (l : Launch) (D : Nat) (post : Option AV → MM → Prop) (J67 : MM → Int → Int → Int → Int → Int → Int → Int → Prop) (M : MM) (x1 : Int) (x2 : Int) (x3 : Int) (x4 : Int) (s0 : Int) : Prop :=
  R32 s0 ∧ ((s0 = 0 → post (some (vj (-1))) M) ∧ (¬ s0 = 0 → Con E l D qX11_within [vi x3, vi 1, vi 5] M (fun r M3 => ∃ y4 : Int, r = some (vi y4) ∧ (R32 y4 ∧ ((y4 = 0 → post (some (vj (-1))) M3) ∧ (¬ y4 = 0 → Con E l D qX11_within [vi x4, vi (-1), vi (x3 - 1)] M3 (fun r M8 => ∃ y9 : Int, r = some (vi y9) ∧ (R32 y9 ∧ ((¬ y9 = 0 → J67 M8 x1 x2 x3 x4 (-4) 0 x1) ∧ (y9 = 0 → post (some (vj (-1))) M8))))))))))
set_option maxRecDepth 20000 in
theorem SX11_turn_24 {E : FX} {l : Launch} {D : Nat} {post : Option AV → MM → Prop} {z : RT} {J67 : MM → Int → Int → Int → Int → Int → Int → Int → Prop} (C : Cx E z D RX11 cX11_turn 12) (r : Rt E z (some .long) post) (hJ67 : ∀ (M : MM) (x1 : Int) (x2 : Int) (x3 : Int) (x4 : Int) (x6 : Int) (x8 : Int) (x9 : Int), J67 M x1 x2 x3 x4 x6 x8 x9 → Aj E l z 67 [(0, vr 0), (1, vi x1), (2, vi x2), (3, vi x3), (4, vi x4), (6, vj x6), (8, vi x8), (9, vi x9)] [] M) {M : MM} {x1 : Int} {x2 : Int} {x3 : Int} {x4 : Int} {s0 : Int} (h : VX11_turn_24 E l D post J67 M x1 x2 x3 x4 s0) : Aj E l z 24 [(0, vr 0), (1, vi x1), (2, vi x2), (3, vi x3), (4, vi x4)] [vi s0] M := by
  unfold VX11_turn_24 at h
  refine v_istore (L' := [(5, vi s0), (0, vr 0), (1, vi x1), (2, vi x2), (3, vi x3), (4, vi x4)]) C dX11_turn_24 (by decide) rfl ?_
  refine v_iload (i := 0) C dX11_turn_26 rfl ?_
  refine v_if_eq (tgt := 52) C h.1 dX11_turn_28 (by decide) (fun c => ?_) (fun c => ?_)
  · have g1 := h.2.1 c
    refine v_ldc2 (x := -1) C cs_RX11_94 (by decide) dX11_turn_52 ?_
    exact v_lret C r dX11_turn_55 g1
  · have g2 := h.2.2 c
    refine v_iload_n (i := 4) C dX11_turn_31 rfl rfl ?_
    refine v_iconst C dX11_turn_32 ?_
    refine v_iconst C dX11_turn_33 ?_
    refine v_callS (q := qX11_within) (As := [vi x3, vi 1, vi 5]) (S := []) C co_yX11_within ml_RX11_47 st_yX11_within ini_RX11 hq_X11_within (by decide) (Nat.le_of_ble_eq_true rfl) rfl dX11_turn_34 (Con.mono g2 (fun rr M3 hr => ?_) (Nat.le_refl _))
    obtain ⟨y4, rfl, g5⟩ := hr
    show Aj E l z (34 + 3) [(5, vi s0), (0, vr 0), (1, vi x1), (2, vi x2), (3, vi x3), (4, vi x4)] [vi y4] M3
    refine v_if_eq (tgt := 52) C g5.1 dX11_turn_37 (by decide) (fun c => ?_) (fun c => ?_)
    · have g6 := g5.2.1 c
      refine v_ldc2 (x := -1) C cs_RX11_94 (by decide) dX11_turn_52 ?_
      exact v_lret C r dX11_turn_55 g6
    · have g7 := g5.2.2 c
      refine v_iload (i := 5) C dX11_turn_40 rfl ?_
      refine v_iconst C dX11_turn_42 ?_
      refine v_iload_n (i := 4) C dX11_turn_43 rfl rfl ?_
      refine v_iconst C dX11_turn_44 ?_
      refine v_isub C dX11_turn_45 ?_
      refine v_callS (q := qX11_within) (As := [vi x4, vi (-1), vi (x3 - 1)]) (S := []) C co_yX11_within ml_RX11_47 st_yX11_within ini_RX11 hq_X11_within (by decide) (Nat.le_of_ble_eq_true rfl) rfl dX11_turn_46 (Con.mono g7 (fun rr M8 hr => ?_) (Nat.le_refl _))
      obtain ⟨y9, rfl, g10⟩ := hr
      show Aj E l z (46 + 3) [(5, vi s0), (0, vr 0), (1, vi x1), (2, vi x2), (3, vi x3), (4, vi x4)] [vi y9] M8
      refine v_if_ne (tgt := 56) C g10.1 dX11_turn_49 (by decide) (fun c => ?_) (fun c => ?_)
      · have g11 := g10.2.1 c
        refine v_ldc2 (x := -4) C cs_RX11_212 (by decide) dX11_turn_56 ?_
        refine v_lstore (L' := [(6, vj (-4)), (5, vi s0), (0, vr 0), (1, vi x1), (2, vi x2), (3, vi x3), (4, vi x4)]) C dX11_turn_59 (by decide) rfl ?_
        refine v_iconst C dX11_turn_61 ?_
        refine v_istore (L' := [(8, vi 0), (6, vj (-4)), (5, vi s0), (0, vr 0), (1, vi x1), (2, vi x2), (3, vi x3), (4, vi x4)]) C dX11_turn_62 (by decide) rfl ?_
        refine v_iload_n (i := 4) C dX11_turn_64 rfl rfl ?_
        refine v_istore (L' := [(9, vi x1), (8, vi 0), (6, vj (-4)), (5, vi s0), (0, vr 0), (1, vi x1), (2, vi x2), (3, vi x3), (4, vi x4)]) C dX11_turn_65 (by decide) rfl ?_
        exact v_sub [4, 5, 6, 7, 8, 2, 1, 0] rfl (hJ67 _ _ _ _ _ _ _ _ g11)
      · have g12 := g10.2.2 c
        refine v_ldc2 (x := -1) C cs_RX11_94 (by decide) dX11_turn_52 ?_
        exact v_lret C r dX11_turn_55 g12
def VX11_turn_23 (E : FX) (l : Launch) (D : Nat) (post : Option AV → MM → Prop) (J67 : MM → Int → Int → Int → Int → Int → Int → Int → Prop) (M : MM) (x1 : Int) (x2 : Int) (x3 : Int) (x4 : Int) : Prop :=
  VX11_turn_24 E l D post J67 M x1 x2 x3 x4 0
set_option maxRecDepth 20000 in
theorem SX11_turn_23 {E : FX} {l : Launch} {D : Nat} {post : Option AV → MM → Prop} {z : RT} {J67 : MM → Int → Int → Int → Int → Int → Int → Int → Prop} (C : Cx E z D RX11 cX11_turn 12) (r : Rt E z (some .long) post) (hJ67 : ∀ (M : MM) (x1 : Int) (x2 : Int) (x3 : Int) (x4 : Int) (x6 : Int) (x8 : Int) (x9 : Int), J67 M x1 x2 x3 x4 x6 x8 x9 → Aj E l z 67 [(0, vr 0), (1, vi x1), (2, vi x2), (3, vi x3), (4, vi x4), (6, vj x6), (8, vi x8), (9, vi x9)] [] M) {M : MM} {x1 : Int} {x2 : Int} {x3 : Int} {x4 : Int} (h : VX11_turn_23 E l D post J67 M x1 x2 x3 x4) : Aj E l z 23 [(0, vr 0), (1, vi x1), (2, vi x2), (3, vi x3), (4, vi x4)] [] M := by
  unfold VX11_turn_23 at h
  refine v_iconst C dX11_turn_23 ?_
  exact v_sub [0, 1, 2, 3, 4] rfl (SX11_turn_24 C r hJ67 h)
def VX11_turn_0 (E : FX) (l : Launch) (D : Nat) (post : Option AV → MM → Prop) (J67 : MM → Int → Int → Int → Int → Int → Int → Int → Prop) (M : MM) (x1 : Int) (x2 : Int) (x3 : Int) (x4 : Int) : Prop :=
  Con E l D qX11_within [vi x1, vi 0, vi 3] M (fun r M13 => ∃ y14 : Int, r = some (vi y14) ∧ (R32 y14 ∧ ((y14 = 0 → VX11_turn_24 E l D post J67 M13 x1 x2 x3 x4 0) ∧ (¬ y14 = 0 → Con E l D qX11_within [vi x2, vi 0, vi 999999] M13 (fun r M18 => ∃ y19 : Int, r = some (vi y19) ∧ (R32 y19 ∧ ((y19 = 0 → VX11_turn_24 E l D post J67 M18 x1 x2 x3 x4 0) ∧ (¬ y19 = 0 → VX11_turn_24 E l D post J67 M18 x1 x2 x3 x4 1))))))))
set_option maxRecDepth 20000 in
theorem SX11_turn_0 {E : FX} {l : Launch} {D : Nat} {post : Option AV → MM → Prop} {z : RT} {J67 : MM → Int → Int → Int → Int → Int → Int → Int → Prop} (C : Cx E z D RX11 cX11_turn 12) (r : Rt E z (some .long) post) (hJ67 : ∀ (M : MM) (x1 : Int) (x2 : Int) (x3 : Int) (x4 : Int) (x6 : Int) (x8 : Int) (x9 : Int), J67 M x1 x2 x3 x4 x6 x8 x9 → Aj E l z 67 [(0, vr 0), (1, vi x1), (2, vi x2), (3, vi x3), (4, vi x4), (6, vj x6), (8, vi x8), (9, vi x9)] [] M) {M : MM} {x1 : Int} {x2 : Int} {x3 : Int} {x4 : Int} (h : VX11_turn_0 E l D post J67 M x1 x2 x3 x4) : Aj E l z 0 [(0, vr 0), (1, vi x1), (2, vi x2), (3, vi x3), (4, vi x4)] [] M := by
  unfold VX11_turn_0 at h
  refine v_iload_n (i := 1) C dX11_turn_0 rfl rfl ?_
  refine v_iconst C dX11_turn_1 ?_
  refine v_iconst C dX11_turn_2 ?_
  refine v_callS (q := qX11_within) (As := [vi x1, vi 0, vi 3]) (S := []) C co_yX11_within ml_RX11_47 st_yX11_within ini_RX11 hq_X11_within (by decide) (Nat.le_of_ble_eq_true rfl) rfl dX11_turn_3 (Con.mono h (fun rr M13 hr => ?_) (Nat.le_refl _))
  obtain ⟨y14, rfl, g15⟩ := hr
  show Aj E l z (3 + 3) [(0, vr 0), (1, vi x1), (2, vi x2), (3, vi x3), (4, vi x4)] [vi y14] M13
  refine v_if_eq (tgt := 23) C g15.1 dX11_turn_6 (by decide) (fun c => ?_) (fun c => ?_)
  · have g16 := g15.2.1 c
    refine v_iconst C dX11_turn_23 ?_
    exact v_sub [0, 1, 2, 3, 4] rfl (SX11_turn_24 C r hJ67 g16)
  · have g17 := g15.2.2 c
    refine v_iload_n (i := 2) C dX11_turn_9 rfl rfl ?_
    refine v_iconst C dX11_turn_10 ?_
    refine v_ldc (x := 999999) C cs_RX11_93 (by decide) dX11_turn_11 ?_
    refine v_callS (q := qX11_within) (As := [vi x2, vi 0, vi 999999]) (S := []) C co_yX11_within ml_RX11_47 st_yX11_within ini_RX11 hq_X11_within (by decide) (Nat.le_of_ble_eq_true rfl) rfl dX11_turn_13 (Con.mono g17 (fun rr M18 hr => ?_) (Nat.le_refl _))
    obtain ⟨y19, rfl, g20⟩ := hr
    show Aj E l z (13 + 3) [(0, vr 0), (1, vi x1), (2, vi x2), (3, vi x3), (4, vi x4)] [vi y19] M18
    refine v_if_eq (tgt := 23) C g20.1 dX11_turn_16 (by decide) (fun c => ?_) (fun c => ?_)
    · have g21 := g20.2.1 c
      refine v_iconst C dX11_turn_23 ?_
      exact v_sub [0, 1, 2, 3, 4] rfl (SX11_turn_24 C r hJ67 g21)
    · have g22 := g20.2.2 c
      refine v_iconst C dX11_turn_19 ?_
      refine v_goto C dX11_turn_20 (tgt := 24) (by decide) ?_
      exact v_sub [0, 1, 2, 3, 4] rfl (SX11_turn_24 C r hJ67 g22)
def VX11_turn_143 (E : FX) (l : Launch) (D : Nat) (post : Option AV → MM → Prop) (J67 : MM → Int → Int → Int → Int → Int → Int → Int → Prop) (M : MM) (s0 : Int) : Prop :=
  post (some (vj s0)) M
set_option maxRecDepth 20000 in
theorem SX11_turn_143 {E : FX} {l : Launch} {D : Nat} {post : Option AV → MM → Prop} {z : RT} {J67 : MM → Int → Int → Int → Int → Int → Int → Int → Prop} (C : Cx E z D RX11 cX11_turn 12) (r : Rt E z (some .long) post) (hJ67 : ∀ (M : MM) (x1 : Int) (x2 : Int) (x3 : Int) (x4 : Int) (x6 : Int) (x8 : Int) (x9 : Int), J67 M x1 x2 x3 x4 x6 x8 x9 → Aj E l z 67 [(0, vr 0), (1, vi x1), (2, vi x2), (3, vi x3), (4, vi x4), (6, vj x6), (8, vi x8), (9, vi x9)] [] M) {M : MM} {s0 : Int} (h : VX11_turn_143 E l D post J67 M s0) : Aj E l z 143 [] [vj s0] M := by
  unfold VX11_turn_143 at h
  exact v_lret C r dX11_turn_143 h
def VX11_turn_129 (E : FX) (l : Launch) (D : Nat) (post : Option AV → MM → Prop) (J67 : MM → Int → Int → Int → Int → Int → Int → Int → Prop) (M : MM) (x6 : Int) : Prop :=
  VX11_turn_143 E l D post J67 M x6
set_option maxRecDepth 20000 in
theorem SX11_turn_129 {E : FX} {l : Launch} {D : Nat} {post : Option AV → MM → Prop} {z : RT} {J67 : MM → Int → Int → Int → Int → Int → Int → Int → Prop} (C : Cx E z D RX11 cX11_turn 12) (r : Rt E z (some .long) post) (hJ67 : ∀ (M : MM) (x1 : Int) (x2 : Int) (x3 : Int) (x4 : Int) (x6 : Int) (x8 : Int) (x9 : Int), J67 M x1 x2 x3 x4 x6 x8 x9 → Aj E l z 67 [(0, vr 0), (1, vi x1), (2, vi x2), (3, vi x3), (4, vi x4), (6, vj x6), (8, vi x8), (9, vi x9)] [] M) {M : MM} {x6 : Int} (h : VX11_turn_129 E l D post J67 M x6) : Aj E l z 129 [(6, vj x6)] [] M := by
  unfold VX11_turn_129 at h
  refine v_lload (i := 0) C dX11_turn_129 rfl ?_
  refine v_goto C dX11_turn_131 (tgt := 143) (by decide) ?_
  exact v_sub [] rfl (SX11_turn_143 C r hJ67 h)
def VX11_turn_110 (E : FX) (l : Launch) (D : Nat) (post : Option AV → MM → Prop) (J67 : MM → Int → Int → Int → Int → Int → Int → Int → Prop) (M : MM) (x1 : Int) (x2 : Int) (x3 : Int) (x4 : Int) (x6 : Int) (x8 : Int) (x9 : Int) : Prop :=
  ∀ y23 : Int, y23 = x9 + 4 → (J67 M x1 x2 x3 x4 x6 x8 y23)
set_option maxRecDepth 20000 in
theorem SX11_turn_110 {E : FX} {l : Launch} {D : Nat} {post : Option AV → MM → Prop} {z : RT} {J67 : MM → Int → Int → Int → Int → Int → Int → Int → Prop} (C : Cx E z D RX11 cX11_turn 12) (r : Rt E z (some .long) post) (hJ67 : ∀ (M : MM) (x1 : Int) (x2 : Int) (x3 : Int) (x4 : Int) (x6 : Int) (x8 : Int) (x9 : Int), J67 M x1 x2 x3 x4 x6 x8 x9 → Aj E l z 67 [(0, vr 0), (1, vi x1), (2, vi x2), (3, vi x3), (4, vi x4), (6, vj x6), (8, vi x8), (9, vi x9)] [] M) {M : MM} {x1 : Int} {x2 : Int} {x3 : Int} {x4 : Int} {x6 : Int} {x8 : Int} {x9 : Int} (h : VX11_turn_110 E l D post J67 M x1 x2 x3 x4 x6 x8 x9) : Aj E l z 110 [(0, vr 0), (1, vi x1), (2, vi x2), (3, vi x3), (4, vi x4), (6, vj x6), (8, vi x8), (9, vi x9)] [] M := by
  unfold VX11_turn_110 at h
  obtain ⟨y23, hy23⟩ : ∃ y : Int, y = x9 + 4 := ⟨_, rfl⟩
  have g24 := h y23 hy23
  refine v_iinc (i := 7) (L' := [(9, vi y23), (0, vr 0), (1, vi x1), (2, vi x2), (3, vi x3), (4, vi x4), (6, vj x6), (8, vi x8)]) C dX11_turn_110 rfl (by decide) hy23 rfl ?_
  refine v_goto C dX11_turn_113 (tgt := 67) (by decide) ?_
  exact v_sub [1, 2, 3, 4, 5, 6, 7, 0] rfl (hJ67 _ _ _ _ _ _ _ _ g24)
def VX11_turn_67 (E : FX) (l : Launch) (D : Nat) (post : Option AV → MM → Prop) (J67 : MM → Int → Int → Int → Int → Int → Int → Int → Prop) (M : MM) (x1 : Int) (x2 : Int) (x3 : Int) (x4 : Int) (x6 : Int) (x8 : Int) (x9 : Int) : Prop :=
  R32 x9 ∧ (R32 (ishl 1 (2 * x3)) ∧ ((ishl 1 (2 * x3) ≤ x9 → R32 x4 ∧ ((x4 = (-1) → VX11_turn_143 E l D post J67 M x6) ∧ (¬ x4 = (-1) → R64 x6 ∧ ((0 ≤ x6 → Con E l D qX3_digit [vi x8, vi x3, vi x4] M (fun r M31 => ∃ y32 : Int, r = some (vi y32) ∧ (R32 y32 ∧ (VX11_turn_143 E l D post J67 M31 y32)))) ∧ (¬ 0 ≤ x6 → VX11_turn_143 E l D post J67 M x6))))) ∧ (¬ ishl 1 (2 * x3) ≤ x9 → Con E l D qX3_changed [vr 11, vi x1, vi x2, vi x9, vi x3] M (fun r M34 => ∃ y35 : Int, r = some (vj y35) ∧ (R64 y35 ∧ (R64 x6 ∧ ((y35 ≤ x6 → ∀ y39 : Int, y39 = x9 + 4 → (J67 M34 x1 x2 x3 x4 x6 x8 y39)) ∧ (¬ y35 ≤ x6 → VX11_turn_110 E l D post J67 M34 x1 x2 x3 x4 y35 x9 x9))))))))
set_option maxRecDepth 20000 in
theorem SX11_turn_67 {E : FX} {l : Launch} {D : Nat} {post : Option AV → MM → Prop} {z : RT} {J67 : MM → Int → Int → Int → Int → Int → Int → Int → Prop} (C : Cx E z D RX11 cX11_turn 12) (r : Rt E z (some .long) post) (hJ67 : ∀ (M : MM) (x1 : Int) (x2 : Int) (x3 : Int) (x4 : Int) (x6 : Int) (x8 : Int) (x9 : Int), J67 M x1 x2 x3 x4 x6 x8 x9 → Aj E l z 67 [(0, vr 0), (1, vi x1), (2, vi x2), (3, vi x3), (4, vi x4), (6, vj x6), (8, vi x8), (9, vi x9)] [] M) {M : MM} {x1 : Int} {x2 : Int} {x3 : Int} {x4 : Int} {x6 : Int} {x8 : Int} {x9 : Int} (h : VX11_turn_67 E l D post J67 M x1 x2 x3 x4 x6 x8 x9) : Aj E l z 67 [(0, vr 0), (1, vi x1), (2, vi x2), (3, vi x3), (4, vi x4), (6, vj x6), (8, vi x8), (9, vi x9)] [] M := by
  unfold VX11_turn_67 at h
  refine v_iload (i := 7) C dX11_turn_67 rfl ?_
  refine v_iconst C dX11_turn_69 ?_
  refine v_iconst C dX11_turn_70 ?_
  refine v_iload_n (i := 3) C dX11_turn_71 rfl rfl ?_
  refine v_imul C dX11_turn_72 ?_
  refine v_ishl C dX11_turn_73 ?_
  refine v_icmp_ge (tgt := 116) C h.1 h.2.1 dX11_turn_74 (by decide) (fun c => ?_) (fun c => ?_)
  · have g25 := h.2.2.1 c
    refine v_iload (i := 4) C dX11_turn_116 rfl ?_
    refine v_iconst C dX11_turn_118 ?_
    refine v_icmp_eq (tgt := 129) C g25.1 (by decide) dX11_turn_119 (by decide) (fun c => ?_) (fun c => ?_)
    · have g27 := g25.2.1 c
      refine v_lload (i := 5) C dX11_turn_129 rfl ?_
      refine v_goto C dX11_turn_131 (tgt := 143) (by decide) ?_
      exact v_sub [] rfl (SX11_turn_143 C r hJ67 g27)
    · have g28 := g25.2.2 c
      refine v_lload (i := 5) C dX11_turn_122 rfl ?_
      refine v_lconst (x := 0) C dX11_turn_124 (by decide) ?_
      refine v_lif_ge (tgt := 134) C g28.1 (by decide) dX11_turn_125 dX11_turn_126 (by decide) (fun c => ?_) (fun c => ?_)
      · have g29 := g28.2.1 c
        refine v_iload (i := 6) C dX11_turn_134 rfl ?_
        refine v_iload_n (i := 3) C dX11_turn_136 rfl rfl ?_
        refine v_iload (i := 4) C dX11_turn_137 rfl ?_
        refine v_callS (q := qX3_digit) (As := [vi x8, vi x3, vi x4]) (S := []) C co_yX3_digit ml_RX11_247 st_yX3_digit ini_RX3 hq_X3_digit (by decide) (Nat.le_of_ble_eq_true rfl) rfl dX11_turn_139 (Con.mono g29 (fun rr M31 hr => ?_) (Nat.le_refl _))
        obtain ⟨y32, rfl, g33⟩ := hr
        show Aj E l z (139 + 3) [(0, vr 0), (1, vi x1), (2, vi x2), (3, vi x3), (4, vi x4), (6, vj x6), (8, vi x8), (9, vi x9)] [vi y32] M31
        refine v_i2l C g33.1 dX11_turn_142 ?_
        exact v_sub [] rfl (SX11_turn_143 C r hJ67 g33.2)
      · have g30 := g28.2.2 c
        refine v_lload (i := 5) C dX11_turn_129 rfl ?_
        refine v_goto C dX11_turn_131 (tgt := 143) (by decide) ?_
        exact v_sub [] rfl (SX11_turn_143 C r hJ67 g30)
  · have g26 := h.2.2.2 c
    refine v_aload_n (i := 0) C dX11_turn_77 rfl rfl ?_
    refine v_getf (k := 0) C fl_RX11_10 rfl rfl dX11_turn_78 ?_
    show Aj E l z (78 + 3) [(0, vr 0), (1, vi x1), (2, vi x2), (3, vi x3), (4, vi x4), (6, vj x6), (8, vi x8), (9, vi x9)] [vr 1] M
    refine v_getf (k := 1) C fl_RX11_224 rfl rfl dX11_turn_81 ?_
    show Aj E l z (81 + 3) [(0, vr 0), (1, vi x1), (2, vi x2), (3, vi x3), (4, vi x4), (6, vj x6), (8, vi x8), (9, vi x9)] [vr 11] M
    refine v_iload_n (i := 1) C dX11_turn_84 rfl rfl ?_
    refine v_iload_n (i := 2) C dX11_turn_85 rfl rfl ?_
    refine v_iload (i := 7) C dX11_turn_86 rfl ?_
    refine v_iload_n (i := 3) C dX11_turn_88 rfl rfl ?_
    refine v_callV (q := qX3_changed) (k := 11) (As := [vi x1, vi x2, vi x9, vi x3]) (S := []) C co_yX3_changed ml_RX11_243 im_yX3_changed se_yX3_changed ini_RX3 rfl rfl hq_X3_changed (by decide) (Nat.le_of_ble_eq_true rfl) rfl dX11_turn_89 (Con.mono g26 (fun rr M34 hr => ?_) (Nat.le_refl _))
    obtain ⟨y35, rfl, g36⟩ := hr
    show Aj E l z (89 + 3) [(0, vr 0), (1, vi x1), (2, vi x2), (3, vi x3), (4, vi x4), (6, vj x6), (8, vi x8), (9, vi x9)] [vj y35] M34
    refine v_lstore (L' := [(10, vj y35), (0, vr 0), (1, vi x1), (2, vi x2), (3, vi x3), (4, vi x4), (6, vj x6), (8, vi x8), (9, vi x9)]) C dX11_turn_92 (by decide) rfl ?_
    refine v_lload (i := 0) C dX11_turn_94 rfl ?_
    refine v_lload (i := 6) C dX11_turn_96 rfl ?_
    refine v_lif_le (tgt := 110) C g36.1 g36.2.1 dX11_turn_98 dX11_turn_99 (by decide) (fun c => ?_) (fun c => ?_)
    · have g37 := g36.2.2.1 c
      obtain ⟨y39, hy39⟩ : ∃ y : Int, y = x9 + 4 := ⟨_, rfl⟩
      have g40 := g37 y39 hy39
      refine v_iinc (i := 8) (L' := [(9, vi y39), (10, vj y35), (0, vr 0), (1, vi x1), (2, vi x2), (3, vi x3), (4, vi x4), (6, vj x6), (8, vi x8)]) C dX11_turn_110 rfl (by decide) hy39 rfl ?_
      refine v_goto C dX11_turn_113 (tgt := 67) (by decide) ?_
      exact v_sub [2, 3, 4, 5, 6, 7, 8, 0] rfl (hJ67 _ _ _ _ _ _ _ _ g40)
    · have g38 := g36.2.2.2 c
      refine v_lload (i := 0) C dX11_turn_102 rfl ?_
      refine v_lstore (L' := [(6, vj y35), (10, vj y35), (0, vr 0), (1, vi x1), (2, vi x2), (3, vi x3), (4, vi x4), (8, vi x8), (9, vi x9)]) C dX11_turn_104 (by decide) rfl ?_
      refine v_iload (i := 8) C dX11_turn_106 rfl ?_
      refine v_istore (L' := [(8, vi x9), (6, vj y35), (10, vj y35), (0, vr 0), (1, vi x1), (2, vi x2), (3, vi x3), (4, vi x4), (9, vi x9)]) C dX11_turn_108 (by decide) rfl ?_
      exact v_sub [3, 4, 5, 6, 7, 1, 0, 8] rfl (SX11_turn_110 C r hJ67 g38)
theorem RX11_turn {E : FX} {l : Launch} {D : Nat} {post : Option AV → MM → Prop} (I67 : MM → Int → Int → Int → Int → Int → Int → Int → Prop) (m67 : MM → Int → Int → Int → Int → Int → Int → Int → Nat) {M : MM} {x1 : Int} {x2 : Int} {x3 : Int} {x4 : Int} (h0 : VX11_turn_0 E l D post I67 M x1 x2 x3 x4) (h67I : ∀ (M : MM) (x1 : Int) (x2 : Int) (x3 : Int) (x4 : Int) (x6 : Int) (x8 : Int) (x9 : Int), I67 M x1 x2 x3 x4 x6 x8 x9 → VX11_turn_67 E l D post (fun M' x1' x2' x3' x4' x6' x8' x9' => I67 M' x1' x2' x3' x4' x6' x8' x9' ∧ m67 M' x1' x2' x3' x4' x6' x8' x9' < m67 M x1 x2 x3 x4 x6 x8 x9) M x1 x2 x3 x4 x6 x8 x9) : Con E l (D + 1) qX11_turn [vr 0, vi x1, vi x2, vi x3, vi x4] M post := by
  refine con_of (by decide +kernel) (Nat.le_of_ble_eq_true rfl) (fun z C r => ?_)
  have all : ∀ n : Nat, (∀ (M : MM) (x1 : Int) (x2 : Int) (x3 : Int) (x4 : Int) (x6 : Int) (x8 : Int) (x9 : Int), I67 M x1 x2 x3 x4 x6 x8 x9 → m67 M x1 x2 x3 x4 x6 x8 x9 < n → Aj E l z 67 [(0, vr 0), (1, vi x1), (2, vi x2), (3, vi x3), (4, vi x4), (6, vj x6), (8, vi x8), (9, vi x9)] [] M) := by
    intro n
    induction n with
    | zero => exact fun _ _ _ _ _ _ _ _ _ hm => absurd hm (Nat.not_lt_zero _)
    | succ n ih => exact fun M x1 x2 x3 x4 x6 x8 x9 hi hm => SX11_turn_67 C r (fun M' x1' x2' x3' x4' x6' x8' x9' hj => ih M' x1' x2' x3' x4' x6' x8' x9' hj.1 (by omega)) (h67I M x1 x2 x3 x4 x6 x8 x9 hi)
  exact v_sub [0, 1, 2, 3, 4] rfl (SX11_turn_0 C r (fun M' x1' x2' x3' x4' x6' x8' x9' hj => (all _) M' x1' x2' x3' x4' x6' x8' x9' hj (Nat.lt_succ_self _)) h0)
def VX11_image_0 (E : FX) (l : Launch) (D : Nat) (post : Option AV → MM → Prop) (M : MM) : Prop :=
  Con E l D qX5_becomeLike [vr 2, vr 1] M (fun r M1 => r = none ∧ (∀ M3 : MM, M3 = up M1 0 2 1 → (post (some (vi 1)) M3)))
set_option maxRecDepth 20000 in
theorem SX11_image_0 {E : FX} {l : Launch} {D : Nat} {post : Option AV → MM → Prop} {z : RT} (C : Cx E z D RX11 cX11_image 1) (r : Rt E z (some .int) post) {M : MM} (h : VX11_image_0 E l D post M) : Aj E l z 0 [(0, vr 0)] [] M := by
  unfold VX11_image_0 at h
  refine v_aload_n (i := 0) C dX11_image_0 rfl rfl ?_
  refine v_getf (k := 0) C fl_RX11_16 rfl rfl dX11_image_1 ?_
  show Aj E l z (1 + 3) [(0, vr 0)] [vr 2] M
  refine v_aload_n (i := 0) C dX11_image_4 rfl rfl ?_
  refine v_getf (k := 0) C fl_RX11_10 rfl rfl dX11_image_5 ?_
  show Aj E l z (5 + 3) [(0, vr 0)] [vr 1, vr 2] M
  refine v_callV (q := qX5_becomeLike) (k := 2) (As := [vr 1]) (S := []) C co_yX5_becomeLike ml_RX11_251 im_yX5_becomeLike se_yX5_becomeLike ini_RX5 rfl rfl hq_X5_becomeLike (by decide) (Nat.le_of_ble_eq_true rfl) rfl dX11_image_8 (Con.mono h (fun rr M1 hr => ?_) (Nat.le_refl _))
  obtain ⟨rfl, g2⟩ := hr
  show Aj E l z (8 + 3) [(0, vr 0)] [] M1
  refine v_aload_n (i := 0) C dX11_image_11 rfl rfl ?_
  refine v_iconst C dX11_image_12 ?_
  refine v_putf (k := 0) (x := 1) (t := 0) C fp_RX11_255 rfl rfl (by decide) (by simp [fv, up]) rfl rfl dX11_image_13 ?_
  obtain ⟨M3, hM3⟩ : ∃ X : MM, X = up M1 0 2 1 := ⟨_, rfl⟩
  refine v_eqM hM3 ?_
  have g4 := g2 M3 hM3
  refine v_iconst C dX11_image_16 ?_
  exact v_iret C r dX11_image_17 g4
theorem RX11_image {E : FX} {l : Launch} {D : Nat} {post : Option AV → MM → Prop} {M : MM} (h0 : VX11_image_0 E l D post M) : Con E l (D + 1) qX11_image [vr 0] M post := by
  refine con_of (by decide +kernel) (Nat.le_of_ble_eq_true rfl) (fun z C r => ?_)
  exact v_sub [0] rfl (SX11_image_0 C r h0)
def VX11_restore_0 (E : FX) (l : Launch) (D : Nat) (post : Option AV → MM → Prop) (M : MM) : Prop :=
  R32 (M 0 2) ∧ ((¬ M 0 2 = 0 → Con E l D qX5_becomeLike [vr 1, vr 2] M (fun r M3 => r = none ∧ (post (some (vi 1)) M3))) ∧ (M 0 2 = 0 → post (some (vi (-4))) M))
set_option maxRecDepth 20000 in
theorem SX11_restore_0 {E : FX} {l : Launch} {D : Nat} {post : Option AV → MM → Prop} {z : RT} (C : Cx E z D RX11 cX11_restore 1) (r : Rt E z (some .int) post) {M : MM} (h : VX11_restore_0 E l D post M) : Aj E l z 0 [(0, vr 0)] [] M := by
  unfold VX11_restore_0 at h
  refine v_aload_n (i := 0) C dX11_restore_0 rfl rfl ?_
  refine v_getf (k := 0) C fl_RX11_255 rfl rfl dX11_restore_1 ?_
  show Aj E l z (1 + 3) [(0, vr 0)] [vi (M 0 2)] M
  refine v_if_ne (tgt := 10) C h.1 dX11_restore_4 (by decide) (fun c => ?_) (fun c => ?_)
  · have g1 := h.2.1 c
    refine v_aload_n (i := 0) C dX11_restore_10 rfl rfl ?_
    refine v_getf (k := 0) C fl_RX11_10 rfl rfl dX11_restore_11 ?_
    show Aj E l z (11 + 3) [(0, vr 0)] [vr 1] M
    refine v_aload_n (i := 0) C dX11_restore_14 rfl rfl ?_
    refine v_getf (k := 0) C fl_RX11_16 rfl rfl dX11_restore_15 ?_
    show Aj E l z (15 + 3) [(0, vr 0)] [vr 2, vr 1] M
    refine v_callV (q := qX5_becomeLike) (k := 1) (As := [vr 2]) (S := []) C co_yX5_becomeLike ml_RX11_251 im_yX5_becomeLike se_yX5_becomeLike ini_RX5 rfl rfl hq_X5_becomeLike (by decide) (Nat.le_of_ble_eq_true rfl) rfl dX11_restore_18 (Con.mono g1 (fun rr M3 hr => ?_) (Nat.le_refl _))
    obtain ⟨rfl, g4⟩ := hr
    show Aj E l z (18 + 3) [(0, vr 0)] [] M3
    refine v_iconst C dX11_restore_21 ?_
    exact v_iret C r dX11_restore_22 g4
  · have g2 := h.2.2 c
    refine v_bipush C dX11_restore_7 (by decide) ?_
    exact v_iret C r dX11_restore_9 g2
theorem RX11_restore {E : FX} {l : Launch} {D : Nat} {post : Option AV → MM → Prop} {M : MM} (h0 : VX11_restore_0 E l D post M) : Con E l (D + 1) qX11_restore [vr 0] M post := by
  refine con_of (by decide +kernel) (Nat.le_of_ble_eq_true rfl) (fun z C r => ?_)
  exact v_sub [0] rfl (SX11_restore_0 C r h0)
def VX11_leaves_63 (E : FX) (l : Launch) (D : Nat) (post : Option AV → MM → Prop) (J75 : MM → Int → Nat → Int → Prop) (M : MM) : Prop :=
  post (some (vi (-2))) M
set_option maxRecDepth 20000 in
theorem SX11_leaves_63 {E : FX} {l : Launch} {D : Nat} {post : Option AV → MM → Prop} {z : RT} {J75 : MM → Int → Nat → Int → Prop} (C : Cx E z D RX11 cX11_leaves 9) (r : Rt E z (some .int) post) (hJ75 : ∀ (M : MM) (x3 : Int) (x6 : Nat) (x8 : Int), J75 M x3 x6 x8 → Aj E l z 75 [(0, vr 0), (3, vi x3), (6, vr x6), (7, vr 37), (8, vi x8)] [] M) {M : MM} (h : VX11_leaves_63 E l D post J75 M) : Aj E l z 63 [] [] M := by
  unfold VX11_leaves_63 at h
  refine v_bipush C dX11_leaves_63 (by decide) ?_
  exact v_iret C r dX11_leaves_65 h
def VX11_leaves_0 (E : FX) (l : Launch) (D : Nat) (post : Option AV → MM → Prop) (J75 : MM → Int → Nat → Int → Prop) (M : MM) (x1 : Int) (x2 : Int) (x3 : Int) : Prop :=
  ∀ y1 : Int, y1 = M 9 1 → (Con E l D qX11_refusal [vr 0, vi x1, vi x2, vi x3, vi y1] M (fun r M3 => ∃ y4 : Int, r = some (vi y4) ∧ (R32 y4 ∧ ((0 ≤ y4 → Con E l D qX11_sheetOf [vr 0, vi x1] M3 (fun r M8 => ∃ o9 : Option Nat, r = some (vo o9) ∧ (R32 y1 ∧ ((y1 = 0 → post (some (vi (-2))) M8) ∧ (¬ y1 = 0 → (o9 = none → post (some (vi (-2))) M8) ∧ (∀ k13 : Nat, o9 = some k13 → kd k13 = (3, 6) ∧ (Con E l D qX8_allWithin [vr k13, vi x3, vi y1, vi 0, vi 9999999] M8 (fun r M16 => ∃ y17 : Int, r = some (vi y17) ∧ (R32 y17 ∧ ((¬ y17 = 0 → Con E l D qX11_marksNow [vr 0] M16 (fun r M21 => r = some (vr 37) ∧ (J75 M21 x3 k13 1))) ∧ (y17 = 0 → post (some (vi (-2))) M16))))))))))) ∧ (¬ 0 ≤ y4 → post (some (vi y4)) M3)))))
set_option maxRecDepth 20000 in
theorem SX11_leaves_0 {E : FX} {l : Launch} {D : Nat} {post : Option AV → MM → Prop} {z : RT} {J75 : MM → Int → Nat → Int → Prop} (C : Cx E z D RX11 cX11_leaves 9) (r : Rt E z (some .int) post) (hJ75 : ∀ (M : MM) (x3 : Int) (x6 : Nat) (x8 : Int), J75 M x3 x6 x8 → Aj E l z 75 [(0, vr 0), (3, vi x3), (6, vr x6), (7, vr 37), (8, vi x8)] [] M) {M : MM} {x1 : Int} {x2 : Int} {x3 : Int} (h : VX11_leaves_0 E l D post J75 M x1 x2 x3) : Aj E l z 0 [(0, vr 0), (1, vi x1), (2, vi x2), (3, vi x3)] [] M := by
  unfold VX11_leaves_0 at h
  refine v_aload_n (i := 0) C dX11_leaves_0 rfl rfl ?_
  refine v_getf (k := 0) C fl_RX11_10 rfl rfl dX11_leaves_1 ?_
  show Aj E l z (1 + 3) [(0, vr 0), (1, vi x1), (2, vi x2), (3, vi x3)] [vr 1] M
  refine v_getf (k := 1) C fl_RX11_176 rfl rfl dX11_leaves_4 ?_
  show Aj E l z (4 + 3) [(0, vr 0), (1, vi x1), (2, vi x2), (3, vi x3)] [vr 9] M
  refine v_getf (k := 9) C fl_RX11_180 rfl rfl dX11_leaves_7 ?_
  show Aj E l z (7 + 3) [(0, vr 0), (1, vi x1), (2, vi x2), (3, vi x3)] [vi (M 9 1)] M
  obtain ⟨y1, hy1⟩ : ∃ y : Int, y = M 9 1 := ⟨_, rfl⟩
  have g2 := h y1 hy1
  refine v_eqi hy1 ?_
  refine v_istore (L' := [(4, vi y1), (0, vr 0), (1, vi x1), (2, vi x2), (3, vi x3)]) C dX11_leaves_10 (by decide) rfl ?_
  refine v_aload_n (i := 1) C dX11_leaves_12 rfl rfl ?_
  refine v_iload_n (i := 2) C dX11_leaves_13 rfl rfl ?_
  refine v_iload_n (i := 3) C dX11_leaves_14 rfl rfl ?_
  refine v_iload_n (i := 4) C dX11_leaves_15 rfl rfl ?_
  refine v_iload (i := 0) C dX11_leaves_16 rfl ?_
  refine v_callV (q := qX11_refusal) (k := 0) (As := [vi x1, vi x2, vi x3, vi y1]) (S := []) C co_yX11_refusal ml_RX11_259 im_yX11_refusal se_yX11_refusal ini_RX11 rfl rfl hq_X11_refusal (by decide) (Nat.le_of_ble_eq_true rfl) rfl dX11_leaves_18 (Con.mono g2 (fun rr M3 hr => ?_) (Nat.le_refl _))
  obtain ⟨y4, rfl, g5⟩ := hr
  show Aj E l z (18 + 3) [(4, vi y1), (0, vr 0), (1, vi x1), (2, vi x2), (3, vi x3)] [vi y4] M3
  refine v_istore (L' := [(5, vi y4), (4, vi y1), (0, vr 0), (1, vi x1), (2, vi x2), (3, vi x3)]) C dX11_leaves_21 (by decide) rfl ?_
  refine v_iload (i := 0) C dX11_leaves_23 rfl ?_
  refine v_if_ge (tgt := 31) C g5.1 dX11_leaves_25 (by decide) (fun c => ?_) (fun c => ?_)
  · have g6 := g5.2.1 c
    refine v_aload_n (i := 2) C dX11_leaves_31 rfl rfl ?_
    refine v_iload_n (i := 3) C dX11_leaves_32 rfl rfl ?_
    refine v_callV (q := qX11_sheetOf) (k := 0) (As := [vi x1]) (S := []) C co_yX11_sheetOf ml_RX11_262 im_yX11_sheetOf se_yX11_sheetOf ini_RX11 rfl rfl hq_X11_sheetOf (by decide) (Nat.le_of_ble_eq_true rfl) rfl dX11_leaves_33 (Con.mono g6 (fun rr M8 hr => ?_) (Nat.le_refl _))
    obtain ⟨o9, rfl, g10⟩ := hr
    show Aj E l z (33 + 3) [(5, vi y4), (4, vi y1), (0, vr 0), (1, vi x1), (2, vi x2), (3, vi x3)] [vo o9] M8
    refine v_astore (L' := [(6, vo o9), (5, vi y4), (4, vi y1), (0, vr 0), (1, vi x1), (2, vi x2), (3, vi x3)]) C dX11_leaves_36 (by decide) rfl ?_
    refine v_iload (i := 2) C dX11_leaves_38 rfl ?_
    refine v_if_eq (tgt := 63) C g10.1 dX11_leaves_40 (by decide) (fun c => ?_) (fun c => ?_)
    · have g11 := g10.2.1 c
      refine v_bipush C dX11_leaves_63 (by decide) ?_
      exact v_iret C r dX11_leaves_65 g11
    · have g12 := g10.2.2 c
      refine v_aload (i := 0) C dX11_leaves_43 rfl ?_
      refine v_ifnull (tgt := 63) C dX11_leaves_45 (by decide) (fun c => ?_) (fun k13 c => ?_)
      · have g14 := g12.1 c
        subst c
        refine v_bipush C dX11_leaves_63 (by decide) ?_
        exact v_iret C r dX11_leaves_65 g14
      · have g15 := g12.2 k13 c
        subst c
        refine v_aload (i := 0) C dX11_leaves_48 rfl ?_
        refine v_iload_n (i := 6) C dX11_leaves_50 rfl rfl ?_
        refine v_iload (i := 2) C dX11_leaves_51 rfl ?_
        refine v_iconst C dX11_leaves_53 ?_
        refine v_ldcw (x := 9999999) C cs_RX11_266 (by decide) dX11_leaves_54 ?_
        refine v_callV (q := qX8_allWithin) (k := k13) (As := [vi x3, vi y1, vi 0, vi 9999999]) (S := []) C co_yX8_allWithin ml_RX11_267 im_yX8_allWithin se_yX8_allWithin ini_RX8 g15.1 rfl hq_X8_allWithin (by decide) (Nat.le_of_ble_eq_true rfl) rfl dX11_leaves_57 (Con.mono g15.2 (fun rr M16 hr => ?_) (Nat.le_refl _))
        obtain ⟨y17, rfl, g18⟩ := hr
        show Aj E l z (57 + 3) [(6, vr k13), (5, vi y4), (4, vi y1), (0, vr 0), (1, vi x1), (2, vi x2), (3, vi x3)] [vi y17] M16
        refine v_if_ne (tgt := 66) C g18.1 dX11_leaves_60 (by decide) (fun c => ?_) (fun c => ?_)
        · have g19 := g18.2.1 c
          refine v_aload_n (i := 3) C dX11_leaves_66 rfl rfl ?_
          refine v_callV (q := qX11_marksNow) (k := 0) (As := []) (S := []) C co_yX11_marksNow ml_RX11_96 im_yX11_marksNow se_yX11_marksNow ini_RX11 rfl rfl hq_X11_marksNow (by decide) (Nat.le_of_ble_eq_true rfl) rfl dX11_leaves_67 (Con.mono g19 (fun rr M21 hr => ?_) (Nat.le_refl _))
          obtain ⟨rfl, g23⟩ := hr
          show Aj E l z (67 + 3) [(6, vr k13), (5, vi y4), (4, vi y1), (0, vr 0), (1, vi x1), (2, vi x2), (3, vi x3)] [vr 37] M21
          refine v_astore (L' := [(7, vr 37), (6, vr k13), (5, vi y4), (4, vi y1), (0, vr 0), (1, vi x1), (2, vi x2), (3, vi x3)]) C dX11_leaves_70 (by decide) rfl ?_
          refine v_iconst C dX11_leaves_72 ?_
          refine v_istore (L' := [(8, vi 1), (7, vr 37), (6, vr k13), (5, vi y4), (4, vi y1), (0, vr 0), (1, vi x1), (2, vi x2), (3, vi x3)]) C dX11_leaves_73 (by decide) rfl ?_
          exact v_sub [5, 8, 2, 1, 0] rfl (hJ75 _ _ _ _ g23)
        · have g20 := g18.2.2 c
          refine v_bipush C dX11_leaves_63 (by decide) ?_
          exact v_iret C r dX11_leaves_65 g20
  · have g7 := g5.2.2 c
    refine v_iload (i := 0) C dX11_leaves_28 rfl ?_
    exact v_iret C r dX11_leaves_30 g7
def VX11_leaves_75 (E : FX) (l : Launch) (D : Nat) (post : Option AV → MM → Prop) (J75 : MM → Int → Nat → Int → Prop) (M : MM) (x3 : Int) (x6 : Nat) (x8 : Int) : Prop :=
  Con E l D qX1_everyone [vr 9] M (fun r M24 => ∃ y25 : Int, r = some (vi y25) ∧ (R32 x8 ∧ (R32 y25 ∧ ((y25 < x8 → post (some (vi (-4))) M24) ∧ (¬ y25 < x8 → kd x6 = (3, 6) ∧ (Con E l D qX8_sumOf [vr x6, vi x3, vi x8] M24 (fun r M29 => ∃ y30 : Int, r = some (vj y30) ∧ (Con E l D qX11_priceOf [vr 0, vr 37, vi x8] M29 (fun r M32 => ∃ y33 : Int, r = some (vj y33) ∧ (R64 y30 ∧ (R64 y33 ∧ ((y30 ≤ y33 → ∀ y37 : Int, y37 = x8 + 1 → (J75 M32 x3 x6 y37)) ∧ (¬ y30 ≤ y33 → post (some (vi x8)) M32)))))))))))))
set_option maxRecDepth 20000 in
theorem SX11_leaves_75 {E : FX} {l : Launch} {D : Nat} {post : Option AV → MM → Prop} {z : RT} {J75 : MM → Int → Nat → Int → Prop} (C : Cx E z D RX11 cX11_leaves 9) (r : Rt E z (some .int) post) (hJ75 : ∀ (M : MM) (x3 : Int) (x6 : Nat) (x8 : Int), J75 M x3 x6 x8 → Aj E l z 75 [(0, vr 0), (3, vi x3), (6, vr x6), (7, vr 37), (8, vi x8)] [] M) {M : MM} {x3 : Int} {x6 : Nat} {x8 : Int} (h : VX11_leaves_75 E l D post J75 M x3 x6 x8) : Aj E l z 75 [(0, vr 0), (3, vi x3), (6, vr x6), (7, vr 37), (8, vi x8)] [] M := by
  unfold VX11_leaves_75 at h
  refine v_iload (i := 4) C dX11_leaves_75 rfl ?_
  refine v_aload_n (i := 0) C dX11_leaves_77 rfl rfl ?_
  refine v_getf (k := 0) C fl_RX11_10 rfl rfl dX11_leaves_78 ?_
  show Aj E l z (78 + 3) [(0, vr 0), (3, vi x3), (6, vr x6), (7, vr 37), (8, vi x8)] [vr 1, vi x8] M
  refine v_getf (k := 1) C fl_RX11_176 rfl rfl dX11_leaves_81 ?_
  show Aj E l z (81 + 3) [(0, vr 0), (3, vi x3), (6, vr x6), (7, vr 37), (8, vi x8)] [vr 9, vi x8] M
  refine v_callV (q := qX1_everyone) (k := 9) (As := []) (S := [vi x8]) C co_yX1_everyone ml_RX11_183 im_yX1_everyone se_yX1_everyone ini_RX1 rfl rfl hq_X1_everyone (by decide) (Nat.le_of_ble_eq_true rfl) rfl dX11_leaves_84 (Con.mono h (fun rr M24 hr => ?_) (Nat.le_refl _))
  obtain ⟨y25, rfl, g26⟩ := hr
  show Aj E l z (84 + 3) [(0, vr 0), (3, vi x3), (6, vr x6), (7, vr 37), (8, vi x8)] [vi y25, vi x8] M24
  refine v_icmp_gt (tgt := 119) C g26.1 g26.2.1 dX11_leaves_87 (by decide) (fun c => ?_) (fun c => ?_)
  · have g27 := g26.2.2.1 c
    refine v_bipush C dX11_leaves_119 (by decide) ?_
    exact v_iret C r dX11_leaves_121 g27
  · have g28 := g26.2.2.2 c
    refine v_aload (i := 2) C dX11_leaves_90 rfl ?_
    refine v_iload_n (i := 1) C dX11_leaves_92 rfl rfl ?_
    refine v_iload (i := 4) C dX11_leaves_93 rfl ?_
    refine v_callV (q := qX8_sumOf) (k := x6) (As := [vi x3, vi x8]) (S := []) C co_yX8_sumOf ml_RX11_271 im_yX8_sumOf se_yX8_sumOf ini_RX8 g28.1 rfl hq_X8_sumOf (by decide) (Nat.le_of_ble_eq_true rfl) rfl dX11_leaves_95 (Con.mono g28.2 (fun rr M29 hr => ?_) (Nat.le_refl _))
    obtain ⟨y30, rfl, g31⟩ := hr
    show Aj E l z (95 + 3) [(0, vr 0), (3, vi x3), (6, vr x6), (7, vr 37), (8, vi x8)] [vj y30] M29
    refine v_aload_n (i := 0) C dX11_leaves_98 rfl rfl ?_
    refine v_aload (i := 3) C dX11_leaves_99 rfl ?_
    refine v_iload (i := 4) C dX11_leaves_101 rfl ?_
    refine v_callV (q := qX11_priceOf) (k := 0) (As := [vr 37, vi x8]) (S := [vj y30]) C co_yX11_priceOf ml_RX11_208 im_yX11_priceOf se_yX11_priceOf ini_RX11 rfl rfl hq_X11_priceOf (by decide) (Nat.le_of_ble_eq_true rfl) rfl dX11_leaves_103 (Con.mono g31 (fun rr M32 hr => ?_) (Nat.le_refl _))
    obtain ⟨y33, rfl, g34⟩ := hr
    show Aj E l z (103 + 3) [(0, vr 0), (3, vi x3), (6, vr x6), (7, vr 37), (8, vi x8)] [vj y33, vj y30] M32
    refine v_lif_le (tgt := 113) C g34.1 g34.2.1 dX11_leaves_106 dX11_leaves_107 (by decide) (fun c => ?_) (fun c => ?_)
    · have g35 := g34.2.2.1 c
      obtain ⟨y37, hy37⟩ : ∃ y : Int, y = x8 + 1 := ⟨_, rfl⟩
      have g38 := g35 y37 hy37
      refine v_iinc (i := 4) (L' := [(8, vi y37), (0, vr 0), (3, vi x3), (6, vr x6), (7, vr 37)]) C dX11_leaves_113 rfl (by decide) hy37 rfl ?_
      refine v_goto C dX11_leaves_116 (tgt := 75) (by decide) ?_
      exact v_sub [1, 2, 3, 4, 0] rfl (hJ75 _ _ _ _ g38)
    · have g36 := g34.2.2.2 c
      refine v_iload (i := 4) C dX11_leaves_110 rfl ?_
      exact v_iret C r dX11_leaves_112 g36
theorem RX11_leaves {E : FX} {l : Launch} {D : Nat} {post : Option AV → MM → Prop} (I75 : MM → Int → Nat → Int → Prop) (m75 : MM → Int → Nat → Int → Nat) {M : MM} {x1 : Int} {x2 : Int} {x3 : Int} (h0 : VX11_leaves_0 E l D post I75 M x1 x2 x3) (h75I : ∀ (M : MM) (x3 : Int) (x6 : Nat) (x8 : Int), I75 M x3 x6 x8 → VX11_leaves_75 E l D post (fun M' x3' x6' x8' => I75 M' x3' x6' x8' ∧ m75 M' x3' x6' x8' < m75 M x3 x6 x8) M x3 x6 x8) : Con E l (D + 1) qX11_leaves [vr 0, vi x1, vi x2, vi x3] M post := by
  refine con_of (by decide +kernel) (Nat.le_of_ble_eq_true rfl) (fun z C r => ?_)
  have all : ∀ n : Nat, (∀ (M : MM) (x3 : Int) (x6 : Nat) (x8 : Int), I75 M x3 x6 x8 → m75 M x3 x6 x8 < n → Aj E l z 75 [(0, vr 0), (3, vi x3), (6, vr x6), (7, vr 37), (8, vi x8)] [] M) := by
    intro n
    induction n with
    | zero => exact fun _ _ _ _ _ hm => absurd hm (Nat.not_lt_zero _)
    | succ n ih => exact fun M x3 x6 x8 hi hm => SX11_leaves_75 C r (fun M' x3' x6' x8' hj => ih M' x3' x6' x8' hj.1 (by omega)) (h75I M x3 x6 x8 hi)
  exact v_sub [0, 1, 2, 3] rfl (SX11_leaves_0 C r (fun M' x3' x6' x8' hj => (all _) M' x3' x6' x8' hj (Nat.lt_succ_self _)) h0)
def VX11_fit_99 (E : FX) (l : Launch) (D : Nat) (post : Option AV → MM → Prop) (M : MM) (s0 : Int) : Prop :=
  post (some (vi s0)) M
set_option maxRecDepth 20000 in
theorem SX11_fit_99 {E : FX} {l : Launch} {D : Nat} {post : Option AV → MM → Prop} {z : RT} (C : Cx E z D RX11 cX11_fit 10) (r : Rt E z (some .int) post) {M : MM} {s0 : Int} (h : VX11_fit_99 E l D post M s0) : Aj E l z 99 [] [vi s0] M := by
  unfold VX11_fit_99 at h
  exact v_iret C r dX11_fit_99 h
def VX11_fit_68 (E : FX) (l : Launch) (D : Nat) (post : Option AV → MM → Prop) (M : MM) : Prop :=
  post (some (vi (-2))) M
set_option maxRecDepth 20000 in
theorem SX11_fit_68 {E : FX} {l : Launch} {D : Nat} {post : Option AV → MM → Prop} {z : RT} (C : Cx E z D RX11 cX11_fit 10) (r : Rt E z (some .int) post) {M : MM} (h : VX11_fit_68 E l D post M) : Aj E l z 68 [] [] M := by
  unfold VX11_fit_68 at h
  refine v_bipush C dX11_fit_68 (by decide) ?_
  exact v_iret C r dX11_fit_70 h
def VX11_fit_21 (E : FX) (l : Launch) (D : Nat) (post : Option AV → MM → Prop) (M : MM) : Prop :=
  post (some (vi (-1))) M
set_option maxRecDepth 20000 in
theorem SX11_fit_21 {E : FX} {l : Launch} {D : Nat} {post : Option AV → MM → Prop} {z : RT} (C : Cx E z D RX11 cX11_fit 10) (r : Rt E z (some .int) post) {M : MM} (h : VX11_fit_21 E l D post M) : Aj E l z 21 [] [] M := by
  unfold VX11_fit_21 at h
  refine v_iconst C dX11_fit_21 ?_
  exact v_iret C r dX11_fit_22 h
def VX11_fit_0 (E : FX) (l : Launch) (D : Nat) (post : Option AV → MM → Prop) (M : MM) (x1 : Int) (x2 : Int) (x3 : Int) (x4 : Int) (x5 : Int) : Prop :=
  Con E l D qX11_within [vi x4, vi 1, vi 8] M (fun r M1 => ∃ y2 : Int, r = some (vi y2) ∧ (R32 y2 ∧ ((y2 = 0 → post (some (vi (-1))) M1) ∧ (¬ y2 = 0 → Con E l D qX11_within [vi x5, vi 0, vi 1] M1 (fun r M6 => ∃ y7 : Int, r = some (vi y7) ∧ (R32 y7 ∧ ((¬ y7 = 0 → Con E l D qX11_refusal [vr 0, vi x1, vi x2, vi x3, vi x4] M6 (fun r M11 => ∃ y12 : Int, r = some (vi y12) ∧ (R32 y12 ∧ ((0 ≤ y12 → Con E l D qX11_sheetOf [vr 0, vi x1] M11 (fun r M16 => ∃ o17 : Option Nat, r = some (vo o17) ∧ ((o17 = none → post (some (vi (-2))) M16) ∧ (∀ k19 : Nat, o17 = some k19 → kd k19 = (3, 6) ∧ (Con E l D qX8_allWithin [vr k19, vi x3, vi x4, vi 1, vi 999999] M16 (fun r M22 => ∃ y23 : Int, r = some (vi y23) ∧ (R32 y23 ∧ ((¬ y23 = 0 → kd k19 = (3, 6) ∧ (Con E l D qX8_commonOf [vr k19, vi x3, vi x4] M22 (fun r M27 => ∃ y28 : Int, r = some (vj y28) ∧ (R32 x5 ∧ ((¬ x5 = 0 → Con E l D qX11_bestFit [vj y28] M27 (fun r M32 => ∃ y33 : Int, r = some (vi y33) ∧ (VX11_fit_99 E l D post M32 y33))) ∧ (x5 = 0 → Con E l D qX11_howManyFit [vj y28] M27 (fun r M35 => ∃ y36 : Int, r = some (vi y36) ∧ (VX11_fit_99 E l D post M35 y36)))))))) ∧ (y23 = 0 → post (some (vi (-2))) M22))))))))) ∧ (¬ 0 ≤ y12 → post (some (vi y12)) M11))))) ∧ (y7 = 0 → post (some (vi (-1))) M6))))))))
set_option maxRecDepth 20000 in
theorem SX11_fit_0 {E : FX} {l : Launch} {D : Nat} {post : Option AV → MM → Prop} {z : RT} (C : Cx E z D RX11 cX11_fit 10) (r : Rt E z (some .int) post) {M : MM} {x1 : Int} {x2 : Int} {x3 : Int} {x4 : Int} {x5 : Int} (h : VX11_fit_0 E l D post M x1 x2 x3 x4 x5) : Aj E l z 0 [(0, vr 0), (1, vi x1), (2, vi x2), (3, vi x3), (4, vi x4), (5, vi x5)] [] M := by
  unfold VX11_fit_0 at h
  refine v_iload (i := 4) C dX11_fit_0 rfl ?_
  refine v_iconst C dX11_fit_2 ?_
  refine v_bipush C dX11_fit_3 (by decide) ?_
  refine v_callS (q := qX11_within) (As := [vi x4, vi 1, vi 8]) (S := []) C co_yX11_within ml_RX11_47 st_yX11_within ini_RX11 hq_X11_within (by decide) (Nat.le_of_ble_eq_true rfl) rfl dX11_fit_5 (Con.mono h (fun rr M1 hr => ?_) (Nat.le_refl _))
  obtain ⟨y2, rfl, g3⟩ := hr
  show Aj E l z (5 + 3) [(0, vr 0), (1, vi x1), (2, vi x2), (3, vi x3), (4, vi x4), (5, vi x5)] [vi y2] M1
  refine v_if_eq (tgt := 21) C g3.1 dX11_fit_8 (by decide) (fun c => ?_) (fun c => ?_)
  · have g4 := g3.2.1 c
    refine v_iconst C dX11_fit_21 ?_
    exact v_iret C r dX11_fit_22 g4
  · have g5 := g3.2.2 c
    refine v_iload (i := 5) C dX11_fit_11 rfl ?_
    refine v_iconst C dX11_fit_13 ?_
    refine v_iconst C dX11_fit_14 ?_
    refine v_callS (q := qX11_within) (As := [vi x5, vi 0, vi 1]) (S := []) C co_yX11_within ml_RX11_47 st_yX11_within ini_RX11 hq_X11_within (by decide) (Nat.le_of_ble_eq_true rfl) rfl dX11_fit_15 (Con.mono g5 (fun rr M6 hr => ?_) (Nat.le_refl _))
    obtain ⟨y7, rfl, g8⟩ := hr
    show Aj E l z (15 + 3) [(0, vr 0), (1, vi x1), (2, vi x2), (3, vi x3), (4, vi x4), (5, vi x5)] [vi y7] M6
    refine v_if_ne (tgt := 23) C g8.1 dX11_fit_18 (by decide) (fun c => ?_) (fun c => ?_)
    · have g9 := g8.2.1 c
      refine v_aload_n (i := 0) C dX11_fit_23 rfl rfl ?_
      refine v_iload_n (i := 1) C dX11_fit_24 rfl rfl ?_
      refine v_iload_n (i := 2) C dX11_fit_25 rfl rfl ?_
      refine v_iload_n (i := 3) C dX11_fit_26 rfl rfl ?_
      refine v_iload (i := 4) C dX11_fit_27 rfl ?_
      refine v_callV (q := qX11_refusal) (k := 0) (As := [vi x1, vi x2, vi x3, vi x4]) (S := []) C co_yX11_refusal ml_RX11_259 im_yX11_refusal se_yX11_refusal ini_RX11 rfl rfl hq_X11_refusal (by decide) (Nat.le_of_ble_eq_true rfl) rfl dX11_fit_29 (Con.mono g9 (fun rr M11 hr => ?_) (Nat.le_refl _))
      obtain ⟨y12, rfl, g13⟩ := hr
      show Aj E l z (29 + 3) [(0, vr 0), (1, vi x1), (2, vi x2), (3, vi x3), (4, vi x4), (5, vi x5)] [vi y12] M11
      refine v_istore (L' := [(6, vi y12), (0, vr 0), (1, vi x1), (2, vi x2), (3, vi x3), (4, vi x4), (5, vi x5)]) C dX11_fit_32 (by decide) rfl ?_
      refine v_iload (i := 0) C dX11_fit_34 rfl ?_
      refine v_if_ge (tgt := 42) C g13.1 dX11_fit_36 (by decide) (fun c => ?_) (fun c => ?_)
      · have g14 := g13.2.1 c
        refine v_aload_n (i := 1) C dX11_fit_42 rfl rfl ?_
        refine v_iload_n (i := 2) C dX11_fit_43 rfl rfl ?_
        refine v_callV (q := qX11_sheetOf) (k := 0) (As := [vi x1]) (S := []) C co_yX11_sheetOf ml_RX11_262 im_yX11_sheetOf se_yX11_sheetOf ini_RX11 rfl rfl hq_X11_sheetOf (by decide) (Nat.le_of_ble_eq_true rfl) rfl dX11_fit_44 (Con.mono g14 (fun rr M16 hr => ?_) (Nat.le_refl _))
        obtain ⟨o17, rfl, g18⟩ := hr
        show Aj E l z (44 + 3) [(6, vi y12), (0, vr 0), (1, vi x1), (2, vi x2), (3, vi x3), (4, vi x4), (5, vi x5)] [vo o17] M16
        refine v_astore (L' := [(7, vo o17), (6, vi y12), (0, vr 0), (1, vi x1), (2, vi x2), (3, vi x3), (4, vi x4), (5, vi x5)]) C dX11_fit_47 (by decide) rfl ?_
        refine v_aload (i := 0) C dX11_fit_49 rfl ?_
        refine v_ifnull (tgt := 68) C dX11_fit_51 (by decide) (fun c => ?_) (fun k19 c => ?_)
        · have g20 := g18.1 c
          subst c
          refine v_bipush C dX11_fit_68 (by decide) ?_
          exact v_iret C r dX11_fit_70 g20
        · have g21 := g18.2 k19 c
          subst c
          refine v_aload (i := 0) C dX11_fit_54 rfl ?_
          refine v_iload_n (i := 5) C dX11_fit_56 rfl rfl ?_
          refine v_iload (i := 6) C dX11_fit_57 rfl ?_
          refine v_iconst C dX11_fit_59 ?_
          refine v_ldc (x := 999999) C cs_RX11_93 (by decide) dX11_fit_60 ?_
          refine v_callV (q := qX8_allWithin) (k := k19) (As := [vi x3, vi x4, vi 1, vi 999999]) (S := []) C co_yX8_allWithin ml_RX11_267 im_yX8_allWithin se_yX8_allWithin ini_RX8 g21.1 rfl hq_X8_allWithin (by decide) (Nat.le_of_ble_eq_true rfl) rfl dX11_fit_62 (Con.mono g21.2 (fun rr M22 hr => ?_) (Nat.le_refl _))
          obtain ⟨y23, rfl, g24⟩ := hr
          show Aj E l z (62 + 3) [(7, vr k19), (6, vi y12), (0, vr 0), (1, vi x1), (2, vi x2), (3, vi x3), (4, vi x4), (5, vi x5)] [vi y23] M22
          refine v_if_ne (tgt := 71) C g24.1 dX11_fit_65 (by decide) (fun c => ?_) (fun c => ?_)
          · have g25 := g24.2.1 c
            refine v_aload (i := 0) C dX11_fit_71 rfl ?_
            refine v_iload_n (i := 5) C dX11_fit_73 rfl rfl ?_
            refine v_iload (i := 6) C dX11_fit_74 rfl ?_
            refine v_callV (q := qX8_commonOf) (k := k19) (As := [vi x3, vi x4]) (S := []) C co_yX8_commonOf ml_RX11_275 im_yX8_commonOf se_yX8_commonOf ini_RX8 g25.1 rfl hq_X8_commonOf (by decide) (Nat.le_of_ble_eq_true rfl) rfl dX11_fit_76 (Con.mono g25.2 (fun rr M27 hr => ?_) (Nat.le_refl _))
            obtain ⟨y28, rfl, g29⟩ := hr
            show Aj E l z (76 + 3) [(7, vr k19), (6, vi y12), (0, vr 0), (1, vi x1), (2, vi x2), (3, vi x3), (4, vi x4), (5, vi x5)] [vj y28] M27
            refine v_lstore (L' := [(8, vj y28), (7, vr k19), (6, vi y12), (0, vr 0), (1, vi x1), (2, vi x2), (3, vi x3), (4, vi x4), (5, vi x5)]) C dX11_fit_79 (by decide) rfl ?_
            refine v_iload (i := 8) C dX11_fit_81 rfl ?_
            refine v_if_ne (tgt := 94) C g29.1 dX11_fit_83 (by decide) (fun c => ?_) (fun c => ?_)
            · have g30 := g29.2.1 c
              refine v_lload (i := 0) C dX11_fit_94 rfl ?_
              refine v_callS (q := qX11_bestFit) (As := [vj y28]) (S := []) C co_yX11_bestFit ml_RX11_282 st_yX11_bestFit ini_RX11 hq_X11_bestFit (by decide) (Nat.le_of_ble_eq_true rfl) rfl dX11_fit_96 (Con.mono g30 (fun rr M32 hr => ?_) (Nat.le_refl _))
              obtain ⟨y33, rfl, g34⟩ := hr
              show Aj E l z (96 + 3) [(8, vj y28), (7, vr k19), (6, vi y12), (0, vr 0), (1, vi x1), (2, vi x2), (3, vi x3), (4, vi x4), (5, vi x5)] [vi y33] M32
              exact v_sub [] rfl (SX11_fit_99 C r g34)
            · have g31 := g29.2.2 c
              refine v_lload (i := 0) C dX11_fit_86 rfl ?_
              refine v_callS (q := qX11_howManyFit) (As := [vj y28]) (S := []) C co_yX11_howManyFit ml_RX11_278 st_yX11_howManyFit ini_RX11 hq_X11_howManyFit (by decide) (Nat.le_of_ble_eq_true rfl) rfl dX11_fit_88 (Con.mono g31 (fun rr M35 hr => ?_) (Nat.le_refl _))
              obtain ⟨y36, rfl, g37⟩ := hr
              show Aj E l z (88 + 3) [(8, vj y28), (7, vr k19), (6, vi y12), (0, vr 0), (1, vi x1), (2, vi x2), (3, vi x3), (4, vi x4), (5, vi x5)] [vi y36] M35
              refine v_goto C dX11_fit_91 (tgt := 99) (by decide) ?_
              exact v_sub [] rfl (SX11_fit_99 C r g37)
          · have g26 := g24.2.2 c
            refine v_bipush C dX11_fit_68 (by decide) ?_
            exact v_iret C r dX11_fit_70 g26
      · have g15 := g13.2.2 c
        refine v_iload (i := 0) C dX11_fit_39 rfl ?_
        exact v_iret C r dX11_fit_41 g15
    · have g10 := g8.2.2 c
      refine v_iconst C dX11_fit_21 ?_
      exact v_iret C r dX11_fit_22 g10
theorem RX11_fit {E : FX} {l : Launch} {D : Nat} {post : Option AV → MM → Prop} {M : MM} {x1 : Int} {x2 : Int} {x3 : Int} {x4 : Int} {x5 : Int} (h0 : VX11_fit_0 E l D post M x1 x2 x3 x4 x5) : Con E l (D + 1) qX11_fit [vr 0, vi x1, vi x2, vi x3, vi x4, vi x5] M post := by
  refine con_of (by decide +kernel) (Nat.le_of_ble_eq_true rfl) (fun z C r => ?_)
  exact v_sub [0, 1, 2, 3, 4, 5] rfl (SX11_fit_0 C r h0)
def VX11_film_0 (E : FX) (l : Launch) (D : Nat) (post : Option AV → MM → Prop) (J41 : MM → Int → Int → Option Nat → Int → Prop) (M : MM) (x1 : Int) (x2 : Int) (x3 : Int) : Prop :=
  ∀ y1 : Int, y1 = M 5 3 → (Con E l D qX11_refusal [vr 0, vi x1, vi x2, vi x3, vi y1] M (fun r M3 => ∃ y4 : Int, r = some (vi y4) ∧ (R32 y4 ∧ ((0 ≤ y4 → Con E l D qX11_sheetOf [vr 0, vi x1] M3 (fun r M8 => ∃ o9 : Option Nat, r = some (vo o9) ∧ (J41 M8 x3 y1 o9 0))) ∧ (¬ 0 ≤ y4 → post (some (vi y4)) M3)))))
set_option maxRecDepth 20000 in
theorem SX11_film_0 {E : FX} {l : Launch} {D : Nat} {post : Option AV → MM → Prop} {z : RT} {J41 : MM → Int → Int → Option Nat → Int → Prop} (C : Cx E z D RX11 cX11_film 8) (r : Rt E z (some .int) post) (hJ41 : ∀ (M : MM) (x3 : Int) (x4 : Int) (x6 : Option Nat) (x7 : Int), J41 M x3 x4 x6 x7 → Aj E l z 41 [(0, vr 0), (3, vi x3), (4, vi x4), (6, vo x6), (7, vi x7)] [] M) {M : MM} {x1 : Int} {x2 : Int} {x3 : Int} (h : VX11_film_0 E l D post J41 M x1 x2 x3) : Aj E l z 0 [(0, vr 0), (1, vi x1), (2, vi x2), (3, vi x3)] [] M := by
  unfold VX11_film_0 at h
  refine v_aload_n (i := 0) C dX11_film_0 rfl rfl ?_
  refine v_getf (k := 0) C fl_RX11_10 rfl rfl dX11_film_1 ?_
  show Aj E l z (1 + 3) [(0, vr 0), (1, vi x1), (2, vi x2), (3, vi x3)] [vr 1] M
  refine v_getf (k := 1) C fl_RX11_84 rfl rfl dX11_film_4 ?_
  show Aj E l z (4 + 3) [(0, vr 0), (1, vi x1), (2, vi x2), (3, vi x3)] [vr 5] M
  refine v_getf (k := 5) C fl_RX11_115 rfl rfl dX11_film_7 ?_
  show Aj E l z (7 + 3) [(0, vr 0), (1, vi x1), (2, vi x2), (3, vi x3)] [vi (M 5 3)] M
  obtain ⟨y1, hy1⟩ : ∃ y : Int, y = M 5 3 := ⟨_, rfl⟩
  have g2 := h y1 hy1
  refine v_eqi hy1 ?_
  refine v_istore (L' := [(4, vi y1), (0, vr 0), (1, vi x1), (2, vi x2), (3, vi x3)]) C dX11_film_10 (by decide) rfl ?_
  refine v_aload_n (i := 1) C dX11_film_12 rfl rfl ?_
  refine v_iload_n (i := 2) C dX11_film_13 rfl rfl ?_
  refine v_iload_n (i := 3) C dX11_film_14 rfl rfl ?_
  refine v_iload_n (i := 4) C dX11_film_15 rfl rfl ?_
  refine v_iload (i := 0) C dX11_film_16 rfl ?_
  refine v_callV (q := qX11_refusal) (k := 0) (As := [vi x1, vi x2, vi x3, vi y1]) (S := []) C co_yX11_refusal ml_RX11_259 im_yX11_refusal se_yX11_refusal ini_RX11 rfl rfl hq_X11_refusal (by decide) (Nat.le_of_ble_eq_true rfl) rfl dX11_film_18 (Con.mono g2 (fun rr M3 hr => ?_) (Nat.le_refl _))
  obtain ⟨y4, rfl, g5⟩ := hr
  show Aj E l z (18 + 3) [(4, vi y1), (0, vr 0), (1, vi x1), (2, vi x2), (3, vi x3)] [vi y4] M3
  refine v_istore (L' := [(5, vi y4), (4, vi y1), (0, vr 0), (1, vi x1), (2, vi x2), (3, vi x3)]) C dX11_film_21 (by decide) rfl ?_
  refine v_iload (i := 0) C dX11_film_23 rfl ?_
  refine v_if_ge (tgt := 31) C g5.1 dX11_film_25 (by decide) (fun c => ?_) (fun c => ?_)
  · have g6 := g5.2.1 c
    refine v_aload_n (i := 2) C dX11_film_31 rfl rfl ?_
    refine v_iload_n (i := 3) C dX11_film_32 rfl rfl ?_
    refine v_callV (q := qX11_sheetOf) (k := 0) (As := [vi x1]) (S := []) C co_yX11_sheetOf ml_RX11_262 im_yX11_sheetOf se_yX11_sheetOf ini_RX11 rfl rfl hq_X11_sheetOf (by decide) (Nat.le_of_ble_eq_true rfl) rfl dX11_film_33 (Con.mono g6 (fun rr M8 hr => ?_) (Nat.le_refl _))
    obtain ⟨o9, rfl, g10⟩ := hr
    show Aj E l z (33 + 3) [(5, vi y4), (4, vi y1), (0, vr 0), (1, vi x1), (2, vi x2), (3, vi x3)] [vo o9] M8
    refine v_astore (L' := [(6, vo o9), (5, vi y4), (4, vi y1), (0, vr 0), (1, vi x1), (2, vi x2), (3, vi x3)]) C dX11_film_36 (by decide) rfl ?_
    refine v_iconst C dX11_film_38 ?_
    refine v_istore (L' := [(7, vi 0), (6, vo o9), (5, vi y4), (4, vi y1), (0, vr 0), (1, vi x1), (2, vi x2), (3, vi x3)]) C dX11_film_39 (by decide) rfl ?_
    exact v_sub [4, 7, 3, 1, 0] rfl (hJ41 _ _ _ _ _ g10)
  · have g7 := g5.2.2 c
    refine v_iload (i := 0) C dX11_film_28 rfl ?_
    exact v_iret C r dX11_film_30 g7
def VX11_film_84 (E : FX) (l : Launch) (D : Nat) (post : Option AV → MM → Prop) (J41 : MM → Int → Int → Option Nat → Int → Prop) (M : MM) (x4 : Int) : Prop :=
  post (some (vi x4)) M
set_option maxRecDepth 20000 in
theorem SX11_film_84 {E : FX} {l : Launch} {D : Nat} {post : Option AV → MM → Prop} {z : RT} {J41 : MM → Int → Int → Option Nat → Int → Prop} (C : Cx E z D RX11 cX11_film 8) (r : Rt E z (some .int) post) (hJ41 : ∀ (M : MM) (x3 : Int) (x4 : Int) (x6 : Option Nat) (x7 : Int), J41 M x3 x4 x6 x7 → Aj E l z 41 [(0, vr 0), (3, vi x3), (4, vi x4), (6, vo x6), (7, vi x7)] [] M) {M : MM} {x4 : Int} (h : VX11_film_84 E l D post J41 M x4) : Aj E l z 84 [(4, vi x4)] [] M := by
  unfold VX11_film_84 at h
  refine v_iload (i := 0) C dX11_film_84 rfl ?_
  exact v_iret C r dX11_film_86 h
def VX11_film_41 (E : FX) (l : Launch) (D : Nat) (post : Option AV → MM → Prop) (J41 : MM → Int → Int → Option Nat → Int → Prop) (M : MM) (x3 : Int) (x4 : Int) (x6 : Option Nat) (x7 : Int) : Prop :=
  R32 x7 ∧ (R32 x4 ∧ ((x4 ≤ x7 → post (some (vi x4)) M) ∧ (¬ x4 ≤ x7 → (x6 = none → post (some (vi x4)) M) ∧ (∀ k13 : Nat, x6 = some k13 → Con E l D qX7_at [vr 7, vi x7] M (fun r M16 => ∃ y17 : Int, r = some (vi y17) ∧ (R32 y17 ∧ (kd k13 = (3, 6) ∧ (Con E l D qX8_write [vr k13, vi (x3 + x7), vj y17] M16 (fun r M19 => r = none ∧ (∀ y21 : Int, y21 = x7 + 1 → (J41 M19 x3 x4 (some k13) y21)))))))))))
set_option maxRecDepth 20000 in
theorem SX11_film_41 {E : FX} {l : Launch} {D : Nat} {post : Option AV → MM → Prop} {z : RT} {J41 : MM → Int → Int → Option Nat → Int → Prop} (C : Cx E z D RX11 cX11_film 8) (r : Rt E z (some .int) post) (hJ41 : ∀ (M : MM) (x3 : Int) (x4 : Int) (x6 : Option Nat) (x7 : Int), J41 M x3 x4 x6 x7 → Aj E l z 41 [(0, vr 0), (3, vi x3), (4, vi x4), (6, vo x6), (7, vi x7)] [] M) {M : MM} {x3 : Int} {x4 : Int} {x6 : Option Nat} {x7 : Int} (h : VX11_film_41 E l D post J41 M x3 x4 x6 x7) : Aj E l z 41 [(0, vr 0), (3, vi x3), (4, vi x4), (6, vo x6), (7, vi x7)] [] M := by
  unfold VX11_film_41 at h
  refine v_iload (i := 4) C dX11_film_41 rfl ?_
  refine v_iload (i := 2) C dX11_film_43 rfl ?_
  refine v_icmp_ge (tgt := 84) C h.1 h.2.1 dX11_film_45 (by decide) (fun c => ?_) (fun c => ?_)
  · have g11 := h.2.2.1 c
    refine v_iload (i := 2) C dX11_film_84 rfl ?_
    exact v_iret C r dX11_film_86 g11
  · have g12 := h.2.2.2 c
    refine v_aload (i := 3) C dX11_film_48 rfl ?_
    refine v_ifnull (tgt := 84) C dX11_film_50 (by decide) (fun c => ?_) (fun k13 c => ?_)
    · have g14 := g12.1 c
      subst c
      refine v_iload (i := 2) C dX11_film_84 rfl ?_
      exact v_iret C r dX11_film_86 g14
    · have g15 := g12.2 k13 c
      subst c
      refine v_aload (i := 3) C dX11_film_53 rfl ?_
      refine v_iload_n (i := 1) C dX11_film_55 rfl rfl ?_
      refine v_iload (i := 4) C dX11_film_56 rfl ?_
      refine v_iadd C dX11_film_58 ?_
      refine v_aload_n (i := 0) C dX11_film_59 rfl rfl ?_
      refine v_getf (k := 0) C fl_RX11_10 rfl rfl dX11_film_60 ?_
      show Aj E l z (60 + 3) [(0, vr 0), (3, vi x3), (4, vi x4), (6, vr k13), (7, vi x7)] [vr 1, vi (x3 + x7), vr k13] M
      refine v_getf (k := 1) C fl_RX11_84 rfl rfl dX11_film_63 ?_
      show Aj E l z (63 + 3) [(0, vr 0), (3, vi x3), (4, vi x4), (6, vr k13), (7, vi x7)] [vr 5, vi (x3 + x7), vr k13] M
      refine v_getf (k := 5) C fl_RX11_128 rfl rfl dX11_film_66 ?_
      show Aj E l z (66 + 3) [(0, vr 0), (3, vi x3), (4, vi x4), (6, vr k13), (7, vi x7)] [vr 7, vi (x3 + x7), vr k13] M
      refine v_iload (i := 4) C dX11_film_69 rfl ?_
      refine v_callS (q := qX7_at) (As := [vr 7, vi x7]) (S := [vi (x3 + x7), vr k13]) C co_yX7_at ml_RX11_61 st_yX7_at ini_RX7 hq_X7_at (by decide) (Nat.le_of_ble_eq_true rfl) rfl dX11_film_71 (Con.mono g15 (fun rr M16 hr => ?_) (Nat.le_refl _))
      obtain ⟨y17, rfl, g18⟩ := hr
      show Aj E l z (71 + 3) [(0, vr 0), (3, vi x3), (4, vi x4), (6, vr k13), (7, vi x7)] [vi y17, vi (x3 + x7), vr k13] M16
      refine v_i2l C g18.1 dX11_film_74 ?_
      refine v_callV (q := qX8_write) (k := k13) (As := [vi (x3 + x7), vj y17]) (S := []) C co_yX8_write ml_RX11_285 im_yX8_write se_yX8_write ini_RX8 g18.2.1 rfl hq_X8_write (by decide) (Nat.le_of_ble_eq_true rfl) rfl dX11_film_75 (Con.mono g18.2.2 (fun rr M19 hr => ?_) (Nat.le_refl _))
      obtain ⟨rfl, g20⟩ := hr
      show Aj E l z (75 + 3) [(0, vr 0), (3, vi x3), (4, vi x4), (6, vr k13), (7, vi x7)] [] M19
      obtain ⟨y21, hy21⟩ : ∃ y : Int, y = x7 + 1 := ⟨_, rfl⟩
      have g22 := g20 y21 hy21
      refine v_iinc (i := 4) (L' := [(7, vi y21), (0, vr 0), (3, vi x3), (4, vi x4), (6, vr k13)]) C dX11_film_78 rfl (by decide) hy21 rfl ?_
      refine v_goto C dX11_film_81 (tgt := 41) (by decide) ?_
      exact v_sub [1, 2, 3, 4, 0] rfl (hJ41 _ _ _ _ _ g22)
theorem RX11_film {E : FX} {l : Launch} {D : Nat} {post : Option AV → MM → Prop} (I41 : MM → Int → Int → Option Nat → Int → Prop) (m41 : MM → Int → Int → Option Nat → Int → Nat) {M : MM} {x1 : Int} {x2 : Int} {x3 : Int} (h0 : VX11_film_0 E l D post I41 M x1 x2 x3) (h41I : ∀ (M : MM) (x3 : Int) (x4 : Int) (x6 : Option Nat) (x7 : Int), I41 M x3 x4 x6 x7 → VX11_film_41 E l D post (fun M' x3' x4' x6' x7' => I41 M' x3' x4' x6' x7' ∧ m41 M' x3' x4' x6' x7' < m41 M x3 x4 x6 x7) M x3 x4 x6 x7) : Con E l (D + 1) qX11_film [vr 0, vi x1, vi x2, vi x3] M post := by
  refine con_of (by decide +kernel) (Nat.le_of_ble_eq_true rfl) (fun z C r => ?_)
  have all : ∀ n : Nat, (∀ (M : MM) (x3 : Int) (x4 : Int) (x6 : Option Nat) (x7 : Int), I41 M x3 x4 x6 x7 → m41 M x3 x4 x6 x7 < n → Aj E l z 41 [(0, vr 0), (3, vi x3), (4, vi x4), (6, vo x6), (7, vi x7)] [] M) := by
    intro n
    induction n with
    | zero => exact fun _ _ _ _ _ _ hm => absurd hm (Nat.not_lt_zero _)
    | succ n ih => exact fun M x3 x4 x6 x7 hi hm => SX11_film_41 C r (fun M' x3' x4' x6' x7' hj => ih M' x3' x4' x6' x7' hj.1 (by omega)) (h41I M x3 x4 x6 x7 hi)
  exact v_sub [0, 1, 2, 3] rfl (SX11_film_0 C r (fun M' x3' x4' x6' x7' hj => (all _) M' x3' x4' x6' x7' hj (Nat.lt_succ_self _)) h0)
def VX11_sheet_27 (E : FX) (l : Launch) (D : Nat) (post : Option AV → MM → Prop) (M : MM) : Prop :=
  post (some (vi (-1))) M
set_option maxRecDepth 20000 in
theorem SX11_sheet_27 {E : FX} {l : Launch} {D : Nat} {post : Option AV → MM → Prop} {z : RT} (C : Cx E z D RX11 cX11_sheet 5) (r : Rt E z (some .int) post) {M : MM} (h : VX11_sheet_27 E l D post M) : Aj E l z 27 [] [] M := by
  unfold VX11_sheet_27 at h
  refine v_iconst C dX11_sheet_27 ?_
  exact v_iret C r dX11_sheet_28 h
def VX11_sheet_0 (E : FX) (l : Launch) (D : Nat) (post : Option AV → MM → Prop) (M : MM) (x1 : Int) (x2 : Int) (x3 : Int) : Prop :=
  Con E l D qX11_sheetOf [vr 0, vi x1] M (fun r M1 => ∃ o2 : Option Nat, r = some (vo o2) ∧ ((o2 = none → post (some (vi (-1))) M1) ∧ (∀ k4 : Nat, o2 = some k4 → Con E l D qX11_within [vi x2, vi 0, vi 2] M1 (fun r M7 => ∃ y8 : Int, r = some (vi y8) ∧ (R32 y8 ∧ ((y8 = 0 → post (some (vi (-1))) M7) ∧ (¬ y8 = 0 → R32 x3 ∧ ((x3 ≤ 16 → R32 x3 ∧ ((0 ≤ x3 → kd k4 = (3, 6) ∧ (Con E l D qX8_begin [vr k4, vi x2, vi x3] M7 (fun r M16 => r = none ∧ (post (some (vi x3)) M16)))) ∧ (¬ 0 ≤ x3 → post (some (vi (-14))) M7))) ∧ (¬ x3 ≤ 16 → post (some (vi (-1))) M7)))))))))
set_option maxRecDepth 20000 in
theorem SX11_sheet_0 {E : FX} {l : Launch} {D : Nat} {post : Option AV → MM → Prop} {z : RT} (C : Cx E z D RX11 cX11_sheet 5) (r : Rt E z (some .int) post) {M : MM} {x1 : Int} {x2 : Int} {x3 : Int} (h : VX11_sheet_0 E l D post M x1 x2 x3) : Aj E l z 0 [(0, vr 0), (1, vi x1), (2, vi x2), (3, vi x3)] [] M := by
  unfold VX11_sheet_0 at h
  refine v_aload_n (i := 0) C dX11_sheet_0 rfl rfl ?_
  refine v_iload_n (i := 1) C dX11_sheet_1 rfl rfl ?_
  refine v_callV (q := qX11_sheetOf) (k := 0) (As := [vi x1]) (S := []) C co_yX11_sheetOf ml_RX11_262 im_yX11_sheetOf se_yX11_sheetOf ini_RX11 rfl rfl hq_X11_sheetOf (by decide) (Nat.le_of_ble_eq_true rfl) rfl dX11_sheet_2 (Con.mono h (fun rr M1 hr => ?_) (Nat.le_refl _))
  obtain ⟨o2, rfl, g3⟩ := hr
  show Aj E l z (2 + 3) [(0, vr 0), (1, vi x1), (2, vi x2), (3, vi x3)] [vo o2] M1
  refine v_astore (L' := [(4, vo o2), (0, vr 0), (1, vi x1), (2, vi x2), (3, vi x3)]) C dX11_sheet_5 (by decide) rfl ?_
  refine v_aload (i := 0) C dX11_sheet_7 rfl ?_
  refine v_ifnull (tgt := 27) C dX11_sheet_9 (by decide) (fun c => ?_) (fun k4 c => ?_)
  · have g5 := g3.1 c
    subst c
    refine v_iconst C dX11_sheet_27 ?_
    exact v_iret C r dX11_sheet_28 g5
  · have g6 := g3.2 k4 c
    subst c
    refine v_iload_n (i := 3) C dX11_sheet_12 rfl rfl ?_
    refine v_iconst C dX11_sheet_13 ?_
    refine v_iconst C dX11_sheet_14 ?_
    refine v_callS (q := qX11_within) (As := [vi x2, vi 0, vi 2]) (S := []) C co_yX11_within ml_RX11_47 st_yX11_within ini_RX11 hq_X11_within (by decide) (Nat.le_of_ble_eq_true rfl) rfl dX11_sheet_15 (Con.mono g6 (fun rr M7 hr => ?_) (Nat.le_refl _))
    obtain ⟨y8, rfl, g9⟩ := hr
    show Aj E l z (15 + 3) [(4, vr k4), (0, vr 0), (1, vi x1), (2, vi x2), (3, vi x3)] [vi y8] M7
    refine v_if_eq (tgt := 27) C g9.1 dX11_sheet_18 (by decide) (fun c => ?_) (fun c => ?_)
    · have g10 := g9.2.1 c
      refine v_iconst C dX11_sheet_27 ?_
      exact v_iret C r dX11_sheet_28 g10
    · have g11 := g9.2.2 c
      refine v_iload_n (i := 4) C dX11_sheet_21 rfl rfl ?_
      refine v_bipush C dX11_sheet_22 (by decide) ?_
      refine v_icmp_le (tgt := 29) C g11.1 (by decide) dX11_sheet_24 (by decide) (fun c => ?_) (fun c => ?_)
      · have g12 := g11.2.1 c
        refine v_iload_n (i := 4) C dX11_sheet_29 rfl rfl ?_
        refine v_if_ge (tgt := 36) C g12.1 dX11_sheet_30 (by decide) (fun c => ?_) (fun c => ?_)
        · have g14 := g12.2.1 c
          refine v_aload (i := 0) C dX11_sheet_36 rfl ?_
          refine v_iload_n (i := 3) C dX11_sheet_38 rfl rfl ?_
          refine v_iload_n (i := 4) C dX11_sheet_39 rfl rfl ?_
          refine v_callV (q := qX8_begin) (k := k4) (As := [vi x2, vi x3]) (S := []) C co_yX8_begin ml_RX11_289 im_yX8_begin se_yX8_begin ini_RX8 g14.1 rfl hq_X8_begin (by decide) (Nat.le_of_ble_eq_true rfl) rfl dX11_sheet_40 (Con.mono g14.2 (fun rr M16 hr => ?_) (Nat.le_refl _))
          obtain ⟨rfl, g17⟩ := hr
          show Aj E l z (40 + 3) [(4, vr k4), (0, vr 0), (1, vi x1), (2, vi x2), (3, vi x3)] [] M16
          refine v_iload_n (i := 4) C dX11_sheet_43 rfl rfl ?_
          exact v_iret C r dX11_sheet_44 g17
        · have g15 := g12.2.2 c
          refine v_bipush C dX11_sheet_33 (by decide) ?_
          exact v_iret C r dX11_sheet_35 g15
      · have g13 := g11.2.2 c
        refine v_iconst C dX11_sheet_27 ?_
        exact v_iret C r dX11_sheet_28 g13
theorem RX11_sheet {E : FX} {l : Launch} {D : Nat} {post : Option AV → MM → Prop} {M : MM} {x1 : Int} {x2 : Int} {x3 : Int} (h0 : VX11_sheet_0 E l D post M x1 x2 x3) : Con E l (D + 1) qX11_sheet [vr 0, vi x1, vi x2, vi x3] M post := by
  refine con_of (by decide +kernel) (Nat.le_of_ble_eq_true rfl) (fun z C r => ?_)
  exact v_sub [0, 1, 2, 3] rfl (SX11_sheet_0 C r h0)
def VX11_drop_0 (E : FX) (l : Launch) (D : Nat) (post : Option AV → MM → Prop) (M : MM) (x1 : Int) : Prop :=
  Con E l D qX11_sheetOf [vr 0, vi x1] M (fun r M1 => ∃ o2 : Option Nat, r = some (vo o2) ∧ ((o2 = none → post (some (vi (-1))) M1) ∧ (∀ k4 : Nat, o2 = some k4 → kd k4 = (3, 6) ∧ ((ft k4)[1]? = some 0 ∧ (R32 (M1 k4 1) ∧ ((¬ M1 k4 1 = 0 → kd k4 = (3, 6) ∧ ((ft k4)[1]? = some 0 ∧ (∀ M9 : MM, M9 = up M1 k4 1 0 → (kd k4 = (3, 6) ∧ ((ft k4)[3]? = some 0 ∧ (post (some (vi (M9 k4 3))) M9)))))) ∧ (M1 k4 1 = 0 → post (some (vi (-11))) M1)))))))
set_option maxRecDepth 20000 in
theorem SX11_drop_0 {E : FX} {l : Launch} {D : Nat} {post : Option AV → MM → Prop} {z : RT} (C : Cx E z D RX11 cX11_drop 3) (r : Rt E z (some .int) post) {M : MM} {x1 : Int} (h : VX11_drop_0 E l D post M x1) : Aj E l z 0 [(0, vr 0), (1, vi x1)] [] M := by
  unfold VX11_drop_0 at h
  refine v_aload_n (i := 0) C dX11_drop_0 rfl rfl ?_
  refine v_iload_n (i := 1) C dX11_drop_1 rfl rfl ?_
  refine v_callV (q := qX11_sheetOf) (k := 0) (As := [vi x1]) (S := []) C co_yX11_sheetOf ml_RX11_262 im_yX11_sheetOf se_yX11_sheetOf ini_RX11 rfl rfl hq_X11_sheetOf (by decide) (Nat.le_of_ble_eq_true rfl) rfl dX11_drop_2 (Con.mono h (fun rr M1 hr => ?_) (Nat.le_refl _))
  obtain ⟨o2, rfl, g3⟩ := hr
  show Aj E l z (2 + 3) [(0, vr 0), (1, vi x1)] [vo o2] M1
  refine v_astore_n (L' := [(2, vo o2), (0, vr 0), (1, vi x1)]) C dX11_drop_5 rfl (by decide) rfl ?_
  refine v_aload_n (i := 0) C dX11_drop_6 rfl rfl ?_
  refine v_ifnonnull (tgt := 12) C dX11_drop_7 (by decide) (fun k4 c => ?_) (fun c => ?_)
  · have g6 := g3.2 k4 c
    subst c
    refine v_aload_n (i := 0) C dX11_drop_12 rfl rfl ?_
    refine v_getf (k := k4) C fl_RX11_293 g6.1 g6.2.1 dX11_drop_13 ?_
    show Aj E l z (13 + 3) [(2, vr k4), (0, vr 0), (1, vi x1)] [vi (M1 k4 1)] M1
    refine v_if_ne (tgt := 22) C g6.2.2.1 dX11_drop_16 (by decide) (fun c => ?_) (fun c => ?_)
    · have g7 := g6.2.2.2.1 c
      refine v_aload_n (i := 0) C dX11_drop_22 rfl rfl ?_
      refine v_iconst C dX11_drop_23 ?_
      refine v_putf (k := k4) (x := 0) (t := 0) C fp_RX11_293 g7.1 g7.2.1 (by decide) (by simp [fv, up]) rfl rfl dX11_drop_24 ?_
      obtain ⟨M9, hM9⟩ : ∃ X : MM, X = up M1 k4 1 0 := ⟨_, rfl⟩
      refine v_eqM hM9 ?_
      have g10 := g7.2.2 M9 hM9
      refine v_aload_n (i := 0) C dX11_drop_27 rfl rfl ?_
      refine v_getf (k := k4) C fl_RX11_296 g10.1 g10.2.1 dX11_drop_28 ?_
      show Aj E l z (28 + 3) [(2, vr k4), (0, vr 0), (1, vi x1)] [vi (M9 k4 3)] M9
      exact v_iret C r dX11_drop_31 g10.2.2
    · have g8 := g6.2.2.2.2 c
      refine v_bipush C dX11_drop_19 (by decide) ?_
      exact v_iret C r dX11_drop_21 g8
  · have g5 := g3.1 c
    subst c
    refine v_iconst C dX11_drop_10 ?_
    exact v_iret C r dX11_drop_11 g5
theorem RX11_drop {E : FX} {l : Launch} {D : Nat} {post : Option AV → MM → Prop} {M : MM} {x1 : Int} (h0 : VX11_drop_0 E l D post M x1) : Con E l (D + 1) qX11_drop [vr 0, vi x1] M post := by
  refine con_of (by decide +kernel) (Nat.le_of_ble_eq_true rfl) (fun z C r => ?_)
  exact v_sub [0, 1] rfl (SX11_drop_0 C r h0)
def VX11_item_38 (E : FX) (l : Launch) (D : Nat) (post : Option AV → MM → Prop) (M : MM) : Prop :=
  post (some (vi 1)) M
set_option maxRecDepth 20000 in
theorem SX11_item_38 {E : FX} {l : Launch} {D : Nat} {post : Option AV → MM → Prop} {z : RT} (C : Cx E z D RX11 cX11_item 8) (r : Rt E z (some .int) post) {M : MM} (h : VX11_item_38 E l D post M) : Aj E l z 38 [] [] M := by
  unfold VX11_item_38 at h
  refine v_iconst C dX11_item_38 ?_
  exact v_iret C r dX11_item_39 h
def VX11_item_0 (E : FX) (l : Launch) (D : Nat) (post : Option AV → MM → Prop) (M : MM) (x1 : Int) (x2 : Int) (x3 : Int) (x4 : Int) : Prop :=
  Con E l D qX11_refusal [vr 0, vi x1, vi x2, vi x3, vi 1] M (fun r M1 => ∃ y2 : Int, r = some (vi y2) ∧ (R32 y2 ∧ ((0 ≤ y2 → Con E l D qX11_sheetOf [vr 0, vi x1] M1 (fun r M6 => ∃ o7 : Option Nat, r = some (vo o7) ∧ ((o7 = none → post (some (vi 1)) M6) ∧ (∀ k9 : Nat, o7 = some k9 → kd k9 = (3, 6) ∧ (Con E l D qX8_write [vr k9, vi x3, vj x4] M6 (fun r M12 => r = none ∧ (VX11_item_38 E l D post M12 ))))))) ∧ (¬ 0 ≤ y2 → post (some (vi y2)) M1))))
set_option maxRecDepth 20000 in
theorem SX11_item_0 {E : FX} {l : Launch} {D : Nat} {post : Option AV → MM → Prop} {z : RT} (C : Cx E z D RX11 cX11_item 8) (r : Rt E z (some .int) post) {M : MM} {x1 : Int} {x2 : Int} {x3 : Int} {x4 : Int} (h : VX11_item_0 E l D post M x1 x2 x3 x4) : Aj E l z 0 [(0, vr 0), (1, vi x1), (2, vi x2), (3, vi x3), (4, vj x4)] [] M := by
  unfold VX11_item_0 at h
  refine v_aload_n (i := 0) C dX11_item_0 rfl rfl ?_
  refine v_iload_n (i := 1) C dX11_item_1 rfl rfl ?_
  refine v_iload_n (i := 2) C dX11_item_2 rfl rfl ?_
  refine v_iload_n (i := 3) C dX11_item_3 rfl rfl ?_
  refine v_iconst C dX11_item_4 ?_
  refine v_callV (q := qX11_refusal) (k := 0) (As := [vi x1, vi x2, vi x3, vi 1]) (S := []) C co_yX11_refusal ml_RX11_259 im_yX11_refusal se_yX11_refusal ini_RX11 rfl rfl hq_X11_refusal (by decide) (Nat.le_of_ble_eq_true rfl) rfl dX11_item_5 (Con.mono h (fun rr M1 hr => ?_) (Nat.le_refl _))
  obtain ⟨y2, rfl, g3⟩ := hr
  show Aj E l z (5 + 3) [(0, vr 0), (1, vi x1), (2, vi x2), (3, vi x3), (4, vj x4)] [vi y2] M1
  refine v_istore (L' := [(6, vi y2), (0, vr 0), (1, vi x1), (2, vi x2), (3, vi x3), (4, vj x4)]) C dX11_item_8 (by decide) rfl ?_
  refine v_iload (i := 0) C dX11_item_10 rfl ?_
  refine v_if_ge (tgt := 18) C g3.1 dX11_item_12 (by decide) (fun c => ?_) (fun c => ?_)
  · have g4 := g3.2.1 c
    refine v_aload_n (i := 1) C dX11_item_18 rfl rfl ?_
    refine v_iload_n (i := 2) C dX11_item_19 rfl rfl ?_
    refine v_callV (q := qX11_sheetOf) (k := 0) (As := [vi x1]) (S := []) C co_yX11_sheetOf ml_RX11_262 im_yX11_sheetOf se_yX11_sheetOf ini_RX11 rfl rfl hq_X11_sheetOf (by decide) (Nat.le_of_ble_eq_true rfl) rfl dX11_item_20 (Con.mono g4 (fun rr M6 hr => ?_) (Nat.le_refl _))
    obtain ⟨o7, rfl, g8⟩ := hr
    show Aj E l z (20 + 3) [(6, vi y2), (0, vr 0), (1, vi x1), (2, vi x2), (3, vi x3), (4, vj x4)] [vo o7] M6
    refine v_astore (L' := [(7, vo o7), (6, vi y2), (0, vr 0), (1, vi x1), (2, vi x2), (3, vi x3), (4, vj x4)]) C dX11_item_23 (by decide) rfl ?_
    refine v_aload (i := 0) C dX11_item_25 rfl ?_
    refine v_ifnull (tgt := 38) C dX11_item_27 (by decide) (fun c => ?_) (fun k9 c => ?_)
    · have g10 := g8.1 c
      subst c
      refine v_iconst C dX11_item_38 ?_
      exact v_iret C r dX11_item_39 g10
    · have g11 := g8.2 k9 c
      subst c
      refine v_aload (i := 0) C dX11_item_30 rfl ?_
      refine v_iload_n (i := 5) C dX11_item_32 rfl rfl ?_
      refine v_lload (i := 6) C dX11_item_33 rfl ?_
      refine v_callV (q := qX8_write) (k := k9) (As := [vi x3, vj x4]) (S := []) C co_yX8_write ml_RX11_285 im_yX8_write se_yX8_write ini_RX8 g11.1 rfl hq_X8_write (by decide) (Nat.le_of_ble_eq_true rfl) rfl dX11_item_35 (Con.mono g11.2 (fun rr M12 hr => ?_) (Nat.le_refl _))
      obtain ⟨rfl, g13⟩ := hr
      show Aj E l z (35 + 3) [(7, vr k9), (6, vi y2), (0, vr 0), (1, vi x1), (2, vi x2), (3, vi x3), (4, vj x4)] [] M12
      exact v_sub [] rfl (SX11_item_38 C r g13)
  · have g5 := g3.2.2 c
    refine v_iload (i := 0) C dX11_item_15 rfl ?_
    exact v_iret C r dX11_item_17 g5
theorem RX11_item {E : FX} {l : Launch} {D : Nat} {post : Option AV → MM → Prop} {M : MM} {x1 : Int} {x2 : Int} {x3 : Int} {x4 : Int} (h0 : VX11_item_0 E l D post M x1 x2 x3 x4) : Con E l (D + 1) qX11_item [vr 0, vi x1, vi x2, vi x3, vj x4] M post := by
  refine con_of (by decide +kernel) (Nat.le_of_ble_eq_true rfl) (fun z C r => ?_)
  exact v_sub [0, 1, 2, 3, 4] rfl (SX11_item_0 C r h0)
def VX11_copy_24 (E : FX) (l : Launch) (D : Nat) (post : Option AV → MM → Prop) (M : MM) : Prop :=
  post (some (vi (-1))) M
set_option maxRecDepth 20000 in
theorem SX11_copy_24 {E : FX} {l : Launch} {D : Nat} {post : Option AV → MM → Prop} {z : RT} (C : Cx E z D RX11 cX11_copy 8) (r : Rt E z (some .int) post) (hD : 1 ≤ D) {M : MM} (h : VX11_copy_24 E l D post M) : Aj E l z 24 [] [] M := by
  unfold VX11_copy_24 at h
  refine v_iconst C dX11_copy_24 ?_
  exact v_iret C r dX11_copy_25 h
def VX11_copy_42 (E : FX) (l : Launch) (D : Nat) (post : Option AV → MM → Prop) (M : MM) : Prop :=
  post (some (vi (-11))) M
set_option maxRecDepth 20000 in
theorem SX11_copy_42 {E : FX} {l : Launch} {D : Nat} {post : Option AV → MM → Prop} {z : RT} (C : Cx E z D RX11 cX11_copy 8) (r : Rt E z (some .int) post) (hD : 1 ≤ D) {M : MM} (h : VX11_copy_42 E l D post M) : Aj E l z 42 [] [] M := by
  unfold VX11_copy_42 at h
  refine v_bipush C dX11_copy_42 (by decide) ?_
  exact v_iret C r dX11_copy_44 h
def VX11_copy_84 (E : FX) (l : Launch) (D : Nat) (post : Option AV → MM → Prop) (M : MM) : Prop :=
  post (some (vi (-13))) M
set_option maxRecDepth 20000 in
theorem SX11_copy_84 {E : FX} {l : Launch} {D : Nat} {post : Option AV → MM → Prop} {z : RT} (C : Cx E z D RX11 cX11_copy 8) (r : Rt E z (some .int) post) (hD : 1 ≤ D) {M : MM} (h : VX11_copy_84 E l D post M) : Aj E l z 84 [] [] M := by
  unfold VX11_copy_84 at h
  refine v_bipush C dX11_copy_84 (by decide) ?_
  exact v_iret C r dX11_copy_86 h
def VX11_copy_0 (E : FX) (l : Launch) (D : Nat) (post : Option AV → MM → Prop) (M : MM) (x1 : Int) (x2 : Int) (x3 : Int) (x4 : Int) (x5 : Int) : Prop :=
  Con E l D qX11_sheetOf [vr 0, vi x1] M (fun r M1 => ∃ o2 : Option Nat, r = some (vo o2) ∧ (Con E l D qX11_sheetOf [vr 0, vi x3] M1 (fun r M4 => ∃ o5 : Option Nat, r = some (vo o5) ∧ ((o2 = none → post (some (vi (-1))) M4) ∧ (∀ k7 : Nat, o2 = some k7 → (o5 = none → post (some (vi (-1))) M4) ∧ (∀ k10 : Nat, o5 = some k10 → kd k7 = (3, 6) ∧ ((ft k7)[1]? = some 0 ∧ (R32 (M4 k7 1) ∧ ((M4 k7 1 = 0 → post (some (vi (-11))) M4) ∧ (¬ M4 k7 1 = 0 → kd k10 = (3, 6) ∧ ((ft k10)[1]? = some 0 ∧ (R32 (M4 k10 1) ∧ ((¬ M4 k10 1 = 0 → kd k7 = (3, 6) ∧ ((ft k7)[2]? = some 0 ∧ (kd k10 = (3, 6) ∧ ((ft k10)[2]? = some 0 ∧ (R32 (M4 k7 2) ∧ (R32 (M4 k10 2) ∧ ((M4 k7 2 = M4 k10 2 → kd k7 = (3, 6) ∧ (Con E l D qX8_spans [vr k7, vi x2, vi x5] M4 (fun r M19 => ∃ y20 : Int, r = some (vi y20) ∧ (R32 y20 ∧ ((y20 = 0 → post (some (vi (-13))) M19) ∧ (¬ y20 = 0 → kd k10 = (3, 6) ∧ (Con E l D qX8_spans [vr k10, vi x4, vi x5] M19 (fun r M24 => ∃ y25 : Int, r = some (vi y25) ∧ (R32 y25 ∧ ((¬ y25 = 0 → kd k7 = (3, 6) ∧ (∃ k29 : Nat, (ft k7)[0]? = some (k29 + 2) ∧ (kd k10 = (3, 6) ∧ (∃ k30 : Nat, (ft k10)[0]? = some (k30 + 2) ∧ (∃ k31 : Nat, kd k29 = (1, k31) ∧ (∃ k32 : Nat, kd k30 = (1, k32) ∧ (0 ≤ x2 ∧ (0 ≤ x4 ∧ (0 ≤ x5 ∧ (x2 + x5 ≤ (k31 : Int) ∧ (x4 + x5 ≤ (k32 : Int) ∧ (∀ M33 : MM, M33 = cpM M24 k29 (x2).toNat k30 (x4).toNat (x5).toNat → (post (some (vi x5)) M33))))))))))))) ∧ (y25 = 0 → post (some (vi (-13))) M24))))))))))) ∧ (¬ M4 k7 2 = M4 k10 2 → post (some (vi (-12))) M4)))))))) ∧ (M4 k10 1 = 0 → post (some (vi (-11))) M4))))))))))))))
set_option maxRecDepth 20000 in
theorem SX11_copy_0 {E : FX} {l : Launch} {D : Nat} {post : Option AV → MM → Prop} {z : RT} (C : Cx E z D RX11 cX11_copy 8) (r : Rt E z (some .int) post) (hD : 1 ≤ D) {M : MM} {x1 : Int} {x2 : Int} {x3 : Int} {x4 : Int} {x5 : Int} (h : VX11_copy_0 E l D post M x1 x2 x3 x4 x5) : Aj E l z 0 [(0, vr 0), (1, vi x1), (2, vi x2), (3, vi x3), (4, vi x4), (5, vi x5)] [] M := by
  unfold VX11_copy_0 at h
  refine v_aload_n (i := 0) C dX11_copy_0 rfl rfl ?_
  refine v_iload_n (i := 1) C dX11_copy_1 rfl rfl ?_
  refine v_callV (q := qX11_sheetOf) (k := 0) (As := [vi x1]) (S := []) C co_yX11_sheetOf ml_RX11_262 im_yX11_sheetOf se_yX11_sheetOf ini_RX11 rfl rfl hq_X11_sheetOf (by decide) (Nat.le_of_ble_eq_true rfl) rfl dX11_copy_2 (Con.mono h (fun rr M1 hr => ?_) (Nat.le_refl _))
  obtain ⟨o2, rfl, g3⟩ := hr
  show Aj E l z (2 + 3) [(0, vr 0), (1, vi x1), (2, vi x2), (3, vi x3), (4, vi x4), (5, vi x5)] [vo o2] M1
  refine v_astore (L' := [(6, vo o2), (0, vr 0), (1, vi x1), (2, vi x2), (3, vi x3), (4, vi x4), (5, vi x5)]) C dX11_copy_5 (by decide) rfl ?_
  refine v_aload_n (i := 1) C dX11_copy_7 rfl rfl ?_
  refine v_iload_n (i := 4) C dX11_copy_8 rfl rfl ?_
  refine v_callV (q := qX11_sheetOf) (k := 0) (As := [vi x3]) (S := []) C co_yX11_sheetOf ml_RX11_262 im_yX11_sheetOf se_yX11_sheetOf ini_RX11 rfl rfl hq_X11_sheetOf (by decide) (Nat.le_of_ble_eq_true rfl) rfl dX11_copy_9 (Con.mono g3 (fun rr M4 hr => ?_) (Nat.le_refl _))
  obtain ⟨o5, rfl, g6⟩ := hr
  show Aj E l z (9 + 3) [(6, vo o2), (0, vr 0), (1, vi x1), (2, vi x2), (3, vi x3), (4, vi x4), (5, vi x5)] [vo o5] M4
  refine v_astore (L' := [(7, vo o5), (6, vo o2), (0, vr 0), (1, vi x1), (2, vi x2), (3, vi x3), (4, vi x4), (5, vi x5)]) C dX11_copy_12 (by decide) rfl ?_
  refine v_aload (i := 1) C dX11_copy_14 rfl ?_
  refine v_ifnull (tgt := 24) C dX11_copy_16 (by decide) (fun c => ?_) (fun k7 c => ?_)
  · have g8 := g6.1 c
    subst c
    refine v_iconst C dX11_copy_24 ?_
    exact v_iret C r dX11_copy_25 g8
  · have g9 := g6.2 k7 c
    subst c
    refine v_aload (i := 0) C dX11_copy_19 rfl ?_
    refine v_ifnonnull (tgt := 26) C dX11_copy_21 (by decide) (fun k10 c => ?_) (fun c => ?_)
    · have g12 := g9.2 k10 c
      subst c
      refine v_aload (i := 1) C dX11_copy_26 rfl ?_
      refine v_getf (k := k7) C fl_RX11_293 g12.1 g12.2.1 dX11_copy_28 ?_
      show Aj E l z (28 + 3) [(7, vr k10), (6, vr k7), (0, vr 0), (1, vi x1), (2, vi x2), (3, vi x3), (4, vi x4), (5, vi x5)] [vi (M4 k7 1)] M4
      refine v_if_eq (tgt := 42) C g12.2.2.1 dX11_copy_31 (by decide) (fun c => ?_) (fun c => ?_)
      · have g13 := g12.2.2.2.1 c
        refine v_bipush C dX11_copy_42 (by decide) ?_
        exact v_iret C r dX11_copy_44 g13
      · have g14 := g12.2.2.2.2 c
        refine v_aload (i := 0) C dX11_copy_34 rfl ?_
        refine v_getf (k := k10) C fl_RX11_293 g14.1 g14.2.1 dX11_copy_36 ?_
        show Aj E l z (36 + 3) [(7, vr k10), (6, vr k7), (0, vr 0), (1, vi x1), (2, vi x2), (3, vi x3), (4, vi x4), (5, vi x5)] [vi (M4 k10 1)] M4
        refine v_if_ne (tgt := 45) C g14.2.2.1 dX11_copy_39 (by decide) (fun c => ?_) (fun c => ?_)
        · have g15 := g14.2.2.2.1 c
          refine v_aload (i := 1) C dX11_copy_45 rfl ?_
          refine v_getf (k := k7) C fl_RX11_297 g15.1 g15.2.1 dX11_copy_47 ?_
          show Aj E l z (47 + 3) [(7, vr k10), (6, vr k7), (0, vr 0), (1, vi x1), (2, vi x2), (3, vi x3), (4, vi x4), (5, vi x5)] [vi (M4 k7 2)] M4
          refine v_aload (i := 0) C dX11_copy_50 rfl ?_
          refine v_getf (k := k10) C fl_RX11_297 g15.2.2.1 g15.2.2.2.1 dX11_copy_52 ?_
          show Aj E l z (52 + 3) [(7, vr k10), (6, vr k7), (0, vr 0), (1, vi x1), (2, vi x2), (3, vi x3), (4, vi x4), (5, vi x5)] [vi (M4 k10 2), vi (M4 k7 2)] M4
          refine v_icmp_eq (tgt := 61) C g15.2.2.2.2.1 g15.2.2.2.2.2.1 dX11_copy_55 (by decide) (fun c => ?_) (fun c => ?_)
          · have g17 := g15.2.2.2.2.2.2.1 c
            refine v_aload (i := 1) C dX11_copy_61 rfl ?_
            refine v_iload_n (i := 4) C dX11_copy_63 rfl rfl ?_
            refine v_iload (i := 7) C dX11_copy_64 rfl ?_
            refine v_callV (q := qX8_spans) (k := k7) (As := [vi x2, vi x5]) (S := []) C co_yX8_spans ml_RX11_300 im_yX8_spans se_yX8_spans ini_RX8 g17.1 rfl hq_X8_spans (by decide) (Nat.le_of_ble_eq_true rfl) rfl dX11_copy_66 (Con.mono g17.2 (fun rr M19 hr => ?_) (Nat.le_refl _))
            obtain ⟨y20, rfl, g21⟩ := hr
            show Aj E l z (66 + 3) [(7, vr k10), (6, vr k7), (0, vr 0), (1, vi x1), (2, vi x2), (3, vi x3), (4, vi x4), (5, vi x5)] [vi y20] M19
            refine v_if_eq (tgt := 84) C g21.1 dX11_copy_69 (by decide) (fun c => ?_) (fun c => ?_)
            · have g22 := g21.2.1 c
              refine v_bipush C dX11_copy_84 (by decide) ?_
              exact v_iret C r dX11_copy_86 g22
            · have g23 := g21.2.2 c
              refine v_aload (i := 0) C dX11_copy_72 rfl ?_
              refine v_iload (i := 6) C dX11_copy_74 rfl ?_
              refine v_iload (i := 7) C dX11_copy_76 rfl ?_
              refine v_callV (q := qX8_spans) (k := k10) (As := [vi x4, vi x5]) (S := []) C co_yX8_spans ml_RX11_300 im_yX8_spans se_yX8_spans ini_RX8 g23.1 rfl hq_X8_spans (by decide) (Nat.le_of_ble_eq_true rfl) rfl dX11_copy_78 (Con.mono g23.2 (fun rr M24 hr => ?_) (Nat.le_refl _))
              obtain ⟨y25, rfl, g26⟩ := hr
              show Aj E l z (78 + 3) [(7, vr k10), (6, vr k7), (0, vr 0), (1, vi x1), (2, vi x2), (3, vi x3), (4, vi x4), (5, vi x5)] [vi y25] M24
              refine v_if_ne (tgt := 87) C g26.1 dX11_copy_81 (by decide) (fun c => ?_) (fun c => ?_)
              · have g27 := g26.2.1 c
                refine v_aload (i := 1) C dX11_copy_87 rfl ?_
                obtain ⟨k29, ek29, gk29⟩ := g27.2
                refine v_getf (k := k7) C fl_RX11_303 g27.1 ek29 dX11_copy_89 ?_
                show Aj E l z (89 + 3) [(7, vr k10), (6, vr k7), (0, vr 0), (1, vi x1), (2, vi x2), (3, vi x3), (4, vi x4), (5, vi x5)] [vr k29] M24
                refine v_iload_n (i := 4) C dX11_copy_92 rfl rfl ?_
                refine v_aload (i := 0) C dX11_copy_93 rfl ?_
                obtain ⟨k30, ek30, gk30⟩ := gk29.2
                refine v_getf (k := k10) C fl_RX11_303 gk29.1 ek30 dX11_copy_95 ?_
                show Aj E l z (95 + 3) [(7, vr k10), (6, vr k7), (0, vr 0), (1, vi x1), (2, vi x2), (3, vi x3), (4, vi x4), (5, vi x5)] [vr k30, vi x2, vr k29] M24
                refine v_iload (i := 6) C dX11_copy_98 rfl ?_
                refine v_iload (i := 7) C dX11_copy_100 rfl ?_
                obtain ⟨k31, ek31, gk31⟩ := gk30
                obtain ⟨k32, ek32, gk32⟩ := gk31
                refine v_copyj (S := []) C hD ml_RX11_307 (Nat.le_of_ble_eq_true rfl) ek31 ek32 gk32.1 gk32.2.1 gk32.2.2.1 gk32.2.2.2.1 gk32.2.2.2.2.1 dX11_copy_102 ?_
                show Aj E l z (102 + 3) [(7, vr k10), (6, vr k7), (0, vr 0), (1, vi x1), (2, vi x2), (3, vi x3), (4, vi x4), (5, vi x5)] [] (cpM M24 k29 (x2).toNat k30 (x4).toNat (x5).toNat)
                obtain ⟨M33, hM33⟩ : ∃ X : MM, X = cpM M24 k29 (x2).toNat k30 (x4).toNat (x5).toNat := ⟨_, rfl⟩
                refine v_eqM hM33 ?_
                have g34 := gk32.2.2.2.2.2 M33 hM33
                refine v_iload (i := 7) C dX11_copy_105 rfl ?_
                exact v_iret C r dX11_copy_107 g34
              · have g28 := g26.2.2 c
                refine v_bipush C dX11_copy_84 (by decide) ?_
                exact v_iret C r dX11_copy_86 g28
          · have g18 := g15.2.2.2.2.2.2.2 c
            refine v_bipush C dX11_copy_58 (by decide) ?_
            exact v_iret C r dX11_copy_60 g18
        · have g16 := g14.2.2.2.2 c
          refine v_bipush C dX11_copy_42 (by decide) ?_
          exact v_iret C r dX11_copy_44 g16
    · have g11 := g9.1 c
      subst c
      refine v_iconst C dX11_copy_24 ?_
      exact v_iret C r dX11_copy_25 g11
theorem RX11_copy {E : FX} {l : Launch} {D : Nat} {post : Option AV → MM → Prop} (hD : 1 ≤ D) {M : MM} {x1 : Int} {x2 : Int} {x3 : Int} {x4 : Int} {x5 : Int} (h0 : VX11_copy_0 E l D post M x1 x2 x3 x4 x5) : Con E l (D + 1) qX11_copy [vr 0, vi x1, vi x2, vi x3, vi x4, vi x5] M post := by
  refine con_of (by decide +kernel) (Nat.le_of_ble_eq_true rfl) (fun z C r => ?_)
  exact v_sub [0, 1, 2, 3, 4, 5] rfl (SX11_copy_0 C r hD h0)
def VX11_within_15 (E : FX) (l : Launch) (D : Nat) (post : Option AV → MM → Prop) (M : MM) (s0 : Int) : Prop :=
  (s0 = 0 ∨ s0 = 1) ∧ (post (some (vi s0)) M)
set_option maxRecDepth 20000 in
theorem SX11_within_15 {E : FX} {l : Launch} {D : Nat} {post : Option AV → MM → Prop} {z : RT} (C : Cx E z D RX11 cX11_within 3) (r : Rt E z (some .boolean) post) {M : MM} {s0 : Int} (h : VX11_within_15 E l D post M s0) : Aj E l z 15 [] [vi s0] M := by
  unfold VX11_within_15 at h
  exact v_zret C r h.1 dX11_within_15 h.2
def VX11_within_14 (E : FX) (l : Launch) (D : Nat) (post : Option AV → MM → Prop) (M : MM) : Prop :=
  VX11_within_15 E l D post M 0
set_option maxRecDepth 20000 in
theorem SX11_within_14 {E : FX} {l : Launch} {D : Nat} {post : Option AV → MM → Prop} {z : RT} (C : Cx E z D RX11 cX11_within 3) (r : Rt E z (some .boolean) post) {M : MM} (h : VX11_within_14 E l D post M) : Aj E l z 14 [] [] M := by
  unfold VX11_within_14 at h
  refine v_iconst C dX11_within_14 ?_
  exact v_sub [] rfl (SX11_within_15 C r h)
def VX11_within_0 (E : FX) (l : Launch) (D : Nat) (post : Option AV → MM → Prop) (M : MM) (x0 : Int) (x1 : Int) (x2 : Int) : Prop :=
  R32 x0 ∧ (R32 x1 ∧ ((x0 < x1 → VX11_within_15 E l D post M 0) ∧ (¬ x0 < x1 → R32 x0 ∧ (R32 x2 ∧ ((x2 < x0 → VX11_within_15 E l D post M 0) ∧ (¬ x2 < x0 → VX11_within_15 E l D post M 1))))))
set_option maxRecDepth 20000 in
theorem SX11_within_0 {E : FX} {l : Launch} {D : Nat} {post : Option AV → MM → Prop} {z : RT} (C : Cx E z D RX11 cX11_within 3) (r : Rt E z (some .boolean) post) {M : MM} {x0 : Int} {x1 : Int} {x2 : Int} (h : VX11_within_0 E l D post M x0 x1 x2) : Aj E l z 0 [(0, vi x0), (1, vi x1), (2, vi x2)] [] M := by
  unfold VX11_within_0 at h
  refine v_iload_n (i := 0) C dX11_within_0 rfl rfl ?_
  refine v_iload_n (i := 1) C dX11_within_1 rfl rfl ?_
  refine v_icmp_lt (tgt := 14) C h.1 h.2.1 dX11_within_2 (by decide) (fun c => ?_) (fun c => ?_)
  · have g1 := h.2.2.1 c
    refine v_iconst C dX11_within_14 ?_
    exact v_sub [] rfl (SX11_within_15 C r g1)
  · have g2 := h.2.2.2 c
    refine v_iload_n (i := 0) C dX11_within_5 rfl rfl ?_
    refine v_iload_n (i := 2) C dX11_within_6 rfl rfl ?_
    refine v_icmp_gt (tgt := 14) C g2.1 g2.2.1 dX11_within_7 (by decide) (fun c => ?_) (fun c => ?_)
    · have g3 := g2.2.2.1 c
      refine v_iconst C dX11_within_14 ?_
      exact v_sub [] rfl (SX11_within_15 C r g3)
    · have g4 := g2.2.2.2 c
      refine v_iconst C dX11_within_10 ?_
      refine v_goto C dX11_within_11 (tgt := 15) (by decide) ?_
      exact v_sub [] rfl (SX11_within_15 C r g4)
theorem RX11_within {E : FX} {l : Launch} {D : Nat} {post : Option AV → MM → Prop} {M : MM} {x0 : Int} {x1 : Int} {x2 : Int} (h0 : VX11_within_0 E l D post M x0 x1 x2) : Con E l (D + 1) qX11_within [vi x0, vi x1, vi x2] M post := by
  refine con_of (by decide +kernel) (Nat.le_of_ble_eq_true rfl) (fun z C r => ?_)
  exact v_sub [0, 1, 2] rfl (SX11_within_0 C r h0)
def VX11_isCloth_0 (E : FX) (l : Launch) (D : Nat) (post : Option AV → MM → Prop) (M : MM) (x0 : Int) : Prop :=
  Con E l D qX11_within [vi x0, vi 0, vi (4 - 1)] M (fun r M1 => ∃ y2 : Int, r = some (vi y2) ∧ ((y2 = 0 ∨ y2 = 1) ∧ (post (some (vi y2)) M1)))
set_option maxRecDepth 20000 in
theorem SX11_isCloth_0 {E : FX} {l : Launch} {D : Nat} {post : Option AV → MM → Prop} {z : RT} (C : Cx E z D RX11 cX11_isCloth 1) (r : Rt E z (some .boolean) post) {M : MM} {x0 : Int} (h : VX11_isCloth_0 E l D post M x0) : Aj E l z 0 [(0, vi x0)] [] M := by
  unfold VX11_isCloth_0 at h
  refine v_iload_n (i := 0) C dX11_isCloth_0 rfl rfl ?_
  refine v_iconst C dX11_isCloth_1 ?_
  refine v_gCloths C fk_RX11_313 dX11_isCloth_2 ?_
  refine v_clLen C dX11_isCloth_5 ?_
  refine v_iconst C dX11_isCloth_6 ?_
  refine v_isub C dX11_isCloth_7 ?_
  refine v_callS (q := qX11_within) (As := [vi x0, vi 0, vi (4 - 1)]) (S := []) C co_yX11_within ml_RX11_47 st_yX11_within ini_RX11 hq_X11_within (by decide) (Nat.le_of_ble_eq_true rfl) rfl dX11_isCloth_8 (Con.mono h (fun rr M1 hr => ?_) (Nat.le_refl _))
  obtain ⟨y2, rfl, g3⟩ := hr
  show Aj E l z (8 + 3) [(0, vi x0)] [vi y2] M1
  exact v_zret C r g3.1 dX11_isCloth_11 g3.2
theorem RX11_isCloth {E : FX} {l : Launch} {D : Nat} {post : Option AV → MM → Prop} {M : MM} {x0 : Int} (h0 : VX11_isCloth_0 E l D post M x0) : Con E l (D + 1) qX11_isCloth [vi x0] M post := by
  refine con_of (by decide +kernel) (Nat.le_of_ble_eq_true rfl) (fun z C r => ?_)
  exact v_sub [0] rfl (SX11_isCloth_0 C r h0)
def VX11_byteOf_0 (E : FX) (l : Launch) (D : Nat) (post : Option AV → MM → Prop) (M : MM) (x0 : Int) (x2 : Int) : Prop :=
  post (some (vi (iand (w32 (jushr x0 (8 * x2))) 255))) M
set_option maxRecDepth 20000 in
theorem SX11_byteOf_0 {E : FX} {l : Launch} {D : Nat} {post : Option AV → MM → Prop} {z : RT} (C : Cx E z D RX11 cX11_byteOf 3) (r : Rt E z (some .int) post) {M : MM} {x0 : Int} {x2 : Int} (h : VX11_byteOf_0 E l D post M x0 x2) : Aj E l z 0 [(0, vj x0), (2, vi x2)] [] M := by
  unfold VX11_byteOf_0 at h
  refine v_lload_n (i := 0) C dX11_byteOf_0 rfl rfl ?_
  refine v_bipush C dX11_byteOf_1 (by decide) ?_
  refine v_iload_n (i := 1) C dX11_byteOf_3 rfl rfl ?_
  refine v_imul C dX11_byteOf_4 ?_
  refine v_lushr C dX11_byteOf_5 ?_
  refine v_l2i C dX11_byteOf_6 ?_
  refine v_sipush C dX11_byteOf_7 (by decide) ?_
  refine v_iand C dX11_byteOf_10 ?_
  exact v_iret C r dX11_byteOf_11 h
theorem RX11_byteOf {E : FX} {l : Launch} {D : Nat} {post : Option AV → MM → Prop} {M : MM} {x0 : Int} {x2 : Int} (h0 : VX11_byteOf_0 E l D post M x0 x2) : Con E l (D + 1) qX11_byteOf [vj x0, vi x2] M post := by
  refine con_of (by decide +kernel) (Nat.le_of_ble_eq_true rfl) (fun z C r => ?_)
  exact v_sub [0, 1] rfl (SX11_byteOf_0 C r h0)
def VX11_marksNow_0 (E : FX) (l : Launch) (D : Nat) (post : Option AV → MM → Prop) (M : MM) : Prop :=
  Con E l D qX10_lay [vr 3, vr 37] M (fun r M1 => r = none ∧ (post (some (vr 37)) M1))
set_option maxRecDepth 20000 in
theorem SX11_marksNow_0 {E : FX} {l : Launch} {D : Nat} {post : Option AV → MM → Prop} {z : RT} (C : Cx E z D RX11 cX11_marksNow 1) (r : Rt E z (some (.object "WholeMarks$Marks")) post) {M : MM} (h : VX11_marksNow_0 E l D post M) : Aj E l z 0 [(0, vr 0)] [] M := by
  unfold VX11_marksNow_0 at h
  refine v_aload_n (i := 0) C dX11_marksNow_0 rfl rfl ?_
  refine v_getf (k := 0) C fl_RX11_10 rfl rfl dX11_marksNow_1 ?_
  show Aj E l z (1 + 3) [(0, vr 0)] [vr 1] M
  refine v_getf (k := 1) C fl_RX11_51 rfl rfl dX11_marksNow_4 ?_
  show Aj E l z (4 + 3) [(0, vr 0)] [vr 3] M
  refine v_aload_n (i := 0) C dX11_marksNow_7 rfl rfl ?_
  refine v_getf (k := 0) C fl_RX11_35 rfl rfl dX11_marksNow_8 ?_
  show Aj E l z (8 + 3) [(0, vr 0)] [vr 37, vr 3] M
  refine v_callV (q := qX10_lay) (k := 3) (As := [vr 37]) (S := []) C co_yX10_lay ml_RX11_317 im_yX10_lay se_yX10_lay ini_RX10 rfl rfl hq_X10_lay (by decide) (Nat.le_of_ble_eq_true rfl) rfl dX11_marksNow_11 (Con.mono h (fun rr M1 hr => ?_) (Nat.le_refl _))
  obtain ⟨rfl, g2⟩ := hr
  show Aj E l z (11 + 3) [(0, vr 0)] [] M1
  refine v_aload_n (i := 0) C dX11_marksNow_14 rfl rfl ?_
  refine v_getf (k := 0) C fl_RX11_35 rfl rfl dX11_marksNow_15 ?_
  show Aj E l z (15 + 3) [(0, vr 0)] [vr 37] M1
  exact v_aret C r dX11_marksNow_18 g2
theorem RX11_marksNow {E : FX} {l : Launch} {D : Nat} {post : Option AV → MM → Prop} {M : MM} (h0 : VX11_marksNow_0 E l D post M) : Con E l (D + 1) qX11_marksNow [vr 0] M post := by
  refine con_of (by decide +kernel) (Nat.le_of_ble_eq_true rfl) (fun z C r => ?_)
  exact v_sub [0] rfl (SX11_marksNow_0 C r h0)
def VX11_priceOf_0 (E : FX) (l : Launch) (D : Nat) (post : Option AV → MM → Prop) (M : MM) (x2 : Int) : Prop :=
  Con E l D qX1_wantedBy [vr 9, vi x2] M (fun r M1 => ∃ y2 : Int, r = some (vi y2) ∧ (R32 y2 ∧ (Con E l D qX6_firstFrom [vr 37, vj y2] M1 (fun r M4 => ∃ y5 : Int, r = some (vj y5) ∧ (post (some (vj y5)) M4)))))
set_option maxRecDepth 20000 in
theorem SX11_priceOf_0 {E : FX} {l : Launch} {D : Nat} {post : Option AV → MM → Prop} {z : RT} (C : Cx E z D RX11 cX11_priceOf 3) (r : Rt E z (some .long) post) {M : MM} {x2 : Int} (h : VX11_priceOf_0 E l D post M x2) : Aj E l z 0 [(0, vr 0), (1, vr 37), (2, vi x2)] [] M := by
  unfold VX11_priceOf_0 at h
  refine v_aload_n (i := 1) C dX11_priceOf_0 rfl rfl ?_
  refine v_aload_n (i := 0) C dX11_priceOf_1 rfl rfl ?_
  refine v_getf (k := 0) C fl_RX11_10 rfl rfl dX11_priceOf_2 ?_
  show Aj E l z (2 + 3) [(0, vr 0), (1, vr 37), (2, vi x2)] [vr 1, vr 37] M
  refine v_getf (k := 1) C fl_RX11_176 rfl rfl dX11_priceOf_5 ?_
  show Aj E l z (5 + 3) [(0, vr 0), (1, vr 37), (2, vi x2)] [vr 9, vr 37] M
  refine v_iload_n (i := 2) C dX11_priceOf_8 rfl rfl ?_
  refine v_callV (q := qX1_wantedBy) (k := 9) (As := [vi x2]) (S := [vr 37]) C co_yX1_wantedBy ml_RX11_186 im_yX1_wantedBy se_yX1_wantedBy ini_RX1 rfl rfl hq_X1_wantedBy (by decide) (Nat.le_of_ble_eq_true rfl) rfl dX11_priceOf_9 (Con.mono h (fun rr M1 hr => ?_) (Nat.le_refl _))
  obtain ⟨y2, rfl, g3⟩ := hr
  show Aj E l z (9 + 3) [(0, vr 0), (1, vr 37), (2, vi x2)] [vi y2, vr 37] M1
  refine v_i2l C g3.1 dX11_priceOf_12 ?_
  refine v_callV (q := qX6_firstFrom) (k := 37) (As := [vj y2]) (S := []) C co_yX6_firstFrom ml_RX11_321 im_yX6_firstFrom se_yX6_firstFrom ini_RX6 rfl rfl hq_X6_firstFrom (by decide) (Nat.le_of_ble_eq_true rfl) rfl dX11_priceOf_13 (Con.mono g3.2 (fun rr M4 hr => ?_) (Nat.le_refl _))
  obtain ⟨y5, rfl, g6⟩ := hr
  show Aj E l z (13 + 3) [(0, vr 0), (1, vr 37), (2, vi x2)] [vj y5] M4
  exact v_lret C r dX11_priceOf_16 g6
theorem RX11_priceOf {E : FX} {l : Launch} {D : Nat} {post : Option AV → MM → Prop} {M : MM} {x2 : Int} (h0 : VX11_priceOf_0 E l D post M x2) : Con E l (D + 1) qX11_priceOf [vr 0, vr 37, vi x2] M post := by
  refine con_of (by decide +kernel) (Nat.le_of_ble_eq_true rfl) (fun z C r => ?_)
  exact v_sub [0, 1, 2] rfl (SX11_priceOf_0 C r h0)
def VX11_groupBolts_0 (E : FX) (l : Launch) (D : Nat) (post : Option AV → MM → Prop) (J20 : MM → Int → Int → Int → Prop) (M : MM) (x1 : Int) : Prop :=
  Con E l D qX11_marksNow [vr 0] M (fun r M1 => r = some (vr 37) ∧ (Con E l D qX0_pick [vr 5, vi x1] M1 (fun r M4 => ∃ y5 : Int, r = some (vi y5) ∧ (J20 M4 x1 y5 1))))
set_option maxRecDepth 20000 in
theorem SX11_groupBolts_0 {E : FX} {l : Launch} {D : Nat} {post : Option AV → MM → Prop} {z : RT} {J20 : MM → Int → Int → Int → Prop} (C : Cx E z D RX11 cX11_groupBolts 6) (r : Rt E z none post) (hJ20 : ∀ (M : MM) (x1 : Int) (x3 : Int) (x4 : Int), J20 M x1 x3 x4 → Aj E l z 20 [(0, vr 0), (1, vi x1), (2, vr 37), (3, vi x3), (4, vi x4)] [] M) {M : MM} {x1 : Int} (h : VX11_groupBolts_0 E l D post J20 M x1) : Aj E l z 0 [(0, vr 0), (1, vi x1)] [] M := by
  unfold VX11_groupBolts_0 at h
  refine v_aload_n (i := 0) C dX11_groupBolts_0 rfl rfl ?_
  refine v_callV (q := qX11_marksNow) (k := 0) (As := []) (S := []) C co_yX11_marksNow ml_RX11_96 im_yX11_marksNow se_yX11_marksNow ini_RX11 rfl rfl hq_X11_marksNow (by decide) (Nat.le_of_ble_eq_true rfl) rfl dX11_groupBolts_1 (Con.mono h (fun rr M1 hr => ?_) (Nat.le_refl _))
  obtain ⟨rfl, g3⟩ := hr
  show Aj E l z (1 + 3) [(0, vr 0), (1, vi x1)] [vr 37] M1
  refine v_astore_n (L' := [(2, vr 37), (0, vr 0), (1, vi x1)]) C dX11_groupBolts_4 rfl (by decide) rfl ?_
  refine v_aload_n (i := 1) C dX11_groupBolts_5 rfl rfl ?_
  refine v_getf (k := 0) C fl_RX11_10 rfl rfl dX11_groupBolts_6 ?_
  show Aj E l z (6 + 3) [(2, vr 37), (0, vr 0), (1, vi x1)] [vr 1] M1
  refine v_getf (k := 1) C fl_RX11_84 rfl rfl dX11_groupBolts_9 ?_
  show Aj E l z (9 + 3) [(2, vr 37), (0, vr 0), (1, vi x1)] [vr 5] M1
  refine v_iload_n (i := 2) C dX11_groupBolts_12 rfl rfl ?_
  refine v_callV (q := qX0_pick) (k := 5) (As := [vi x1]) (S := []) C co_yX0_pick ml_RX11_324 im_yX0_pick se_yX0_pick ini_RX0 rfl rfl hq_X0_pick (by decide) (Nat.le_of_ble_eq_true rfl) rfl dX11_groupBolts_13 (Con.mono g3 (fun rr M4 hr => ?_) (Nat.le_refl _))
  obtain ⟨y5, rfl, g6⟩ := hr
  show Aj E l z (13 + 3) [(2, vr 37), (0, vr 0), (1, vi x1)] [vi y5] M4
  refine v_istore_n (L' := [(3, vi y5), (2, vr 37), (0, vr 0), (1, vi x1)]) C dX11_groupBolts_16 rfl (by decide) rfl ?_
  refine v_iconst C dX11_groupBolts_17 ?_
  refine v_istore (L' := [(4, vi 1), (3, vi y5), (2, vr 37), (0, vr 0), (1, vi x1)]) C dX11_groupBolts_18 (by decide) rfl ?_
  exact v_sub [3, 4, 2, 1, 0] rfl (hJ20 _ _ _ _ g6)
def VX11_groupBolts_20 (E : FX) (l : Launch) (D : Nat) (post : Option AV → MM → Prop) (J20 : MM → Int → Int → Int → Prop) (M : MM) (x1 : Int) (x3 : Int) (x4 : Int) : Prop :=
  R32 x4 ∧ (R32 (ishl 1 x3) ∧ ((ishl 1 x3 ≤ x4 → Con E l D qX4_solve [vr 39, vi x3, vi 8] M (fun r M9 => r = none ∧ (post none M9))) ∧ (¬ ishl 1 x3 ≤ x4 → Con E l D qX0_lengthOfPicked [vr 5, vi x4, vi x1] M (fun r M11 => ∃ y12 : Int, r = some (vi y12) ∧ (R32 y12 ∧ (Con E l D qX6_lastTo [vr 37, vj y12] M11 (fun r M14 => ∃ y15 : Int, r = some (vj y15) ∧ (Con E l D qX4_setWorth [vr 39, vi x4, vj y15] M14 (fun r M17 => r = none ∧ (∀ y19 : Int, y19 = x4 + 1 → (J20 M17 x1 x3 y19)))))))))))
set_option maxRecDepth 20000 in
theorem SX11_groupBolts_20 {E : FX} {l : Launch} {D : Nat} {post : Option AV → MM → Prop} {z : RT} {J20 : MM → Int → Int → Int → Prop} (C : Cx E z D RX11 cX11_groupBolts 6) (r : Rt E z none post) (hJ20 : ∀ (M : MM) (x1 : Int) (x3 : Int) (x4 : Int), J20 M x1 x3 x4 → Aj E l z 20 [(0, vr 0), (1, vi x1), (2, vr 37), (3, vi x3), (4, vi x4)] [] M) {M : MM} {x1 : Int} {x3 : Int} {x4 : Int} (h : VX11_groupBolts_20 E l D post J20 M x1 x3 x4) : Aj E l z 20 [(0, vr 0), (1, vi x1), (2, vr 37), (3, vi x3), (4, vi x4)] [] M := by
  unfold VX11_groupBolts_20 at h
  refine v_iload (i := 4) C dX11_groupBolts_20 rfl ?_
  refine v_iconst C dX11_groupBolts_22 ?_
  refine v_iload_n (i := 3) C dX11_groupBolts_23 rfl rfl ?_
  refine v_ishl C dX11_groupBolts_24 ?_
  refine v_icmp_ge (tgt := 65) C h.1 h.2.1 dX11_groupBolts_25 (by decide) (fun c => ?_) (fun c => ?_)
  · have g7 := h.2.2.1 c
    refine v_aload_n (i := 0) C dX11_groupBolts_65 rfl rfl ?_
    refine v_getf (k := 0) C fl_RX11_42 rfl rfl dX11_groupBolts_66 ?_
    show Aj E l z (66 + 3) [(0, vr 0), (1, vi x1), (2, vr 37), (3, vi x3), (4, vi x4)] [vr 39] M
    refine v_iload_n (i := 3) C dX11_groupBolts_69 rfl rfl ?_
    refine v_bipush C dX11_groupBolts_70 (by decide) ?_
    refine v_callV (q := qX4_solve) (k := 39) (As := [vi x3, vi 8]) (S := []) C co_yX4_solve ml_RX11_333 im_yX4_solve se_yX4_solve ini_RX4 rfl rfl hq_X4_solve (by decide) (Nat.le_of_ble_eq_true rfl) rfl dX11_groupBolts_72 (Con.mono g7 (fun rr M9 hr => ?_) (Nat.le_refl _))
    obtain ⟨rfl, g10⟩ := hr
    show Aj E l z (72 + 3) [(0, vr 0), (1, vi x1), (2, vr 37), (3, vi x3), (4, vi x4)] [] M9
    exact v_vret C r dX11_groupBolts_75 g10
  · have g8 := h.2.2.2 c
    refine v_aload_n (i := 0) C dX11_groupBolts_28 rfl rfl ?_
    refine v_getf (k := 0) C fl_RX11_10 rfl rfl dX11_groupBolts_29 ?_
    show Aj E l z (29 + 3) [(0, vr 0), (1, vi x1), (2, vr 37), (3, vi x3), (4, vi x4)] [vr 1] M
    refine v_getf (k := 1) C fl_RX11_84 rfl rfl dX11_groupBolts_32 ?_
    show Aj E l z (32 + 3) [(0, vr 0), (1, vi x1), (2, vr 37), (3, vi x3), (4, vi x4)] [vr 5] M
    refine v_iload (i := 4) C dX11_groupBolts_35 rfl ?_
    refine v_iload_n (i := 1) C dX11_groupBolts_37 rfl rfl ?_
    refine v_callV (q := qX0_lengthOfPicked) (k := 5) (As := [vi x4, vi x1]) (S := []) C co_yX0_lengthOfPicked ml_RX11_327 im_yX0_lengthOfPicked se_yX0_lengthOfPicked ini_RX0 rfl rfl hq_X0_lengthOfPicked (by decide) (Nat.le_of_ble_eq_true rfl) rfl dX11_groupBolts_38 (Con.mono g8 (fun rr M11 hr => ?_) (Nat.le_refl _))
    obtain ⟨y12, rfl, g13⟩ := hr
    show Aj E l z (38 + 3) [(0, vr 0), (1, vi x1), (2, vr 37), (3, vi x3), (4, vi x4)] [vi y12] M11
    refine v_istore (L' := [(5, vi y12), (0, vr 0), (1, vi x1), (2, vr 37), (3, vi x3), (4, vi x4)]) C dX11_groupBolts_41 (by decide) rfl ?_
    refine v_aload_n (i := 1) C dX11_groupBolts_43 rfl rfl ?_
    refine v_getf (k := 0) C fl_RX11_42 rfl rfl dX11_groupBolts_44 ?_
    show Aj E l z (44 + 3) [(5, vi y12), (0, vr 0), (1, vi x1), (2, vr 37), (3, vi x3), (4, vi x4)] [vr 39] M11
    refine v_iload (i := 5) C dX11_groupBolts_47 rfl ?_
    refine v_aload_n (i := 3) C dX11_groupBolts_49 rfl rfl ?_
    refine v_iload (i := 0) C dX11_groupBolts_50 rfl ?_
    refine v_i2l C g13.1 dX11_groupBolts_52 ?_
    refine v_callV (q := qX6_lastTo) (k := 37) (As := [vj y12]) (S := [vi x4, vr 39]) C co_yX6_lastTo ml_RX11_131 im_yX6_lastTo se_yX6_lastTo ini_RX6 rfl rfl hq_X6_lastTo (by decide) (Nat.le_of_ble_eq_true rfl) rfl dX11_groupBolts_53 (Con.mono g13.2 (fun rr M14 hr => ?_) (Nat.le_refl _))
    obtain ⟨y15, rfl, g16⟩ := hr
    show Aj E l z (53 + 3) [(5, vi y12), (0, vr 0), (1, vi x1), (2, vr 37), (3, vi x3), (4, vi x4)] [vj y15, vi x4, vr 39] M14
    refine v_callV (q := qX4_setWorth) (k := 39) (As := [vi x4, vj y15]) (S := []) C co_yX4_setWorth ml_RX11_330 im_yX4_setWorth se_yX4_setWorth ini_RX4 rfl rfl hq_X4_setWorth (by decide) (Nat.le_of_ble_eq_true rfl) rfl dX11_groupBolts_56 (Con.mono g16 (fun rr M17 hr => ?_) (Nat.le_refl _))
    obtain ⟨rfl, g18⟩ := hr
    show Aj E l z (56 + 3) [(5, vi y12), (0, vr 0), (1, vi x1), (2, vr 37), (3, vi x3), (4, vi x4)] [] M17
    obtain ⟨y19, hy19⟩ : ∃ y : Int, y = x4 + 1 := ⟨_, rfl⟩
    have g20 := g18 y19 hy19
    refine v_iinc (i := 5) (L' := [(4, vi y19), (5, vi y12), (0, vr 0), (1, vi x1), (2, vr 37), (3, vi x3)]) C dX11_groupBolts_59 rfl (by decide) hy19 rfl ?_
    refine v_goto C dX11_groupBolts_62 (tgt := 20) (by decide) ?_
    exact v_sub [2, 3, 4, 5, 0] rfl (hJ20 _ _ _ _ g20)
theorem RX11_groupBolts {E : FX} {l : Launch} {D : Nat} {post : Option AV → MM → Prop} (I20 : MM → Int → Int → Int → Prop) (m20 : MM → Int → Int → Int → Nat) {M : MM} {x1 : Int} (h0 : VX11_groupBolts_0 E l D post I20 M x1) (h20I : ∀ (M : MM) (x1 : Int) (x3 : Int) (x4 : Int), I20 M x1 x3 x4 → VX11_groupBolts_20 E l D post (fun M' x1' x3' x4' => I20 M' x1' x3' x4' ∧ m20 M' x1' x3' x4' < m20 M x1 x3 x4) M x1 x3 x4) : Con E l (D + 1) qX11_groupBolts [vr 0, vi x1] M post := by
  refine con_of (by decide +kernel) (Nat.le_of_ble_eq_true rfl) (fun z C r => ?_)
  have all : ∀ n : Nat, (∀ (M : MM) (x1 : Int) (x3 : Int) (x4 : Int), I20 M x1 x3 x4 → m20 M x1 x3 x4 < n → Aj E l z 20 [(0, vr 0), (1, vi x1), (2, vr 37), (3, vi x3), (4, vi x4)] [] M) := by
    intro n
    induction n with
    | zero => exact fun _ _ _ _ _ hm => absurd hm (Nat.not_lt_zero _)
    | succ n ih => exact fun M x1 x3 x4 hi hm => SX11_groupBolts_20 C r (fun M' x1' x3' x4' hj => ih M' x1' x3' x4' hj.1 (by omega)) (h20I M x1 x3 x4 hi)
  exact v_sub [0, 1] rfl (SX11_groupBolts_0 C r (fun M' x1' x3' x4' hj => (all _) M' x1' x3' x4' hj (Nat.lt_succ_self _)) h0)
def VX11_groupBuyers_0 (E : FX) (l : Launch) (D : Nat) (post : Option AV → MM → Prop) (J7 : MM → Int → Int → Prop) (M : MM) (x1 : Int) : Prop :=
  Con E l D qX11_marksNow [vr 0] M (fun r M1 => r = some (vr 37) ∧ (J7 M1 x1 1))
set_option maxRecDepth 20000 in
theorem SX11_groupBuyers_0 {E : FX} {l : Launch} {D : Nat} {post : Option AV → MM → Prop} {z : RT} {J7 : MM → Int → Int → Prop} (C : Cx E z D RX11 cX11_groupBuyers 4) (r : Rt E z none post) (hJ7 : ∀ (M : MM) (x1 : Int) (x3 : Int), J7 M x1 x3 → Aj E l z 7 [(0, vr 0), (1, vi x1), (2, vr 37), (3, vi x3)] [] M) {M : MM} {x1 : Int} (h : VX11_groupBuyers_0 E l D post J7 M x1) : Aj E l z 0 [(0, vr 0), (1, vi x1)] [] M := by
  unfold VX11_groupBuyers_0 at h
  refine v_aload_n (i := 0) C dX11_groupBuyers_0 rfl rfl ?_
  refine v_callV (q := qX11_marksNow) (k := 0) (As := []) (S := []) C co_yX11_marksNow ml_RX11_96 im_yX11_marksNow se_yX11_marksNow ini_RX11 rfl rfl hq_X11_marksNow (by decide) (Nat.le_of_ble_eq_true rfl) rfl dX11_groupBuyers_1 (Con.mono h (fun rr M1 hr => ?_) (Nat.le_refl _))
  obtain ⟨rfl, g3⟩ := hr
  show Aj E l z (1 + 3) [(0, vr 0), (1, vi x1)] [vr 37] M1
  refine v_astore_n (L' := [(2, vr 37), (0, vr 0), (1, vi x1)]) C dX11_groupBuyers_4 rfl (by decide) rfl ?_
  refine v_iconst C dX11_groupBuyers_5 ?_
  refine v_istore_n (L' := [(3, vi 1), (2, vr 37), (0, vr 0), (1, vi x1)]) C dX11_groupBuyers_6 rfl (by decide) rfl ?_
  exact v_sub [2, 3, 1, 0] rfl (hJ7 _ _ _ g3)
def VX11_groupBuyers_7 (E : FX) (l : Launch) (D : Nat) (post : Option AV → MM → Prop) (J7 : MM → Int → Int → Prop) (M : MM) (x1 : Int) (x3 : Int) : Prop :=
  Con E l D qX1_everyone [vr 9] M (fun r M4 => ∃ y5 : Int, r = some (vi y5) ∧ (R32 x3 ∧ (R32 y5 ∧ ((y5 < x3 → Con E l D qX4_solve [vr 39, vi (M4 9 1), vi x1] M4 (fun r M9 => r = none ∧ (post none M9))) ∧ (¬ y5 < x3 → Con E l D qX11_priceOf [vr 0, vr 37, vi x3] M4 (fun r M11 => ∃ y12 : Int, r = some (vj y12) ∧ (Con E l D qX4_setWorth [vr 39, vi x3, vj (-y12)] M11 (fun r M14 => r = none ∧ (∀ y16 : Int, y16 = x3 + 1 → (J7 M14 x1 y16))))))))))
set_option maxRecDepth 20000 in
theorem SX11_groupBuyers_7 {E : FX} {l : Launch} {D : Nat} {post : Option AV → MM → Prop} {z : RT} {J7 : MM → Int → Int → Prop} (C : Cx E z D RX11 cX11_groupBuyers 4) (r : Rt E z none post) (hJ7 : ∀ (M : MM) (x1 : Int) (x3 : Int), J7 M x1 x3 → Aj E l z 7 [(0, vr 0), (1, vi x1), (2, vr 37), (3, vi x3)] [] M) {M : MM} {x1 : Int} {x3 : Int} (h : VX11_groupBuyers_7 E l D post J7 M x1 x3) : Aj E l z 7 [(0, vr 0), (1, vi x1), (2, vr 37), (3, vi x3)] [] M := by
  unfold VX11_groupBuyers_7 at h
  refine v_iload_n (i := 3) C dX11_groupBuyers_7 rfl rfl ?_
  refine v_aload_n (i := 0) C dX11_groupBuyers_8 rfl rfl ?_
  refine v_getf (k := 0) C fl_RX11_10 rfl rfl dX11_groupBuyers_9 ?_
  show Aj E l z (9 + 3) [(0, vr 0), (1, vi x1), (2, vr 37), (3, vi x3)] [vr 1, vi x3] M
  refine v_getf (k := 1) C fl_RX11_176 rfl rfl dX11_groupBuyers_12 ?_
  show Aj E l z (12 + 3) [(0, vr 0), (1, vi x1), (2, vr 37), (3, vi x3)] [vr 9, vi x3] M
  refine v_callV (q := qX1_everyone) (k := 9) (As := []) (S := [vi x3]) C co_yX1_everyone ml_RX11_183 im_yX1_everyone se_yX1_everyone ini_RX1 rfl rfl hq_X1_everyone (by decide) (Nat.le_of_ble_eq_true rfl) rfl dX11_groupBuyers_15 (Con.mono h (fun rr M4 hr => ?_) (Nat.le_refl _))
  obtain ⟨y5, rfl, g6⟩ := hr
  show Aj E l z (15 + 3) [(0, vr 0), (1, vi x1), (2, vr 37), (3, vi x3)] [vi y5, vi x3] M4
  refine v_icmp_gt (tgt := 42) C g6.1 g6.2.1 dX11_groupBuyers_18 (by decide) (fun c => ?_) (fun c => ?_)
  · have g7 := g6.2.2.1 c
    refine v_aload_n (i := 0) C dX11_groupBuyers_42 rfl rfl ?_
    refine v_getf (k := 0) C fl_RX11_42 rfl rfl dX11_groupBuyers_43 ?_
    show Aj E l z (43 + 3) [(0, vr 0), (1, vi x1), (2, vr 37), (3, vi x3)] [vr 39] M4
    refine v_aload_n (i := 0) C dX11_groupBuyers_46 rfl rfl ?_
    refine v_getf (k := 0) C fl_RX11_10 rfl rfl dX11_groupBuyers_47 ?_
    show Aj E l z (47 + 3) [(0, vr 0), (1, vi x1), (2, vr 37), (3, vi x3)] [vr 1, vr 39] M4
    refine v_getf (k := 1) C fl_RX11_176 rfl rfl dX11_groupBuyers_50 ?_
    show Aj E l z (50 + 3) [(0, vr 0), (1, vi x1), (2, vr 37), (3, vi x3)] [vr 9, vr 39] M4
    refine v_getf (k := 9) C fl_RX11_180 rfl rfl dX11_groupBuyers_53 ?_
    show Aj E l z (53 + 3) [(0, vr 0), (1, vi x1), (2, vr 37), (3, vi x3)] [vi (M4 9 1), vr 39] M4
    refine v_iload_n (i := 1) C dX11_groupBuyers_56 rfl rfl ?_
    refine v_callV (q := qX4_solve) (k := 39) (As := [vi (M4 9 1), vi x1]) (S := []) C co_yX4_solve ml_RX11_333 im_yX4_solve se_yX4_solve ini_RX4 rfl rfl hq_X4_solve (by decide) (Nat.le_of_ble_eq_true rfl) rfl dX11_groupBuyers_57 (Con.mono g7 (fun rr M9 hr => ?_) (Nat.le_refl _))
    obtain ⟨rfl, g10⟩ := hr
    show Aj E l z (57 + 3) [(0, vr 0), (1, vi x1), (2, vr 37), (3, vi x3)] [] M9
    exact v_vret C r dX11_groupBuyers_60 g10
  · have g8 := g6.2.2.2 c
    refine v_aload_n (i := 0) C dX11_groupBuyers_21 rfl rfl ?_
    refine v_getf (k := 0) C fl_RX11_42 rfl rfl dX11_groupBuyers_22 ?_
    show Aj E l z (22 + 3) [(0, vr 0), (1, vi x1), (2, vr 37), (3, vi x3)] [vr 39] M4
    refine v_iload_n (i := 3) C dX11_groupBuyers_25 rfl rfl ?_
    refine v_aload_n (i := 0) C dX11_groupBuyers_26 rfl rfl ?_
    refine v_aload_n (i := 2) C dX11_groupBuyers_27 rfl rfl ?_
    refine v_iload_n (i := 3) C dX11_groupBuyers_28 rfl rfl ?_
    refine v_callV (q := qX11_priceOf) (k := 0) (As := [vr 37, vi x3]) (S := [vi x3, vr 39]) C co_yX11_priceOf ml_RX11_208 im_yX11_priceOf se_yX11_priceOf ini_RX11 rfl rfl hq_X11_priceOf (by decide) (Nat.le_of_ble_eq_true rfl) rfl dX11_groupBuyers_29 (Con.mono g8 (fun rr M11 hr => ?_) (Nat.le_refl _))
    obtain ⟨y12, rfl, g13⟩ := hr
    show Aj E l z (29 + 3) [(0, vr 0), (1, vi x1), (2, vr 37), (3, vi x3)] [vj y12, vi x3, vr 39] M11
    refine v_lneg C dX11_groupBuyers_32 ?_
    refine v_callV (q := qX4_setWorth) (k := 39) (As := [vi x3, vj (-y12)]) (S := []) C co_yX4_setWorth ml_RX11_330 im_yX4_setWorth se_yX4_setWorth ini_RX4 rfl rfl hq_X4_setWorth (by decide) (Nat.le_of_ble_eq_true rfl) rfl dX11_groupBuyers_33 (Con.mono g13 (fun rr M14 hr => ?_) (Nat.le_refl _))
    obtain ⟨rfl, g15⟩ := hr
    show Aj E l z (33 + 3) [(0, vr 0), (1, vi x1), (2, vr 37), (3, vi x3)] [] M14
    obtain ⟨y16, hy16⟩ : ∃ y : Int, y = x3 + 1 := ⟨_, rfl⟩
    have g17 := g15 y16 hy16
    refine v_iinc (i := 3) (L' := [(3, vi y16), (0, vr 0), (1, vi x1), (2, vr 37)]) C dX11_groupBuyers_36 rfl (by decide) hy16 rfl ?_
    refine v_goto C dX11_groupBuyers_39 (tgt := 7) (by decide) ?_
    exact v_sub [1, 2, 3, 0] rfl (hJ7 _ _ _ g17)
theorem RX11_groupBuyers {E : FX} {l : Launch} {D : Nat} {post : Option AV → MM → Prop} (I7 : MM → Int → Int → Prop) (m7 : MM → Int → Int → Nat) {M : MM} {x1 : Int} (h0 : VX11_groupBuyers_0 E l D post I7 M x1) (h7I : ∀ (M : MM) (x1 : Int) (x3 : Int), I7 M x1 x3 → VX11_groupBuyers_7 E l D post (fun M' x1' x3' => I7 M' x1' x3' ∧ m7 M' x1' x3' < m7 M x1 x3) M x1 x3) : Con E l (D + 1) qX11_groupBuyers [vr 0, vi x1] M post := by
  refine con_of (by decide +kernel) (Nat.le_of_ble_eq_true rfl) (fun z C r => ?_)
  have all : ∀ n : Nat, (∀ (M : MM) (x1 : Int) (x3 : Int), I7 M x1 x3 → m7 M x1 x3 < n → Aj E l z 7 [(0, vr 0), (1, vi x1), (2, vr 37), (3, vi x3)] [] M) := by
    intro n
    induction n with
    | zero => exact fun _ _ _ _ hm => absurd hm (Nat.not_lt_zero _)
    | succ n ih => exact fun M x1 x3 hi hm => SX11_groupBuyers_7 C r (fun M' x1' x3' hj => ih M' x1' x3' hj.1 (by omega)) (h7I M x1 x3 hi)
  exact v_sub [0, 1] rfl (SX11_groupBuyers_0 C r (fun M' x1' x3' hj => (all _) M' x1' x3' hj (Nat.lt_succ_self _)) h0)
def VX11_sheetOf_23 (E : FX) (l : Launch) (D : Nat) (post : Option AV → MM → Prop) (M : MM) (s0 : Option Nat) : Prop :=
  post (some (vo s0)) M
set_option maxRecDepth 20000 in
theorem SX11_sheetOf_23 {E : FX} {l : Launch} {D : Nat} {post : Option AV → MM → Prop} {z : RT} (C : Cx E z D RX11 cX11_sheetOf 2) (r : Rt E z (some (.object "WholeMarks$Sheet")) post) {M : MM} {s0 : Option Nat} (h : VX11_sheetOf_23 E l D post M s0) : Aj E l z 23 [] [vo s0] M := by
  unfold VX11_sheetOf_23 at h
  exact v_aret C r dX11_sheetOf_23 h
def VX11_sheetOf_22 (E : FX) (l : Launch) (D : Nat) (post : Option AV → MM → Prop) (M : MM) : Prop :=
  VX11_sheetOf_23 E l D post M none
set_option maxRecDepth 20000 in
theorem SX11_sheetOf_22 {E : FX} {l : Launch} {D : Nat} {post : Option AV → MM → Prop} {z : RT} (C : Cx E z D RX11 cX11_sheetOf 2) (r : Rt E z (some (.object "WholeMarks$Sheet")) post) {M : MM} (h : VX11_sheetOf_22 E l D post M) : Aj E l z 22 [] [] M := by
  unfold VX11_sheetOf_22 at h
  refine v_aconst C dX11_sheetOf_22 ?_
  exact v_sub [] rfl (SX11_sheetOf_23 C r h)
def VX11_sheetOf_0 (E : FX) (l : Launch) (D : Nat) (post : Option AV → MM → Prop) (M : MM) (x1 : Int) : Prop :=
  R32 x1 ∧ ((x1 < 0 → VX11_sheetOf_23 E l D post M none) ∧ (¬ x1 < 0 → R32 x1 ∧ ((4 ≤ x1 → VX11_sheetOf_23 E l D post M none) ∧ (¬ 4 ≤ x1 → 0 ≤ x1 ∧ (x1 < 4 ∧ (VX11_sheetOf_23 E l D post M (some (29 + (x1).toNat))))))))
set_option maxRecDepth 20000 in
theorem SX11_sheetOf_0 {E : FX} {l : Launch} {D : Nat} {post : Option AV → MM → Prop} {z : RT} (C : Cx E z D RX11 cX11_sheetOf 2) (r : Rt E z (some (.object "WholeMarks$Sheet")) post) {M : MM} {x1 : Int} (h : VX11_sheetOf_0 E l D post M x1) : Aj E l z 0 [(0, vr 0), (1, vi x1)] [] M := by
  unfold VX11_sheetOf_0 at h
  refine v_iload_n (i := 1) C dX11_sheetOf_0 rfl rfl ?_
  refine v_if_lt (tgt := 22) C h.1 dX11_sheetOf_1 (by decide) (fun c => ?_) (fun c => ?_)
  · have g1 := h.2.1 c
    refine v_aconst C dX11_sheetOf_22 ?_
    exact v_sub [] rfl (SX11_sheetOf_23 C r g1)
  · have g2 := h.2.2 c
    refine v_iload_n (i := 1) C dX11_sheetOf_4 rfl rfl ?_
    refine v_aload_n (i := 0) C dX11_sheetOf_5 rfl rfl ?_
    refine v_getf (k := 0) C fl_RX11_28 rfl rfl dX11_sheetOf_6 ?_
    show Aj E l z (6 + 3) [(0, vr 0), (1, vi x1)] [vr 28, vi x1] M
    refine v_alen (k := 28) C rfl (by decide) dX11_sheetOf_9 ?_
    refine v_icmp_ge (tgt := 22) C g2.1 (by decide) dX11_sheetOf_10 (by decide) (fun c => ?_) (fun c => ?_)
    · have g3 := g2.2.1 c
      refine v_aconst C dX11_sheetOf_22 ?_
      exact v_sub [] rfl (SX11_sheetOf_23 C r g3)
    · have g4 := g2.2.2 c
      refine v_aload_n (i := 0) C dX11_sheetOf_13 rfl rfl ?_
      refine v_getf (k := 0) C fl_RX11_28 rfl rfl dX11_sheetOf_14 ?_
      show Aj E l z (14 + 3) [(0, vr 0), (1, vi x1)] [vr 28] M
      refine v_iload_n (i := 1) C dX11_sheetOf_17 rfl rfl ?_
      refine v_aald (k := 28) C rfl g4.1 g4.2.1 dX11_sheetOf_18 ?_
      show Aj E l z (18 + 1) [(0, vr 0), (1, vi x1)] [vr (29 + (x1).toNat)] M
      refine v_goto C dX11_sheetOf_19 (tgt := 23) (by decide) ?_
      exact v_sub [] rfl (SX11_sheetOf_23 C r g4.2.2)
theorem RX11_sheetOf {E : FX} {l : Launch} {D : Nat} {post : Option AV → MM → Prop} {M : MM} {x1 : Int} (h0 : VX11_sheetOf_0 E l D post M x1) : Con E l (D + 1) qX11_sheetOf [vr 0, vi x1] M post := by
  refine con_of (by decide +kernel) (Nat.le_of_ble_eq_true rfl) (fun z C r => ?_)
  exact v_sub [0, 1] rfl (SX11_sheetOf_0 C r h0)
def VX11_refusal_21 (E : FX) (l : Launch) (D : Nat) (post : Option AV → MM → Prop) (M : MM) : Prop :=
  post (some (vi (-1))) M
set_option maxRecDepth 20000 in
theorem SX11_refusal_21 {E : FX} {l : Launch} {D : Nat} {post : Option AV → MM → Prop} {z : RT} (C : Cx E z D RX11 cX11_refusal 6) (r : Rt E z (some .int) post) {M : MM} (h : VX11_refusal_21 E l D post M) : Aj E l z 21 [] [] M := by
  unfold VX11_refusal_21 at h
  refine v_iconst C dX11_refusal_21 ?_
  exact v_iret C r dX11_refusal_22 h
def VX11_refusal_63 (E : FX) (l : Launch) (D : Nat) (post : Option AV → MM → Prop) (M : MM) (s0 : Int) : Prop :=
  post (some (vi s0)) M
set_option maxRecDepth 20000 in
theorem SX11_refusal_63 {E : FX} {l : Launch} {D : Nat} {post : Option AV → MM → Prop} {z : RT} (C : Cx E z D RX11 cX11_refusal 6) (r : Rt E z (some .int) post) {M : MM} {s0 : Int} (h : VX11_refusal_63 E l D post M s0) : Aj E l z 63 [] [vi s0] M := by
  unfold VX11_refusal_63 at h
  exact v_iret C r dX11_refusal_63 h
def VX11_refusal_0 (E : FX) (l : Launch) (D : Nat) (post : Option AV → MM → Prop) (M : MM) (x1 : Int) (x2 : Int) (x3 : Int) (x4 : Int) : Prop :=
  Con E l D qX11_sheetOf [vr 0, vi x1] M (fun r M1 => ∃ o2 : Option Nat, r = some (vo o2) ∧ ((o2 = none → post (some (vi (-1))) M1) ∧ (∀ k4 : Nat, o2 = some k4 → Con E l D qX11_within [vi x2, vi 0, vi 2] M1 (fun r M7 => ∃ y8 : Int, r = some (vi y8) ∧ (R32 y8 ∧ ((¬ y8 = 0 → kd k4 = (3, 6) ∧ ((ft k4)[1]? = some 0 ∧ (R32 (M7 k4 1) ∧ ((¬ M7 k4 1 = 0 → kd k4 = (3, 6) ∧ ((ft k4)[2]? = some 0 ∧ (R32 (M7 k4 2) ∧ (R32 x2 ∧ ((M7 k4 2 = x2 → kd k4 = (3, 6) ∧ (Con E l D qX8_spans [vr k4, vi x3, vi x4] M7 (fun r M16 => ∃ y17 : Int, r = some (vi y17) ∧ (R32 y17 ∧ ((y17 = 0 → VX11_refusal_63 E l D post M16 (-13)) ∧ (¬ y17 = 0 → VX11_refusal_63 E l D post M16 0)))))) ∧ (¬ M7 k4 2 = x2 → post (some (vi (-12))) M7)))))) ∧ (M7 k4 1 = 0 → post (some (vi (-11))) M7))))) ∧ (y8 = 0 → post (some (vi (-1))) M7)))))))
set_option maxRecDepth 20000 in
theorem SX11_refusal_0 {E : FX} {l : Launch} {D : Nat} {post : Option AV → MM → Prop} {z : RT} (C : Cx E z D RX11 cX11_refusal 6) (r : Rt E z (some .int) post) {M : MM} {x1 : Int} {x2 : Int} {x3 : Int} {x4 : Int} (h : VX11_refusal_0 E l D post M x1 x2 x3 x4) : Aj E l z 0 [(0, vr 0), (1, vi x1), (2, vi x2), (3, vi x3), (4, vi x4)] [] M := by
  unfold VX11_refusal_0 at h
  refine v_aload_n (i := 0) C dX11_refusal_0 rfl rfl ?_
  refine v_iload_n (i := 1) C dX11_refusal_1 rfl rfl ?_
  refine v_callV (q := qX11_sheetOf) (k := 0) (As := [vi x1]) (S := []) C co_yX11_sheetOf ml_RX11_262 im_yX11_sheetOf se_yX11_sheetOf ini_RX11 rfl rfl hq_X11_sheetOf (by decide) (Nat.le_of_ble_eq_true rfl) rfl dX11_refusal_2 (Con.mono h (fun rr M1 hr => ?_) (Nat.le_refl _))
  obtain ⟨o2, rfl, g3⟩ := hr
  show Aj E l z (2 + 3) [(0, vr 0), (1, vi x1), (2, vi x2), (3, vi x3), (4, vi x4)] [vo o2] M1
  refine v_astore (L' := [(5, vo o2), (0, vr 0), (1, vi x1), (2, vi x2), (3, vi x3), (4, vi x4)]) C dX11_refusal_5 (by decide) rfl ?_
  refine v_aload (i := 0) C dX11_refusal_7 rfl ?_
  refine v_ifnull (tgt := 21) C dX11_refusal_9 (by decide) (fun c => ?_) (fun k4 c => ?_)
  · have g5 := g3.1 c
    subst c
    refine v_iconst C dX11_refusal_21 ?_
    exact v_iret C r dX11_refusal_22 g5
  · have g6 := g3.2 k4 c
    subst c
    refine v_iload_n (i := 3) C dX11_refusal_12 rfl rfl ?_
    refine v_iconst C dX11_refusal_13 ?_
    refine v_iconst C dX11_refusal_14 ?_
    refine v_callS (q := qX11_within) (As := [vi x2, vi 0, vi 2]) (S := []) C co_yX11_within ml_RX11_47 st_yX11_within ini_RX11 hq_X11_within (by decide) (Nat.le_of_ble_eq_true rfl) rfl dX11_refusal_15 (Con.mono g6 (fun rr M7 hr => ?_) (Nat.le_refl _))
    obtain ⟨y8, rfl, g9⟩ := hr
    show Aj E l z (15 + 3) [(5, vr k4), (0, vr 0), (1, vi x1), (2, vi x2), (3, vi x3), (4, vi x4)] [vi y8] M7
    refine v_if_ne (tgt := 23) C g9.1 dX11_refusal_18 (by decide) (fun c => ?_) (fun c => ?_)
    · have g10 := g9.2.1 c
      refine v_aload (i := 0) C dX11_refusal_23 rfl ?_
      refine v_getf (k := k4) C fl_RX11_293 g10.1 g10.2.1 dX11_refusal_25 ?_
      show Aj E l z (25 + 3) [(5, vr k4), (0, vr 0), (1, vi x1), (2, vi x2), (3, vi x3), (4, vi x4)] [vi (M7 k4 1)] M7
      refine v_if_ne (tgt := 34) C g10.2.2.1 dX11_refusal_28 (by decide) (fun c => ?_) (fun c => ?_)
      · have g12 := g10.2.2.2.1 c
        refine v_aload (i := 0) C dX11_refusal_34 rfl ?_
        refine v_getf (k := k4) C fl_RX11_297 g12.1 g12.2.1 dX11_refusal_36 ?_
        show Aj E l z (36 + 3) [(5, vr k4), (0, vr 0), (1, vi x1), (2, vi x2), (3, vi x3), (4, vi x4)] [vi (M7 k4 2)] M7
        refine v_iload_n (i := 3) C dX11_refusal_39 rfl rfl ?_
        refine v_icmp_eq (tgt := 46) C g12.2.2.1 g12.2.2.2.1 dX11_refusal_40 (by decide) (fun c => ?_) (fun c => ?_)
        · have g14 := g12.2.2.2.2.1 c
          refine v_aload (i := 0) C dX11_refusal_46 rfl ?_
          refine v_iload_n (i := 4) C dX11_refusal_48 rfl rfl ?_
          refine v_iload (i := 5) C dX11_refusal_49 rfl ?_
          refine v_callV (q := qX8_spans) (k := k4) (As := [vi x3, vi x4]) (S := []) C co_yX8_spans ml_RX11_300 im_yX8_spans se_yX8_spans ini_RX8 g14.1 rfl hq_X8_spans (by decide) (Nat.le_of_ble_eq_true rfl) rfl dX11_refusal_51 (Con.mono g14.2 (fun rr M16 hr => ?_) (Nat.le_refl _))
          obtain ⟨y17, rfl, g18⟩ := hr
          show Aj E l z (51 + 3) [(5, vr k4), (0, vr 0), (1, vi x1), (2, vi x2), (3, vi x3), (4, vi x4)] [vi y17] M16
          refine v_if_eq (tgt := 61) C g18.1 dX11_refusal_54 (by decide) (fun c => ?_) (fun c => ?_)
          · have g19 := g18.2.1 c
            refine v_bipush C dX11_refusal_61 (by decide) ?_
            exact v_sub [] rfl (SX11_refusal_63 C r g19)
          · have g20 := g18.2.2 c
            refine v_iconst C dX11_refusal_57 ?_
            refine v_goto C dX11_refusal_58 (tgt := 63) (by decide) ?_
            exact v_sub [] rfl (SX11_refusal_63 C r g20)
        · have g15 := g12.2.2.2.2.2 c
          refine v_bipush C dX11_refusal_43 (by decide) ?_
          exact v_iret C r dX11_refusal_45 g15
      · have g13 := g10.2.2.2.2 c
        refine v_bipush C dX11_refusal_31 (by decide) ?_
        exact v_iret C r dX11_refusal_33 g13
    · have g11 := g9.2.2 c
      refine v_iconst C dX11_refusal_21 ?_
      exact v_iret C r dX11_refusal_22 g11
theorem RX11_refusal {E : FX} {l : Launch} {D : Nat} {post : Option AV → MM → Prop} {M : MM} {x1 : Int} {x2 : Int} {x3 : Int} {x4 : Int} (h0 : VX11_refusal_0 E l D post M x1 x2 x3 x4) : Con E l (D + 1) qX11_refusal [vr 0, vi x1, vi x2, vi x3, vi x4] M post := by
  refine con_of (by decide +kernel) (Nat.le_of_ble_eq_true rfl) (fun z C r => ?_)
  exact v_sub [0, 1, 2, 3, 4] rfl (SX11_refusal_0 C r h0)
def VX11_howManyFit_0 (E : FX) (l : Launch) (D : Nat) (post : Option AV → MM → Prop) (J4 : MM → Int → Int → Int → Prop) (M : MM) (x0 : Int) : Prop :=
  J4 M x0 0 2
set_option maxRecDepth 20000 in
theorem SX11_howManyFit_0 {E : FX} {l : Launch} {D : Nat} {post : Option AV → MM → Prop} {z : RT} {J4 : MM → Int → Int → Int → Prop} (C : Cx E z D RX11 cX11_howManyFit 4) (r : Rt E z (some .int) post) (hJ4 : ∀ (M : MM) (x0 : Int) (x2 : Int) (x3 : Int), J4 M x0 x2 x3 → Aj E l z 4 [(0, vj x0), (2, vi x2), (3, vi x3)] [] M) {M : MM} {x0 : Int} (h : VX11_howManyFit_0 E l D post J4 M x0) : Aj E l z 0 [(0, vj x0)] [] M := by
  unfold VX11_howManyFit_0 at h
  refine v_iconst C dX11_howManyFit_0 ?_
  refine v_istore_n (L' := [(2, vi 0), (0, vj x0)]) C dX11_howManyFit_1 rfl (by decide) rfl ?_
  refine v_iconst C dX11_howManyFit_2 ?_
  refine v_istore_n (L' := [(3, vi 2), (2, vi 0), (0, vj x0)]) C dX11_howManyFit_3 rfl (by decide) rfl ?_
  exact v_sub [2, 1, 0] rfl (hJ4 _ _ _ _ h)
def VX11_howManyFit_22 (E : FX) (l : Launch) (D : Nat) (post : Option AV → MM → Prop) (J4 : MM → Int → Int → Int → Prop) (M : MM) (x0 : Int) (x2 : Int) (x3 : Int) : Prop :=
  ∀ y1 : Int, y1 = x3 + 1 → (J4 M x0 x2 y1)
set_option maxRecDepth 20000 in
theorem SX11_howManyFit_22 {E : FX} {l : Launch} {D : Nat} {post : Option AV → MM → Prop} {z : RT} {J4 : MM → Int → Int → Int → Prop} (C : Cx E z D RX11 cX11_howManyFit 4) (r : Rt E z (some .int) post) (hJ4 : ∀ (M : MM) (x0 : Int) (x2 : Int) (x3 : Int), J4 M x0 x2 x3 → Aj E l z 4 [(0, vj x0), (2, vi x2), (3, vi x3)] [] M) {M : MM} {x0 : Int} {x2 : Int} {x3 : Int} (h : VX11_howManyFit_22 E l D post J4 M x0 x2 x3) : Aj E l z 22 [(0, vj x0), (2, vi x2), (3, vi x3)] [] M := by
  unfold VX11_howManyFit_22 at h
  obtain ⟨y1, hy1⟩ : ∃ y : Int, y = x3 + 1 := ⟨_, rfl⟩
  have g2 := h y1 hy1
  refine v_iinc (i := 2) (L' := [(3, vi y1), (0, vj x0), (2, vi x2)]) C dX11_howManyFit_22 rfl (by decide) hy1 rfl ?_
  refine v_goto C dX11_howManyFit_25 (tgt := 4) (by decide) ?_
  exact v_sub [1, 2, 0] rfl (hJ4 _ _ _ _ g2)
def VX11_howManyFit_4 (E : FX) (l : Launch) (D : Nat) (post : Option AV → MM → Prop) (J4 : MM → Int → Int → Int → Prop) (M : MM) (x0 : Int) (x2 : Int) (x3 : Int) : Prop :=
  R32 x3 ∧ ((60 < x3 → R32 (x2 * (x2 - 1)) ∧ (post (some (vi (Int.tdiv (x2 * (x2 - 1)) 2))) M)) ∧ (¬ 60 < x3 → R32 x3 ∧ (Con E l D qX7_divides [vj x3, vj x0] M (fun r M5 => ∃ y6 : Int, r = some (vi y6) ∧ (R32 y6 ∧ ((y6 = 0 → ∀ y10 : Int, y10 = x3 + 1 → (J4 M5 x0 x2 y10)) ∧ (¬ y6 = 0 → ∀ y12 : Int, y12 = x2 + 1 → (VX11_howManyFit_22 E l D post J4 M5 x0 y12 x3))))))))
set_option maxRecDepth 20000 in
theorem SX11_howManyFit_4 {E : FX} {l : Launch} {D : Nat} {post : Option AV → MM → Prop} {z : RT} {J4 : MM → Int → Int → Int → Prop} (C : Cx E z D RX11 cX11_howManyFit 4) (r : Rt E z (some .int) post) (hJ4 : ∀ (M : MM) (x0 : Int) (x2 : Int) (x3 : Int), J4 M x0 x2 x3 → Aj E l z 4 [(0, vj x0), (2, vi x2), (3, vi x3)] [] M) {M : MM} {x0 : Int} {x2 : Int} {x3 : Int} (h : VX11_howManyFit_4 E l D post J4 M x0 x2 x3) : Aj E l z 4 [(0, vj x0), (2, vi x2), (3, vi x3)] [] M := by
  unfold VX11_howManyFit_4 at h
  refine v_iload_n (i := 2) C dX11_howManyFit_4 rfl rfl ?_
  refine v_bipush C dX11_howManyFit_5 (by decide) ?_
  refine v_icmp_gt (tgt := 28) C h.1 (by decide) dX11_howManyFit_7 (by decide) (fun c => ?_) (fun c => ?_)
  · have g3 := h.2.1 c
    refine v_iload_n (i := 1) C dX11_howManyFit_28 rfl rfl ?_
    refine v_iload_n (i := 1) C dX11_howManyFit_29 rfl rfl ?_
    refine v_iconst C dX11_howManyFit_30 ?_
    refine v_isub C dX11_howManyFit_31 ?_
    refine v_imul C dX11_howManyFit_32 ?_
    refine v_iconst C dX11_howManyFit_33 ?_
    refine v_idiv C g3.1 (by decide) (by decide) dX11_howManyFit_34 ?_
    exact v_iret C r dX11_howManyFit_35 g3.2
  · have g4 := h.2.2 c
    refine v_iload_n (i := 2) C dX11_howManyFit_10 rfl rfl ?_
    refine v_i2l C g4.1 dX11_howManyFit_11 ?_
    refine v_lload_n (i := 0) C dX11_howManyFit_12 rfl rfl ?_
    refine v_callS (q := qX7_divides) (As := [vj x3, vj x0]) (S := []) C co_yX7_divides ml_RX11_336 st_yX7_divides ini_RX7 hq_X7_divides (by decide) (Nat.le_of_ble_eq_true rfl) rfl dX11_howManyFit_13 (Con.mono g4.2 (fun rr M5 hr => ?_) (Nat.le_refl _))
    obtain ⟨y6, rfl, g7⟩ := hr
    show Aj E l z (13 + 3) [(0, vj x0), (2, vi x2), (3, vi x3)] [vi y6] M5
    refine v_if_eq (tgt := 22) C g7.1 dX11_howManyFit_16 (by decide) (fun c => ?_) (fun c => ?_)
    · have g8 := g7.2.1 c
      obtain ⟨y10, hy10⟩ : ∃ y : Int, y = x3 + 1 := ⟨_, rfl⟩
      have g11 := g8 y10 hy10
      refine v_iinc (i := 2) (L' := [(3, vi y10), (0, vj x0), (2, vi x2)]) C dX11_howManyFit_22 rfl (by decide) hy10 rfl ?_
      refine v_goto C dX11_howManyFit_25 (tgt := 4) (by decide) ?_
      exact v_sub [1, 2, 0] rfl (hJ4 _ _ _ _ g11)
    · have g9 := g7.2.2 c
      obtain ⟨y12, hy12⟩ : ∃ y : Int, y = x2 + 1 := ⟨_, rfl⟩
      have g13 := g9 y12 hy12
      refine v_iinc (i := 1) (L' := [(2, vi y12), (0, vj x0), (3, vi x3)]) C dX11_howManyFit_19 rfl (by decide) hy12 rfl ?_
      exact v_sub [1, 0, 2] rfl (SX11_howManyFit_22 C r hJ4 g13)
theorem RX11_howManyFit {E : FX} {l : Launch} {D : Nat} {post : Option AV → MM → Prop} (I4 : MM → Int → Int → Int → Prop) (m4 : MM → Int → Int → Int → Nat) {M : MM} {x0 : Int} (h0 : VX11_howManyFit_0 E l D post I4 M x0) (h4I : ∀ (M : MM) (x0 : Int) (x2 : Int) (x3 : Int), I4 M x0 x2 x3 → VX11_howManyFit_4 E l D post (fun M' x0' x2' x3' => I4 M' x0' x2' x3' ∧ m4 M' x0' x2' x3' < m4 M x0 x2 x3) M x0 x2 x3) : Con E l (D + 1) qX11_howManyFit [vj x0] M post := by
  refine con_of (by decide +kernel) (Nat.le_of_ble_eq_true rfl) (fun z C r => ?_)
  have all : ∀ n : Nat, (∀ (M : MM) (x0 : Int) (x2 : Int) (x3 : Int), I4 M x0 x2 x3 → m4 M x0 x2 x3 < n → Aj E l z 4 [(0, vj x0), (2, vi x2), (3, vi x3)] [] M) := by
    intro n
    induction n with
    | zero => exact fun _ _ _ _ _ hm => absurd hm (Nat.not_lt_zero _)
    | succ n ih => exact fun M x0 x2 x3 hi hm => SX11_howManyFit_4 C r (fun M' x0' x2' x3' hj => ih M' x0' x2' x3' hj.1 (by omega)) (h4I M x0 x2 x3 hi)
  exact v_sub [0] rfl (SX11_howManyFit_0 C r (fun M' x0' x2' x3' hj => (all _) M' x0' x2' x3' hj (Nat.lt_succ_self _)) h0)
def VX11_bestFit_0 (E : FX) (l : Launch) (D : Nat) (post : Option AV → MM → Prop) (J8 : MM → Int → Int → Int → Int → Prop) (J34 : MM → Int → Int → Int → Int → Int → Prop) (M : MM) (x0 : Int) : Prop :=
  J8 M x0 (-4) 0 2
set_option maxRecDepth 20000 in
theorem SX11_bestFit_0 {E : FX} {l : Launch} {D : Nat} {post : Option AV → MM → Prop} {z : RT} {J8 : MM → Int → Int → Int → Int → Prop} {J34 : MM → Int → Int → Int → Int → Int → Prop} (C : Cx E z D RX11 cX11_bestFit 9) (r : Rt E z (some .int) post) (hJ8 : ∀ (M : MM) (x0 : Int) (x2 : Int) (x3 : Int) (x5 : Int), J8 M x0 x2 x3 x5 → Aj E l z 8 [(0, vj x0), (2, vi x2), (3, vj x3), (5, vi x5)] [] M) (hJ34 : ∀ (M : MM) (x0 : Int) (x2 : Int) (x3 : Int) (x5 : Int) (x6 : Int), J34 M x0 x2 x3 x5 x6 → Aj E l z 34 [(0, vj x0), (2, vi x2), (3, vj x3), (5, vi x5), (6, vi x6)] [] M) {M : MM} {x0 : Int} (h : VX11_bestFit_0 E l D post J8 J34 M x0) : Aj E l z 0 [(0, vj x0)] [] M := by
  unfold VX11_bestFit_0 at h
  refine v_bipush C dX11_bestFit_0 (by decide) ?_
  refine v_istore_n (L' := [(2, vi (-4)), (0, vj x0)]) C dX11_bestFit_2 rfl (by decide) rfl ?_
  refine v_lconst (x := 0) C dX11_bestFit_3 (by decide) ?_
  refine v_lstore_n (L' := [(3, vj 0), (2, vi (-4)), (0, vj x0)]) C dX11_bestFit_4 rfl (by decide) rfl ?_
  refine v_iconst C dX11_bestFit_5 ?_
  refine v_istore (L' := [(5, vi 2), (3, vj 0), (2, vi (-4)), (0, vj x0)]) C dX11_bestFit_6 (by decide) rfl ?_
  exact v_sub [3, 2, 1, 0] rfl (hJ8 _ _ _ _ _ h)
def VX11_bestFit_87 (E : FX) (l : Launch) (D : Nat) (post : Option AV → MM → Prop) (J8 : MM → Int → Int → Int → Int → Prop) (J34 : MM → Int → Int → Int → Int → Int → Prop) (M : MM) (x0 : Int) (x2 : Int) (x3 : Int) (x5 : Int) : Prop :=
  ∀ y1 : Int, y1 = x5 + 1 → (J8 M x0 x2 x3 y1)
set_option maxRecDepth 20000 in
theorem SX11_bestFit_87 {E : FX} {l : Launch} {D : Nat} {post : Option AV → MM → Prop} {z : RT} {J8 : MM → Int → Int → Int → Int → Prop} {J34 : MM → Int → Int → Int → Int → Int → Prop} (C : Cx E z D RX11 cX11_bestFit 9) (r : Rt E z (some .int) post) (hJ8 : ∀ (M : MM) (x0 : Int) (x2 : Int) (x3 : Int) (x5 : Int), J8 M x0 x2 x3 x5 → Aj E l z 8 [(0, vj x0), (2, vi x2), (3, vj x3), (5, vi x5)] [] M) (hJ34 : ∀ (M : MM) (x0 : Int) (x2 : Int) (x3 : Int) (x5 : Int) (x6 : Int), J34 M x0 x2 x3 x5 x6 → Aj E l z 34 [(0, vj x0), (2, vi x2), (3, vj x3), (5, vi x5), (6, vi x6)] [] M) {M : MM} {x0 : Int} {x2 : Int} {x3 : Int} {x5 : Int} (h : VX11_bestFit_87 E l D post J8 J34 M x0 x2 x3 x5) : Aj E l z 87 [(0, vj x0), (2, vi x2), (3, vj x3), (5, vi x5)] [] M := by
  unfold VX11_bestFit_87 at h
  obtain ⟨y1, hy1⟩ : ∃ y : Int, y = x5 + 1 := ⟨_, rfl⟩
  have g2 := h y1 hy1
  refine v_iinc (i := 3) (L' := [(5, vi y1), (0, vj x0), (2, vi x2), (3, vj x3)]) C dX11_bestFit_87 rfl (by decide) hy1 rfl ?_
  refine v_goto C dX11_bestFit_90 (tgt := 8) (by decide) ?_
  exact v_sub [1, 2, 3, 0] rfl (hJ8 _ _ _ _ _ g2)
def VX11_bestFit_8 (E : FX) (l : Launch) (D : Nat) (post : Option AV → MM → Prop) (J8 : MM → Int → Int → Int → Int → Prop) (J34 : MM → Int → Int → Int → Int → Int → Prop) (M : MM) (x0 : Int) (x2 : Int) (x3 : Int) (x5 : Int) : Prop :=
  R32 x5 ∧ ((60 ≤ x5 → post (some (vi x2)) M) ∧ (¬ 60 ≤ x5 → R32 x5 ∧ (Con E l D qX7_divides [vj x5, vj x0] M (fun r M5 => ∃ y6 : Int, r = some (vi y6) ∧ (R32 y6 ∧ ((¬ y6 = 0 → ∀ y10 : Int, y10 = x5 + 1 → (J34 M5 x0 x2 x3 x5 y10)) ∧ (y6 = 0 → VX11_bestFit_87 E l D post J8 J34 M5 x0 x2 x3 x5)))))))
set_option maxRecDepth 20000 in
theorem SX11_bestFit_8 {E : FX} {l : Launch} {D : Nat} {post : Option AV → MM → Prop} {z : RT} {J8 : MM → Int → Int → Int → Int → Prop} {J34 : MM → Int → Int → Int → Int → Int → Prop} (C : Cx E z D RX11 cX11_bestFit 9) (r : Rt E z (some .int) post) (hJ8 : ∀ (M : MM) (x0 : Int) (x2 : Int) (x3 : Int) (x5 : Int), J8 M x0 x2 x3 x5 → Aj E l z 8 [(0, vj x0), (2, vi x2), (3, vj x3), (5, vi x5)] [] M) (hJ34 : ∀ (M : MM) (x0 : Int) (x2 : Int) (x3 : Int) (x5 : Int) (x6 : Int), J34 M x0 x2 x3 x5 x6 → Aj E l z 34 [(0, vj x0), (2, vi x2), (3, vj x3), (5, vi x5), (6, vi x6)] [] M) {M : MM} {x0 : Int} {x2 : Int} {x3 : Int} {x5 : Int} (h : VX11_bestFit_8 E l D post J8 J34 M x0 x2 x3 x5) : Aj E l z 8 [(0, vj x0), (2, vi x2), (3, vj x3), (5, vi x5)] [] M := by
  unfold VX11_bestFit_8 at h
  refine v_iload (i := 3) C dX11_bestFit_8 rfl ?_
  refine v_bipush C dX11_bestFit_10 (by decide) ?_
  refine v_icmp_ge (tgt := 93) C h.1 (by decide) dX11_bestFit_12 (by decide) (fun c => ?_) (fun c => ?_)
  · have g3 := h.2.1 c
    refine v_iload_n (i := 1) C dX11_bestFit_93 rfl rfl ?_
    exact v_iret C r dX11_bestFit_94 g3
  · have g4 := h.2.2 c
    refine v_iload (i := 3) C dX11_bestFit_15 rfl ?_
    refine v_i2l C g4.1 dX11_bestFit_17 ?_
    refine v_lload_n (i := 0) C dX11_bestFit_18 rfl rfl ?_
    refine v_callS (q := qX7_divides) (As := [vj x5, vj x0]) (S := []) C co_yX7_divides ml_RX11_336 st_yX7_divides ini_RX7 hq_X7_divides (by decide) (Nat.le_of_ble_eq_true rfl) rfl dX11_bestFit_19 (Con.mono g4.2 (fun rr M5 hr => ?_) (Nat.le_refl _))
    obtain ⟨y6, rfl, g7⟩ := hr
    show Aj E l z (19 + 3) [(0, vj x0), (2, vi x2), (3, vj x3), (5, vi x5)] [vi y6] M5
    refine v_if_ne (tgt := 28) C g7.1 dX11_bestFit_22 (by decide) (fun c => ?_) (fun c => ?_)
    · have g8 := g7.2.1 c
      refine v_iload (i := 3) C dX11_bestFit_28 rfl ?_
      refine v_iconst C dX11_bestFit_30 ?_
      refine v_iadd C dX11_bestFit_31 ?_
      obtain ⟨y10, hy10⟩ : ∃ y : Int, y = x5 + 1 := ⟨_, rfl⟩
      have g11 := g8 y10 hy10
      refine v_eqi hy10 ?_
      refine v_istore (L' := [(6, vi y10), (0, vj x0), (2, vi x2), (3, vj x3), (5, vi x5)]) C dX11_bestFit_32 (by decide) rfl ?_
      exact v_sub [1, 2, 3, 4, 0] rfl (hJ34 _ _ _ _ _ _ g11)
    · have g9 := g7.2.2 c
      refine v_goto C dX11_bestFit_25 (tgt := 87) (by decide) ?_
      exact v_sub [0, 1, 2, 3] rfl (SX11_bestFit_87 C r hJ8 hJ34 g9)
def VX11_bestFit_81 (E : FX) (l : Launch) (D : Nat) (post : Option AV → MM → Prop) (J8 : MM → Int → Int → Int → Int → Prop) (J34 : MM → Int → Int → Int → Int → Int → Prop) (M : MM) (x0 : Int) (x2 : Int) (x3 : Int) (x5 : Int) (x6 : Int) : Prop :=
  ∀ y12 : Int, y12 = x6 + 1 → (J34 M x0 x2 x3 x5 y12)
set_option maxRecDepth 20000 in
theorem SX11_bestFit_81 {E : FX} {l : Launch} {D : Nat} {post : Option AV → MM → Prop} {z : RT} {J8 : MM → Int → Int → Int → Int → Prop} {J34 : MM → Int → Int → Int → Int → Int → Prop} (C : Cx E z D RX11 cX11_bestFit 9) (r : Rt E z (some .int) post) (hJ8 : ∀ (M : MM) (x0 : Int) (x2 : Int) (x3 : Int) (x5 : Int), J8 M x0 x2 x3 x5 → Aj E l z 8 [(0, vj x0), (2, vi x2), (3, vj x3), (5, vi x5)] [] M) (hJ34 : ∀ (M : MM) (x0 : Int) (x2 : Int) (x3 : Int) (x5 : Int) (x6 : Int), J34 M x0 x2 x3 x5 x6 → Aj E l z 34 [(0, vj x0), (2, vi x2), (3, vj x3), (5, vi x5), (6, vi x6)] [] M) {M : MM} {x0 : Int} {x2 : Int} {x3 : Int} {x5 : Int} {x6 : Int} (h : VX11_bestFit_81 E l D post J8 J34 M x0 x2 x3 x5 x6) : Aj E l z 81 [(0, vj x0), (2, vi x2), (3, vj x3), (5, vi x5), (6, vi x6)] [] M := by
  unfold VX11_bestFit_81 at h
  obtain ⟨y12, hy12⟩ : ∃ y : Int, y = x6 + 1 := ⟨_, rfl⟩
  have g13 := h y12 hy12
  refine v_iinc (i := 4) (L' := [(6, vi y12), (0, vj x0), (2, vi x2), (3, vj x3), (5, vi x5)]) C dX11_bestFit_81 rfl (by decide) hy12 rfl ?_
  refine v_goto C dX11_bestFit_84 (tgt := 34) (by decide) ?_
  exact v_sub [1, 2, 3, 4, 0] rfl (hJ34 _ _ _ _ _ _ g13)
def VX11_bestFit_34 (E : FX) (l : Launch) (D : Nat) (post : Option AV → MM → Prop) (J8 : MM → Int → Int → Int → Int → Prop) (J34 : MM → Int → Int → Int → Int → Int → Prop) (M : MM) (x0 : Int) (x2 : Int) (x3 : Int) (x5 : Int) (x6 : Int) : Prop :=
  R32 x6 ∧ ((60 < x6 → ∀ y16 : Int, y16 = x5 + 1 → (J8 M x0 x2 x3 y16)) ∧ (¬ 60 < x6 → R32 x5 ∧ (R32 x6 ∧ (Con E l D qX7_leastCommon [vj x5, vj x6] M (fun r M18 => ∃ y19 : Int, r = some (vj y19) ∧ (R32 x6 ∧ (Con E l D qX7_divides [vj x6, vj x0] M18 (fun r M21 => ∃ y22 : Int, r = some (vi y22) ∧ (R32 y22 ∧ ((y22 = 0 → ∀ y26 : Int, y26 = x6 + 1 → (J34 M21 x0 x2 x3 x5 y26)) ∧ (¬ y22 = 0 → R64 y19 ∧ (R64 x3 ∧ ((y19 ≤ x3 → ∀ y30 : Int, y30 = x6 + 1 → (J34 M21 x0 x2 x3 x5 y30)) ∧ (¬ y19 ≤ x3 → ∀ y32 : Int, y32 = (100 * x5) + x6 → (VX11_bestFit_81 E l D post J8 J34 M21 x0 y32 y19 x5 x6)))))))))))))))
set_option maxRecDepth 20000 in
theorem SX11_bestFit_34 {E : FX} {l : Launch} {D : Nat} {post : Option AV → MM → Prop} {z : RT} {J8 : MM → Int → Int → Int → Int → Prop} {J34 : MM → Int → Int → Int → Int → Int → Prop} (C : Cx E z D RX11 cX11_bestFit 9) (r : Rt E z (some .int) post) (hJ8 : ∀ (M : MM) (x0 : Int) (x2 : Int) (x3 : Int) (x5 : Int), J8 M x0 x2 x3 x5 → Aj E l z 8 [(0, vj x0), (2, vi x2), (3, vj x3), (5, vi x5)] [] M) (hJ34 : ∀ (M : MM) (x0 : Int) (x2 : Int) (x3 : Int) (x5 : Int) (x6 : Int), J34 M x0 x2 x3 x5 x6 → Aj E l z 34 [(0, vj x0), (2, vi x2), (3, vj x3), (5, vi x5), (6, vi x6)] [] M) {M : MM} {x0 : Int} {x2 : Int} {x3 : Int} {x5 : Int} {x6 : Int} (h : VX11_bestFit_34 E l D post J8 J34 M x0 x2 x3 x5 x6) : Aj E l z 34 [(0, vj x0), (2, vi x2), (3, vj x3), (5, vi x5), (6, vi x6)] [] M := by
  unfold VX11_bestFit_34 at h
  refine v_iload (i := 4) C dX11_bestFit_34 rfl ?_
  refine v_bipush C dX11_bestFit_36 (by decide) ?_
  refine v_icmp_gt (tgt := 87) C h.1 (by decide) dX11_bestFit_38 (by decide) (fun c => ?_) (fun c => ?_)
  · have g14 := h.2.1 c
    obtain ⟨y16, hy16⟩ : ∃ y : Int, y = x5 + 1 := ⟨_, rfl⟩
    have g17 := g14 y16 hy16
    refine v_iinc (i := 3) (L' := [(5, vi y16), (0, vj x0), (2, vi x2), (3, vj x3), (6, vi x6)]) C dX11_bestFit_87 rfl (by decide) hy16 rfl ?_
    refine v_goto C dX11_bestFit_90 (tgt := 8) (by decide) ?_
    exact v_sub [1, 2, 3, 0] rfl (hJ8 _ _ _ _ _ g17)
  · have g15 := h.2.2 c
    refine v_iload (i := 3) C dX11_bestFit_41 rfl ?_
    refine v_i2l C g15.1 dX11_bestFit_43 ?_
    refine v_iload (i := 4) C dX11_bestFit_44 rfl ?_
    refine v_i2l C g15.2.1 dX11_bestFit_46 ?_
    refine v_callS (q := qX7_leastCommon) (As := [vj x5, vj x6]) (S := []) C co_yX7_leastCommon ml_RX11_340 st_yX7_leastCommon ini_RX7 hq_X7_leastCommon (by decide) (Nat.le_of_ble_eq_true rfl) rfl dX11_bestFit_47 (Con.mono g15.2.2 (fun rr M18 hr => ?_) (Nat.le_refl _))
    obtain ⟨y19, rfl, g20⟩ := hr
    show Aj E l z (47 + 3) [(0, vj x0), (2, vi x2), (3, vj x3), (5, vi x5), (6, vi x6)] [vj y19] M18
    refine v_lstore (L' := [(7, vj y19), (0, vj x0), (2, vi x2), (3, vj x3), (5, vi x5), (6, vi x6)]) C dX11_bestFit_50 (by decide) rfl ?_
    refine v_iload (i := 5) C dX11_bestFit_52 rfl ?_
    refine v_i2l C g20.1 dX11_bestFit_54 ?_
    refine v_lload_n (i := 1) C dX11_bestFit_55 rfl rfl ?_
    refine v_callS (q := qX7_divides) (As := [vj x6, vj x0]) (S := []) C co_yX7_divides ml_RX11_336 st_yX7_divides ini_RX7 hq_X7_divides (by decide) (Nat.le_of_ble_eq_true rfl) rfl dX11_bestFit_56 (Con.mono g20.2 (fun rr M21 hr => ?_) (Nat.le_refl _))
    obtain ⟨y22, rfl, g23⟩ := hr
    show Aj E l z (56 + 3) [(7, vj y19), (0, vj x0), (2, vi x2), (3, vj x3), (5, vi x5), (6, vi x6)] [vi y22] M21
    refine v_if_eq (tgt := 81) C g23.1 dX11_bestFit_59 (by decide) (fun c => ?_) (fun c => ?_)
    · have g24 := g23.2.1 c
      obtain ⟨y26, hy26⟩ : ∃ y : Int, y = x6 + 1 := ⟨_, rfl⟩
      have g27 := g24 y26 hy26
      refine v_iinc (i := 5) (L' := [(6, vi y26), (7, vj y19), (0, vj x0), (2, vi x2), (3, vj x3), (5, vi x5)]) C dX11_bestFit_81 rfl (by decide) hy26 rfl ?_
      refine v_goto C dX11_bestFit_84 (tgt := 34) (by decide) ?_
      exact v_sub [2, 3, 4, 5, 0] rfl (hJ34 _ _ _ _ _ _ g27)
    · have g25 := g23.2.2 c
      refine v_lload (i := 0) C dX11_bestFit_62 rfl ?_
      refine v_lload_n (i := 3) C dX11_bestFit_64 rfl rfl ?_
      refine v_lif_le (tgt := 81) C g25.1 g25.2.1 dX11_bestFit_65 dX11_bestFit_66 (by decide) (fun c => ?_) (fun c => ?_)
      · have g28 := g25.2.2.1 c
        obtain ⟨y30, hy30⟩ : ∃ y : Int, y = x6 + 1 := ⟨_, rfl⟩
        have g31 := g28 y30 hy30
        refine v_iinc (i := 5) (L' := [(6, vi y30), (7, vj y19), (0, vj x0), (2, vi x2), (3, vj x3), (5, vi x5)]) C dX11_bestFit_81 rfl (by decide) hy30 rfl ?_
        refine v_goto C dX11_bestFit_84 (tgt := 34) (by decide) ?_
        exact v_sub [2, 3, 4, 5, 0] rfl (hJ34 _ _ _ _ _ _ g31)
      · have g29 := g25.2.2.2 c
        refine v_lload (i := 0) C dX11_bestFit_69 rfl ?_
        refine v_lstore_n (L' := [(3, vj y19), (7, vj y19), (0, vj x0), (2, vi x2), (5, vi x5), (6, vi x6)]) C dX11_bestFit_71 rfl (by decide) rfl ?_
        refine v_bipush C dX11_bestFit_72 (by decide) ?_
        refine v_iload (i := 4) C dX11_bestFit_74 rfl ?_
        refine v_imul C dX11_bestFit_76 ?_
        refine v_iload (i := 5) C dX11_bestFit_77 rfl ?_
        refine v_iadd C dX11_bestFit_79 ?_
        obtain ⟨y32, hy32⟩ : ∃ y : Int, y = (100 * x5) + x6 := ⟨_, rfl⟩
        have g33 := g29 y32 hy32
        refine v_eqi hy32 ?_
        refine v_istore_n (L' := [(2, vi y32), (3, vj y19), (7, vj y19), (0, vj x0), (5, vi x5), (6, vi x6)]) C dX11_bestFit_80 rfl (by decide) rfl ?_
        exact v_sub [3, 0, 1, 4, 5] rfl (SX11_bestFit_81 C r hJ8 hJ34 g33)
theorem RX11_bestFit {E : FX} {l : Launch} {D : Nat} {post : Option AV → MM → Prop} (I8 : MM → Int → Int → Int → Int → Prop) (m8 : MM → Int → Int → Int → Int → Nat) (I34 : MM → Int → Int → Int → Int → Int → Prop) (m34 : MM → Int → Int → Int → Int → Int → Nat) {M : MM} {x0 : Int} (h0 : VX11_bestFit_0 E l D post I8 I34 M x0) (h8I : ∀ (M : MM) (x0 : Int) (x2 : Int) (x3 : Int) (x5 : Int), I8 M x0 x2 x3 x5 → VX11_bestFit_8 E l D post (fun M' x0' x2' x3' x5' => I8 M' x0' x2' x3' x5' ∧ m8 M' x0' x2' x3' x5' < m8 M x0 x2 x3 x5) (fun M' x0' x2' x3' x5' x6' => I34 M' x0' x2' x3' x5' x6' ∧ m34 M' x0' x2' x3' x5' x6' < m8 M x0 x2 x3 x5) M x0 x2 x3 x5) (h34I : ∀ (M : MM) (x0 : Int) (x2 : Int) (x3 : Int) (x5 : Int) (x6 : Int), I34 M x0 x2 x3 x5 x6 → VX11_bestFit_34 E l D post (fun M' x0' x2' x3' x5' => I8 M' x0' x2' x3' x5' ∧ m8 M' x0' x2' x3' x5' < m34 M x0 x2 x3 x5 x6) (fun M' x0' x2' x3' x5' x6' => I34 M' x0' x2' x3' x5' x6' ∧ m34 M' x0' x2' x3' x5' x6' < m34 M x0 x2 x3 x5 x6) M x0 x2 x3 x5 x6) : Con E l (D + 1) qX11_bestFit [vj x0] M post := by
  refine con_of (by decide +kernel) (Nat.le_of_ble_eq_true rfl) (fun z C r => ?_)
  have all : ∀ n : Nat, (∀ (M : MM) (x0 : Int) (x2 : Int) (x3 : Int) (x5 : Int), I8 M x0 x2 x3 x5 → m8 M x0 x2 x3 x5 < n → Aj E l z 8 [(0, vj x0), (2, vi x2), (3, vj x3), (5, vi x5)] [] M) ∧ (∀ (M : MM) (x0 : Int) (x2 : Int) (x3 : Int) (x5 : Int) (x6 : Int), I34 M x0 x2 x3 x5 x6 → m34 M x0 x2 x3 x5 x6 < n → Aj E l z 34 [(0, vj x0), (2, vi x2), (3, vj x3), (5, vi x5), (6, vi x6)] [] M) := by
    intro n
    induction n with
    | zero => exact ⟨fun _ _ _ _ _ _ hm => absurd hm (Nat.not_lt_zero _), fun _ _ _ _ _ _ _ hm => absurd hm (Nat.not_lt_zero _)⟩
    | succ n ih => exact ⟨fun M x0 x2 x3 x5 hi hm => SX11_bestFit_8 C r (fun M' x0' x2' x3' x5' hj => ih.1 M' x0' x2' x3' x5' hj.1 (by omega)) (fun M' x0' x2' x3' x5' x6' hj => ih.2 M' x0' x2' x3' x5' x6' hj.1 (by omega)) (h8I M x0 x2 x3 x5 hi), fun M x0 x2 x3 x5 x6 hi hm => SX11_bestFit_34 C r (fun M' x0' x2' x3' x5' hj => ih.1 M' x0' x2' x3' x5' hj.1 (by omega)) (fun M' x0' x2' x3' x5' x6' hj => ih.2 M' x0' x2' x3' x5' x6' hj.1 (by omega)) (h34I M x0 x2 x3 x5 x6 hi)⟩
  exact v_sub [0] rfl (SX11_bestFit_0 C r (fun M' x0' x2' x3' x5' hj => (all _).1 M' x0' x2' x3' x5' hj (Nat.lt_succ_self _)) (fun M' x0' x2' x3' x5' x6' hj => (all _).2 M' x0' x2' x3' x5' x6' hj (Nat.lt_succ_self _)) h0)
