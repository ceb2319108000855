def VX5_becomeLike_k_0 (E : FX) (l : Launch) (D : Nat) (post : Option AV → MM → Prop) (M : MM) : Prop :=
  Con E l D qX10_becomeLike [vr 14, vr 3] M (fun r M1 => r = none ∧ (Con E l D qX0_becomeLike [vr 16, vr 5] M1 (fun r M3 => r = none ∧ (Con E l D qX1_becomeLike [vr 20, vr 9] M3 (fun r M5 => r = none ∧ (Con E l D qX3_becomeLike [vr 22, vr 11] M5 (fun r M7 => r = none ∧ (post none M7))))))))
set_option maxRecDepth 20000 in
theorem SX5_becomeLike_k_0 {E : FX} {l : Launch} {D : Nat} {post : Option AV → MM → Prop} {z : RT} (C : Cx E z D RX5 cX5_becomeLike 2) (r : Rt E z none post) {M : MM} (h : VX5_becomeLike_k_0 E l D post M) : Aj E l z 0 [(0, vr 2), (1, vr 1)] [] M := by
  unfold VX5_becomeLike_k_0 at h
  refine v_aload_n (i := 0) C dX5_becomeLike_0 rfl rfl ?_
  refine v_getf (k := 2) C fl_RX5_10 rfl rfl dX5_becomeLike_1 ?_
  show Aj E l z (1 + 3) [(0, vr 2), (1, vr 1)] [vr 14] M
  refine v_aload_n (i := 1) C dX5_becomeLike_4 rfl rfl ?_
  refine v_getf (k := 1) C fl_RX5_10 rfl rfl dX5_becomeLike_5 ?_
  show Aj E l z (5 + 3) [(0, vr 2), (1, vr 1)] [vr 3, vr 14] M
  refine v_callV (q := qX10_becomeLike) (k := 14) (As := [vr 3]) (S := []) C co_yX10_becomeLike ml_RX5_37 im_yX10_becomeLike se_yX10_becomeLike ini_RX10 rfl rfl hq_X10_becomeLike (by decide) (Nat.le_of_ble_eq_true rfl) rfl dX5_becomeLike_8 (Con.mono h (fun rr M1 hr => ?_) (Nat.le_refl _))
  obtain ⟨rfl, g2⟩ := hr
  show Aj E l z (8 + 3) [(0, vr 2), (1, vr 1)] [] M1
  refine v_aload_n (i := 0) C dX5_becomeLike_11 rfl rfl ?_
  refine v_getf (k := 2) C fl_RX5_19 rfl rfl dX5_becomeLike_12 ?_
  show Aj E l z (12 + 3) [(0, vr 2), (1, vr 1)] [vr 16] M1
  refine v_aload_n (i := 1) C dX5_becomeLike_15 rfl rfl ?_
  refine v_getf (k := 1) C fl_RX5_19 rfl rfl dX5_becomeLike_16 ?_
  show Aj E l z (16 + 3) [(0, vr 2), (1, vr 1)] [vr 5, vr 16] M1
  refine v_callV (q := qX0_becomeLike) (k := 16) (As := [vr 5]) (S := []) C co_yX0_becomeLike ml_RX5_41 im_yX0_becomeLike se_yX0_becomeLike ini_RX0 rfl rfl hq_X0_becomeLike (by decide) (Nat.le_of_ble_eq_true rfl) rfl dX5_becomeLike_19 (Con.mono g2 (fun rr M3 hr => ?_) (Nat.le_refl _))
  obtain ⟨rfl, g4⟩ := hr
  show Aj E l z (19 + 3) [(0, vr 2), (1, vr 1)] [] M3
  refine v_aload_n (i := 0) C dX5_becomeLike_22 rfl rfl ?_
  refine v_getf (k := 2) C fl_RX5_26 rfl rfl dX5_becomeLike_23 ?_
  show Aj E l z (23 + 3) [(0, vr 2), (1, vr 1)] [vr 20] M3
  refine v_aload_n (i := 1) C dX5_becomeLike_26 rfl rfl ?_
  refine v_getf (k := 1) C fl_RX5_26 rfl rfl dX5_becomeLike_27 ?_
  show Aj E l z (27 + 3) [(0, vr 2), (1, vr 1)] [vr 9, vr 20] M3
  refine v_callV (q := qX1_becomeLike) (k := 20) (As := [vr 9]) (S := []) C co_yX1_becomeLike ml_RX5_44 im_yX1_becomeLike se_yX1_becomeLike ini_RX1 rfl rfl hq_X1_becomeLike (by decide) (Nat.le_of_ble_eq_true rfl) rfl dX5_becomeLike_30 (Con.mono g4 (fun rr M5 hr => ?_) (Nat.le_refl _))
  obtain ⟨rfl, g6⟩ := hr
  show Aj E l z (30 + 3) [(0, vr 2), (1, vr 1)] [] M5
  refine v_aload_n (i := 0) C dX5_becomeLike_33 rfl rfl ?_
  refine v_getf (k := 2) C fl_RX5_33 rfl rfl dX5_becomeLike_34 ?_
  show Aj E l z (34 + 3) [(0, vr 2), (1, vr 1)] [vr 22] M5
  refine v_aload_n (i := 1) C dX5_becomeLike_37 rfl rfl ?_
  refine v_getf (k := 1) C fl_RX5_33 rfl rfl dX5_becomeLike_38 ?_
  show Aj E l z (38 + 3) [(0, vr 2), (1, vr 1)] [vr 11, vr 22] M5
  refine v_callV (q := qX3_becomeLike) (k := 22) (As := [vr 11]) (S := []) C co_yX3_becomeLike ml_RX5_47 im_yX3_becomeLike se_yX3_becomeLike ini_RX3 rfl rfl hq_X3_becomeLike (by decide) (Nat.le_of_ble_eq_true rfl) rfl dX5_becomeLike_41 (Con.mono g6 (fun rr M7 hr => ?_) (Nat.le_refl _))
  obtain ⟨rfl, g8⟩ := hr
  show Aj E l z (41 + 3) [(0, vr 2), (1, vr 1)] [] M7
  exact v_vret C r dX5_becomeLike_44 g8
theorem RX5_becomeLike_k {E : FX} {l : Launch} {D : Nat} {post : Option AV → MM → Prop} {M : MM} (h0 : VX5_becomeLike_k_0 E l D post M) : Con E l (D + 1) qX5_becomeLike [vr 2, vr 1] M post := by
  refine con_of (by decide +kernel) (Nat.le_of_ble_eq_true rfl) (fun z C r => ?_)
  exact v_sub [0, 1] rfl (SX5_becomeLike_k_0 C r h0)
def VX5_becomeLike_m_0 (E : FX) (l : Launch) (D : Nat) (post : Option AV → MM → Prop) (M : MM) : Prop :=
  Con E l D qX10_becomeLike [vr 3, vr 14] M (fun r M1 => r = none ∧ (Con E l D qX0_becomeLike [vr 5, vr 16] M1 (fun r M3 => r = none ∧ (Con E l D qX1_becomeLike [vr 9, vr 20] M3 (fun r M5 => r = none ∧ (Con E l D qX3_becomeLike [vr 11, vr 22] M5 (fun r M7 => r = none ∧ (post none M7))))))))
set_option maxRecDepth 20000 in
theorem SX5_becomeLike_m_0 {E : FX} {l : Launch} {D : Nat} {post : Option AV → MM → Prop} {z : RT} (C : Cx E z D RX5 cX5_becomeLike 2) (r : Rt E z none post) {M : MM} (h : VX5_becomeLike_m_0 E l D post M) : Aj E l z 0 [(0, vr 1), (1, vr 2)] [] M := by
  unfold VX5_becomeLike_m_0 at h
  refine v_aload_n (i := 0) C dX5_becomeLike_0 rfl rfl ?_
  refine v_getf (k := 1) C fl_RX5_10 rfl rfl dX5_becomeLike_1 ?_
  show Aj E l z (1 + 3) [(0, vr 1), (1, vr 2)] [vr 3] M
  refine v_aload_n (i := 1) C dX5_becomeLike_4 rfl rfl ?_
  refine v_getf (k := 2) C fl_RX5_10 rfl rfl dX5_becomeLike_5 ?_
  show Aj E l z (5 + 3) [(0, vr 1), (1, vr 2)] [vr 14, vr 3] M
  refine v_callV (q := qX10_becomeLike) (k := 3) (As := [vr 14]) (S := []) C co_yX10_becomeLike ml_RX5_37 im_yX10_becomeLike se_yX10_becomeLike ini_RX10 rfl rfl hq_X10_becomeLike (by decide) (Nat.le_of_ble_eq_true rfl) rfl dX5_becomeLike_8 (Con.mono h (fun rr M1 hr => ?_) (Nat.le_refl _))
  obtain ⟨rfl, g2⟩ := hr
  show Aj E l z (8 + 3) [(0, vr 1), (1, vr 2)] [] M1
  refine v_aload_n (i := 0) C dX5_becomeLike_11 rfl rfl ?_
  refine v_getf (k := 1) C fl_RX5_19 rfl rfl dX5_becomeLike_12 ?_
  show Aj E l z (12 + 3) [(0, vr 1), (1, vr 2)] [vr 5] M1
  refine v_aload_n (i := 1) C dX5_becomeLike_15 rfl rfl ?_
  refine v_getf (k := 2) C fl_RX5_19 rfl rfl dX5_becomeLike_16 ?_
  show Aj E l z (16 + 3) [(0, vr 1), (1, vr 2)] [vr 16, vr 5] M1
  refine v_callV (q := qX0_becomeLike) (k := 5) (As := [vr 16]) (S := []) C co_yX0_becomeLike ml_RX5_41 im_yX0_becomeLike se_yX0_becomeLike ini_RX0 rfl rfl hq_X0_becomeLike (by decide) (Nat.le_of_ble_eq_true rfl) rfl dX5_becomeLike_19 (Con.mono g2 (fun rr M3 hr => ?_) (Nat.le_refl _))
  obtain ⟨rfl, g4⟩ := hr
  show Aj E l z (19 + 3) [(0, vr 1), (1, vr 2)] [] M3
  refine v_aload_n (i := 0) C dX5_becomeLike_22 rfl rfl ?_
  refine v_getf (k := 1) C fl_RX5_26 rfl rfl dX5_becomeLike_23 ?_
  show Aj E l z (23 + 3) [(0, vr 1), (1, vr 2)] [vr 9] M3
  refine v_aload_n (i := 1) C dX5_becomeLike_26 rfl rfl ?_
  refine v_getf (k := 2) C fl_RX5_26 rfl rfl dX5_becomeLike_27 ?_
  show Aj E l z (27 + 3) [(0, vr 1), (1, vr 2)] [vr 20, vr 9] M3
  refine v_callV (q := qX1_becomeLike) (k := 9) (As := [vr 20]) (S := []) C co_yX1_becomeLike ml_RX5_44 im_yX1_becomeLike se_yX1_becomeLike ini_RX1 rfl rfl hq_X1_becomeLike (by decide) (Nat.le_of_ble_eq_true rfl) rfl dX5_becomeLike_30 (Con.mono g4 (fun rr M5 hr => ?_) (Nat.le_refl _))
  obtain ⟨rfl, g6⟩ := hr
  show Aj E l z (30 + 3) [(0, vr 1), (1, vr 2)] [] M5
  refine v_aload_n (i := 0) C dX5_becomeLike_33 rfl rfl ?_
  refine v_getf (k := 1) C fl_RX5_33 rfl rfl dX5_becomeLike_34 ?_
  show Aj E l z (34 + 3) [(0, vr 1), (1, vr 2)] [vr 11] M5
  refine v_aload_n (i := 1) C dX5_becomeLike_37 rfl rfl ?_
  refine v_getf (k := 2) C fl_RX5_33 rfl rfl dX5_becomeLike_38 ?_
  show Aj E l z (38 + 3) [(0, vr 1), (1, vr 2)] [vr 22, vr 11] M5
  refine v_callV (q := qX3_becomeLike) (k := 11) (As := [vr 22]) (S := []) C co_yX3_becomeLike ml_RX5_47 im_yX3_becomeLike se_yX3_becomeLike ini_RX3 rfl rfl hq_X3_becomeLike (by decide) (Nat.le_of_ble_eq_true rfl) rfl dX5_becomeLike_41 (Con.mono g6 (fun rr M7 hr => ?_) (Nat.le_refl _))
  obtain ⟨rfl, g8⟩ := hr
  show Aj E l z (41 + 3) [(0, vr 1), (1, vr 2)] [] M7
  exact v_vret C r dX5_becomeLike_44 g8
theorem RX5_becomeLike_m {E : FX} {l : Launch} {D : Nat} {post : Option AV → MM → Prop} {M : MM} (h0 : VX5_becomeLike_m_0 E l D post M) : Con E l (D + 1) qX5_becomeLike [vr 1, vr 2] M post := by
  refine con_of (by decide +kernel) (Nat.le_of_ble_eq_true rfl) (fun z C r => ?_)
  exact v_sub [0, 1] rfl (SX5_becomeLike_m_0 C r h0)
