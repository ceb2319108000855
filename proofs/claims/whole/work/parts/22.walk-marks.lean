def VX6_meetEvery_0 (E : FX) (l : Launch) (D : Nat) (post : Option AV → MM → Prop) (M : MM) (x1 : Int) : Prop :=
  Con E l D qX7_put_ [vr 38, vi 0, vj x1] M (fun r M1 => r = none ∧ (∀ M3 : MM, M3 = up M1 37 1 1 → (∀ M5 : MM, M5 = up M3 37 2 x1 → (post none M5))))
set_option maxRecDepth 20000 in
theorem SX6_meetEvery_0 {E : FX} {l : Launch} {D : Nat} {post : Option AV → MM → Prop} {z : RT} (C : Cx E z D RX6 cX6_meetEvery 3) (r : Rt E z none post) {M : MM} {x1 : Int} (h : VX6_meetEvery_0 E l D post M x1) : Aj E l z 0 [(0, vr 37), (1, vj x1)] [] M := by
  unfold VX6_meetEvery_0 at h
  refine v_aload_n (i := 0) C dX6_meetEvery_0 rfl rfl ?_
  refine v_getf (k := 37) C fl_RX6_9 rfl rfl dX6_meetEvery_1 ?_
  show Aj E l z (1 + 3) [(0, vr 37), (1, vj x1)] [vr 38] M
  refine v_iconst C dX6_meetEvery_4 ?_
  refine v_lload_n (i := 1) C dX6_meetEvery_5 rfl rfl ?_
  refine v_callS (q := qX7_put_) (As := [vr 38, vi 0, vj x1]) (S := []) C co_yX7_put_ ml_RX6_15 st_yX7_put_ ini_RX7 hq_X7_put_ (by decide) (Nat.le_of_ble_eq_true rfl) rfl dX6_meetEvery_6 (Con.mono h (fun rr M1 hr => ?_) (Nat.le_refl _))
  obtain ⟨rfl, g2⟩ := hr
  show Aj E l z (6 + 3) [(0, vr 37), (1, vj x1)] [] M1
  refine v_aload_n (i := 0) C dX6_meetEvery_9 rfl rfl ?_
  refine v_iconst C dX6_meetEvery_10 ?_
  refine v_putf (k := 37) (x := 1) (t := 0) C fp_RX6_21 rfl rfl (by decide) (by simp [fv, up]) rfl rfl dX6_meetEvery_11 ?_
  obtain ⟨M3, hM3⟩ : ∃ X : MM, X = up M1 37 1 1 := ⟨_, rfl⟩
  refine v_eqM hM3 ?_
  have g4 := g2 M3 hM3
  refine v_aload_n (i := 0) C dX6_meetEvery_14 rfl rfl ?_
  refine v_lload_n (i := 1) C dX6_meetEvery_15 rfl rfl ?_
  refine v_putf (k := 37) (x := x1) (t := 1) C fp_RX6_25 rfl rfl (by decide) (by simp [fv, up]) rfl rfl dX6_meetEvery_16 ?_
  obtain ⟨M5, hM5⟩ : ∃ X : MM, X = up M3 37 2 x1 := ⟨_, rfl⟩
  refine v_eqM hM5 ?_
  have g6 := g4 M5 hM5
  exact v_vret C r dX6_meetEvery_19 g6
theorem RX6_meetEvery {E : FX} {l : Launch} {D : Nat} {post : Option AV → MM → Prop} {M : MM} {x1 : Int} (h0 : VX6_meetEvery_0 E l D post M x1) : Con E l (D + 1) qX6_meetEvery [vr 37, vj x1] M post := by
  refine con_of (by decide +kernel) (Nat.le_of_ble_eq_true rfl) (fun z C r => ?_)
  exact v_sub [0, 1] rfl (SX6_meetEvery_0 C r h0)
def VX6_meetTwoOfThree_0 (E : FX) (l : Launch) (D : Nat) (post : Option AV → MM → Prop) (M : MM) (x1 : Int) (x2 : Int) (x3 : Int) : Prop :=
  R32 x1 ∧ (R32 x2 ∧ (Con E l D qX7_leastCommon [vj x1, vj x2] M (fun r M1 => ∃ y2 : Int, r = some (vj y2) ∧ (Con E l D qX7_put_ [vr 38, vi 0, vj y2] M1 (fun r M4 => r = none ∧ (R32 x1 ∧ (R32 x3 ∧ (Con E l D qX7_leastCommon [vj x1, vj x3] M4 (fun r M6 => ∃ y7 : Int, r = some (vj y7) ∧ (Con E l D qX7_put_ [vr 38, vi 1, vj y7] M6 (fun r M9 => r = none ∧ (R32 x2 ∧ (R32 x3 ∧ (Con E l D qX7_leastCommon [vj x2, vj x3] M9 (fun r M11 => ∃ y12 : Int, r = some (vj y12) ∧ (Con E l D qX7_put_ [vr 38, vi 2, vj y12] M11 (fun r M14 => r = none ∧ (∀ M16 : MM, M16 = up M14 37 1 3 → (Con E l D qX7_at_ [vr 38, vi 0] M16 (fun r M18 => ∃ y19 : Int, r = some (vj y19) ∧ (R32 x3 ∧ (Con E l D qX7_leastCommon [vj y19, vj x3] M18 (fun r M21 => ∃ y22 : Int, r = some (vj y22) ∧ (∀ M24 : MM, M24 = up M21 37 2 y22 → (post none M24)))))))))))))))))))))))))
set_option maxRecDepth 20000 in
theorem SX6_meetTwoOfThree_0 {E : FX} {l : Launch} {D : Nat} {post : Option AV → MM → Prop} {z : RT} (C : Cx E z D RX6 cX6_meetTwoOfThree 4) (r : Rt E z none post) {M : MM} {x1 : Int} {x2 : Int} {x3 : Int} (h : VX6_meetTwoOfThree_0 E l D post M x1 x2 x3) : Aj E l z 0 [(0, vr 37), (1, vi x1), (2, vi x2), (3, vi x3)] [] M := by
  unfold VX6_meetTwoOfThree_0 at h
  refine v_aload_n (i := 0) C dX6_meetTwoOfThree_0 rfl rfl ?_
  refine v_getf (k := 37) C fl_RX6_9 rfl rfl dX6_meetTwoOfThree_1 ?_
  show Aj E l z (1 + 3) [(0, vr 37), (1, vi x1), (2, vi x2), (3, vi x3)] [vr 38] M
  refine v_iconst C dX6_meetTwoOfThree_4 ?_
  refine v_iload_n (i := 1) C dX6_meetTwoOfThree_5 rfl rfl ?_
  refine v_i2l C h.1 dX6_meetTwoOfThree_6 ?_
  refine v_iload_n (i := 2) C dX6_meetTwoOfThree_7 rfl rfl ?_
  refine v_i2l C h.2.1 dX6_meetTwoOfThree_8 ?_
  refine v_callS (q := qX7_leastCommon) (As := [vj x1, vj x2]) (S := [vi 0, vr 38]) C co_yX7_leastCommon ml_RX6_29 st_yX7_leastCommon ini_RX7 hq_X7_leastCommon (by decide) (Nat.le_of_ble_eq_true rfl) rfl dX6_meetTwoOfThree_9 (Con.mono h.2.2 (fun rr M1 hr => ?_) (Nat.le_refl _))
  obtain ⟨y2, rfl, g3⟩ := hr
  show Aj E l z (9 + 3) [(0, vr 37), (1, vi x1), (2, vi x2), (3, vi x3)] [vj y2, vi 0, vr 38] M1
  refine v_callS (q := qX7_put_) (As := [vr 38, vi 0, vj y2]) (S := []) C co_yX7_put_ ml_RX6_15 st_yX7_put_ ini_RX7 hq_X7_put_ (by decide) (Nat.le_of_ble_eq_true rfl) rfl dX6_meetTwoOfThree_12 (Con.mono g3 (fun rr M4 hr => ?_) (Nat.le_refl _))
  obtain ⟨rfl, g5⟩ := hr
  show Aj E l z (12 + 3) [(0, vr 37), (1, vi x1), (2, vi x2), (3, vi x3)] [] M4
  refine v_aload_n (i := 0) C dX6_meetTwoOfThree_15 rfl rfl ?_
  refine v_getf (k := 37) C fl_RX6_9 rfl rfl dX6_meetTwoOfThree_16 ?_
  show Aj E l z (16 + 3) [(0, vr 37), (1, vi x1), (2, vi x2), (3, vi x3)] [vr 38] M4
  refine v_iconst C dX6_meetTwoOfThree_19 ?_
  refine v_iload_n (i := 1) C dX6_meetTwoOfThree_20 rfl rfl ?_
  refine v_i2l C g5.1 dX6_meetTwoOfThree_21 ?_
  refine v_iload_n (i := 3) C dX6_meetTwoOfThree_22 rfl rfl ?_
  refine v_i2l C g5.2.1 dX6_meetTwoOfThree_23 ?_
  refine v_callS (q := qX7_leastCommon) (As := [vj x1, vj x3]) (S := [vi 1, vr 38]) C co_yX7_leastCommon ml_RX6_29 st_yX7_leastCommon ini_RX7 hq_X7_leastCommon (by decide) (Nat.le_of_ble_eq_true rfl) rfl dX6_meetTwoOfThree_24 (Con.mono g5.2.2 (fun rr M6 hr => ?_) (Nat.le_refl _))
  obtain ⟨y7, rfl, g8⟩ := hr
  show Aj E l z (24 + 3) [(0, vr 37), (1, vi x1), (2, vi x2), (3, vi x3)] [vj y7, vi 1, vr 38] M6
  refine v_callS (q := qX7_put_) (As := [vr 38, vi 1, vj y7]) (S := []) C co_yX7_put_ ml_RX6_15 st_yX7_put_ ini_RX7 hq_X7_put_ (by decide) (Nat.le_of_ble_eq_true rfl) rfl dX6_meetTwoOfThree_27 (Con.mono g8 (fun rr M9 hr => ?_) (Nat.le_refl _))
  obtain ⟨rfl, g10⟩ := hr
  show Aj E l z (27 + 3) [(0, vr 37), (1, vi x1), (2, vi x2), (3, vi x3)] [] M9
  refine v_aload_n (i := 0) C dX6_meetTwoOfThree_30 rfl rfl ?_
  refine v_getf (k := 37) C fl_RX6_9 rfl rfl dX6_meetTwoOfThree_31 ?_
  show Aj E l z (31 + 3) [(0, vr 37), (1, vi x1), (2, vi x2), (3, vi x3)] [vr 38] M9
  refine v_iconst C dX6_meetTwoOfThree_34 ?_
  refine v_iload_n (i := 2) C dX6_meetTwoOfThree_35 rfl rfl ?_
  refine v_i2l C g10.1 dX6_meetTwoOfThree_36 ?_
  refine v_iload_n (i := 3) C dX6_meetTwoOfThree_37 rfl rfl ?_
  refine v_i2l C g10.2.1 dX6_meetTwoOfThree_38 ?_
  refine v_callS (q := qX7_leastCommon) (As := [vj x2, vj x3]) (S := [vi 2, vr 38]) C co_yX7_leastCommon ml_RX6_29 st_yX7_leastCommon ini_RX7 hq_X7_leastCommon (by decide) (Nat.le_of_ble_eq_true rfl) rfl dX6_meetTwoOfThree_39 (Con.mono g10.2.2 (fun rr M11 hr => ?_) (Nat.le_refl _))
  obtain ⟨y12, rfl, g13⟩ := hr
  show Aj E l z (39 + 3) [(0, vr 37), (1, vi x1), (2, vi x2), (3, vi x3)] [vj y12, vi 2, vr 38] M11
  refine v_callS (q := qX7_put_) (As := [vr 38, vi 2, vj y12]) (S := []) C co_yX7_put_ ml_RX6_15 st_yX7_put_ ini_RX7 hq_X7_put_ (by decide) (Nat.le_of_ble_eq_true rfl) rfl dX6_meetTwoOfThree_42 (Con.mono g13 (fun rr M14 hr => ?_) (Nat.le_refl _))
  obtain ⟨rfl, g15⟩ := hr
  show Aj E l z (42 + 3) [(0, vr 37), (1, vi x1), (2, vi x2), (3, vi x3)] [] M14
  refine v_aload_n (i := 0) C dX6_meetTwoOfThree_45 rfl rfl ?_
  refine v_iconst C dX6_meetTwoOfThree_46 ?_
  refine v_putf (k := 37) (x := 3) (t := 0) C fp_RX6_21 rfl rfl (by decide) (by simp [fv, up]) rfl rfl dX6_meetTwoOfThree_47 ?_
  obtain ⟨M16, hM16⟩ : ∃ X : MM, X = up M14 37 1 3 := ⟨_, rfl⟩
  refine v_eqM hM16 ?_
  have g17 := g15 M16 hM16
  refine v_aload_n (i := 0) C dX6_meetTwoOfThree_50 rfl rfl ?_
  refine v_aload_n (i := 0) C dX6_meetTwoOfThree_51 rfl rfl ?_
  refine v_getf (k := 37) C fl_RX6_9 rfl rfl dX6_meetTwoOfThree_52 ?_
  show Aj E l z (52 + 3) [(0, vr 37), (1, vi x1), (2, vi x2), (3, vi x3)] [vr 38, vr 37] M16
  refine v_iconst C dX6_meetTwoOfThree_55 ?_
  refine v_callS (q := qX7_at_) (As := [vr 38, vi 0]) (S := [vr 37]) C co_yX7_at_ ml_RX6_33 st_yX7_at_ ini_RX7 hq_X7_at_ (by decide) (Nat.le_of_ble_eq_true rfl) rfl dX6_meetTwoOfThree_56 (Con.mono g17 (fun rr M18 hr => ?_) (Nat.le_refl _))
  obtain ⟨y19, rfl, g20⟩ := hr
  show Aj E l z (56 + 3) [(0, vr 37), (1, vi x1), (2, vi x2), (3, vi x3)] [vj y19, vr 37] M18
  refine v_iload_n (i := 3) C dX6_meetTwoOfThree_59 rfl rfl ?_
  refine v_i2l C g20.1 dX6_meetTwoOfThree_60 ?_
  refine v_callS (q := qX7_leastCommon) (As := [vj y19, vj x3]) (S := [vr 37]) C co_yX7_leastCommon ml_RX6_29 st_yX7_leastCommon ini_RX7 hq_X7_leastCommon (by decide) (Nat.le_of_ble_eq_true rfl) rfl dX6_meetTwoOfThree_61 (Con.mono g20.2 (fun rr M21 hr => ?_) (Nat.le_refl _))
  obtain ⟨y22, rfl, g23⟩ := hr
  show Aj E l z (61 + 3) [(0, vr 37), (1, vi x1), (2, vi x2), (3, vi x3)] [vj y22, vr 37] M21
  refine v_putf (k := 37) (x := y22) (t := 1) C fp_RX6_25 rfl rfl (by decide) (by simp [fv, up]) rfl rfl dX6_meetTwoOfThree_64 ?_
  obtain ⟨M24, hM24⟩ : ∃ X : MM, X = up M21 37 2 y22 := ⟨_, rfl⟩
  refine v_eqM hM24 ?_
  have g25 := g23 M24 hM24
  exact v_vret C r dX6_meetTwoOfThree_67 g25
theorem RX6_meetTwoOfThree {E : FX} {l : Launch} {D : Nat} {post : Option AV → MM → Prop} {M : MM} {x1 : Int} {x2 : Int} {x3 : Int} (h0 : VX6_meetTwoOfThree_0 E l D post M x1 x2 x3) : Con E l (D + 1) qX6_meetTwoOfThree [vr 37, vi x1, vi x2, vi x3] M post := by
  refine con_of (by decide +kernel) (Nat.le_of_ble_eq_true rfl) (fun z C r => ?_)
  exact v_sub [0, 1, 2, 3] rfl (SX6_meetTwoOfThree_0 C r h0)
def VX6_howManyTo_0 (E : FX) (l : Launch) (D : Nat) (post : Option AV → MM → Prop) (J5 : MM → Int → Int → Int → Prop) (M : MM) (x1 : Int) : Prop :=
  J5 M x1 0 0
set_option maxRecDepth 20000 in
theorem SX6_howManyTo_0 {E : FX} {l : Launch} {D : Nat} {post : Option AV → MM → Prop} {z : RT} {J5 : MM → Int → Int → Int → Prop} (C : Cx E z D RX6 cX6_howManyTo 6) (r : Rt E z (some .long) post) (hJ5 : ∀ (M : MM) (x1 : Int) (x3 : Int) (x5 : Int), J5 M x1 x3 x5 → Aj E l z 5 [(0, vr 37), (1, vj x1), (3, vj x3), (5, vi x5)] [] M) {M : MM} {x1 : Int} (h : VX6_howManyTo_0 E l D post J5 M x1) : Aj E l z 0 [(0, vr 37), (1, vj x1)] [] M := by
  unfold VX6_howManyTo_0 at h
  refine v_lconst (x := 0) C dX6_howManyTo_0 (by decide) ?_
  refine v_lstore_n (L' := [(3, vj 0), (0, vr 37), (1, vj x1)]) C dX6_howManyTo_1 rfl (by decide) rfl ?_
  refine v_iconst C dX6_howManyTo_2 ?_
  refine v_istore (L' := [(5, vi 0), (3, vj 0), (0, vr 37), (1, vj x1)]) C dX6_howManyTo_3 (by decide) rfl ?_
  exact v_sub [2, 3, 1, 0] rfl (hJ5 _ _ _ _ h)
def VX6_howManyTo_5 (E : FX) (l : Launch) (D : Nat) (post : Option AV → MM → Prop) (J5 : MM → Int → Int → Int → Prop) (M : MM) (x1 : Int) (x3 : Int) (x5 : Int) : Prop :=
  R32 x5 ∧ (R32 (M 37 1) ∧ ((M 37 1 ≤ x5 → R32 ((M 37 1) - 1) ∧ (Con E l D qX7_quotient [vj x1, vj (M 37 2)] M (fun r M3 => ∃ y4 : Int, r = some (vj y4) ∧ (post (some (vj (x3 - (((M 37 1) - 1) * y4)))) M3)))) ∧ (¬ M 37 1 ≤ x5 → Con E l D qX7_at_ [vr 38, vi x5] M (fun r M6 => ∃ y7 : Int, r = some (vj y7) ∧ (Con E l D qX7_quotient [vj x1, vj y7] M6 (fun r M9 => ∃ y10 : Int, r = some (vj y10) ∧ (∀ y12 : Int, y12 = x3 + y10 → (∀ y14 : Int, y14 = x5 + 1 → (J5 M9 x1 y12 y14)))))))))
set_option maxRecDepth 20000 in
theorem SX6_howManyTo_5 {E : FX} {l : Launch} {D : Nat} {post : Option AV → MM → Prop} {z : RT} {J5 : MM → Int → Int → Int → Prop} (C : Cx E z D RX6 cX6_howManyTo 6) (r : Rt E z (some .long) post) (hJ5 : ∀ (M : MM) (x1 : Int) (x3 : Int) (x5 : Int), J5 M x1 x3 x5 → Aj E l z 5 [(0, vr 37), (1, vj x1), (3, vj x3), (5, vi x5)] [] M) {M : MM} {x1 : Int} {x3 : Int} {x5 : Int} (h : VX6_howManyTo_5 E l D post J5 M x1 x3 x5) : Aj E l z 5 [(0, vr 37), (1, vj x1), (3, vj x3), (5, vi x5)] [] M := by
  unfold VX6_howManyTo_5 at h
  refine v_iload (i := 3) C dX6_howManyTo_5 rfl ?_
  refine v_aload_n (i := 0) C dX6_howManyTo_7 rfl rfl ?_
  refine v_getf (k := 37) C fl_RX6_21 rfl rfl dX6_howManyTo_8 ?_
  show Aj E l z (8 + 3) [(0, vr 37), (1, vj x1), (3, vj x3), (5, vi x5)] [vi (M 37 1), vi x5] M
  refine v_icmp_ge (tgt := 36) C h.1 h.2.1 dX6_howManyTo_11 (by decide) (fun c => ?_) (fun c => ?_)
  · have g1 := h.2.2.1 c
    refine v_lload_n (i := 2) C dX6_howManyTo_36 rfl rfl ?_
    refine v_aload_n (i := 0) C dX6_howManyTo_37 rfl rfl ?_
    refine v_getf (k := 37) C fl_RX6_21 rfl rfl dX6_howManyTo_38 ?_
    show Aj E l z (38 + 3) [(0, vr 37), (1, vj x1), (3, vj x3), (5, vi x5)] [vi (M 37 1), vj x3] M
    refine v_iconst C dX6_howManyTo_41 ?_
    refine v_isub C dX6_howManyTo_42 ?_
    refine v_i2l C g1.1 dX6_howManyTo_43 ?_
    refine v_lload_n (i := 1) C dX6_howManyTo_44 rfl rfl ?_
    refine v_aload_n (i := 0) C dX6_howManyTo_45 rfl rfl ?_
    refine v_getf (k := 37) C fl_RX6_25 rfl rfl dX6_howManyTo_46 ?_
    show Aj E l z (46 + 3) [(0, vr 37), (1, vj x1), (3, vj x3), (5, vi x5)] [vj (M 37 2), vj x1, vj ((M 37 1) - 1), vj x3] M
    refine v_callS (q := qX7_quotient) (As := [vj x1, vj (M 37 2)]) (S := [vj ((M 37 1) - 1), vj x3]) C co_yX7_quotient ml_RX6_37 st_yX7_quotient ini_RX7 hq_X7_quotient (by decide) (Nat.le_of_ble_eq_true rfl) rfl dX6_howManyTo_49 (Con.mono g1.2 (fun rr M3 hr => ?_) (Nat.le_refl _))
    obtain ⟨y4, rfl, g5⟩ := hr
    show Aj E l z (49 + 3) [(0, vr 37), (1, vj x1), (3, vj x3), (5, vi x5)] [vj y4, vj ((M 37 1) - 1), vj x3] M3
    refine v_lmul C dX6_howManyTo_52 ?_
    refine v_lsub C dX6_howManyTo_53 ?_
    exact v_lret C r dX6_howManyTo_54 g5
  · have g2 := h.2.2.2 c
    refine v_lload_n (i := 2) C dX6_howManyTo_14 rfl rfl ?_
    refine v_lload_n (i := 1) C dX6_howManyTo_15 rfl rfl ?_
    refine v_aload_n (i := 0) C dX6_howManyTo_16 rfl rfl ?_
    refine v_getf (k := 37) C fl_RX6_9 rfl rfl dX6_howManyTo_17 ?_
    show Aj E l z (17 + 3) [(0, vr 37), (1, vj x1), (3, vj x3), (5, vi x5)] [vr 38, vj x1, vj x3] M
    refine v_iload (i := 3) C dX6_howManyTo_20 rfl ?_
    refine v_callS (q := qX7_at_) (As := [vr 38, vi x5]) (S := [vj x1, vj x3]) C co_yX7_at_ ml_RX6_33 st_yX7_at_ ini_RX7 hq_X7_at_ (by decide) (Nat.le_of_ble_eq_true rfl) rfl dX6_howManyTo_22 (Con.mono g2 (fun rr M6 hr => ?_) (Nat.le_refl _))
    obtain ⟨y7, rfl, g8⟩ := hr
    show Aj E l z (22 + 3) [(0, vr 37), (1, vj x1), (3, vj x3), (5, vi x5)] [vj y7, vj x1, vj x3] M6
    refine v_callS (q := qX7_quotient) (As := [vj x1, vj y7]) (S := [vj x3]) C co_yX7_quotient ml_RX6_37 st_yX7_quotient ini_RX7 hq_X7_quotient (by decide) (Nat.le_of_ble_eq_true rfl) rfl dX6_howManyTo_25 (Con.mono g8 (fun rr M9 hr => ?_) (Nat.le_refl _))
    obtain ⟨y10, rfl, g11⟩ := hr
    show Aj E l z (25 + 3) [(0, vr 37), (1, vj x1), (3, vj x3), (5, vi x5)] [vj y10, vj x3] M9
    refine v_ladd C dX6_howManyTo_28 ?_
    obtain ⟨y12, hy12⟩ : ∃ y : Int, y = x3 + y10 := ⟨_, rfl⟩
    have g13 := g11 y12 hy12
    refine v_eqj hy12 ?_
    refine v_lstore_n (L' := [(3, vj y12), (0, vr 37), (1, vj x1), (5, vi x5)]) C dX6_howManyTo_29 rfl (by decide) rfl ?_
    obtain ⟨y14, hy14⟩ : ∃ y : Int, y = x5 + 1 := ⟨_, rfl⟩
    have g15 := g13 y14 hy14
    refine v_iinc (i := 3) (L' := [(5, vi y14), (3, vj y12), (0, vr 37), (1, vj x1)]) C dX6_howManyTo_30 rfl (by decide) hy14 rfl ?_
    refine v_goto C dX6_howManyTo_33 (tgt := 5) (by decide) ?_
    exact v_sub [2, 3, 1, 0] rfl (hJ5 _ _ _ _ g15)
theorem RX6_howManyTo {E : FX} {l : Launch} {D : Nat} {post : Option AV → MM → Prop} (I5 : MM → Int → Int → Int → Prop) (m5 : MM → Int → Int → Int → Nat) {M : MM} {x1 : Int} (h0 : VX6_howManyTo_0 E l D post I5 M x1) (h5I : ∀ (M : MM) (x1 : Int) (x3 : Int) (x5 : Int), I5 M x1 x3 x5 → VX6_howManyTo_5 E l D post (fun M' x1' x3' x5' => I5 M' x1' x3' x5' ∧ m5 M' x1' x3' x5' < m5 M x1 x3 x5) M x1 x3 x5) : Con E l (D + 1) qX6_howManyTo [vr 37, vj x1] M post := by
  refine con_of (by decide +kernel) (Nat.le_of_ble_eq_true rfl) (fun z C r => ?_)
  have all : ∀ n : Nat, (∀ (M : MM) (x1 : Int) (x3 : Int) (x5 : Int), I5 M x1 x3 x5 → m5 M x1 x3 x5 < n → Aj E l z 5 [(0, vr 37), (1, vj x1), (3, vj x3), (5, vi x5)] [] M) := by
    intro n
    induction n with
    | zero => exact fun _ _ _ _ _ hm => absurd hm (Nat.not_lt_zero _)
    | succ n ih => exact fun M x1 x3 x5 hi hm => SX6_howManyTo_5 C r (fun M' x1' x3' x5' hj => ih M' x1' x3' x5' hj.1 (by omega)) (h5I M x1 x3 x5 hi)
  exact v_sub [0, 1] rfl (SX6_howManyTo_0 C r (fun M' x1' x3' x5' hj => (all _) M' x1' x3' x5' hj (Nat.lt_succ_self _)) h0)
def VX6_lastTo_0 (E : FX) (l : Launch) (D : Nat) (post : Option AV → MM → Prop) (J5 : MM → Int → Int → Int → Prop) (M : MM) (x1 : Int) : Prop :=
  J5 M x1 0 0
set_option maxRecDepth 20000 in
theorem SX6_lastTo_0 {E : FX} {l : Launch} {D : Nat} {post : Option AV → MM → Prop} {z : RT} {J5 : MM → Int → Int → Int → Prop} (C : Cx E z D RX6 cX6_lastTo 8) (r : Rt E z (some .long) post) (hD : 1 ≤ D) (hJ5 : ∀ (M : MM) (x1 : Int) (x3 : Int) (x5 : Int), J5 M x1 x3 x5 → Aj E l z 5 [(0, vr 37), (1, vj x1), (3, vj x3), (5, vi x5)] [] M) {M : MM} {x1 : Int} (h : VX6_lastTo_0 E l D post J5 M x1) : Aj E l z 0 [(0, vr 37), (1, vj x1)] [] M := by
  unfold VX6_lastTo_0 at h
  refine v_lconst (x := 0) C dX6_lastTo_0 (by decide) ?_
  refine v_lstore_n (L' := [(3, vj 0), (0, vr 37), (1, vj x1)]) C dX6_lastTo_1 rfl (by decide) rfl ?_
  refine v_iconst C dX6_lastTo_2 ?_
  refine v_istore (L' := [(5, vi 0), (3, vj 0), (0, vr 37), (1, vj x1)]) C dX6_lastTo_3 (by decide) rfl ?_
  exact v_sub [2, 3, 1, 0] rfl (hJ5 _ _ _ _ h)
def VX6_lastTo_5 (E : FX) (l : Launch) (D : Nat) (post : Option AV → MM → Prop) (J5 : MM → Int → Int → Int → Prop) (M : MM) (x1 : Int) (x3 : Int) (x5 : Int) : Prop :=
  R32 x5 ∧ (R32 (M 37 1) ∧ ((M 37 1 ≤ x5 → post (some (vj x3)) M) ∧ (¬ M 37 1 ≤ x5 → Con E l D qX7_at_ [vr 38, vi x5] M (fun r M3 => ∃ y4 : Int, r = some (vj y4) ∧ (Con E l D qX7_quotient [vj x1, vj y4] M3 (fun r M6 => ∃ y7 : Int, r = some (vj y7) ∧ (R64 x3 ∧ (R64 (y7 * y4) ∧ (∀ y9 : Int, y9 = (if (y7 * y4) < x3 then x3 else (y7 * y4)) → (∀ y11 : Int, y11 = x5 + 1 → (J5 M6 x1 y9 y11)))))))))))
set_option maxRecDepth 20000 in
theorem SX6_lastTo_5 {E : FX} {l : Launch} {D : Nat} {post : Option AV → MM → Prop} {z : RT} {J5 : MM → Int → Int → Int → Prop} (C : Cx E z D RX6 cX6_lastTo 8) (r : Rt E z (some .long) post) (hD : 1 ≤ D) (hJ5 : ∀ (M : MM) (x1 : Int) (x3 : Int) (x5 : Int), J5 M x1 x3 x5 → Aj E l z 5 [(0, vr 37), (1, vj x1), (3, vj x3), (5, vi x5)] [] M) {M : MM} {x1 : Int} {x3 : Int} {x5 : Int} (h : VX6_lastTo_5 E l D post J5 M x1 x3 x5) : Aj E l z 5 [(0, vr 37), (1, vj x1), (3, vj x3), (5, vi x5)] [] M := by
  unfold VX6_lastTo_5 at h
  refine v_iload (i := 3) C dX6_lastTo_5 rfl ?_
  refine v_aload_n (i := 0) C dX6_lastTo_7 rfl rfl ?_
  refine v_getf (k := 37) C fl_RX6_21 rfl rfl dX6_lastTo_8 ?_
  show Aj E l z (8 + 3) [(0, vr 37), (1, vj x1), (3, vj x3), (5, vi x5)] [vi (M 37 1), vi x5] M
  refine v_icmp_ge (tgt := 45) C h.1 h.2.1 dX6_lastTo_11 (by decide) (fun c => ?_) (fun c => ?_)
  · have g1 := h.2.2.1 c
    refine v_lload_n (i := 2) C dX6_lastTo_45 rfl rfl ?_
    exact v_lret C r dX6_lastTo_46 g1
  · have g2 := h.2.2.2 c
    refine v_aload_n (i := 0) C dX6_lastTo_14 rfl rfl ?_
    refine v_getf (k := 37) C fl_RX6_9 rfl rfl dX6_lastTo_15 ?_
    show Aj E l z (15 + 3) [(0, vr 37), (1, vj x1), (3, vj x3), (5, vi x5)] [vr 38] M
    refine v_iload (i := 3) C dX6_lastTo_18 rfl ?_
    refine v_callS (q := qX7_at_) (As := [vr 38, vi x5]) (S := []) C co_yX7_at_ ml_RX6_33 st_yX7_at_ ini_RX7 hq_X7_at_ (by decide) (Nat.le_of_ble_eq_true rfl) rfl dX6_lastTo_20 (Con.mono g2 (fun rr M3 hr => ?_) (Nat.le_refl _))
    obtain ⟨y4, rfl, g5⟩ := hr
    show Aj E l z (20 + 3) [(0, vr 37), (1, vj x1), (3, vj x3), (5, vi x5)] [vj y4] M3
    refine v_lstore (L' := [(6, vj y4), (0, vr 37), (1, vj x1), (3, vj x3), (5, vi x5)]) C dX6_lastTo_23 (by decide) rfl ?_
    refine v_lload_n (i := 3) C dX6_lastTo_25 rfl rfl ?_
    refine v_lload_n (i := 2) C dX6_lastTo_26 rfl rfl ?_
    refine v_lload (i := 0) C dX6_lastTo_27 rfl ?_
    refine v_callS (q := qX7_quotient) (As := [vj x1, vj y4]) (S := [vj x3]) C co_yX7_quotient ml_RX6_37 st_yX7_quotient ini_RX7 hq_X7_quotient (by decide) (Nat.le_of_ble_eq_true rfl) rfl dX6_lastTo_29 (Con.mono g5 (fun rr M6 hr => ?_) (Nat.le_refl _))
    obtain ⟨y7, rfl, g8⟩ := hr
    show Aj E l z (29 + 3) [(6, vj y4), (0, vr 37), (1, vj x1), (3, vj x3), (5, vi x5)] [vj y7, vj x3] M6
    refine v_lload (i := 0) C dX6_lastTo_32 rfl ?_
    refine v_lmul C dX6_lastTo_34 ?_
    refine v_maxl (S := []) C hD ml_RX6_40 (Nat.le_of_ble_eq_true rfl) g8.1 g8.2.1 dX6_lastTo_35 ?_
    obtain ⟨y9, hy9⟩ : ∃ y : Int, y = (if (y7 * y4) < x3 then x3 else (y7 * y4)) := ⟨_, rfl⟩
    have g10 := g8.2.2 y9 hy9
    refine v_eqj hy9 ?_
    refine v_lstore_n (L' := [(3, vj y9), (6, vj y4), (0, vr 37), (1, vj x1), (5, vi x5)]) C dX6_lastTo_38 rfl (by decide) rfl ?_
    obtain ⟨y11, hy11⟩ : ∃ y : Int, y = x5 + 1 := ⟨_, rfl⟩
    have g12 := g10 y11 hy11
    refine v_iinc (i := 4) (L' := [(5, vi y11), (3, vj y9), (6, vj y4), (0, vr 37), (1, vj x1)]) C dX6_lastTo_39 rfl (by decide) hy11 rfl ?_
    refine v_goto C dX6_lastTo_42 (tgt := 5) (by decide) ?_
    exact v_sub [3, 4, 1, 0] rfl (hJ5 _ _ _ _ g12)
theorem RX6_lastTo {E : FX} {l : Launch} {D : Nat} {post : Option AV → MM → Prop} (hD : 1 ≤ D) (I5 : MM → Int → Int → Int → Prop) (m5 : MM → Int → Int → Int → Nat) {M : MM} {x1 : Int} (h0 : VX6_lastTo_0 E l D post I5 M x1) (h5I : ∀ (M : MM) (x1 : Int) (x3 : Int) (x5 : Int), I5 M x1 x3 x5 → VX6_lastTo_5 E l D post (fun M' x1' x3' x5' => I5 M' x1' x3' x5' ∧ m5 M' x1' x3' x5' < m5 M x1 x3 x5) M x1 x3 x5) : Con E l (D + 1) qX6_lastTo [vr 37, vj x1] M post := by
  refine con_of (by decide +kernel) (Nat.le_of_ble_eq_true rfl) (fun z C r => ?_)
  have all : ∀ n : Nat, (∀ (M : MM) (x1 : Int) (x3 : Int) (x5 : Int), I5 M x1 x3 x5 → m5 M x1 x3 x5 < n → Aj E l z 5 [(0, vr 37), (1, vj x1), (3, vj x3), (5, vi x5)] [] M) := by
    intro n
    induction n with
    | zero => exact fun _ _ _ _ _ hm => absurd hm (Nat.not_lt_zero _)
    | succ n ih => exact fun M x1 x3 x5 hi hm => SX6_lastTo_5 C r hD (fun M' x1' x3' x5' hj => ih M' x1' x3' x5' hj.1 (by omega)) (h5I M x1 x3 x5 hi)
  exact v_sub [0, 1] rfl (SX6_lastTo_0 C r hD (fun M' x1' x3' x5' hj => (all _) M' x1' x3' x5' hj (Nat.lt_succ_self _)) h0)
def VX6_firstFrom_0 (E : FX) (l : Launch) (D : Nat) (post : Option AV → MM → Prop) (J7 : MM → Int → Int → Int → Prop) (M : MM) (x1 : Int) : Prop :=
  J7 M x1 4611686018427387904 0
set_option maxRecDepth 20000 in
theorem SX6_firstFrom_0 {E : FX} {l : Launch} {D : Nat} {post : Option AV → MM → Prop} {z : RT} {J7 : MM → Int → Int → Int → Prop} (C : Cx E z D RX6 cX6_firstFrom 8) (r : Rt E z (some .long) post) (hD : 1 ≤ D) (hJ7 : ∀ (M : MM) (x1 : Int) (x3 : Int) (x5 : Int), J7 M x1 x3 x5 → Aj E l z 7 [(0, vr 37), (1, vj x1), (3, vj x3), (5, vi x5)] [] M) {M : MM} {x1 : Int} (h : VX6_firstFrom_0 E l D post J7 M x1) : Aj E l z 0 [(0, vr 37), (1, vj x1)] [] M := by
  unfold VX6_firstFrom_0 at h
  refine v_ldc2 (x := 4611686018427387904) C cs_RX6_45 (by decide) dX6_firstFrom_0 ?_
  refine v_lstore_n (L' := [(3, vj 4611686018427387904), (0, vr 37), (1, vj x1)]) C dX6_firstFrom_3 rfl (by decide) rfl ?_
  refine v_iconst C dX6_firstFrom_4 ?_
  refine v_istore (L' := [(5, vi 0), (3, vj 4611686018427387904), (0, vr 37), (1, vj x1)]) C dX6_firstFrom_5 (by decide) rfl ?_
  exact v_sub [2, 3, 1, 0] rfl (hJ7 _ _ _ _ h)
def VX6_firstFrom_7 (E : FX) (l : Launch) (D : Nat) (post : Option AV → MM → Prop) (J7 : MM → Int → Int → Int → Prop) (M : MM) (x1 : Int) (x3 : Int) (x5 : Int) : Prop :=
  R32 x5 ∧ (R32 (M 37 1) ∧ ((M 37 1 ≤ x5 → post (some (vj x3)) M) ∧ (¬ M 37 1 ≤ x5 → Con E l D qX7_at_ [vr 38, vi x5] M (fun r M3 => ∃ y4 : Int, r = some (vj y4) ∧ (Con E l D qX7_quotient [vj ((x1 + y4) - 1), vj y4] M3 (fun r M6 => ∃ y7 : Int, r = some (vj y7) ∧ (R64 x3 ∧ (R64 (y7 * y4) ∧ (∀ y9 : Int, y9 = (if (y7 * y4) < x3 then (y7 * y4) else x3) → (∀ y11 : Int, y11 = x5 + 1 → (J7 M6 x1 y9 y11)))))))))))
set_option maxRecDepth 20000 in
theorem SX6_firstFrom_7 {E : FX} {l : Launch} {D : Nat} {post : Option AV → MM → Prop} {z : RT} {J7 : MM → Int → Int → Int → Prop} (C : Cx E z D RX6 cX6_firstFrom 8) (r : Rt E z (some .long) post) (hD : 1 ≤ D) (hJ7 : ∀ (M : MM) (x1 : Int) (x3 : Int) (x5 : Int), J7 M x1 x3 x5 → Aj E l z 7 [(0, vr 37), (1, vj x1), (3, vj x3), (5, vi x5)] [] M) {M : MM} {x1 : Int} {x3 : Int} {x5 : Int} (h : VX6_firstFrom_7 E l D post J7 M x1 x3 x5) : Aj E l z 7 [(0, vr 37), (1, vj x1), (3, vj x3), (5, vi x5)] [] M := by
  unfold VX6_firstFrom_7 at h
  refine v_iload (i := 3) C dX6_firstFrom_7 rfl ?_
  refine v_aload_n (i := 0) C dX6_firstFrom_9 rfl rfl ?_
  refine v_getf (k := 37) C fl_RX6_21 rfl rfl dX6_firstFrom_10 ?_
  show Aj E l z (10 + 3) [(0, vr 37), (1, vj x1), (3, vj x3), (5, vi x5)] [vi (M 37 1), vi x5] M
  refine v_icmp_ge (tgt := 52) C h.1 h.2.1 dX6_firstFrom_13 (by decide) (fun c => ?_) (fun c => ?_)
  · have g1 := h.2.2.1 c
    refine v_lload_n (i := 2) C dX6_firstFrom_52 rfl rfl ?_
    exact v_lret C r dX6_firstFrom_53 g1
  · have g2 := h.2.2.2 c
    refine v_aload_n (i := 0) C dX6_firstFrom_16 rfl rfl ?_
    refine v_getf (k := 37) C fl_RX6_9 rfl rfl dX6_firstFrom_17 ?_
    show Aj E l z (17 + 3) [(0, vr 37), (1, vj x1), (3, vj x3), (5, vi x5)] [vr 38] M
    refine v_iload (i := 3) C dX6_firstFrom_20 rfl ?_
    refine v_callS (q := qX7_at_) (As := [vr 38, vi x5]) (S := []) C co_yX7_at_ ml_RX6_33 st_yX7_at_ ini_RX7 hq_X7_at_ (by decide) (Nat.le_of_ble_eq_true rfl) rfl dX6_firstFrom_22 (Con.mono g2 (fun rr M3 hr => ?_) (Nat.le_refl _))
    obtain ⟨y4, rfl, g5⟩ := hr
    show Aj E l z (22 + 3) [(0, vr 37), (1, vj x1), (3, vj x3), (5, vi x5)] [vj y4] M3
    refine v_lstore (L' := [(6, vj y4), (0, vr 37), (1, vj x1), (3, vj x3), (5, vi x5)]) C dX6_firstFrom_25 (by decide) rfl ?_
    refine v_lload_n (i := 3) C dX6_firstFrom_27 rfl rfl ?_
    refine v_lload_n (i := 2) C dX6_firstFrom_28 rfl rfl ?_
    refine v_lload (i := 0) C dX6_firstFrom_29 rfl ?_
    refine v_ladd C dX6_firstFrom_31 ?_
    refine v_lconst (x := 1) C dX6_firstFrom_32 (by decide) ?_
    refine v_lsub C dX6_firstFrom_33 ?_
    refine v_lload (i := 0) C dX6_firstFrom_34 rfl ?_
    refine v_callS (q := qX7_quotient) (As := [vj ((x1 + y4) - 1), vj y4]) (S := [vj x3]) C co_yX7_quotient ml_RX6_37 st_yX7_quotient ini_RX7 hq_X7_quotient (by decide) (Nat.le_of_ble_eq_true rfl) rfl dX6_firstFrom_36 (Con.mono g5 (fun rr M6 hr => ?_) (Nat.le_refl _))
    obtain ⟨y7, rfl, g8⟩ := hr
    show Aj E l z (36 + 3) [(6, vj y4), (0, vr 37), (1, vj x1), (3, vj x3), (5, vi x5)] [vj y7, vj x3] M6
    refine v_lload (i := 0) C dX6_firstFrom_39 rfl ?_
    refine v_lmul C dX6_firstFrom_41 ?_
    refine v_minl (S := []) C hD ml_RX6_47 (Nat.le_of_ble_eq_true rfl) g8.1 g8.2.1 dX6_firstFrom_42 ?_
    obtain ⟨y9, hy9⟩ : ∃ y : Int, y = (if (y7 * y4) < x3 then (y7 * y4) else x3) := ⟨_, rfl⟩
    have g10 := g8.2.2 y9 hy9
    refine v_eqj hy9 ?_
    refine v_lstore_n (L' := [(3, vj y9), (6, vj y4), (0, vr 37), (1, vj x1), (5, vi x5)]) C dX6_firstFrom_45 rfl (by decide) rfl ?_
    obtain ⟨y11, hy11⟩ : ∃ y : Int, y = x5 + 1 := ⟨_, rfl⟩
    have g12 := g10 y11 hy11
    refine v_iinc (i := 4) (L' := [(5, vi y11), (3, vj y9), (6, vj y4), (0, vr 37), (1, vj x1)]) C dX6_firstFrom_46 rfl (by decide) hy11 rfl ?_
    refine v_goto C dX6_firstFrom_49 (tgt := 7) (by decide) ?_
    exact v_sub [3, 4, 1, 0] rfl (hJ7 _ _ _ _ g12)
theorem RX6_firstFrom {E : FX} {l : Launch} {D : Nat} {post : Option AV → MM → Prop} (hD : 1 ≤ D) (I7 : MM → Int → Int → Int → Prop) (m7 : MM → Int → Int → Int → Nat) {M : MM} {x1 : Int} (h0 : VX6_firstFrom_0 E l D post I7 M x1) (h7I : ∀ (M : MM) (x1 : Int) (x3 : Int) (x5 : Int), I7 M x1 x3 x5 → VX6_firstFrom_7 E l D post (fun M' x1' x3' x5' => I7 M' x1' x3' x5' ∧ m7 M' x1' x3' x5' < m7 M x1 x3 x5) M x1 x3 x5) : Con E l (D + 1) qX6_firstFrom [vr 37, vj x1] M post := by
  refine con_of (by decide +kernel) (Nat.le_of_ble_eq_true rfl) (fun z C r => ?_)
  have all : ∀ n : Nat, (∀ (M : MM) (x1 : Int) (x3 : Int) (x5 : Int), I7 M x1 x3 x5 → m7 M x1 x3 x5 < n → Aj E l z 7 [(0, vr 37), (1, vj x1), (3, vj x3), (5, vi x5)] [] M) := by
    intro n
    induction n with
    | zero => exact fun _ _ _ _ _ hm => absurd hm (Nat.not_lt_zero _)
    | succ n ih => exact fun M x1 x3 x5 hi hm => SX6_firstFrom_7 C r hD (fun M' x1' x3' x5' hj => ih M' x1' x3' x5' hj.1 (by omega)) (h7I M x1 x3 x5 hi)
  exact v_sub [0, 1] rfl (SX6_firstFrom_0 C r hD (fun M' x1' x3' x5' hj => (all _) M' x1' x3' x5' hj (Nat.lt_succ_self _)) h0)
def VX6_areMetAt_21 (E : FX) (l : Launch) (D : Nat) (post : Option AV → MM → Prop) (M : MM) (s0 : Int) : Prop :=
  (s0 = 0 ∨ s0 = 1) ∧ (post (some (vi s0)) M)
set_option maxRecDepth 20000 in
theorem SX6_areMetAt_21 {E : FX} {l : Launch} {D : Nat} {post : Option AV → MM → Prop} {z : RT} (C : Cx E z D RX6 cX6_areMetAt 3) (r : Rt E z (some .boolean) post) {M : MM} {s0 : Int} (h : VX6_areMetAt_21 E l D post M s0) : Aj E l z 21 [] [vi s0] M := by
  unfold VX6_areMetAt_21 at h
  exact v_zret C r h.1 dX6_areMetAt_21 h.2
def VX6_areMetAt_20 (E : FX) (l : Launch) (D : Nat) (post : Option AV → MM → Prop) (M : MM) : Prop :=
  VX6_areMetAt_21 E l D post M 0
set_option maxRecDepth 20000 in
theorem SX6_areMetAt_20 {E : FX} {l : Launch} {D : Nat} {post : Option AV → MM → Prop} {z : RT} (C : Cx E z D RX6 cX6_areMetAt 3) (r : Rt E z (some .boolean) post) {M : MM} (h : VX6_areMetAt_20 E l D post M) : Aj E l z 20 [] [] M := by
  unfold VX6_areMetAt_20 at h
  refine v_iconst C dX6_areMetAt_20 ?_
  exact v_sub [] rfl (SX6_areMetAt_21 C r h)
def VX6_areMetAt_0 (E : FX) (l : Launch) (D : Nat) (post : Option AV → MM → Prop) (M : MM) (x1 : Int) : Prop :=
  R64 x1 ∧ ((x1 ≤ 0 → VX6_areMetAt_21 E l D post M 0) ∧ (¬ x1 ≤ 0 → Con E l D qX6_lastTo [vr 37, vj x1] M (fun r M3 => ∃ y4 : Int, r = some (vj y4) ∧ (R64 y4 ∧ (R64 x1 ∧ ((¬ y4 = x1 → VX6_areMetAt_21 E l D post M3 0) ∧ (y4 = x1 → VX6_areMetAt_21 E l D post M3 1)))))))
set_option maxRecDepth 20000 in
theorem SX6_areMetAt_0 {E : FX} {l : Launch} {D : Nat} {post : Option AV → MM → Prop} {z : RT} (C : Cx E z D RX6 cX6_areMetAt 3) (r : Rt E z (some .boolean) post) {M : MM} {x1 : Int} (h : VX6_areMetAt_0 E l D post M x1) : Aj E l z 0 [(0, vr 37), (1, vj x1)] [] M := by
  unfold VX6_areMetAt_0 at h
  refine v_lload_n (i := 1) C dX6_areMetAt_0 rfl rfl ?_
  refine v_lconst (x := 0) C dX6_areMetAt_1 (by decide) ?_
  refine v_lif_le (tgt := 20) C h.1 (by decide) dX6_areMetAt_2 dX6_areMetAt_3 (by decide) (fun c => ?_) (fun c => ?_)
  · have g1 := h.2.1 c
    refine v_iconst C dX6_areMetAt_20 ?_
    exact v_sub [] rfl (SX6_areMetAt_21 C r g1)
  · have g2 := h.2.2 c
    refine v_aload_n (i := 0) C dX6_areMetAt_6 rfl rfl ?_
    refine v_lload_n (i := 1) C dX6_areMetAt_7 rfl rfl ?_
    refine v_callV (q := qX6_lastTo) (k := 37) (As := [vj x1]) (S := []) C co_yX6_lastTo ml_RX6_50 im_yX6_lastTo se_yX6_lastTo ini_RX6 rfl rfl hq_X6_lastTo (by decide) (Nat.le_of_ble_eq_true rfl) rfl dX6_areMetAt_8 (Con.mono g2 (fun rr M3 hr => ?_) (Nat.le_refl _))
    obtain ⟨y4, rfl, g5⟩ := hr
    show Aj E l z (8 + 3) [(0, vr 37), (1, vj x1)] [vj y4] M3
    refine v_lload_n (i := 1) C dX6_areMetAt_11 rfl rfl ?_
    refine v_lif_ne (tgt := 20) C g5.1 g5.2.1 dX6_areMetAt_12 dX6_areMetAt_13 (by decide) (fun c => ?_) (fun c => ?_)
    · have g6 := g5.2.2.1 c
      refine v_iconst C dX6_areMetAt_20 ?_
      exact v_sub [] rfl (SX6_areMetAt_21 C r g6)
    · have g7 := g5.2.2.2 c
      refine v_iconst C dX6_areMetAt_16 ?_
      refine v_goto C dX6_areMetAt_17 (tgt := 21) (by decide) ?_
      exact v_sub [] rfl (SX6_areMetAt_21 C r g7)
theorem RX6_areMetAt {E : FX} {l : Launch} {D : Nat} {post : Option AV → MM → Prop} {M : MM} {x1 : Int} (h0 : VX6_areMetAt_0 E l D post M x1) : Con E l (D + 1) qX6_areMetAt [vr 37, vj x1] M post := by
  refine con_of (by decide +kernel) (Nat.le_of_ble_eq_true rfl) (fun z C r => ?_)
  exact v_sub [0, 1] rfl (SX6_areMetAt_0 C r h0)
def VX6_nth_0 (E : FX) (l : Launch) (D : Nat) (post : Option AV → MM → Prop) (J10 : MM → Int → Int → Int → Int → Prop) (J47 : MM → Int → Int → Int → Int → Prop) (M : MM) (x1 : Int) : Prop :=
  J10 M x1 1 4611686018427387904 0
set_option maxRecDepth 20000 in
theorem SX6_nth_0 {E : FX} {l : Launch} {D : Nat} {post : Option AV → MM → Prop} {z : RT} {J10 : MM → Int → Int → Int → Int → Prop} {J47 : MM → Int → Int → Int → Int → Prop} (C : Cx E z D RX6 cX6_nth 9) (r : Rt E z (some .long) post) (hD : 1 ≤ D) (hJ10 : ∀ (M : MM) (x1 : Int) (x2 : Int) (x4 : Int) (x6 : Int), J10 M x1 x2 x4 x6 → Aj E l z 10 [(0, vr 37), (1, vi x1), (2, vj x2), (4, vj x4), (6, vi x6)] [] M) (hJ47 : ∀ (M : MM) (x1 : Int) (x2 : Int) (x4 : Int) (x6 : Int), J47 M x1 x2 x4 x6 → Aj E l z 47 [(0, vr 37), (1, vi x1), (2, vj x2), (4, vj x4), (6, vi x6)] [] M) {M : MM} {x1 : Int} (h : VX6_nth_0 E l D post J10 J47 M x1) : Aj E l z 0 [(0, vr 37), (1, vi x1)] [] M := by
  unfold VX6_nth_0 at h
  refine v_lconst (x := 1) C dX6_nth_0 (by decide) ?_
  refine v_lstore_n (L' := [(2, vj 1), (0, vr 37), (1, vi x1)]) C dX6_nth_1 rfl (by decide) rfl ?_
  refine v_ldc2 (x := 4611686018427387904) C cs_RX6_45 (by decide) dX6_nth_2 ?_
  refine v_lstore (L' := [(4, vj 4611686018427387904), (2, vj 1), (0, vr 37), (1, vi x1)]) C dX6_nth_5 (by decide) rfl ?_
  refine v_iconst C dX6_nth_7 ?_
  refine v_istore (L' := [(6, vi 0), (4, vj 4611686018427387904), (2, vj 1), (0, vr 37), (1, vi x1)]) C dX6_nth_8 (by decide) rfl ?_
  exact v_sub [3, 4, 2, 1, 0] rfl (hJ10 _ _ _ _ _ h)
def VX6_nth_10 (E : FX) (l : Launch) (D : Nat) (post : Option AV → MM → Prop) (J10 : MM → Int → Int → Int → Int → Prop) (J47 : MM → Int → Int → Int → Int → Prop) (M : MM) (x1 : Int) (x2 : Int) (x4 : Int) (x6 : Int) : Prop :=
  R32 x6 ∧ (R32 (M 37 1) ∧ ((M 37 1 ≤ x6 → J47 M x1 x2 x4 0) ∧ (¬ M 37 1 ≤ x6 → R32 x1 ∧ (Con E l D qX7_at_ [vr 38, vi x6] M (fun r M3 => ∃ y4 : Int, r = some (vj y4) ∧ (R64 x4 ∧ (R64 (x1 * y4) ∧ (∀ y6 : Int, y6 = (if (x1 * y4) < x4 then (x1 * y4) else x4) → (∀ y8 : Int, y8 = x6 + 1 → (J10 M3 x1 x2 y6 y8))))))))))
set_option maxRecDepth 20000 in
theorem SX6_nth_10 {E : FX} {l : Launch} {D : Nat} {post : Option AV → MM → Prop} {z : RT} {J10 : MM → Int → Int → Int → Int → Prop} {J47 : MM → Int → Int → Int → Int → Prop} (C : Cx E z D RX6 cX6_nth 9) (r : Rt E z (some .long) post) (hD : 1 ≤ D) (hJ10 : ∀ (M : MM) (x1 : Int) (x2 : Int) (x4 : Int) (x6 : Int), J10 M x1 x2 x4 x6 → Aj E l z 10 [(0, vr 37), (1, vi x1), (2, vj x2), (4, vj x4), (6, vi x6)] [] M) (hJ47 : ∀ (M : MM) (x1 : Int) (x2 : Int) (x4 : Int) (x6 : Int), J47 M x1 x2 x4 x6 → Aj E l z 47 [(0, vr 37), (1, vi x1), (2, vj x2), (4, vj x4), (6, vi x6)] [] M) {M : MM} {x1 : Int} {x2 : Int} {x4 : Int} {x6 : Int} (h : VX6_nth_10 E l D post J10 J47 M x1 x2 x4 x6) : Aj E l z 10 [(0, vr 37), (1, vi x1), (2, vj x2), (4, vj x4), (6, vi x6)] [] M := by
  unfold VX6_nth_10 at h
  refine v_iload (i := 4) C dX6_nth_10 rfl ?_
  refine v_aload_n (i := 0) C dX6_nth_12 rfl rfl ?_
  refine v_getf (k := 37) C fl_RX6_21 rfl rfl dX6_nth_13 ?_
  show Aj E l z (13 + 3) [(0, vr 37), (1, vi x1), (2, vj x2), (4, vj x4), (6, vi x6)] [vi (M 37 1), vi x6] M
  refine v_icmp_ge (tgt := 44) C h.1 h.2.1 dX6_nth_16 (by decide) (fun c => ?_) (fun c => ?_)
  · have g1 := h.2.2.1 c
    refine v_iconst C dX6_nth_44 ?_
    refine v_istore (L' := [(6, vi 0), (0, vr 37), (1, vi x1), (2, vj x2), (4, vj x4)]) C dX6_nth_45 (by decide) rfl ?_
    exact v_sub [1, 2, 3, 4, 0] rfl (hJ47 _ _ _ _ _ g1)
  · have g2 := h.2.2.2 c
    refine v_lload (i := 3) C dX6_nth_19 rfl ?_
    refine v_iload_n (i := 1) C dX6_nth_21 rfl rfl ?_
    refine v_i2l C g2.1 dX6_nth_22 ?_
    refine v_aload_n (i := 0) C dX6_nth_23 rfl rfl ?_
    refine v_getf (k := 37) C fl_RX6_9 rfl rfl dX6_nth_24 ?_
    show Aj E l z (24 + 3) [(0, vr 37), (1, vi x1), (2, vj x2), (4, vj x4), (6, vi x6)] [vr 38, vj x1, vj x4] M
    refine v_iload (i := 4) C dX6_nth_27 rfl ?_
    refine v_callS (q := qX7_at_) (As := [vr 38, vi x6]) (S := [vj x1, vj x4]) C co_yX7_at_ ml_RX6_33 st_yX7_at_ ini_RX7 hq_X7_at_ (by decide) (Nat.le_of_ble_eq_true rfl) rfl dX6_nth_29 (Con.mono g2.2 (fun rr M3 hr => ?_) (Nat.le_refl _))
    obtain ⟨y4, rfl, g5⟩ := hr
    show Aj E l z (29 + 3) [(0, vr 37), (1, vi x1), (2, vj x2), (4, vj x4), (6, vi x6)] [vj y4, vj x1, vj x4] M3
    refine v_lmul C dX6_nth_32 ?_
    refine v_minl (S := []) C hD ml_RX6_47 (Nat.le_of_ble_eq_true rfl) g5.1 g5.2.1 dX6_nth_33 ?_
    obtain ⟨y6, hy6⟩ : ∃ y : Int, y = (if (x1 * y4) < x4 then (x1 * y4) else x4) := ⟨_, rfl⟩
    have g7 := g5.2.2 y6 hy6
    refine v_eqj hy6 ?_
    refine v_lstore (L' := [(4, vj y6), (0, vr 37), (1, vi x1), (2, vj x2), (6, vi x6)]) C dX6_nth_36 (by decide) rfl ?_
    obtain ⟨y8, hy8⟩ : ∃ y : Int, y = x6 + 1 := ⟨_, rfl⟩
    have g9 := g7 y8 hy8
    refine v_iinc (i := 4) (L' := [(6, vi y8), (4, vj y6), (0, vr 37), (1, vi x1), (2, vj x2)]) C dX6_nth_38 rfl (by decide) hy8 rfl ?_
    refine v_goto C dX6_nth_41 (tgt := 10) (by decide) ?_
    exact v_sub [2, 3, 4, 1, 0] rfl (hJ10 _ _ _ _ _ g9)
def VX6_nth_97 (E : FX) (l : Launch) (D : Nat) (post : Option AV → MM → Prop) (J10 : MM → Int → Int → Int → Int → Prop) (J47 : MM → Int → Int → Int → Int → Prop) (M : MM) (x1 : Int) (x2 : Int) (x4 : Int) (x6 : Int) : Prop :=
  ∀ y10 : Int, y10 = x6 + 1 → (J47 M x1 x2 x4 y10)
set_option maxRecDepth 20000 in
theorem SX6_nth_97 {E : FX} {l : Launch} {D : Nat} {post : Option AV → MM → Prop} {z : RT} {J10 : MM → Int → Int → Int → Int → Prop} {J47 : MM → Int → Int → Int → Int → Prop} (C : Cx E z D RX6 cX6_nth 9) (r : Rt E z (some .long) post) (hD : 1 ≤ D) (hJ10 : ∀ (M : MM) (x1 : Int) (x2 : Int) (x4 : Int) (x6 : Int), J10 M x1 x2 x4 x6 → Aj E l z 10 [(0, vr 37), (1, vi x1), (2, vj x2), (4, vj x4), (6, vi x6)] [] M) (hJ47 : ∀ (M : MM) (x1 : Int) (x2 : Int) (x4 : Int) (x6 : Int), J47 M x1 x2 x4 x6 → Aj E l z 47 [(0, vr 37), (1, vi x1), (2, vj x2), (4, vj x4), (6, vi x6)] [] M) {M : MM} {x1 : Int} {x2 : Int} {x4 : Int} {x6 : Int} (h : VX6_nth_97 E l D post J10 J47 M x1 x2 x4 x6) : Aj E l z 97 [(0, vr 37), (1, vi x1), (2, vj x2), (4, vj x4), (6, vi x6)] [] M := by
  unfold VX6_nth_97 at h
  obtain ⟨y10, hy10⟩ : ∃ y : Int, y = x6 + 1 := ⟨_, rfl⟩
  have g11 := h y10 hy10
  refine v_iinc (i := 4) (L' := [(6, vi y10), (0, vr 37), (1, vi x1), (2, vj x2), (4, vj x4)]) C dX6_nth_97 rfl (by decide) hy10 rfl ?_
  refine v_goto C dX6_nth_100 (tgt := 47) (by decide) ?_
  exact v_sub [1, 2, 3, 4, 0] rfl (hJ47 _ _ _ _ _ g11)
def VX6_nth_103 (E : FX) (l : Launch) (D : Nat) (post : Option AV → MM → Prop) (J10 : MM → Int → Int → Int → Int → Prop) (J47 : MM → Int → Int → Int → Int → Prop) (M : MM) (x4 : Int) : Prop :=
  post (some (vj x4)) M
set_option maxRecDepth 20000 in
theorem SX6_nth_103 {E : FX} {l : Launch} {D : Nat} {post : Option AV → MM → Prop} {z : RT} {J10 : MM → Int → Int → Int → Int → Prop} {J47 : MM → Int → Int → Int → Int → Prop} (C : Cx E z D RX6 cX6_nth 9) (r : Rt E z (some .long) post) (hD : 1 ≤ D) (hJ10 : ∀ (M : MM) (x1 : Int) (x2 : Int) (x4 : Int) (x6 : Int), J10 M x1 x2 x4 x6 → Aj E l z 10 [(0, vr 37), (1, vi x1), (2, vj x2), (4, vj x4), (6, vi x6)] [] M) (hJ47 : ∀ (M : MM) (x1 : Int) (x2 : Int) (x4 : Int) (x6 : Int), J47 M x1 x2 x4 x6 → Aj E l z 47 [(0, vr 37), (1, vi x1), (2, vj x2), (4, vj x4), (6, vi x6)] [] M) {M : MM} {x4 : Int} (h : VX6_nth_103 E l D post J10 J47 M x4) : Aj E l z 103 [(4, vj x4)] [] M := by
  unfold VX6_nth_103 at h
  refine v_lload (i := 0) C dX6_nth_103 rfl ?_
  exact v_lret C r dX6_nth_105 h
def VX6_nth_47 (E : FX) (l : Launch) (D : Nat) (post : Option AV → MM → Prop) (J10 : MM → Int → Int → Int → Int → Prop) (J47 : MM → Int → Int → Int → Int → Prop) (M : MM) (x1 : Int) (x2 : Int) (x4 : Int) (x6 : Int) : Prop :=
  R32 x6 ∧ ((64 ≤ x6 → post (some (vj x4)) M) ∧ (¬ 64 ≤ x6 → R64 x2 ∧ (R64 x4 ∧ ((x4 ≤ x2 → post (some (vj x4)) M) ∧ (¬ x4 ≤ x2 → R64 (x4 - x2) ∧ (∀ y16 : Int, y16 = x2 + (Int.tdiv (x4 - x2) 2) → (Con E l D qX6_howManyTo [vr 37, vj y16] M (fun r M18 => ∃ y19 : Int, r = some (vj y19) ∧ (R32 x1 ∧ (R64 y19 ∧ (R64 x1 ∧ ((y19 < x1 → ∀ y23 : Int, y23 = y16 + 1 → (VX6_nth_97 E l D post J10 J47 M18 x1 y23 x4 x6)) ∧ (¬ y19 < x1 → VX6_nth_97 E l D post J10 J47 M18 x1 x2 y16 x6)))))))))))))
set_option maxRecDepth 20000 in
theorem SX6_nth_47 {E : FX} {l : Launch} {D : Nat} {post : Option AV → MM → Prop} {z : RT} {J10 : MM → Int → Int → Int → Int → Prop} {J47 : MM → Int → Int → Int → Int → Prop} (C : Cx E z D RX6 cX6_nth 9) (r : Rt E z (some .long) post) (hD : 1 ≤ D) (hJ10 : ∀ (M : MM) (x1 : Int) (x2 : Int) (x4 : Int) (x6 : Int), J10 M x1 x2 x4 x6 → Aj E l z 10 [(0, vr 37), (1, vi x1), (2, vj x2), (4, vj x4), (6, vi x6)] [] M) (hJ47 : ∀ (M : MM) (x1 : Int) (x2 : Int) (x4 : Int) (x6 : Int), J47 M x1 x2 x4 x6 → Aj E l z 47 [(0, vr 37), (1, vi x1), (2, vj x2), (4, vj x4), (6, vi x6)] [] M) {M : MM} {x1 : Int} {x2 : Int} {x4 : Int} {x6 : Int} (h : VX6_nth_47 E l D post J10 J47 M x1 x2 x4 x6) : Aj E l z 47 [(0, vr 37), (1, vi x1), (2, vj x2), (4, vj x4), (6, vi x6)] [] M := by
  unfold VX6_nth_47 at h
  refine v_iload (i := 4) C dX6_nth_47 rfl ?_
  refine v_bipush C dX6_nth_49 (by decide) ?_
  refine v_icmp_ge (tgt := 103) C h.1 (by decide) dX6_nth_51 (by decide) (fun c => ?_) (fun c => ?_)
  · have g12 := h.2.1 c
    refine v_lload (i := 3) C dX6_nth_103 rfl ?_
    exact v_lret C r dX6_nth_105 g12
  · have g13 := h.2.2 c
    refine v_lload_n (i := 2) C dX6_nth_54 rfl rfl ?_
    refine v_lload (i := 3) C dX6_nth_55 rfl ?_
    refine v_lif_ge (tgt := 103) C g13.1 g13.2.1 dX6_nth_57 dX6_nth_58 (by decide) (fun c => ?_) (fun c => ?_)
    · have g14 := g13.2.2.1 c
      refine v_lload (i := 3) C dX6_nth_103 rfl ?_
      exact v_lret C r dX6_nth_105 g14
    · have g15 := g13.2.2.2 c
      refine v_lload_n (i := 2) C dX6_nth_61 rfl rfl ?_
      refine v_lload (i := 3) C dX6_nth_62 rfl ?_
      refine v_lload_n (i := 2) C dX6_nth_64 rfl rfl ?_
      refine v_lsub C dX6_nth_65 ?_
      refine v_ldc2 (x := 2) C cs_RX6_54 (by decide) dX6_nth_66 ?_
      refine v_ldiv C g15.1 (by decide) (by decide) dX6_nth_69 ?_
      refine v_ladd C dX6_nth_70 ?_
      obtain ⟨y16, hy16⟩ : ∃ y : Int, y = x2 + (Int.tdiv (x4 - x2) 2) := ⟨_, rfl⟩
      have g17 := g15.2 y16 hy16
      refine v_eqj hy16 ?_
      refine v_lstore (L' := [(7, vj y16), (0, vr 37), (1, vi x1), (2, vj x2), (4, vj x4), (6, vi x6)]) C dX6_nth_71 (by decide) rfl ?_
      refine v_aload_n (i := 1) C dX6_nth_73 rfl rfl ?_
      refine v_lload (i := 0) C dX6_nth_74 rfl ?_
      refine v_callV (q := qX6_howManyTo) (k := 37) (As := [vj y16]) (S := []) C co_yX6_howManyTo ml_RX6_56 im_yX6_howManyTo se_yX6_howManyTo ini_RX6 rfl rfl hq_X6_howManyTo (by decide) (Nat.le_of_ble_eq_true rfl) rfl dX6_nth_76 (Con.mono g17 (fun rr M18 hr => ?_) (Nat.le_refl _))
      obtain ⟨y19, rfl, g20⟩ := hr
      show Aj E l z (76 + 3) [(7, vj y16), (0, vr 37), (1, vi x1), (2, vj x2), (4, vj x4), (6, vi x6)] [vj y19] M18
      refine v_iload_n (i := 2) C dX6_nth_79 rfl rfl ?_
      refine v_i2l C g20.1 dX6_nth_80 ?_
      refine v_lif_lt (tgt := 92) C g20.2.1 g20.2.2.1 dX6_nth_81 dX6_nth_82 (by decide) (fun c => ?_) (fun c => ?_)
      · have g21 := g20.2.2.2.1 c
        refine v_lload (i := 0) C dX6_nth_92 rfl ?_
        refine v_lconst (x := 1) C dX6_nth_94 (by decide) ?_
        refine v_ladd C dX6_nth_95 ?_
        obtain ⟨y23, hy23⟩ : ∃ y : Int, y = y16 + 1 := ⟨_, rfl⟩
        have g24 := g21 y23 hy23
        refine v_eqj hy23 ?_
        refine v_lstore_n (L' := [(2, vj y23), (7, vj y16), (0, vr 37), (1, vi x1), (4, vj x4), (6, vi x6)]) C dX6_nth_96 rfl (by decide) rfl ?_
        exact v_sub [2, 3, 0, 4, 5] rfl (SX6_nth_97 C r hD hJ10 hJ47 g24)
      · have g22 := g20.2.2.2.2 c
        refine v_lload (i := 0) C dX6_nth_85 rfl ?_
        refine v_lstore (L' := [(4, vj y16), (7, vj y16), (0, vr 37), (1, vi x1), (2, vj x2), (6, vi x6)]) C dX6_nth_87 (by decide) rfl ?_
        refine v_goto C dX6_nth_89 (tgt := 97) (by decide) ?_
        exact v_sub [2, 3, 4, 0, 5] rfl (SX6_nth_97 C r hD hJ10 hJ47 g22)
theorem RX6_nth {E : FX} {l : Launch} {D : Nat} {post : Option AV → MM → Prop} (hD : 1 ≤ D) (I10 : MM → Int → Int → Int → Int → Prop) (m10 : MM → Int → Int → Int → Int → Nat) (I47 : MM → Int → Int → Int → Int → Prop) (m47 : MM → Int → Int → Int → Int → Nat) {M : MM} {x1 : Int} (h0 : VX6_nth_0 E l D post I10 I47 M x1) (h10I : ∀ (M : MM) (x1 : Int) (x2 : Int) (x4 : Int) (x6 : Int), I10 M x1 x2 x4 x6 → VX6_nth_10 E l D post (fun M' x1' x2' x4' x6' => I10 M' x1' x2' x4' x6' ∧ m10 M' x1' x2' x4' x6' < m10 M x1 x2 x4 x6) (fun M' x1' x2' x4' x6' => I47 M' x1' x2' x4' x6' ∧ m47 M' x1' x2' x4' x6' < m10 M x1 x2 x4 x6) M x1 x2 x4 x6) (h47I : ∀ (M : MM) (x1 : Int) (x2 : Int) (x4 : Int) (x6 : Int), I47 M x1 x2 x4 x6 → VX6_nth_47 E l D post (fun M' x1' x2' x4' x6' => I10 M' x1' x2' x4' x6' ∧ m10 M' x1' x2' x4' x6' < m47 M x1 x2 x4 x6) (fun M' x1' x2' x4' x6' => I47 M' x1' x2' x4' x6' ∧ m47 M' x1' x2' x4' x6' < m47 M x1 x2 x4 x6) M x1 x2 x4 x6) : Con E l (D + 1) qX6_nth [vr 37, vi x1] M post := by
  refine con_of (by decide +kernel) (Nat.le_of_ble_eq_true rfl) (fun z C r => ?_)
  have all : ∀ n : Nat, (∀ (M : MM) (x1 : Int) (x2 : Int) (x4 : Int) (x6 : Int), I10 M x1 x2 x4 x6 → m10 M x1 x2 x4 x6 < n → Aj E l z 10 [(0, vr 37), (1, vi x1), (2, vj x2), (4, vj x4), (6, vi x6)] [] M) ∧ (∀ (M : MM) (x1 : Int) (x2 : Int) (x4 : Int) (x6 : Int), I47 M x1 x2 x4 x6 → m47 M x1 x2 x4 x6 < n → Aj E l z 47 [(0, vr 37), (1, vi x1), (2, vj x2), (4, vj x4), (6, vi x6)] [] M) := by
    intro n
    induction n with
    | zero => exact ⟨fun _ _ _ _ _ _ hm => absurd hm (Nat.not_lt_zero _), fun _ _ _ _ _ _ hm => absurd hm (Nat.not_lt_zero _)⟩
    | succ n ih => exact ⟨fun M x1 x2 x4 x6 hi hm => SX6_nth_10 C r hD (fun M' x1' x2' x4' x6' hj => ih.1 M' x1' x2' x4' x6' hj.1 (by omega)) (fun M' x1' x2' x4' x6' hj => ih.2 M' x1' x2' x4' x6' hj.1 (by omega)) (h10I M x1 x2 x4 x6 hi), fun M x1 x2 x4 x6 hi hm => SX6_nth_47 C r hD (fun M' x1' x2' x4' x6' hj => ih.1 M' x1' x2' x4' x6' hj.1 (by omega)) (fun M' x1' x2' x4' x6' hj => ih.2 M' x1' x2' x4' x6' hj.1 (by omega)) (h47I M x1 x2 x4 x6 hi)⟩
  exact v_sub [0, 1] rfl (SX6_nth_0 C r hD (fun M' x1' x2' x4' x6' hj => (all _).1 M' x1' x2' x4' x6' hj (Nat.lt_succ_self _)) (fun M' x1' x2' x4' x6' hj => (all _).2 M' x1' x2' x4' x6' hj (Nat.lt_succ_self _)) h0)
