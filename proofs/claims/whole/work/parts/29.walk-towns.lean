def VX10_take_0 (E : FX) (l : Launch) (D : Nat) (post : Option AV → MM → Prop) (M : MM) : Prop :=
  Con E l D qX7_fill [vr 4, vr 27] M (fun r M1 => r = none ∧ (∀ M3 : MM, M3 = up M1 3 1 (M1 25 4) → (∀ M5 : MM, M5 = up M3 3 2 (M3 25 5) → (post none M5))))
set_option maxRecDepth 20000 in
theorem SX10_take_0 {E : FX} {l : Launch} {D : Nat} {post : Option AV → MM → Prop} {z : RT} (C : Cx E z D RX10 cX10_take 2) (r : Rt E z none post) {M : MM} (h : VX10_take_0 E l D post M) : Aj E l z 0 [(0, vr 3), (1, vr 25)] [] M := by
  unfold VX10_take_0 at h
  refine v_aload_n (i := 0) C dX10_take_0 rfl rfl ?_
  refine v_getf (k := 3) C fl_RX10_9 rfl rfl dX10_take_1 ?_
  show Aj E l z (1 + 3) [(0, vr 3), (1, vr 25)] [vr 4] M
  refine v_aload_n (i := 1) C dX10_take_4 rfl rfl ?_
  refine v_getf (k := 25) C fl_RX10_28 rfl rfl dX10_take_5 ?_
  show Aj E l z (5 + 3) [(0, vr 3), (1, vr 25)] [vr 27, vr 4] M
  refine v_callS (q := qX7_fill) (As := [vr 4, vr 27]) (S := []) C co_yX7_fill ml_RX10_19 st_yX7_fill ini_RX7 hq_X7_fill (by decide) (Nat.le_of_ble_eq_true rfl) rfl dX10_take_8 (Con.mono h (fun rr M1 hr => ?_) (Nat.le_refl _))
  obtain ⟨rfl, g2⟩ := hr
  show Aj E l z (8 + 3) [(0, vr 3), (1, vr 25)] [] M1
  refine v_aload_n (i := 0) C dX10_take_11 rfl rfl ?_
  refine v_aload_n (i := 1) C dX10_take_12 rfl rfl ?_
  refine v_getf (k := 25) C fl_RX10_31 rfl rfl dX10_take_13 ?_
  show Aj E l z (13 + 3) [(0, vr 3), (1, vr 25)] [vi (M1 25 4), vr 3] M1
  refine v_putf (k := 3) (x := M1 25 4) (t := 0) C fp_RX10_15 rfl rfl (by decide) (by simp [fv, up]) rfl rfl dX10_take_16 ?_
  obtain ⟨M3, hM3⟩ : ∃ X : MM, X = up M1 3 1 (M1 25 4) := ⟨_, rfl⟩
  refine v_eqM hM3 ?_
  have g4 := g2 M3 hM3
  refine v_aload_n (i := 0) C dX10_take_19 rfl rfl ?_
  refine v_aload_n (i := 1) C dX10_take_20 rfl rfl ?_
  refine v_getf (k := 25) C fl_RX10_32 rfl rfl dX10_take_21 ?_
  show Aj E l z (21 + 3) [(0, vr 3), (1, vr 25)] [vi (M3 25 5), vr 3] M3
  refine v_putf (k := 3) (x := M3 25 5) (t := 0) C fp_RX10_25 rfl rfl (by decide) (by simp [fv, up]) rfl rfl dX10_take_24 ?_
  obtain ⟨M5, hM5⟩ : ∃ X : MM, X = up M3 3 2 (M3 25 5) := ⟨_, rfl⟩
  refine v_eqM hM5 ?_
  have g6 := g4 M5 hM5
  exact v_vret C r dX10_take_27 g6
theorem RX10_take {E : FX} {l : Launch} {D : Nat} {post : Option AV → MM → Prop} {M : MM} (h0 : VX10_take_0 E l D post M) : Con E l (D + 1) qX10_take [vr 3, vr 25] M post := by
  refine con_of (by decide +kernel) (Nat.le_of_ble_eq_true rfl) (fun z C r => ?_)
  exact v_sub [0, 1] rfl (SX10_take_0 C r h0)
def VX10_lay_46 (E : FX) (l : Launch) (D : Nat) (post : Option AV → MM → Prop) (J51 : MM → Int → Int → Prop) (M : MM) : Prop :=
  J51 M 1 0
set_option maxRecDepth 20000 in
theorem SX10_lay_46 {E : FX} {l : Launch} {D : Nat} {post : Option AV → MM → Prop} {z : RT} {J51 : MM → Int → Int → Prop} (C : Cx E z D RX10 cX10_lay 5) (r : Rt E z none post) (hJ51 : ∀ (M : MM) (x2 : Int) (x4 : Int), J51 M x2 x4 → Aj E l z 51 [(0, vr 3), (1, vr 37), (2, vj x2), (4, vi x4)] [] M) {M : MM} (h : VX10_lay_46 E l D post J51 M) : Aj E l z 46 [(0, vr 3), (1, vr 37)] [] M := by
  unfold VX10_lay_46 at h
  refine v_lconst (x := 1) C dX10_lay_46 (by decide) ?_
  refine v_lstore_n (L' := [(2, vj 1), (0, vr 3), (1, vr 37)]) C dX10_lay_47 rfl (by decide) rfl ?_
  refine v_iconst C dX10_lay_48 ?_
  refine v_istore (L' := [(4, vi 0), (2, vj 1), (0, vr 3), (1, vr 37)]) C dX10_lay_49 (by decide) rfl ?_
  exact v_sub [2, 3, 1, 0] rfl (hJ51 _ _ _ h)
def VX10_lay_0 (E : FX) (l : Launch) (D : Nat) (post : Option AV → MM → Prop) (J51 : MM → Int → Int → Prop) (M : MM) : Prop :=
  R32 (M 3 2) ∧ ((¬ M 3 2 = 1 → J51 M 1 0) ∧ (M 3 2 = 1 → R32 (M 3 1) ∧ ((¬ M 3 1 = 7 → J51 M 1 0) ∧ (M 3 1 = 7 → Con E l D qX7_at [vr 4, vi 0] M (fun r M5 => ∃ y6 : Int, r = some (vi y6) ∧ (Con E l D qX7_at [vr 4, vi 1] M5 (fun r M8 => ∃ y9 : Int, r = some (vi y9) ∧ (Con E l D qX7_at [vr 4, vi 2] M8 (fun r M11 => ∃ y12 : Int, r = some (vi y12) ∧ (Con E l D qX6_meetTwoOfThree [vr 37, vi y6, vi y9, vi y12] M11 (fun r M14 => r = none ∧ (post none M14))))))))))))
set_option maxRecDepth 20000 in
theorem SX10_lay_0 {E : FX} {l : Launch} {D : Nat} {post : Option AV → MM → Prop} {z : RT} {J51 : MM → Int → Int → Prop} (C : Cx E z D RX10 cX10_lay 5) (r : Rt E z none post) (hJ51 : ∀ (M : MM) (x2 : Int) (x4 : Int), J51 M x2 x4 → Aj E l z 51 [(0, vr 3), (1, vr 37), (2, vj x2), (4, vi x4)] [] M) {M : MM} (h : VX10_lay_0 E l D post J51 M) : Aj E l z 0 [(0, vr 3), (1, vr 37)] [] M := by
  unfold VX10_lay_0 at h
  refine v_aload_n (i := 0) C dX10_lay_0 rfl rfl ?_
  refine v_getf (k := 3) C fl_RX10_25 rfl rfl dX10_lay_1 ?_
  show Aj E l z (1 + 3) [(0, vr 3), (1, vr 37)] [vi (M 3 2)] M
  refine v_iconst C dX10_lay_4 ?_
  refine v_icmp_ne (tgt := 46) C h.1 (by decide) dX10_lay_5 (by decide) (fun c => ?_) (fun c => ?_)
  · have g1 := h.2.1 c
    refine v_lconst (x := 1) C dX10_lay_46 (by decide) ?_
    refine v_lstore_n (L' := [(2, vj 1), (0, vr 3), (1, vr 37)]) C dX10_lay_47 rfl (by decide) rfl ?_
    refine v_iconst C dX10_lay_48 ?_
    refine v_istore (L' := [(4, vi 0), (2, vj 1), (0, vr 3), (1, vr 37)]) C dX10_lay_49 (by decide) rfl ?_
    exact v_sub [2, 3, 1, 0] rfl (hJ51 _ _ _ g1)
  · have g2 := h.2.2 c
    refine v_aload_n (i := 0) C dX10_lay_8 rfl rfl ?_
    refine v_getf (k := 3) C fl_RX10_15 rfl rfl dX10_lay_9 ?_
    show Aj E l z (9 + 3) [(0, vr 3), (1, vr 37)] [vi (M 3 1)] M
    refine v_bipush C dX10_lay_12 (by decide) ?_
    refine v_icmp_ne (tgt := 46) C g2.1 (by decide) dX10_lay_14 (by decide) (fun c => ?_) (fun c => ?_)
    · have g3 := g2.2.1 c
      refine v_lconst (x := 1) C dX10_lay_46 (by decide) ?_
      refine v_lstore_n (L' := [(2, vj 1), (0, vr 3), (1, vr 37)]) C dX10_lay_47 rfl (by decide) rfl ?_
      refine v_iconst C dX10_lay_48 ?_
      refine v_istore (L' := [(4, vi 0), (2, vj 1), (0, vr 3), (1, vr 37)]) C dX10_lay_49 (by decide) rfl ?_
      exact v_sub [2, 3, 1, 0] rfl (hJ51 _ _ _ g3)
    · have g4 := g2.2.2 c
      refine v_aload_n (i := 1) C dX10_lay_17 rfl rfl ?_
      refine v_aload_n (i := 0) C dX10_lay_18 rfl rfl ?_
      refine v_getf (k := 3) C fl_RX10_9 rfl rfl dX10_lay_19 ?_
      show Aj E l z (19 + 3) [(0, vr 3), (1, vr 37)] [vr 4, vr 37] M
      refine v_iconst C dX10_lay_22 ?_
      refine v_callS (q := qX7_at) (As := [vr 4, vi 0]) (S := [vr 37]) C co_yX7_at ml_RX10_33 st_yX7_at ini_RX7 hq_X7_at (by decide) (Nat.le_of_ble_eq_true rfl) rfl dX10_lay_23 (Con.mono g4 (fun rr M5 hr => ?_) (Nat.le_refl _))
      obtain ⟨y6, rfl, g7⟩ := hr
      show Aj E l z (23 + 3) [(0, vr 3), (1, vr 37)] [vi y6, vr 37] M5
      refine v_aload_n (i := 0) C dX10_lay_26 rfl rfl ?_
      refine v_getf (k := 3) C fl_RX10_9 rfl rfl dX10_lay_27 ?_
      show Aj E l z (27 + 3) [(0, vr 3), (1, vr 37)] [vr 4, vi y6, vr 37] M5
      refine v_iconst C dX10_lay_30 ?_
      refine v_callS (q := qX7_at) (As := [vr 4, vi 1]) (S := [vi y6, vr 37]) C co_yX7_at ml_RX10_33 st_yX7_at ini_RX7 hq_X7_at (by decide) (Nat.le_of_ble_eq_true rfl) rfl dX10_lay_31 (Con.mono g7 (fun rr M8 hr => ?_) (Nat.le_refl _))
      obtain ⟨y9, rfl, g10⟩ := hr
      show Aj E l z (31 + 3) [(0, vr 3), (1, vr 37)] [vi y9, vi y6, vr 37] M8
      refine v_aload_n (i := 0) C dX10_lay_34 rfl rfl ?_
      refine v_getf (k := 3) C fl_RX10_9 rfl rfl dX10_lay_35 ?_
      show Aj E l z (35 + 3) [(0, vr 3), (1, vr 37)] [vr 4, vi y9, vi y6, vr 37] M8
      refine v_iconst C dX10_lay_38 ?_
      refine v_callS (q := qX7_at) (As := [vr 4, vi 2]) (S := [vi y9, vi y6, vr 37]) C co_yX7_at ml_RX10_33 st_yX7_at ini_RX7 hq_X7_at (by decide) (Nat.le_of_ble_eq_true rfl) rfl dX10_lay_39 (Con.mono g10 (fun rr M11 hr => ?_) (Nat.le_refl _))
      obtain ⟨y12, rfl, g13⟩ := hr
      show Aj E l z (39 + 3) [(0, vr 3), (1, vr 37)] [vi y12, vi y9, vi y6, vr 37] M11
      refine v_callV (q := qX6_meetTwoOfThree) (k := 37) (As := [vi y6, vi y9, vi y12]) (S := []) C co_yX6_meetTwoOfThree ml_RX10_37 im_yX6_meetTwoOfThree se_yX6_meetTwoOfThree ini_RX6 rfl rfl hq_X6_meetTwoOfThree (by decide) (Nat.le_of_ble_eq_true rfl) rfl dX10_lay_42 (Con.mono g13 (fun rr M14 hr => ?_) (Nat.le_refl _))
      obtain ⟨rfl, g15⟩ := hr
      show Aj E l z (42 + 3) [(0, vr 3), (1, vr 37)] [] M14
      exact v_vret C r dX10_lay_45 g15
def VX10_lay_85 (E : FX) (l : Launch) (D : Nat) (post : Option AV → MM → Prop) (J51 : MM → Int → Int → Prop) (M : MM) (x2 : Int) (x4 : Int) : Prop :=
  ∀ y16 : Int, y16 = x4 + 1 → (J51 M x2 y16)
set_option maxRecDepth 20000 in
theorem SX10_lay_85 {E : FX} {l : Launch} {D : Nat} {post : Option AV → MM → Prop} {z : RT} {J51 : MM → Int → Int → Prop} (C : Cx E z D RX10 cX10_lay 5) (r : Rt E z none post) (hJ51 : ∀ (M : MM) (x2 : Int) (x4 : Int), J51 M x2 x4 → Aj E l z 51 [(0, vr 3), (1, vr 37), (2, vj x2), (4, vi x4)] [] M) {M : MM} {x2 : Int} {x4 : Int} (h : VX10_lay_85 E l D post J51 M x2 x4) : Aj E l z 85 [(0, vr 3), (1, vr 37), (2, vj x2), (4, vi x4)] [] M := by
  unfold VX10_lay_85 at h
  obtain ⟨y16, hy16⟩ : ∃ y : Int, y = x4 + 1 := ⟨_, rfl⟩
  have g17 := h y16 hy16
  refine v_iinc (i := 3) (L' := [(4, vi y16), (0, vr 3), (1, vr 37), (2, vj x2)]) C dX10_lay_85 rfl (by decide) hy16 rfl ?_
  refine v_goto C dX10_lay_88 (tgt := 51) (by decide) ?_
  exact v_sub [1, 2, 3, 0] rfl (hJ51 _ _ _ g17)
def VX10_lay_51 (E : FX) (l : Launch) (D : Nat) (post : Option AV → MM → Prop) (J51 : MM → Int → Int → Prop) (M : MM) (x2 : Int) (x4 : Int) : Prop :=
  R32 x4 ∧ ((3 ≤ x4 → Con E l D qX6_meetEvery [vr 37, vj x2] M (fun r M20 => r = none ∧ (post none M20))) ∧ (¬ 3 ≤ x4 → R32 (iand (ishr (M 3 1) x4) 1) ∧ ((¬ iand (ishr (M 3 1) x4) 1 = 1 → ∀ y24 : Int, y24 = x4 + 1 → (J51 M x2 y24)) ∧ (iand (ishr (M 3 1) x4) 1 = 1 → Con E l D qX7_at [vr 4, vi x4] M (fun r M26 => ∃ y27 : Int, r = some (vi y27) ∧ (R32 y27 ∧ (Con E l D qX7_leastCommon [vj x2, vj y27] M26 (fun r M29 => ∃ y30 : Int, r = some (vj y30) ∧ (VX10_lay_85 E l D post J51 M29 y30 x4)))))))))
set_option maxRecDepth 20000 in
theorem SX10_lay_51 {E : FX} {l : Launch} {D : Nat} {post : Option AV → MM → Prop} {z : RT} {J51 : MM → Int → Int → Prop} (C : Cx E z D RX10 cX10_lay 5) (r : Rt E z none post) (hJ51 : ∀ (M : MM) (x2 : Int) (x4 : Int), J51 M x2 x4 → Aj E l z 51 [(0, vr 3), (1, vr 37), (2, vj x2), (4, vi x4)] [] M) {M : MM} {x2 : Int} {x4 : Int} (h : VX10_lay_51 E l D post J51 M x2 x4) : Aj E l z 51 [(0, vr 3), (1, vr 37), (2, vj x2), (4, vi x4)] [] M := by
  unfold VX10_lay_51 at h
  refine v_iload (i := 3) C dX10_lay_51 rfl ?_
  refine v_iconst C dX10_lay_53 ?_
  refine v_icmp_ge (tgt := 91) C h.1 (by decide) dX10_lay_54 (by decide) (fun c => ?_) (fun c => ?_)
  · have g18 := h.2.1 c
    refine v_aload_n (i := 1) C dX10_lay_91 rfl rfl ?_
    refine v_lload_n (i := 2) C dX10_lay_92 rfl rfl ?_
    refine v_callV (q := qX6_meetEvery) (k := 37) (As := [vj x2]) (S := []) C co_yX6_meetEvery ml_RX10_47 im_yX6_meetEvery se_yX6_meetEvery ini_RX6 rfl rfl hq_X6_meetEvery (by decide) (Nat.le_of_ble_eq_true rfl) rfl dX10_lay_93 (Con.mono g18 (fun rr M20 hr => ?_) (Nat.le_refl _))
    obtain ⟨rfl, g21⟩ := hr
    show Aj E l z (93 + 3) [(0, vr 3), (1, vr 37), (2, vj x2), (4, vi x4)] [] M20
    exact v_vret C r dX10_lay_96 g21
  · have g19 := h.2.2 c
    refine v_aload_n (i := 0) C dX10_lay_57 rfl rfl ?_
    refine v_getf (k := 3) C fl_RX10_15 rfl rfl dX10_lay_58 ?_
    show Aj E l z (58 + 3) [(0, vr 3), (1, vr 37), (2, vj x2), (4, vi x4)] [vi (M 3 1)] M
    refine v_iload (i := 3) C dX10_lay_61 rfl ?_
    refine v_ishr C dX10_lay_63 ?_
    refine v_iconst C dX10_lay_64 ?_
    refine v_iand C dX10_lay_65 ?_
    refine v_iconst C dX10_lay_66 ?_
    refine v_icmp_ne (tgt := 85) C g19.1 (by decide) dX10_lay_67 (by decide) (fun c => ?_) (fun c => ?_)
    · have g22 := g19.2.1 c
      obtain ⟨y24, hy24⟩ : ∃ y : Int, y = x4 + 1 := ⟨_, rfl⟩
      have g25 := g22 y24 hy24
      refine v_iinc (i := 3) (L' := [(4, vi y24), (0, vr 3), (1, vr 37), (2, vj x2)]) C dX10_lay_85 rfl (by decide) hy24 rfl ?_
      refine v_goto C dX10_lay_88 (tgt := 51) (by decide) ?_
      exact v_sub [1, 2, 3, 0] rfl (hJ51 _ _ _ g25)
    · have g23 := g19.2.2 c
      refine v_lload_n (i := 2) C dX10_lay_70 rfl rfl ?_
      refine v_aload_n (i := 0) C dX10_lay_71 rfl rfl ?_
      refine v_getf (k := 3) C fl_RX10_9 rfl rfl dX10_lay_72 ?_
      show Aj E l z (72 + 3) [(0, vr 3), (1, vr 37), (2, vj x2), (4, vi x4)] [vr 4, vj x2] M
      refine v_iload (i := 3) C dX10_lay_75 rfl ?_
      refine v_callS (q := qX7_at) (As := [vr 4, vi x4]) (S := [vj x2]) C co_yX7_at ml_RX10_33 st_yX7_at ini_RX7 hq_X7_at (by decide) (Nat.le_of_ble_eq_true rfl) rfl dX10_lay_77 (Con.mono g23 (fun rr M26 hr => ?_) (Nat.le_refl _))
      obtain ⟨y27, rfl, g28⟩ := hr
      show Aj E l z (77 + 3) [(0, vr 3), (1, vr 37), (2, vj x2), (4, vi x4)] [vi y27, vj x2] M26
      refine v_i2l C g28.1 dX10_lay_80 ?_
      refine v_callS (q := qX7_leastCommon) (As := [vj x2, vj y27]) (S := []) C co_yX7_leastCommon ml_RX10_43 st_yX7_leastCommon ini_RX7 hq_X7_leastCommon (by decide) (Nat.le_of_ble_eq_true rfl) rfl dX10_lay_81 (Con.mono g28.2 (fun rr M29 hr => ?_) (Nat.le_refl _))
      obtain ⟨y30, rfl, g31⟩ := hr
      show Aj E l z (81 + 3) [(0, vr 3), (1, vr 37), (2, vj x2), (4, vi x4)] [vj y30] M29
      refine v_lstore_n (L' := [(2, vj y30), (0, vr 3), (1, vr 37), (4, vi x4)]) C dX10_lay_84 rfl (by decide) rfl ?_
      exact v_sub [1, 2, 0, 3] rfl (SX10_lay_85 C r hJ51 g31)
theorem RX10_lay {E : FX} {l : Launch} {D : Nat} {post : Option AV → MM → Prop} (I51 : MM → Int → Int → Prop) (m51 : MM → Int → Int → Nat) {M : MM} (h0 : VX10_lay_0 E l D post I51 M) (h51I : ∀ (M : MM) (x2 : Int) (x4 : Int), I51 M x2 x4 → VX10_lay_51 E l D post (fun M' x2' x4' => I51 M' x2' x4' ∧ m51 M' x2' x4' < m51 M x2 x4) M x2 x4) : Con E l (D + 1) qX10_lay [vr 3, vr 37] M post := by
  refine con_of (by decide +kernel) (Nat.le_of_ble_eq_true rfl) (fun z C r => ?_)
  have all : ∀ n : Nat, (∀ (M : MM) (x2 : Int) (x4 : Int), I51 M x2 x4 → m51 M x2 x4 < n → Aj E l z 51 [(0, vr 3), (1, vr 37), (2, vj x2), (4, vi x4)] [] M) := by
    intro n
    induction n with
    | zero => exact fun _ _ _ _ hm => absurd hm (Nat.not_lt_zero _)
    | succ n ih => exact fun M x2 x4 hi hm => SX10_lay_51 C r (fun M' x2' x4' hj => ih M' x2' x4' hj.1 (by omega)) (h51I M x2 x4 hi)
  exact v_sub [0, 1] rfl (SX10_lay_0 C r (fun M' x2' x4' hj => (all _) M' x2' x4' hj (Nat.lt_succ_self _)) h0)
def VX10_becomeLike_k_0 (E : FX) (l : Launch) (D : Nat) (post : Option AV → MM → Prop) (M : MM) : Prop :=
  Con E l D qX7_fill [vr 15, vr 4] M (fun r M1 => r = none ∧ (∀ M3 : MM, M3 = up M1 14 1 (M1 3 1) → (∀ M5 : MM, M5 = up M3 14 2 (M3 3 2) → (post none M5))))
set_option maxRecDepth 20000 in
theorem SX10_becomeLike_k_0 {E : FX} {l : Launch} {D : Nat} {post : Option AV → MM → Prop} {z : RT} (C : Cx E z D RX10 cX10_becomeLike 2) (r : Rt E z none post) {M : MM} (h : VX10_becomeLike_k_0 E l D post M) : Aj E l z 0 [(0, vr 14), (1, vr 3)] [] M := by
  unfold VX10_becomeLike_k_0 at h
  refine v_aload_n (i := 0) C dX10_becomeLike_0 rfl rfl ?_
  refine v_getf (k := 14) C fl_RX10_9 rfl rfl dX10_becomeLike_1 ?_
  show Aj E l z (1 + 3) [(0, vr 14), (1, vr 3)] [vr 15] M
  refine v_aload_n (i := 1) C dX10_becomeLike_4 rfl rfl ?_
  refine v_getf (k := 3) C fl_RX10_9 rfl rfl dX10_becomeLike_5 ?_
  show Aj E l z (5 + 3) [(0, vr 14), (1, vr 3)] [vr 4, vr 15] M
  refine v_callS (q := qX7_fill) (As := [vr 15, vr 4]) (S := []) C co_yX7_fill ml_RX10_19 st_yX7_fill ini_RX7 hq_X7_fill (by decide) (Nat.le_of_ble_eq_true rfl) rfl dX10_becomeLike_8 (Con.mono h (fun rr M1 hr => ?_) (Nat.le_refl _))
  obtain ⟨rfl, g2⟩ := hr
  show Aj E l z (8 + 3) [(0, vr 14), (1, vr 3)] [] M1
  refine v_aload_n (i := 0) C dX10_becomeLike_11 rfl rfl ?_
  refine v_aload_n (i := 1) C dX10_becomeLike_12 rfl rfl ?_
  refine v_getf (k := 3) C fl_RX10_15 rfl rfl dX10_becomeLike_13 ?_
  show Aj E l z (13 + 3) [(0, vr 14), (1, vr 3)] [vi (M1 3 1), vr 14] M1
  refine v_putf (k := 14) (x := M1 3 1) (t := 0) C fp_RX10_15 rfl rfl (by decide) (by simp [fv, up]) rfl rfl dX10_becomeLike_16 ?_
  obtain ⟨M3, hM3⟩ : ∃ X : MM, X = up M1 14 1 (M1 3 1) := ⟨_, rfl⟩
  refine v_eqM hM3 ?_
  have g4 := g2 M3 hM3
  refine v_aload_n (i := 0) C dX10_becomeLike_19 rfl rfl ?_
  refine v_aload_n (i := 1) C dX10_becomeLike_20 rfl rfl ?_
  refine v_getf (k := 3) C fl_RX10_25 rfl rfl dX10_becomeLike_21 ?_
  show Aj E l z (21 + 3) [(0, vr 14), (1, vr 3)] [vi (M3 3 2), vr 14] M3
  refine v_putf (k := 14) (x := M3 3 2) (t := 0) C fp_RX10_25 rfl rfl (by decide) (by simp [fv, up]) rfl rfl dX10_becomeLike_24 ?_
  obtain ⟨M5, hM5⟩ : ∃ X : MM, X = up M3 14 2 (M3 3 2) := ⟨_, rfl⟩
  refine v_eqM hM5 ?_
  have g6 := g4 M5 hM5
  exact v_vret C r dX10_becomeLike_27 g6
theorem RX10_becomeLike_k {E : FX} {l : Launch} {D : Nat} {post : Option AV → MM → Prop} {M : MM} (h0 : VX10_becomeLike_k_0 E l D post M) : Con E l (D + 1) qX10_becomeLike [vr 14, vr 3] M post := by
  refine con_of (by decide +kernel) (Nat.le_of_ble_eq_true rfl) (fun z C r => ?_)
  exact v_sub [0, 1] rfl (SX10_becomeLike_k_0 C r h0)
def VX10_becomeLike_m_0 (E : FX) (l : Launch) (D : Nat) (post : Option AV → MM → Prop) (M : MM) : Prop :=
  Con E l D qX7_fill [vr 4, vr 15] M (fun r M1 => r = none ∧ (∀ M3 : MM, M3 = up M1 3 1 (M1 14 1) → (∀ M5 : MM, M5 = up M3 3 2 (M3 14 2) → (post none M5))))
set_option maxRecDepth 20000 in
theorem SX10_becomeLike_m_0 {E : FX} {l : Launch} {D : Nat} {post : Option AV → MM → Prop} {z : RT} (C : Cx E z D RX10 cX10_becomeLike 2) (r : Rt E z none post) {M : MM} (h : VX10_becomeLike_m_0 E l D post M) : Aj E l z 0 [(0, vr 3), (1, vr 14)] [] M := by
  unfold VX10_becomeLike_m_0 at h
  refine v_aload_n (i := 0) C dX10_becomeLike_0 rfl rfl ?_
  refine v_getf (k := 3) C fl_RX10_9 rfl rfl dX10_becomeLike_1 ?_
  show Aj E l z (1 + 3) [(0, vr 3), (1, vr 14)] [vr 4] M
  refine v_aload_n (i := 1) C dX10_becomeLike_4 rfl rfl ?_
  refine v_getf (k := 14) C fl_RX10_9 rfl rfl dX10_becomeLike_5 ?_
  show Aj E l z (5 + 3) [(0, vr 3), (1, vr 14)] [vr 15, vr 4] M
  refine v_callS (q := qX7_fill) (As := [vr 4, vr 15]) (S := []) C co_yX7_fill ml_RX10_19 st_yX7_fill ini_RX7 hq_X7_fill (by decide) (Nat.le_of_ble_eq_true rfl) rfl dX10_becomeLike_8 (Con.mono h (fun rr M1 hr => ?_) (Nat.le_refl _))
  obtain ⟨rfl, g2⟩ := hr
  show Aj E l z (8 + 3) [(0, vr 3), (1, vr 14)] [] M1
  refine v_aload_n (i := 0) C dX10_becomeLike_11 rfl rfl ?_
  refine v_aload_n (i := 1) C dX10_becomeLike_12 rfl rfl ?_
  refine v_getf (k := 14) C fl_RX10_15 rfl rfl dX10_becomeLike_13 ?_
  show Aj E l z (13 + 3) [(0, vr 3), (1, vr 14)] [vi (M1 14 1), vr 3] M1
  refine v_putf (k := 3) (x := M1 14 1) (t := 0) C fp_RX10_15 rfl rfl (by decide) (by simp [fv, up]) rfl rfl dX10_becomeLike_16 ?_
  obtain ⟨M3, hM3⟩ : ∃ X : MM, X = up M1 3 1 (M1 14 1) := ⟨_, rfl⟩
  refine v_eqM hM3 ?_
  have g4 := g2 M3 hM3
  refine v_aload_n (i := 0) C dX10_becomeLike_19 rfl rfl ?_
  refine v_aload_n (i := 1) C dX10_becomeLike_20 rfl rfl ?_
  refine v_getf (k := 14) C fl_RX10_25 rfl rfl dX10_becomeLike_21 ?_
  show Aj E l z (21 + 3) [(0, vr 3), (1, vr 14)] [vi (M3 14 2), vr 3] M3
  refine v_putf (k := 3) (x := M3 14 2) (t := 0) C fp_RX10_25 rfl rfl (by decide) (by simp [fv, up]) rfl rfl dX10_becomeLike_24 ?_
  obtain ⟨M5, hM5⟩ : ∃ X : MM, X = up M3 3 2 (M3 14 2) := ⟨_, rfl⟩
  refine v_eqM hM5 ?_
  have g6 := g4 M5 hM5
  exact v_vret C r dX10_becomeLike_27 g6
theorem RX10_becomeLike_m {E : FX} {l : Launch} {D : Nat} {post : Option AV → MM → Prop} {M : MM} (h0 : VX10_becomeLike_m_0 E l D post M) : Con E l (D + 1) qX10_becomeLike [vr 3, vr 14] M post := by
  refine con_of (by decide +kernel) (Nat.le_of_ble_eq_true rfl) (fun z C r => ?_)
  exact v_sub [0, 1] rfl (SX10_becomeLike_m_0 C r h0)
