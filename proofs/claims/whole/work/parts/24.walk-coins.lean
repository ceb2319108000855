def VX3_agree_0 (E : FX) (l : Launch) (D : Nat) (post : Option AV → MM → Prop) (M : MM) (x1 : Int) (x2 : Int) (x3 : Int) (x4 : Int) : Prop :=
  ∀ y1 : Int, y1 = (4 * x1) + x2 → (Con E l D qX7_at [vr 12, vi y1] M (fun r M3 => ∃ y4 : Int, r = some (vi y4) ∧ (Con E l D qX7_at [vr 13, vi y1] M3 (fun r M6 => ∃ y7 : Int, r = some (vi y7) ∧ (∀ y9 : Int, y9 = (100 * y4) + y7 → (Con E l D qX7_put [vr 12, vi y1, vi x3] M6 (fun r M11 => r = none ∧ (Con E l D qX7_put [vr 13, vi y1, vi x4] M11 (fun r M13 => r = none ∧ (post (some (vi y9)) M13))))))))))
set_option maxRecDepth 20000 in
theorem SX3_agree_0 {E : FX} {l : Launch} {D : Nat} {post : Option AV → MM → Prop} {z : RT} (C : Cx E z D RX3 cX3_agree 7) (r : Rt E z (some .int) post) {M : MM} {x1 : Int} {x2 : Int} {x3 : Int} {x4 : Int} (h : VX3_agree_0 E l D post M x1 x2 x3 x4) : Aj E l z 0 [(0, vr 11), (1, vi x1), (2, vi x2), (3, vi x3), (4, vi x4)] [] M := by
  unfold VX3_agree_0 at h
  refine v_iconst C dX3_agree_0 ?_
  refine v_iload_n (i := 1) C dX3_agree_1 rfl rfl ?_
  refine v_imul C dX3_agree_2 ?_
  refine v_iload_n (i := 2) C dX3_agree_3 rfl rfl ?_
  refine v_iadd C dX3_agree_4 ?_
  obtain ⟨y1, hy1⟩ : ∃ y : Int, y = (4 * x1) + x2 := ⟨_, rfl⟩
  have g2 := h y1 hy1
  refine v_eqi hy1 ?_
  refine v_istore (L' := [(5, vi y1), (0, vr 11), (1, vi x1), (2, vi x2), (3, vi x3), (4, vi x4)]) C dX3_agree_5 (by decide) rfl ?_
  refine v_bipush C dX3_agree_7 (by decide) ?_
  refine v_aload_n (i := 1) C dX3_agree_9 rfl rfl ?_
  refine v_getf (k := 11) C fl_RX3_9 rfl rfl dX3_agree_10 ?_
  show Aj E l z (10 + 3) [(5, vi y1), (0, vr 11), (1, vi x1), (2, vi x2), (3, vi x3), (4, vi x4)] [vr 12, vi 100] M
  refine v_iload (i := 0) C dX3_agree_13 rfl ?_
  refine v_callS (q := qX7_at) (As := [vr 12, vi y1]) (S := [vi 100]) C co_yX7_at ml_RX3_28 st_yX7_at ini_RX7 hq_X7_at (by decide) (Nat.le_of_ble_eq_true rfl) rfl dX3_agree_15 (Con.mono g2 (fun rr M3 hr => ?_) (Nat.le_refl _))
  obtain ⟨y4, rfl, g5⟩ := hr
  show Aj E l z (15 + 3) [(5, vi y1), (0, vr 11), (1, vi x1), (2, vi x2), (3, vi x3), (4, vi x4)] [vi y4, vi 100] M3
  refine v_imul C dX3_agree_18 ?_
  refine v_aload_n (i := 1) C dX3_agree_19 rfl rfl ?_
  refine v_getf (k := 11) C fl_RX3_15 rfl rfl dX3_agree_20 ?_
  show Aj E l z (20 + 3) [(5, vi y1), (0, vr 11), (1, vi x1), (2, vi x2), (3, vi x3), (4, vi x4)] [vr 13, vi (100 * y4)] M3
  refine v_iload (i := 0) C dX3_agree_23 rfl ?_
  refine v_callS (q := qX7_at) (As := [vr 13, vi y1]) (S := [vi (100 * y4)]) C co_yX7_at ml_RX3_28 st_yX7_at ini_RX7 hq_X7_at (by decide) (Nat.le_of_ble_eq_true rfl) rfl dX3_agree_25 (Con.mono g5 (fun rr M6 hr => ?_) (Nat.le_refl _))
  obtain ⟨y7, rfl, g8⟩ := hr
  show Aj E l z (25 + 3) [(5, vi y1), (0, vr 11), (1, vi x1), (2, vi x2), (3, vi x3), (4, vi x4)] [vi y7, vi (100 * y4)] M6
  refine v_iadd C dX3_agree_28 ?_
  obtain ⟨y9, hy9⟩ : ∃ y : Int, y = (100 * y4) + y7 := ⟨_, rfl⟩
  have g10 := g8 y9 hy9
  refine v_eqi hy9 ?_
  refine v_istore (L' := [(6, vi y9), (5, vi y1), (0, vr 11), (1, vi x1), (2, vi x2), (3, vi x3), (4, vi x4)]) C dX3_agree_29 (by decide) rfl ?_
  refine v_aload_n (i := 2) C dX3_agree_31 rfl rfl ?_
  refine v_getf (k := 11) C fl_RX3_9 rfl rfl dX3_agree_32 ?_
  show Aj E l z (32 + 3) [(6, vi y9), (5, vi y1), (0, vr 11), (1, vi x1), (2, vi x2), (3, vi x3), (4, vi x4)] [vr 12] M6
  refine v_iload (i := 1) C dX3_agree_35 rfl ?_
  refine v_iload_n (i := 5) C dX3_agree_37 rfl rfl ?_
  refine v_callS (q := qX7_put) (As := [vr 12, vi y1, vi x3]) (S := []) C co_yX7_put ml_RX3_18 st_yX7_put ini_RX7 hq_X7_put (by decide) (Nat.le_of_ble_eq_true rfl) rfl dX3_agree_38 (Con.mono g10 (fun rr M11 hr => ?_) (Nat.le_refl _))
  obtain ⟨rfl, g12⟩ := hr
  show Aj E l z (38 + 3) [(6, vi y9), (5, vi y1), (0, vr 11), (1, vi x1), (2, vi x2), (3, vi x3), (4, vi x4)] [] M11
  refine v_aload_n (i := 2) C dX3_agree_41 rfl rfl ?_
  refine v_getf (k := 11) C fl_RX3_15 rfl rfl dX3_agree_42 ?_
  show Aj E l z (42 + 3) [(6, vi y9), (5, vi y1), (0, vr 11), (1, vi x1), (2, vi x2), (3, vi x3), (4, vi x4)] [vr 13] M11
  refine v_iload (i := 1) C dX3_agree_45 rfl ?_
  refine v_iload (i := 6) C dX3_agree_47 rfl ?_
  refine v_callS (q := qX7_put) (As := [vr 13, vi y1, vi x4]) (S := []) C co_yX7_put ml_RX3_18 st_yX7_put ini_RX7 hq_X7_put (by decide) (Nat.le_of_ble_eq_true rfl) rfl dX3_agree_49 (Con.mono g12 (fun rr M13 hr => ?_) (Nat.le_refl _))
  obtain ⟨rfl, g14⟩ := hr
  show Aj E l z (49 + 3) [(6, vi y9), (5, vi y1), (0, vr 11), (1, vi x1), (2, vi x2), (3, vi x3), (4, vi x4)] [] M13
  refine v_iload (i := 0) C dX3_agree_52 rfl ?_
  exact v_iret C r dX3_agree_54 g14
theorem RX3_agree {E : FX} {l : Launch} {D : Nat} {post : Option AV → MM → Prop} {M : MM} {x1 : Int} {x2 : Int} {x3 : Int} {x4 : Int} (h0 : VX3_agree_0 E l D post M x1 x2 x3 x4) : Con E l (D + 1) qX3_agree [vr 11, vi x1, vi x2, vi x3, vi x4] M post := by
  refine con_of (by decide +kernel) (Nat.le_of_ble_eq_true rfl) (fun z C r => ?_)
  exact v_sub [0, 1, 2, 3, 4] rfl (SX3_agree_0 C r h0)
def VX3_digit_0 (E : FX) (l : Launch) (D : Nat) (post : Option AV → MM → Prop) (M : MM) (x0 : Int) (x1 : Int) (x2 : Int) : Prop :=
  post (some (vi (iand (ishr x0 (2 * ((x1 - 1) - x2))) 3))) M
set_option maxRecDepth 20000 in
theorem SX3_digit_0 {E : FX} {l : Launch} {D : Nat} {post : Option AV → MM → Prop} {z : RT} (C : Cx E z D RX3 cX3_digit 3) (r : Rt E z (some .int) post) {M : MM} {x0 : Int} {x1 : Int} {x2 : Int} (h : VX3_digit_0 E l D post M x0 x1 x2) : Aj E l z 0 [(0, vi x0), (1, vi x1), (2, vi x2)] [] M := by
  unfold VX3_digit_0 at h
  refine v_iload_n (i := 0) C dX3_digit_0 rfl rfl ?_
  refine v_iconst C dX3_digit_1 ?_
  refine v_iload_n (i := 1) C dX3_digit_2 rfl rfl ?_
  refine v_iconst C dX3_digit_3 ?_
  refine v_isub C dX3_digit_4 ?_
  refine v_iload_n (i := 2) C dX3_digit_5 rfl rfl ?_
  refine v_isub C dX3_digit_6 ?_
  refine v_imul C dX3_digit_7 ?_
  refine v_ishr C dX3_digit_8 ?_
  refine v_iconst C dX3_digit_9 ?_
  refine v_iand C dX3_digit_10 ?_
  exact v_iret C r dX3_digit_11 h
theorem RX3_digit {E : FX} {l : Launch} {D : Nat} {post : Option AV → MM → Prop} {M : MM} {x0 : Int} {x1 : Int} {x2 : Int} (h0 : VX3_digit_0 E l D post M x0 x1 x2) : Con E l (D + 1) qX3_digit [vi x0, vi x1, vi x2] M post := by
  refine con_of (by decide +kernel) (Nat.le_of_ble_eq_true rfl) (fun z C r => ?_)
  exact v_sub [0, 1, 2] rfl (SX3_digit_0 C r h0)
def VX3_isRing_0 (E : FX) (l : Launch) (D : Nat) (post : Option AV → MM → Prop) (J5 : MM → Int → Int → Int → Int → Prop) (M : MM) (x1 : Int) (x2 : Int) : Prop :=
  J5 M x1 x2 0 0
set_option maxRecDepth 20000 in
theorem SX3_isRing_0 {E : FX} {l : Launch} {D : Nat} {post : Option AV → MM → Prop} {z : RT} {J5 : MM → Int → Int → Int → Int → Prop} (C : Cx E z D RX3 cX3_isRing 6) (r : Rt E z (some .boolean) post) (hJ5 : ∀ (M : MM) (x1 : Int) (x2 : Int) (x3 : Int) (x4 : Int), J5 M x1 x2 x3 x4 → Aj E l z 5 [(1, vi x1), (2, vi x2), (3, vi x3), (4, vi x4)] [] M) {M : MM} {x1 : Int} {x2 : Int} (h : VX3_isRing_0 E l D post J5 M x1 x2) : Aj E l z 0 [(1, vi x1), (2, vi x2)] [] M := by
  unfold VX3_isRing_0 at h
  refine v_iconst C dX3_isRing_0 ?_
  refine v_istore_n (L' := [(3, vi 0), (1, vi x1), (2, vi x2)]) C dX3_isRing_1 rfl (by decide) rfl ?_
  refine v_iconst C dX3_isRing_2 ?_
  refine v_istore (L' := [(4, vi 0), (3, vi 0), (1, vi x1), (2, vi x2)]) C dX3_isRing_3 (by decide) rfl ?_
  exact v_sub [2, 3, 1, 0] rfl (hJ5 _ _ _ _ _ h)
def VX3_isRing_41 (E : FX) (l : Launch) (D : Nat) (post : Option AV → MM → Prop) (J5 : MM → Int → Int → Int → Int → Prop) (M : MM) : Prop :=
  post (some (vi 0)) M
set_option maxRecDepth 20000 in
theorem SX3_isRing_41 {E : FX} {l : Launch} {D : Nat} {post : Option AV → MM → Prop} {z : RT} {J5 : MM → Int → Int → Int → Int → Prop} (C : Cx E z D RX3 cX3_isRing 6) (r : Rt E z (some .boolean) post) (hJ5 : ∀ (M : MM) (x1 : Int) (x2 : Int) (x3 : Int) (x4 : Int), J5 M x1 x2 x3 x4 → Aj E l z 5 [(1, vi x1), (2, vi x2), (3, vi x3), (4, vi x4)] [] M) {M : MM} (h : VX3_isRing_41 E l D post J5 M) : Aj E l z 41 [] [] M := by
  unfold VX3_isRing_41 at h
  refine v_iconst C dX3_isRing_41 ?_
  exact v_zret C r (by decide) dX3_isRing_42 h
def VX3_isRing_5 (E : FX) (l : Launch) (D : Nat) (post : Option AV → MM → Prop) (J5 : MM → Int → Int → Int → Int → Prop) (M : MM) (x1 : Int) (x2 : Int) (x3 : Int) (x4 : Int) : Prop :=
  R32 x4 ∧ (R32 x2 ∧ ((x2 ≤ x4 → post (some (vi 1)) M) ∧ (¬ x2 ≤ x4 → Con E l D qX3_digit [vi x1, vi x2, vi x4] M (fun r M3 => ∃ y4 : Int, r = some (vi y4) ∧ (R32 (iand (ishr x3 y4) 1) ∧ ((iand (ishr x3 y4) 1 = 1 → post (some (vi 0)) M3) ∧ (¬ iand (ishr x3 y4) 1 = 1 → Con E l D qX3_digit [vi x1, vi x2, vi 0] M3 (fun r M8 => ∃ y9 : Int, r = some (vi y9) ∧ (R32 y4 ∧ (R32 y9 ∧ ((y9 ≤ y4 → ∀ y13 : Int, y13 = ior x3 (ishl 1 y4) → (∀ y15 : Int, y15 = x4 + 1 → (J5 M8 x1 x2 y13 y15))) ∧ (¬ y9 ≤ y4 → post (some (vi 0)) M8))))))))))))
set_option maxRecDepth 20000 in
theorem SX3_isRing_5 {E : FX} {l : Launch} {D : Nat} {post : Option AV → MM → Prop} {z : RT} {J5 : MM → Int → Int → Int → Int → Prop} (C : Cx E z D RX3 cX3_isRing 6) (r : Rt E z (some .boolean) post) (hJ5 : ∀ (M : MM) (x1 : Int) (x2 : Int) (x3 : Int) (x4 : Int), J5 M x1 x2 x3 x4 → Aj E l z 5 [(1, vi x1), (2, vi x2), (3, vi x3), (4, vi x4)] [] M) {M : MM} {x1 : Int} {x2 : Int} {x3 : Int} {x4 : Int} (h : VX3_isRing_5 E l D post J5 M x1 x2 x3 x4) : Aj E l z 5 [(1, vi x1), (2, vi x2), (3, vi x3), (4, vi x4)] [] M := by
  unfold VX3_isRing_5 at h
  refine v_iload (i := 3) C dX3_isRing_5 rfl ?_
  refine v_iload_n (i := 1) C dX3_isRing_7 rfl rfl ?_
  refine v_icmp_ge (tgt := 56) C h.1 h.2.1 dX3_isRing_8 (by decide) (fun c => ?_) (fun c => ?_)
  · have g1 := h.2.2.1 c
    refine v_iconst C dX3_isRing_56 ?_
    exact v_zret C r (by decide) dX3_isRing_57 g1
  · have g2 := h.2.2.2 c
    refine v_iload_n (i := 0) C dX3_isRing_11 rfl rfl ?_
    refine v_iload_n (i := 1) C dX3_isRing_12 rfl rfl ?_
    refine v_iload (i := 3) C dX3_isRing_13 rfl ?_
    refine v_callS (q := qX3_digit) (As := [vi x1, vi x2, vi x4]) (S := []) C co_yX3_digit ml_RX3_32 st_yX3_digit ini_RX3 hq_X3_digit (by decide) (Nat.le_of_ble_eq_true rfl) rfl dX3_isRing_15 (Con.mono g2 (fun rr M3 hr => ?_) (Nat.le_refl _))
    obtain ⟨y4, rfl, g5⟩ := hr
    show Aj E l z (15 + 3) [(1, vi x1), (2, vi x2), (3, vi x3), (4, vi x4)] [vi y4] M3
    refine v_istore (L' := [(5, vi y4), (1, vi x1), (2, vi x2), (3, vi x3), (4, vi x4)]) C dX3_isRing_18 (by decide) rfl ?_
    refine v_iload_n (i := 3) C dX3_isRing_20 rfl rfl ?_
    refine v_iload (i := 0) C dX3_isRing_21 rfl ?_
    refine v_ishr C dX3_isRing_23 ?_
    refine v_iconst C dX3_isRing_24 ?_
    refine v_iand C dX3_isRing_25 ?_
    refine v_iconst C dX3_isRing_26 ?_
    refine v_icmp_eq (tgt := 41) C g5.1 (by decide) dX3_isRing_27 (by decide) (fun c => ?_) (fun c => ?_)
    · have g6 := g5.2.1 c
      refine v_iconst C dX3_isRing_41 ?_
      exact v_zret C r (by decide) dX3_isRing_42 g6
    · have g7 := g5.2.2 c
      refine v_iload (i := 0) C dX3_isRing_30 rfl ?_
      refine v_iload_n (i := 1) C dX3_isRing_32 rfl rfl ?_
      refine v_iload_n (i := 2) C dX3_isRing_33 rfl rfl ?_
      refine v_iconst C dX3_isRing_34 ?_
      refine v_callS (q := qX3_digit) (As := [vi x1, vi x2, vi 0]) (S := [vi y4]) C co_yX3_digit ml_RX3_32 st_yX3_digit ini_RX3 hq_X3_digit (by decide) (Nat.le_of_ble_eq_true rfl) rfl dX3_isRing_35 (Con.mono g7 (fun rr M8 hr => ?_) (Nat.le_refl _))
      obtain ⟨y9, rfl, g10⟩ := hr
      show Aj E l z (35 + 3) [(5, vi y4), (1, vi x1), (2, vi x2), (3, vi x3), (4, vi x4)] [vi y9, vi y4] M8
      refine v_icmp_ge (tgt := 43) C g10.1 g10.2.1 dX3_isRing_38 (by decide) (fun c => ?_) (fun c => ?_)
      · have g11 := g10.2.2.1 c
        refine v_iload_n (i := 3) C dX3_isRing_43 rfl rfl ?_
        refine v_iconst C dX3_isRing_44 ?_
        refine v_iload (i := 0) C dX3_isRing_45 rfl ?_
        refine v_ishl C dX3_isRing_47 ?_
        refine v_ior C dX3_isRing_48 ?_
        obtain ⟨y13, hy13⟩ : ∃ y : Int, y = ior x3 (ishl 1 y4) := ⟨_, rfl⟩
        have g14 := g11 y13 hy13
        refine v_eqi hy13 ?_
        refine v_istore_n (L' := [(3, vi y13), (5, vi y4), (1, vi x1), (2, vi x2), (4, vi x4)]) C dX3_isRing_49 rfl (by decide) rfl ?_
        obtain ⟨y15, hy15⟩ : ∃ y : Int, y = x4 + 1 := ⟨_, rfl⟩
        have g16 := g14 y15 hy15
        refine v_iinc (i := 4) (L' := [(4, vi y15), (3, vi y13), (5, vi y4), (1, vi x1), (2, vi x2)]) C dX3_isRing_50 rfl (by decide) hy15 rfl ?_
        refine v_goto C dX3_isRing_53 (tgt := 5) (by decide) ?_
        exact v_sub [3, 4, 1, 0] rfl (hJ5 _ _ _ _ _ g16)
      · have g12 := g10.2.2.2 c
        refine v_iconst C dX3_isRing_41 ?_
        exact v_zret C r (by decide) dX3_isRing_42 g12
theorem RX3_isRing {E : FX} {l : Launch} {D : Nat} {post : Option AV → MM → Prop} (I5 : MM → Int → Int → Int → Int → Prop) (m5 : MM → Int → Int → Int → Int → Nat) {M : MM} {x1 : Int} {x2 : Int} (h0 : VX3_isRing_0 E l D post I5 M x1 x2) (h5I : ∀ (M : MM) (x1 : Int) (x2 : Int) (x3 : Int) (x4 : Int), I5 M x1 x2 x3 x4 → VX3_isRing_5 E l D post (fun M' x1' x2' x3' x4' => I5 M' x1' x2' x3' x4' ∧ m5 M' x1' x2' x3' x4' < m5 M x1 x2 x3 x4) M x1 x2 x3 x4) : Con E l (D + 1) qX3_isRing [vr 11, vi x1, vi x2] M post := by
  refine con_of (by decide +kernel) (Nat.le_of_ble_eq_true rfl) (fun z C r => ?_)
  have all : ∀ n : Nat, (∀ (M : MM) (x1 : Int) (x2 : Int) (x3 : Int) (x4 : Int), I5 M x1 x2 x3 x4 → m5 M x1 x2 x3 x4 < n → Aj E l z 5 [(1, vi x1), (2, vi x2), (3, vi x3), (4, vi x4)] [] M) := by
    intro n
    induction n with
    | zero => exact fun _ _ _ _ _ _ hm => absurd hm (Nat.not_lt_zero _)
    | succ n ih => exact fun M x1 x2 x3 x4 hi hm => SX3_isRing_5 C r (fun M' x1' x2' x3' x4' hj => ih M' x1' x2' x3' x4' hj.1 (by omega)) (h5I M x1 x2 x3 x4 hi)
  exact v_sub [1, 2] rfl (SX3_isRing_0 C r (fun M' x1' x2' x3' x4' hj => (all _) M' x1' x2' x3' x4' hj (Nat.lt_succ_self _)) h0)
def VX3_gains_0 (E : FX) (l : Launch) (D : Nat) (post : Option AV → MM → Prop) (J18 : MM → Int → Int → Int → Int → Int → Int → Prop) (M : MM) (x1 : Int) (x2 : Int) : Prop :=
  Con E l D qX3_digit [vi x1, vi x2, vi (x2 - 1)] M (fun r M1 => ∃ y2 : Int, r = some (vi y2) ∧ (J18 M1 x1 x2 1 1 y2 0))
set_option maxRecDepth 20000 in
theorem SX3_gains_0 {E : FX} {l : Launch} {D : Nat} {post : Option AV → MM → Prop} {z : RT} {J18 : MM → Int → Int → Int → Int → Int → Int → Prop} (C : Cx E z D RX3 cX3_gains 10) (r : Rt E z (some .boolean) post) (hJ18 : ∀ (M : MM) (x1 : Int) (x2 : Int) (x3 : Int) (x5 : Int) (x7 : Int) (x8 : Int), J18 M x1 x2 x3 x5 x7 x8 → Aj E l z 18 [(0, vr 11), (1, vi x1), (2, vi x2), (3, vj x3), (5, vj x5), (7, vi x7), (8, vi x8)] [] M) {M : MM} {x1 : Int} {x2 : Int} (h : VX3_gains_0 E l D post J18 M x1 x2) : Aj E l z 0 [(0, vr 11), (1, vi x1), (2, vi x2)] [] M := by
  unfold VX3_gains_0 at h
  refine v_lconst (x := 1) C dX3_gains_0 (by decide) ?_
  refine v_lstore_n (L' := [(3, vj 1), (0, vr 11), (1, vi x1), (2, vi x2)]) C dX3_gains_1 rfl (by decide) rfl ?_
  refine v_lconst (x := 1) C dX3_gains_2 (by decide) ?_
  refine v_lstore (L' := [(5, vj 1), (3, vj 1), (0, vr 11), (1, vi x1), (2, vi x2)]) C dX3_gains_3 (by decide) rfl ?_
  refine v_iload_n (i := 3) C dX3_gains_5 rfl rfl ?_
  refine v_iload_n (i := 4) C dX3_gains_6 rfl rfl ?_
  refine v_iload_n (i := 4) C dX3_gains_7 rfl rfl ?_
  refine v_iconst C dX3_gains_8 ?_
  refine v_isub C dX3_gains_9 ?_
  refine v_callS (q := qX3_digit) (As := [vi x1, vi x2, vi (x2 - 1)]) (S := []) C co_yX3_digit ml_RX3_32 st_yX3_digit ini_RX3 hq_X3_digit (by decide) (Nat.le_of_ble_eq_true rfl) rfl dX3_gains_10 (Con.mono h (fun rr M1 hr => ?_) (Nat.le_refl _))
  obtain ⟨y2, rfl, g3⟩ := hr
  show Aj E l z (10 + 3) [(5, vj 1), (3, vj 1), (0, vr 11), (1, vi x1), (2, vi x2)] [vi y2] M1
  refine v_istore (L' := [(7, vi y2), (5, vj 1), (3, vj 1), (0, vr 11), (1, vi x1), (2, vi x2)]) C dX3_gains_13 (by decide) rfl ?_
  refine v_iconst C dX3_gains_15 ?_
  refine v_istore (L' := [(8, vi 0), (7, vi y2), (5, vj 1), (3, vj 1), (0, vr 11), (1, vi x1), (2, vi x2)]) C dX3_gains_16 (by decide) rfl ?_
  exact v_sub [4, 5, 6, 3, 2, 1, 0] rfl (hJ18 _ _ _ _ _ _ _ g3)
def VX3_gains_93 (E : FX) (l : Launch) (D : Nat) (post : Option AV → MM → Prop) (J18 : MM → Int → Int → Int → Int → Int → Int → Prop) (M : MM) (s0 : Int) : Prop :=
  (s0 = 0 ∨ s0 = 1) ∧ (post (some (vi s0)) M)
set_option maxRecDepth 20000 in
theorem SX3_gains_93 {E : FX} {l : Launch} {D : Nat} {post : Option AV → MM → Prop} {z : RT} {J18 : MM → Int → Int → Int → Int → Int → Int → Prop} (C : Cx E z D RX3 cX3_gains 10) (r : Rt E z (some .boolean) post) (hJ18 : ∀ (M : MM) (x1 : Int) (x2 : Int) (x3 : Int) (x5 : Int) (x7 : Int) (x8 : Int), J18 M x1 x2 x3 x5 x7 x8 → Aj E l z 18 [(0, vr 11), (1, vi x1), (2, vi x2), (3, vj x3), (5, vj x5), (7, vi x7), (8, vi x8)] [] M) {M : MM} {s0 : Int} (h : VX3_gains_93 E l D post J18 M s0) : Aj E l z 93 [] [vi s0] M := by
  unfold VX3_gains_93 at h
  exact v_zret C r h.1 dX3_gains_93 h.2
def VX3_gains_18 (E : FX) (l : Launch) (D : Nat) (post : Option AV → MM → Prop) (J18 : MM → Int → Int → Int → Int → Int → Int → Prop) (M : MM) (x1 : Int) (x2 : Int) (x3 : Int) (x5 : Int) (x7 : Int) (x8 : Int) : Prop :=
  R32 x8 ∧ (R32 x2 ∧ ((x2 ≤ x8 → R64 x3 ∧ (R64 x5 ∧ ((x3 ≤ x5 → VX3_gains_93 E l D post J18 M 0) ∧ (¬ x3 ≤ x5 → VX3_gains_93 E l D post J18 M 1)))) ∧ (¬ x2 ≤ x8 → Con E l D qX3_digit [vi x1, vi x2, vi x8] M (fun r M8 => ∃ y9 : Int, r = some (vi y9) ∧ (Con E l D qX7_at [vr 12, vi ((4 * x7) + y9)] M8 (fun r M11 => ∃ y12 : Int, r = some (vi y12) ∧ (R32 y12 ∧ (∀ y14 : Int, y14 = x3 * y12 → (Con E l D qX7_at [vr 13, vi ((4 * x7) + y9)] M11 (fun r M16 => ∃ y17 : Int, r = some (vi y17) ∧ (R32 y17 ∧ (∀ y19 : Int, y19 = x5 * y17 → (∀ y21 : Int, y21 = x8 + 1 → (J18 M16 x1 x2 y14 y19 y9 y21))))))))))))))
set_option maxRecDepth 20000 in
theorem SX3_gains_18 {E : FX} {l : Launch} {D : Nat} {post : Option AV → MM → Prop} {z : RT} {J18 : MM → Int → Int → Int → Int → Int → Int → Prop} (C : Cx E z D RX3 cX3_gains 10) (r : Rt E z (some .boolean) post) (hJ18 : ∀ (M : MM) (x1 : Int) (x2 : Int) (x3 : Int) (x5 : Int) (x7 : Int) (x8 : Int), J18 M x1 x2 x3 x5 x7 x8 → Aj E l z 18 [(0, vr 11), (1, vi x1), (2, vi x2), (3, vj x3), (5, vj x5), (7, vi x7), (8, vi x8)] [] M) {M : MM} {x1 : Int} {x2 : Int} {x3 : Int} {x5 : Int} {x7 : Int} {x8 : Int} (h : VX3_gains_18 E l D post J18 M x1 x2 x3 x5 x7 x8) : Aj E l z 18 [(0, vr 11), (1, vi x1), (2, vi x2), (3, vj x3), (5, vj x5), (7, vi x7), (8, vi x8)] [] M := by
  unfold VX3_gains_18 at h
  refine v_iload (i := 6) C dX3_gains_18 rfl ?_
  refine v_iload_n (i := 2) C dX3_gains_20 rfl rfl ?_
  refine v_icmp_ge (tgt := 81) C h.1 h.2.1 dX3_gains_21 (by decide) (fun c => ?_) (fun c => ?_)
  · have g4 := h.2.2.1 c
    refine v_lload_n (i := 3) C dX3_gains_81 rfl rfl ?_
    refine v_lload (i := 4) C dX3_gains_82 rfl ?_
    refine v_lif_le (tgt := 92) C g4.1 g4.2.1 dX3_gains_84 dX3_gains_85 (by decide) (fun c => ?_) (fun c => ?_)
    · have g6 := g4.2.2.1 c
      refine v_iconst C dX3_gains_92 ?_
      exact v_sub [] rfl (SX3_gains_93 C r hJ18 g6)
    · have g7 := g4.2.2.2 c
      refine v_iconst C dX3_gains_88 ?_
      refine v_goto C dX3_gains_89 (tgt := 93) (by decide) ?_
      exact v_sub [] rfl (SX3_gains_93 C r hJ18 g7)
  · have g5 := h.2.2.2 c
    refine v_iload_n (i := 1) C dX3_gains_24 rfl rfl ?_
    refine v_iload_n (i := 2) C dX3_gains_25 rfl rfl ?_
    refine v_iload (i := 6) C dX3_gains_26 rfl ?_
    refine v_callS (q := qX3_digit) (As := [vi x1, vi x2, vi x8]) (S := []) C co_yX3_digit ml_RX3_32 st_yX3_digit ini_RX3 hq_X3_digit (by decide) (Nat.le_of_ble_eq_true rfl) rfl dX3_gains_28 (Con.mono g5 (fun rr M8 hr => ?_) (Nat.le_refl _))
    obtain ⟨y9, rfl, g10⟩ := hr
    show Aj E l z (28 + 3) [(0, vr 11), (1, vi x1), (2, vi x2), (3, vj x3), (5, vj x5), (7, vi x7), (8, vi x8)] [vi y9] M8
    refine v_istore (L' := [(9, vi y9), (0, vr 11), (1, vi x1), (2, vi x2), (3, vj x3), (5, vj x5), (7, vi x7), (8, vi x8)]) C dX3_gains_31 (by decide) rfl ?_
    refine v_lload_n (i := 4) C dX3_gains_33 rfl rfl ?_
    refine v_aload_n (i := 1) C dX3_gains_34 rfl rfl ?_
    refine v_getf (k := 11) C fl_RX3_9 rfl rfl dX3_gains_35 ?_
    show Aj E l z (35 + 3) [(9, vi y9), (0, vr 11), (1, vi x1), (2, vi x2), (3, vj x3), (5, vj x5), (7, vi x7), (8, vi x8)] [vr 12, vj x3] M8
    refine v_iconst C dX3_gains_38 ?_
    refine v_iload (i := 6) C dX3_gains_39 rfl ?_
    refine v_imul C dX3_gains_41 ?_
    refine v_iload (i := 0) C dX3_gains_42 rfl ?_
    refine v_iadd C dX3_gains_44 ?_
    refine v_callS (q := qX7_at) (As := [vr 12, vi ((4 * x7) + y9)]) (S := [vj x3]) C co_yX7_at ml_RX3_28 st_yX7_at ini_RX7 hq_X7_at (by decide) (Nat.le_of_ble_eq_true rfl) rfl dX3_gains_45 (Con.mono g10 (fun rr M11 hr => ?_) (Nat.le_refl _))
    obtain ⟨y12, rfl, g13⟩ := hr
    show Aj E l z (45 + 3) [(9, vi y9), (0, vr 11), (1, vi x1), (2, vi x2), (3, vj x3), (5, vj x5), (7, vi x7), (8, vi x8)] [vi y12, vj x3] M11
    refine v_i2l C g13.1 dX3_gains_48 ?_
    refine v_lmul C dX3_gains_49 ?_
    obtain ⟨y14, hy14⟩ : ∃ y : Int, y = x3 * y12 := ⟨_, rfl⟩
    have g15 := g13.2 y14 hy14
    refine v_eqj hy14 ?_
    refine v_lstore_n (L' := [(3, vj y14), (9, vi y9), (0, vr 11), (1, vi x1), (2, vi x2), (5, vj x5), (7, vi x7), (8, vi x8)]) C dX3_gains_50 rfl (by decide) rfl ?_
    refine v_lload (i := 5) C dX3_gains_51 rfl ?_
    refine v_aload_n (i := 2) C dX3_gains_53 rfl rfl ?_
    refine v_getf (k := 11) C fl_RX3_15 rfl rfl dX3_gains_54 ?_
    show Aj E l z (54 + 3) [(3, vj y14), (9, vi y9), (0, vr 11), (1, vi x1), (2, vi x2), (5, vj x5), (7, vi x7), (8, vi x8)] [vr 13, vj x5] M11
    refine v_iconst C dX3_gains_57 ?_
    refine v_iload (i := 6) C dX3_gains_58 rfl ?_
    refine v_imul C dX3_gains_60 ?_
    refine v_iload (i := 1) C dX3_gains_61 rfl ?_
    refine v_iadd C dX3_gains_63 ?_
    refine v_callS (q := qX7_at) (As := [vr 13, vi ((4 * x7) + y9)]) (S := [vj x5]) C co_yX7_at ml_RX3_28 st_yX7_at ini_RX7 hq_X7_at (by decide) (Nat.le_of_ble_eq_true rfl) rfl dX3_gains_64 (Con.mono g15 (fun rr M16 hr => ?_) (Nat.le_refl _))
    obtain ⟨y17, rfl, g18⟩ := hr
    show Aj E l z (64 + 3) [(3, vj y14), (9, vi y9), (0, vr 11), (1, vi x1), (2, vi x2), (5, vj x5), (7, vi x7), (8, vi x8)] [vi y17, vj x5] M16
    refine v_i2l C g18.1 dX3_gains_67 ?_
    refine v_lmul C dX3_gains_68 ?_
    obtain ⟨y19, hy19⟩ : ∃ y : Int, y = x5 * y17 := ⟨_, rfl⟩
    have g20 := g18.2 y19 hy19
    refine v_eqj hy19 ?_
    refine v_lstore (L' := [(5, vj y19), (3, vj y14), (9, vi y9), (0, vr 11), (1, vi x1), (2, vi x2), (7, vi x7), (8, vi x8)]) C dX3_gains_69 (by decide) rfl ?_
    refine v_iload (i := 2) C dX3_gains_71 rfl ?_
    refine v_istore (L' := [(7, vi y9), (5, vj y19), (3, vj y14), (9, vi y9), (0, vr 11), (1, vi x1), (2, vi x2), (8, vi x8)]) C dX3_gains_73 (by decide) rfl ?_
    obtain ⟨y21, hy21⟩ : ∃ y : Int, y = x8 + 1 := ⟨_, rfl⟩
    have g22 := g20 y21 hy21
    refine v_iinc (i := 7) (L' := [(8, vi y21), (7, vi y9), (5, vj y19), (3, vj y14), (9, vi y9), (0, vr 11), (1, vi x1), (2, vi x2)]) C dX3_gains_75 rfl (by decide) hy21 rfl ?_
    refine v_goto C dX3_gains_78 (tgt := 18) (by decide) ?_
    exact v_sub [5, 6, 7, 3, 2, 1, 0] rfl (hJ18 _ _ _ _ _ _ _ g22)
theorem RX3_gains {E : FX} {l : Launch} {D : Nat} {post : Option AV → MM → Prop} (I18 : MM → Int → Int → Int → Int → Int → Int → Prop) (m18 : MM → Int → Int → Int → Int → Int → Int → Nat) {M : MM} {x1 : Int} {x2 : Int} (h0 : VX3_gains_0 E l D post I18 M x1 x2) (h18I : ∀ (M : MM) (x1 : Int) (x2 : Int) (x3 : Int) (x5 : Int) (x7 : Int) (x8 : Int), I18 M x1 x2 x3 x5 x7 x8 → VX3_gains_18 E l D post (fun M' x1' x2' x3' x5' x7' x8' => I18 M' x1' x2' x3' x5' x7' x8' ∧ m18 M' x1' x2' x3' x5' x7' x8' < m18 M x1 x2 x3 x5 x7 x8) M x1 x2 x3 x5 x7 x8) : Con E l (D + 1) qX3_gains [vr 11, vi x1, vi x2] M post := by
  refine con_of (by decide +kernel) (Nat.le_of_ble_eq_true rfl) (fun z C r => ?_)
  have all : ∀ n : Nat, (∀ (M : MM) (x1 : Int) (x2 : Int) (x3 : Int) (x5 : Int) (x7 : Int) (x8 : Int), I18 M x1 x2 x3 x5 x7 x8 → m18 M x1 x2 x3 x5 x7 x8 < n → Aj E l z 18 [(0, vr 11), (1, vi x1), (2, vi x2), (3, vj x3), (5, vj x5), (7, vi x7), (8, vi x8)] [] M) := by
    intro n
    induction n with
    | zero => exact fun _ _ _ _ _ _ _ _ hm => absurd hm (Nat.not_lt_zero _)
    | succ n ih => exact fun M x1 x2 x3 x5 x7 x8 hi hm => SX3_gains_18 C r (fun M' x1' x2' x3' x5' x7' x8' hj => ih M' x1' x2' x3' x5' x7' x8' hj.1 (by omega)) (h18I M x1 x2 x3 x5 x7 x8 hi)
  exact v_sub [0, 1, 2] rfl (SX3_gains_0 C r (fun M' x1' x2' x3' x5' x7' x8' hj => (all _) M' x1' x2' x3' x5' x7' x8' hj (Nat.lt_succ_self _)) h0)
def VX3_named_0 (E : FX) (l : Launch) (D : Nat) (post : Option AV → MM → Prop) (J5 : MM → Int → Int → Int → Int → Prop) (M : MM) (x1 : Int) (x2 : Int) : Prop :=
  J5 M x1 x2 0 0
set_option maxRecDepth 20000 in
theorem SX3_named_0 {E : FX} {l : Launch} {D : Nat} {post : Option AV → MM → Prop} {z : RT} {J5 : MM → Int → Int → Int → Int → Prop} (C : Cx E z D RX3 cX3_named 5) (r : Rt E z (some .int) post) (hJ5 : ∀ (M : MM) (x1 : Int) (x2 : Int) (x3 : Int) (x4 : Int), J5 M x1 x2 x3 x4 → Aj E l z 5 [(1, vi x1), (2, vi x2), (3, vi x3), (4, vi x4)] [] M) {M : MM} {x1 : Int} {x2 : Int} (h : VX3_named_0 E l D post J5 M x1 x2) : Aj E l z 0 [(1, vi x1), (2, vi x2)] [] M := by
  unfold VX3_named_0 at h
  refine v_iconst C dX3_named_0 ?_
  refine v_istore_n (L' := [(3, vi 0), (1, vi x1), (2, vi x2)]) C dX3_named_1 rfl (by decide) rfl ?_
  refine v_iconst C dX3_named_2 ?_
  refine v_istore (L' := [(4, vi 0), (3, vi 0), (1, vi x1), (2, vi x2)]) C dX3_named_3 (by decide) rfl ?_
  exact v_sub [2, 3, 1, 0] rfl (hJ5 _ _ _ _ _ h)
def VX3_named_5 (E : FX) (l : Launch) (D : Nat) (post : Option AV → MM → Prop) (J5 : MM → Int → Int → Int → Int → Prop) (M : MM) (x1 : Int) (x2 : Int) (x3 : Int) (x4 : Int) : Prop :=
  R32 x4 ∧ (R32 x2 ∧ ((x2 ≤ x4 → post (some (vi x3)) M) ∧ (¬ x2 ≤ x4 → Con E l D qX3_digit [vi x1, vi x2, vi x4] M (fun r M3 => ∃ y4 : Int, r = some (vi y4) ∧ (∀ y6 : Int, y6 = ((10 * x3) + y4) + 1 → (∀ y8 : Int, y8 = x4 + 1 → (J5 M3 x1 x2 y6 y8)))))))
set_option maxRecDepth 20000 in
theorem SX3_named_5 {E : FX} {l : Launch} {D : Nat} {post : Option AV → MM → Prop} {z : RT} {J5 : MM → Int → Int → Int → Int → Prop} (C : Cx E z D RX3 cX3_named 5) (r : Rt E z (some .int) post) (hJ5 : ∀ (M : MM) (x1 : Int) (x2 : Int) (x3 : Int) (x4 : Int), J5 M x1 x2 x3 x4 → Aj E l z 5 [(1, vi x1), (2, vi x2), (3, vi x3), (4, vi x4)] [] M) {M : MM} {x1 : Int} {x2 : Int} {x3 : Int} {x4 : Int} (h : VX3_named_5 E l D post J5 M x1 x2 x3 x4) : Aj E l z 5 [(1, vi x1), (2, vi x2), (3, vi x3), (4, vi x4)] [] M := by
  unfold VX3_named_5 at h
  refine v_iload (i := 3) C dX3_named_5 rfl ?_
  refine v_iload_n (i := 1) C dX3_named_7 rfl rfl ?_
  refine v_icmp_ge (tgt := 32) C h.1 h.2.1 dX3_named_8 (by decide) (fun c => ?_) (fun c => ?_)
  · have g1 := h.2.2.1 c
    refine v_iload_n (i := 2) C dX3_named_32 rfl rfl ?_
    exact v_iret C r dX3_named_33 g1
  · have g2 := h.2.2.2 c
    refine v_bipush C dX3_named_11 (by decide) ?_
    refine v_iload_n (i := 2) C dX3_named_13 rfl rfl ?_
    refine v_imul C dX3_named_14 ?_
    refine v_iload_n (i := 0) C dX3_named_15 rfl rfl ?_
    refine v_iload_n (i := 1) C dX3_named_16 rfl rfl ?_
    refine v_iload (i := 3) C dX3_named_17 rfl ?_
    refine v_callS (q := qX3_digit) (As := [vi x1, vi x2, vi x4]) (S := [vi (10 * x3)]) C co_yX3_digit ml_RX3_32 st_yX3_digit ini_RX3 hq_X3_digit (by decide) (Nat.le_of_ble_eq_true rfl) rfl dX3_named_19 (Con.mono g2 (fun rr M3 hr => ?_) (Nat.le_refl _))
    obtain ⟨y4, rfl, g5⟩ := hr
    show Aj E l z (19 + 3) [(1, vi x1), (2, vi x2), (3, vi x3), (4, vi x4)] [vi y4, vi (10 * x3)] M3
    refine v_iadd C dX3_named_22 ?_
    refine v_iconst C dX3_named_23 ?_
    refine v_iadd C dX3_named_24 ?_
    obtain ⟨y6, hy6⟩ : ∃ y : Int, y = ((10 * x3) + y4) + 1 := ⟨_, rfl⟩
    have g7 := g5 y6 hy6
    refine v_eqi hy6 ?_
    refine v_istore_n (L' := [(3, vi y6), (1, vi x1), (2, vi x2), (4, vi x4)]) C dX3_named_25 rfl (by decide) rfl ?_
    obtain ⟨y8, hy8⟩ : ∃ y : Int, y = x4 + 1 := ⟨_, rfl⟩
    have g9 := g7 y8 hy8
    refine v_iinc (i := 3) (L' := [(4, vi y8), (3, vi y6), (1, vi x1), (2, vi x2)]) C dX3_named_26 rfl (by decide) hy8 rfl ?_
    refine v_goto C dX3_named_29 (tgt := 5) (by decide) ?_
    exact v_sub [2, 3, 1, 0] rfl (hJ5 _ _ _ _ _ g9)
theorem RX3_named {E : FX} {l : Launch} {D : Nat} {post : Option AV → MM → Prop} (I5 : MM → Int → Int → Int → Int → Prop) (m5 : MM → Int → Int → Int → Int → Nat) {M : MM} {x1 : Int} {x2 : Int} (h0 : VX3_named_0 E l D post I5 M x1 x2) (h5I : ∀ (M : MM) (x1 : Int) (x2 : Int) (x3 : Int) (x4 : Int), I5 M x1 x2 x3 x4 → VX3_named_5 E l D post (fun M' x1' x2' x3' x4' => I5 M' x1' x2' x3' x4' ∧ m5 M' x1' x2' x3' x4' < m5 M x1 x2 x3 x4) M x1 x2 x3 x4) : Con E l (D + 1) qX3_named [vr 11, vi x1, vi x2] M post := by
  refine con_of (by decide +kernel) (Nat.le_of_ble_eq_true rfl) (fun z C r => ?_)
  have all : ∀ n : Nat, (∀ (M : MM) (x1 : Int) (x2 : Int) (x3 : Int) (x4 : Int), I5 M x1 x2 x3 x4 → m5 M x1 x2 x3 x4 < n → Aj E l z 5 [(1, vi x1), (2, vi x2), (3, vi x3), (4, vi x4)] [] M) := by
    intro n
    induction n with
    | zero => exact fun _ _ _ _ _ _ hm => absurd hm (Nat.not_lt_zero _)
    | succ n ih => exact fun M x1 x2 x3 x4 hi hm => SX3_named_5 C r (fun M' x1' x2' x3' x4' hj => ih M' x1' x2' x3' x4' hj.1 (by omega)) (h5I M x1 x2 x3 x4 hi)
  exact v_sub [1, 2] rfl (SX3_named_0 C r (fun M' x1' x2' x3' x4' hj => (all _) M' x1' x2' x3' x4' hj (Nat.lt_succ_self _)) h0)
def VX3_changed_0 (E : FX) (l : Launch) (D : Nat) (post : Option AV → MM → Prop) (J10 : MM → Int → Int → Int → Int → Int → Prop) (M : MM) (x1 : Int) (x2 : Int) (x3 : Int) (x4 : Int) : Prop :=
  R32 x2 ∧ (J10 M x3 x4 x2 x1 0)
set_option maxRecDepth 20000 in
theorem SX3_changed_0 {E : FX} {l : Launch} {D : Nat} {post : Option AV → MM → Prop} {z : RT} {J10 : MM → Int → Int → Int → Int → Int → Prop} (C : Cx E z D RX3 cX3_changed 11) (r : Rt E z (some .long) post) (hJ10 : ∀ (M : MM) (x3 : Int) (x4 : Int) (x5 : Int) (x7 : Int) (x8 : Int), J10 M x3 x4 x5 x7 x8 → Aj E l z 10 [(0, vr 11), (3, vi x3), (4, vi x4), (5, vj x5), (7, vi x7), (8, vi x8)] [] M) {M : MM} {x1 : Int} {x2 : Int} {x3 : Int} {x4 : Int} (h : VX3_changed_0 E l D post J10 M x1 x2 x3 x4) : Aj E l z 0 [(0, vr 11), (1, vi x1), (2, vi x2), (3, vi x3), (4, vi x4)] [] M := by
  unfold VX3_changed_0 at h
  refine v_iload_n (i := 2) C dX3_changed_0 rfl rfl ?_
  refine v_i2l C h.1 dX3_changed_1 ?_
  refine v_lstore (L' := [(5, vj x2), (0, vr 11), (1, vi x1), (2, vi x2), (3, vi x3), (4, vi x4)]) C dX3_changed_2 (by decide) rfl ?_
  refine v_iload_n (i := 2) C dX3_changed_4 rfl rfl ?_
  refine v_istore (L' := [(7, vi x1), (5, vj x2), (0, vr 11), (1, vi x1), (2, vi x2), (3, vi x3), (4, vi x4)]) C dX3_changed_5 (by decide) rfl ?_
  refine v_iconst C dX3_changed_7 ?_
  refine v_istore (L' := [(8, vi 0), (7, vi x1), (5, vj x2), (0, vr 11), (1, vi x1), (2, vi x2), (3, vi x3), (4, vi x4)]) C dX3_changed_8 (by decide) rfl ?_
  exact v_sub [3, 6, 7, 2, 1, 0] rfl (hJ10 _ _ _ _ _ _ h.2)
def VX3_changed_10 (E : FX) (l : Launch) (D : Nat) (post : Option AV → MM → Prop) (J10 : MM → Int → Int → Int → Int → Int → Prop) (M : MM) (x3 : Int) (x4 : Int) (x5 : Int) (x7 : Int) (x8 : Int) : Prop :=
  R32 x8 ∧ (R32 x4 ∧ ((x4 ≤ x8 → post (some (vj x5)) M) ∧ (¬ x4 ≤ x8 → Con E l D qX3_digit [vi x3, vi x4, vi x8] M (fun r M3 => ∃ y4 : Int, r = some (vi y4) ∧ (R32 y4 ∧ (R32 x7 ∧ ((¬ y4 = x7 → ∀ y8 : Int, y8 = (4 * x7) + y4 → (Con E l D qX7_at [vr 12, vi y8] M3 (fun r M10 => ∃ y11 : Int, r = some (vi y11) ∧ (R32 y11 ∧ (Con E l D qX7_at [vr 13, vi y8] M10 (fun r M13 => ∃ y14 : Int, r = some (vi y14) ∧ (R32 y14 ∧ (Con E l D qX7_quotient [vj (x5 * y11), vj y14] M13 (fun r M16 => ∃ y17 : Int, r = some (vj y17) ∧ (∀ y19 : Int, y19 = x8 + 1 → (J10 M16 x3 x4 y17 y4 y19))))))))))) ∧ (y4 = x7 → post (some (vj (-4))) M3))))))))
set_option maxRecDepth 20000 in
theorem SX3_changed_10 {E : FX} {l : Launch} {D : Nat} {post : Option AV → MM → Prop} {z : RT} {J10 : MM → Int → Int → Int → Int → Int → Prop} (C : Cx E z D RX3 cX3_changed 11) (r : Rt E z (some .long) post) (hJ10 : ∀ (M : MM) (x3 : Int) (x4 : Int) (x5 : Int) (x7 : Int) (x8 : Int), J10 M x3 x4 x5 x7 x8 → Aj E l z 10 [(0, vr 11), (3, vi x3), (4, vi x4), (5, vj x5), (7, vi x7), (8, vi x8)] [] M) {M : MM} {x3 : Int} {x4 : Int} {x5 : Int} {x7 : Int} {x8 : Int} (h : VX3_changed_10 E l D post J10 M x3 x4 x5 x7 x8) : Aj E l z 10 [(0, vr 11), (3, vi x3), (4, vi x4), (5, vj x5), (7, vi x7), (8, vi x8)] [] M := by
  unfold VX3_changed_10 at h
  refine v_iload (i := 5) C dX3_changed_10 rfl ?_
  refine v_iload (i := 2) C dX3_changed_12 rfl ?_
  refine v_icmp_ge (tgt := 85) C h.1 h.2.1 dX3_changed_14 (by decide) (fun c => ?_) (fun c => ?_)
  · have g1 := h.2.2.1 c
    refine v_lload (i := 3) C dX3_changed_85 rfl ?_
    exact v_lret C r dX3_changed_87 g1
  · have g2 := h.2.2.2 c
    refine v_iload_n (i := 1) C dX3_changed_17 rfl rfl ?_
    refine v_iload (i := 2) C dX3_changed_18 rfl ?_
    refine v_iload (i := 5) C dX3_changed_20 rfl ?_
    refine v_callS (q := qX3_digit) (As := [vi x3, vi x4, vi x8]) (S := []) C co_yX3_digit ml_RX3_32 st_yX3_digit ini_RX3 hq_X3_digit (by decide) (Nat.le_of_ble_eq_true rfl) rfl dX3_changed_22 (Con.mono g2 (fun rr M3 hr => ?_) (Nat.le_refl _))
    obtain ⟨y4, rfl, g5⟩ := hr
    show Aj E l z (22 + 3) [(0, vr 11), (3, vi x3), (4, vi x4), (5, vj x5), (7, vi x7), (8, vi x8)] [vi y4] M3
    refine v_istore (L' := [(9, vi y4), (0, vr 11), (3, vi x3), (4, vi x4), (5, vj x5), (7, vi x7), (8, vi x8)]) C dX3_changed_25 (by decide) rfl ?_
    refine v_iload (i := 0) C dX3_changed_27 rfl ?_
    refine v_iload (i := 5) C dX3_changed_29 rfl ?_
    refine v_icmp_ne (tgt := 38) C g5.1 g5.2.1 dX3_changed_31 (by decide) (fun c => ?_) (fun c => ?_)
    · have g6 := g5.2.2.1 c
      refine v_iconst C dX3_changed_38 ?_
      refine v_iload (i := 5) C dX3_changed_39 rfl ?_
      refine v_imul C dX3_changed_41 ?_
      refine v_iload (i := 0) C dX3_changed_42 rfl ?_
      refine v_iadd C dX3_changed_44 ?_
      obtain ⟨y8, hy8⟩ : ∃ y : Int, y = (4 * x7) + y4 := ⟨_, rfl⟩
      have g9 := g6 y8 hy8
      refine v_eqi hy8 ?_
      refine v_istore (L' := [(10, vi y8), (9, vi y4), (0, vr 11), (3, vi x3), (4, vi x4), (5, vj x5), (7, vi x7), (8, vi x8)]) C dX3_changed_45 (by decide) rfl ?_
      refine v_lload (i := 5) C dX3_changed_47 rfl ?_
      refine v_aload_n (i := 2) C dX3_changed_49 rfl rfl ?_
      refine v_getf (k := 11) C fl_RX3_9 rfl rfl dX3_changed_50 ?_
      show Aj E l z (50 + 3) [(10, vi y8), (9, vi y4), (0, vr 11), (3, vi x3), (4, vi x4), (5, vj x5), (7, vi x7), (8, vi x8)] [vr 12, vj x5] M3
      refine v_iload (i := 0) C dX3_changed_53 rfl ?_
      refine v_callS (q := qX7_at) (As := [vr 12, vi y8]) (S := [vj x5]) C co_yX7_at ml_RX3_28 st_yX7_at ini_RX7 hq_X7_at (by decide) (Nat.le_of_ble_eq_true rfl) rfl dX3_changed_55 (Con.mono g9 (fun rr M10 hr => ?_) (Nat.le_refl _))
      obtain ⟨y11, rfl, g12⟩ := hr
      show Aj E l z (55 + 3) [(10, vi y8), (9, vi y4), (0, vr 11), (3, vi x3), (4, vi x4), (5, vj x5), (7, vi x7), (8, vi x8)] [vi y11, vj x5] M10
      refine v_i2l C g12.1 dX3_changed_58 ?_
      refine v_lmul C dX3_changed_59 ?_
      refine v_aload_n (i := 2) C dX3_changed_60 rfl rfl ?_
      refine v_getf (k := 11) C fl_RX3_15 rfl rfl dX3_changed_61 ?_
      show Aj E l z (61 + 3) [(10, vi y8), (9, vi y4), (0, vr 11), (3, vi x3), (4, vi x4), (5, vj x5), (7, vi x7), (8, vi x8)] [vr 13, vj (x5 * y11)] M10
      refine v_iload (i := 0) C dX3_changed_64 rfl ?_
      refine v_callS (q := qX7_at) (As := [vr 13, vi y8]) (S := [vj (x5 * y11)]) C co_yX7_at ml_RX3_28 st_yX7_at ini_RX7 hq_X7_at (by decide) (Nat.le_of_ble_eq_true rfl) rfl dX3_changed_66 (Con.mono g12.2 (fun rr M13 hr => ?_) (Nat.le_refl _))
      obtain ⟨y14, rfl, g15⟩ := hr
      show Aj E l z (66 + 3) [(10, vi y8), (9, vi y4), (0, vr 11), (3, vi x3), (4, vi x4), (5, vj x5), (7, vi x7), (8, vi x8)] [vi y14, vj (x5 * y11)] M13
      refine v_i2l C g15.1 dX3_changed_69 ?_
      refine v_callS (q := qX7_quotient) (As := [vj (x5 * y11), vj y14]) (S := []) C co_yX7_quotient ml_RX3_38 st_yX7_quotient ini_RX7 hq_X7_quotient (by decide) (Nat.le_of_ble_eq_true rfl) rfl dX3_changed_70 (Con.mono g15.2 (fun rr M16 hr => ?_) (Nat.le_refl _))
      obtain ⟨y17, rfl, g18⟩ := hr
      show Aj E l z (70 + 3) [(10, vi y8), (9, vi y4), (0, vr 11), (3, vi x3), (4, vi x4), (5, vj x5), (7, vi x7), (8, vi x8)] [vj y17] M16
      refine v_lstore (L' := [(5, vj y17), (10, vi y8), (9, vi y4), (0, vr 11), (3, vi x3), (4, vi x4), (7, vi x7), (8, vi x8)]) C dX3_changed_73 (by decide) rfl ?_
      refine v_iload (i := 2) C dX3_changed_75 rfl ?_
      refine v_istore (L' := [(7, vi y4), (5, vj y17), (10, vi y8), (9, vi y4), (0, vr 11), (3, vi x3), (4, vi x4), (8, vi x8)]) C dX3_changed_77 (by decide) rfl ?_
      obtain ⟨y19, hy19⟩ : ∃ y : Int, y = x8 + 1 := ⟨_, rfl⟩
      have g20 := g18 y19 hy19
      refine v_iinc (i := 7) (L' := [(8, vi y19), (7, vi y4), (5, vj y17), (10, vi y8), (9, vi y4), (0, vr 11), (3, vi x3), (4, vi x4)]) C dX3_changed_79 rfl (by decide) hy19 rfl ?_
      refine v_goto C dX3_changed_82 (tgt := 10) (by decide) ?_
      exact v_sub [5, 6, 7, 2, 1, 0] rfl (hJ10 _ _ _ _ _ _ g20)
    · have g7 := g5.2.2.2 c
      refine v_ldc2 (x := -4) C cs_RX3_36 (by decide) dX3_changed_34 ?_
      exact v_lret C r dX3_changed_37 g7
theorem RX3_changed {E : FX} {l : Launch} {D : Nat} {post : Option AV → MM → Prop} (I10 : MM → Int → Int → Int → Int → Int → Prop) (m10 : MM → Int → Int → Int → Int → Int → Nat) {M : MM} {x1 : Int} {x2 : Int} {x3 : Int} {x4 : Int} (h0 : VX3_changed_0 E l D post I10 M x1 x2 x3 x4) (h10I : ∀ (M : MM) (x3 : Int) (x4 : Int) (x5 : Int) (x7 : Int) (x8 : Int), I10 M x3 x4 x5 x7 x8 → VX3_changed_10 E l D post (fun M' x3' x4' x5' x7' x8' => I10 M' x3' x4' x5' x7' x8' ∧ m10 M' x3' x4' x5' x7' x8' < m10 M x3 x4 x5 x7 x8) M x3 x4 x5 x7 x8) : Con E l (D + 1) qX3_changed [vr 11, vi x1, vi x2, vi x3, vi x4] M post := by
  refine con_of (by decide +kernel) (Nat.le_of_ble_eq_true rfl) (fun z C r => ?_)
  have all : ∀ n : Nat, (∀ (M : MM) (x3 : Int) (x4 : Int) (x5 : Int) (x7 : Int) (x8 : Int), I10 M x3 x4 x5 x7 x8 → m10 M x3 x4 x5 x7 x8 < n → Aj E l z 10 [(0, vr 11), (3, vi x3), (4, vi x4), (5, vj x5), (7, vi x7), (8, vi x8)] [] M) := by
    intro n
    induction n with
    | zero => exact fun _ _ _ _ _ _ _ hm => absurd hm (Nat.not_lt_zero _)
    | succ n ih => exact fun M x3 x4 x5 x7 x8 hi hm => SX3_changed_10 C r (fun M' x3' x4' x5' x7' x8' hj => ih M' x3' x4' x5' x7' x8' hj.1 (by omega)) (h10I M x3 x4 x5 x7 x8 hi)
  exact v_sub [0, 1, 2, 3, 4] rfl (SX3_changed_0 C r (fun M' x3' x4' x5' x7' x8' hj => (all _) M' x3' x4' x5' x7' x8' hj (Nat.lt_succ_self _)) h0)
def VX3_becomeLike_k_0 (E : FX) (l : Launch) (D : Nat) (post : Option AV → MM → Prop) (M : MM) : Prop :=
  Con E l D qX7_fill [vr 23, vr 12] M (fun r M1 => r = none ∧ (Con E l D qX7_fill [vr 24, vr 13] M1 (fun r M3 => r = none ∧ (post none M3))))
set_option maxRecDepth 20000 in
theorem SX3_becomeLike_k_0 {E : FX} {l : Launch} {D : Nat} {post : Option AV → MM → Prop} {z : RT} (C : Cx E z D RX3 cX3_becomeLike 2) (r : Rt E z none post) {M : MM} (h : VX3_becomeLike_k_0 E l D post M) : Aj E l z 0 [(0, vr 22), (1, vr 11)] [] M := by
  unfold VX3_becomeLike_k_0 at h
  refine v_aload_n (i := 0) C dX3_becomeLike_0 rfl rfl ?_
  refine v_getf (k := 22) C fl_RX3_9 rfl rfl dX3_becomeLike_1 ?_
  show Aj E l z (1 + 3) [(0, vr 22), (1, vr 11)] [vr 23] M
  refine v_aload_n (i := 1) C dX3_becomeLike_4 rfl rfl ?_
  refine v_getf (k := 11) C fl_RX3_9 rfl rfl dX3_becomeLike_5 ?_
  show Aj E l z (5 + 3) [(0, vr 22), (1, vr 11)] [vr 12, vr 23] M
  refine v_callS (q := qX7_fill) (As := [vr 23, vr 12]) (S := []) C co_yX7_fill ml_RX3_24 st_yX7_fill ini_RX7 hq_X7_fill (by decide) (Nat.le_of_ble_eq_true rfl) rfl dX3_becomeLike_8 (Con.mono h (fun rr M1 hr => ?_) (Nat.le_refl _))
  obtain ⟨rfl, g2⟩ := hr
  show Aj E l z (8 + 3) [(0, vr 22), (1, vr 11)] [] M1
  refine v_aload_n (i := 0) C dX3_becomeLike_11 rfl rfl ?_
  refine v_getf (k := 22) C fl_RX3_15 rfl rfl dX3_becomeLike_12 ?_
  show Aj E l z (12 + 3) [(0, vr 22), (1, vr 11)] [vr 24] M1
  refine v_aload_n (i := 1) C dX3_becomeLike_15 rfl rfl ?_
  refine v_getf (k := 11) C fl_RX3_15 rfl rfl dX3_becomeLike_16 ?_
  show Aj E l z (16 + 3) [(0, vr 22), (1, vr 11)] [vr 13, vr 24] M1
  refine v_callS (q := qX7_fill) (As := [vr 24, vr 13]) (S := []) C co_yX7_fill ml_RX3_24 st_yX7_fill ini_RX7 hq_X7_fill (by decide) (Nat.le_of_ble_eq_true rfl) rfl dX3_becomeLike_19 (Con.mono g2 (fun rr M3 hr => ?_) (Nat.le_refl _))
  obtain ⟨rfl, g4⟩ := hr
  show Aj E l z (19 + 3) [(0, vr 22), (1, vr 11)] [] M3
  exact v_vret C r dX3_becomeLike_22 g4
theorem RX3_becomeLike_k {E : FX} {l : Launch} {D : Nat} {post : Option AV → MM → Prop} {M : MM} (h0 : VX3_becomeLike_k_0 E l D post M) : Con E l (D + 1) qX3_becomeLike [vr 22, vr 11] M post := by
  refine con_of (by decide +kernel) (Nat.le_of_ble_eq_true rfl) (fun z C r => ?_)
  exact v_sub [0, 1] rfl (SX3_becomeLike_k_0 C r h0)
def VX3_becomeLike_m_0 (E : FX) (l : Launch) (D : Nat) (post : Option AV → MM → Prop) (M : MM) : Prop :=
  Con E l D qX7_fill [vr 12, vr 23] M (fun r M1 => r = none ∧ (Con E l D qX7_fill [vr 13, vr 24] M1 (fun r M3 => r = none ∧ (post none M3))))
set_option maxRecDepth 20000 in
theorem SX3_becomeLike_m_0 {E : FX} {l : Launch} {D : Nat} {post : Option AV → MM → Prop} {z : RT} (C : Cx E z D RX3 cX3_becomeLike 2) (r : Rt E z none post) {M : MM} (h : VX3_becomeLike_m_0 E l D post M) : Aj E l z 0 [(0, vr 11), (1, vr 22)] [] M := by
  unfold VX3_becomeLike_m_0 at h
  refine v_aload_n (i := 0) C dX3_becomeLike_0 rfl rfl ?_
  refine v_getf (k := 11) C fl_RX3_9 rfl rfl dX3_becomeLike_1 ?_
  show Aj E l z (1 + 3) [(0, vr 11), (1, vr 22)] [vr 12] M
  refine v_aload_n (i := 1) C dX3_becomeLike_4 rfl rfl ?_
  refine v_getf (k := 22) C fl_RX3_9 rfl rfl dX3_becomeLike_5 ?_
  show Aj E l z (5 + 3) [(0, vr 11), (1, vr 22)] [vr 23, vr 12] M
  refine v_callS (q := qX7_fill) (As := [vr 12, vr 23]) (S := []) C co_yX7_fill ml_RX3_24 st_yX7_fill ini_RX7 hq_X7_fill (by decide) (Nat.le_of_ble_eq_true rfl) rfl dX3_becomeLike_8 (Con.mono h (fun rr M1 hr => ?_) (Nat.le_refl _))
  obtain ⟨rfl, g2⟩ := hr
  show Aj E l z (8 + 3) [(0, vr 11), (1, vr 22)] [] M1
  refine v_aload_n (i := 0) C dX3_becomeLike_11 rfl rfl ?_
  refine v_getf (k := 11) C fl_RX3_15 rfl rfl dX3_becomeLike_12 ?_
  show Aj E l z (12 + 3) [(0, vr 11), (1, vr 22)] [vr 13] M1
  refine v_aload_n (i := 1) C dX3_becomeLike_15 rfl rfl ?_
  refine v_getf (k := 22) C fl_RX3_15 rfl rfl dX3_becomeLike_16 ?_
  show Aj E l z (16 + 3) [(0, vr 11), (1, vr 22)] [vr 24, vr 13] M1
  refine v_callS (q := qX7_fill) (As := [vr 13, vr 24]) (S := []) C co_yX7_fill ml_RX3_24 st_yX7_fill ini_RX7 hq_X7_fill (by decide) (Nat.le_of_ble_eq_true rfl) rfl dX3_becomeLike_19 (Con.mono g2 (fun rr M3 hr => ?_) (Nat.le_refl _))
  obtain ⟨rfl, g4⟩ := hr
  show Aj E l z (19 + 3) [(0, vr 11), (1, vr 22)] [] M3
  exact v_vret C r dX3_becomeLike_22 g4
theorem RX3_becomeLike_m {E : FX} {l : Launch} {D : Nat} {post : Option AV → MM → Prop} {M : MM} (h0 : VX3_becomeLike_m_0 E l D post M) : Con E l (D + 1) qX3_becomeLike [vr 11, vr 22] M post := by
  refine con_of (by decide +kernel) (Nat.le_of_ble_eq_true rfl) (fun z C r => ?_)
  exact v_sub [0, 1] rfl (SX3_becomeLike_m_0 C r h0)
