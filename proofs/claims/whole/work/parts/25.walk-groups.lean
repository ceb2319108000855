def VX4_setWorth_27 (E : FX) (l : Launch) (D : Nat) (post : Option AV → MM → Prop) (M : MM) : Prop :=
  post none M
set_option maxRecDepth 20000 in
theorem SX4_setWorth_27 {E : FX} {l : Launch} {D : Nat} {post : Option AV → MM → Prop} {z : RT} (C : Cx E z D RX4 cX4_setWorth 4) (r : Rt E z none post) {M : MM} (h : VX4_setWorth_27 E l D post M) : Aj E l z 27 [] [] M := by
  unfold VX4_setWorth_27 at h
  exact v_vret C r dX4_setWorth_27 h
def VX4_setWorth_0 (E : FX) (l : Launch) (D : Nat) (post : Option AV → MM → Prop) (M : MM) (x1 : Int) (x2 : Int) : Prop :=
  Con E l D qX7_at_ [vr 40, vi x1] M (fun r M1 => ∃ y2 : Int, r = some (vj y2) ∧ (R64 y2 ∧ (R64 x2 ∧ ((y2 = x2 → post none M1) ∧ (¬ y2 = x2 → Con E l D qX7_put_ [vr 40, vi x1, vj x2] M1 (fun r M6 => r = none ∧ (∀ M8 : MM, M8 = up M6 39 6 0 → (VX4_setWorth_27 E l D post M8 ))))))))
set_option maxRecDepth 20000 in
theorem SX4_setWorth_0 {E : FX} {l : Launch} {D : Nat} {post : Option AV → MM → Prop} {z : RT} (C : Cx E z D RX4 cX4_setWorth 4) (r : Rt E z none post) {M : MM} {x1 : Int} {x2 : Int} (h : VX4_setWorth_0 E l D post M x1 x2) : Aj E l z 0 [(0, vr 39), (1, vi x1), (2, vj x2)] [] M := by
  unfold VX4_setWorth_0 at h
  refine v_aload_n (i := 0) C dX4_setWorth_0 rfl rfl ?_
  refine v_getf (k := 39) C fl_RX4_9 rfl rfl dX4_setWorth_1 ?_
  show Aj E l z (1 + 3) [(0, vr 39), (1, vi x1), (2, vj x2)] [vr 40] M
  refine v_iload_n (i := 1) C dX4_setWorth_4 rfl rfl ?_
  refine v_callS (q := qX7_at_) (As := [vr 40, vi x1]) (S := []) C co_yX7_at_ ml_RX4_25 st_yX7_at_ ini_RX7 hq_X7_at_ (by decide) (Nat.le_of_ble_eq_true rfl) rfl dX4_setWorth_5 (Con.mono h (fun rr M1 hr => ?_) (Nat.le_refl _))
  obtain ⟨y2, rfl, g3⟩ := hr
  show Aj E l z (5 + 3) [(0, vr 39), (1, vi x1), (2, vj x2)] [vj y2] M1
  refine v_lload_n (i := 2) C dX4_setWorth_8 rfl rfl ?_
  refine v_lif_eq (tgt := 27) C g3.1 g3.2.1 dX4_setWorth_9 dX4_setWorth_10 (by decide) (fun c => ?_) (fun c => ?_)
  · have g4 := g3.2.2.1 c
    exact v_vret C r dX4_setWorth_27 g4
  · have g5 := g3.2.2.2 c
    refine v_aload_n (i := 0) C dX4_setWorth_13 rfl rfl ?_
    refine v_getf (k := 39) C fl_RX4_9 rfl rfl dX4_setWorth_14 ?_
    show Aj E l z (14 + 3) [(0, vr 39), (1, vi x1), (2, vj x2)] [vr 40] M1
    refine v_iload_n (i := 1) C dX4_setWorth_17 rfl rfl ?_
    refine v_lload_n (i := 2) C dX4_setWorth_18 rfl rfl ?_
    refine v_callS (q := qX7_put_) (As := [vr 40, vi x1, vj x2]) (S := []) C co_yX7_put_ ml_RX4_31 st_yX7_put_ ini_RX7 hq_X7_put_ (by decide) (Nat.le_of_ble_eq_true rfl) rfl dX4_setWorth_19 (Con.mono g5 (fun rr M6 hr => ?_) (Nat.le_refl _))
    obtain ⟨rfl, g7⟩ := hr
    show Aj E l z (19 + 3) [(0, vr 39), (1, vi x1), (2, vj x2)] [] M6
    refine v_aload_n (i := 0) C dX4_setWorth_22 rfl rfl ?_
    refine v_iconst C dX4_setWorth_23 ?_
    refine v_putf (k := 39) (x := 0) (t := 0) C fp_RX4_35 rfl rfl (by decide) (by simp [fv, up]) rfl rfl dX4_setWorth_24 ?_
    obtain ⟨M8, hM8⟩ : ∃ X : MM, X = up M6 39 6 0 := ⟨_, rfl⟩
    refine v_eqM hM8 ?_
    have g9 := g7 M8 hM8
    exact v_sub [] rfl (SX4_setWorth_27 C r g9)
theorem RX4_setWorth {E : FX} {l : Launch} {D : Nat} {post : Option AV → MM → Prop} {M : MM} {x1 : Int} {x2 : Int} (h0 : VX4_setWorth_0 E l D post M x1 x2) : Con E l (D + 1) qX4_setWorth [vr 39, vi x1, vj x2] M post := by
  refine con_of (by decide +kernel) (Nat.le_of_ble_eq_true rfl) (fun z C r => ?_)
  exact v_sub [0, 1, 2] rfl (SX4_setWorth_0 C r h0)
def VX4_solve_24 (E : FX) (l : Launch) (D : Nat) (post : Option AV → MM → Prop) (M : MM) (x1 : Int) (x2 : Int) : Prop :=
  ∀ M1 : MM, M1 = up M 39 7 x1 → (∀ M3 : MM, M3 = up M1 39 5 x2 → (∀ M5 : MM, M5 = up M3 39 4 (-1) → (Con E l D qX4_seat [vr 39, vi 0, vi 0, vj 0] M5 (fun r M7 => r = none ∧ (∀ M9 : MM, M9 = up M7 39 6 1 → (post none M9))))))
set_option maxRecDepth 20000 in
theorem SX4_solve_24 {E : FX} {l : Launch} {D : Nat} {post : Option AV → MM → Prop} {z : RT} (C : Cx E z D RX4 cX4_solve 3) (r : Rt E z none post) {M : MM} {x1 : Int} {x2 : Int} (h : VX4_solve_24 E l D post M x1 x2) : Aj E l z 24 [(0, vr 39), (1, vi x1), (2, vi x2)] [] M := by
  unfold VX4_solve_24 at h
  refine v_aload_n (i := 0) C dX4_solve_24 rfl rfl ?_
  refine v_iload_n (i := 1) C dX4_solve_25 rfl rfl ?_
  refine v_putf (k := 39) (x := x1) (t := 0) C fp_RX4_39 rfl rfl (by decide) (by simp [fv, up]) rfl rfl dX4_solve_26 ?_
  obtain ⟨M1, hM1⟩ : ∃ X : MM, X = up M 39 7 x1 := ⟨_, rfl⟩
  refine v_eqM hM1 ?_
  have g2 := h M1 hM1
  refine v_aload_n (i := 0) C dX4_solve_29 rfl rfl ?_
  refine v_iload_n (i := 2) C dX4_solve_30 rfl rfl ?_
  refine v_putf (k := 39) (x := x2) (t := 0) C fp_RX4_43 rfl rfl (by decide) (by simp [fv, up]) rfl rfl dX4_solve_31 ?_
  obtain ⟨M3, hM3⟩ : ∃ X : MM, X = up M1 39 5 x2 := ⟨_, rfl⟩
  refine v_eqM hM3 ?_
  have g4 := g2 M3 hM3
  refine v_aload_n (i := 0) C dX4_solve_34 rfl rfl ?_
  refine v_iconst C dX4_solve_35 ?_
  refine v_putf (k := 39) (x := (-1)) (t := 0) C fp_RX4_46 rfl rfl (by decide) (by simp [fv, up]) rfl rfl dX4_solve_36 ?_
  obtain ⟨M5, hM5⟩ : ∃ X : MM, X = up M3 39 4 (-1) := ⟨_, rfl⟩
  refine v_eqM hM5 ?_
  have g6 := g4 M5 hM5
  refine v_aload_n (i := 0) C dX4_solve_39 rfl rfl ?_
  refine v_iconst C dX4_solve_40 ?_
  refine v_iconst C dX4_solve_41 ?_
  refine v_lconst (x := 0) C dX4_solve_42 (by decide) ?_
  refine v_callS (q := qX4_seat) (As := [vr 39, vi 0, vi 0, vj 0]) (S := []) C co_yX4_seat ml_RX4_49 st_yX4_seat ini_RX4 hq_X4_seat (by decide) (Nat.le_of_ble_eq_true rfl) rfl dX4_solve_43 (Con.mono g6 (fun rr M7 hr => ?_) (Nat.le_refl _))
  obtain ⟨rfl, g8⟩ := hr
  show Aj E l z (43 + 3) [(0, vr 39), (1, vi x1), (2, vi x2)] [] M7
  refine v_aload_n (i := 0) C dX4_solve_46 rfl rfl ?_
  refine v_iconst C dX4_solve_47 ?_
  refine v_putf (k := 39) (x := 1) (t := 0) C fp_RX4_35 rfl rfl (by decide) (by simp [fv, up]) rfl rfl dX4_solve_48 ?_
  obtain ⟨M9, hM9⟩ : ∃ X : MM, X = up M7 39 6 1 := ⟨_, rfl⟩
  refine v_eqM hM9 ?_
  have g10 := g8 M9 hM9
  exact v_vret C r dX4_solve_51 g10
def VX4_solve_0 (E : FX) (l : Launch) (D : Nat) (post : Option AV → MM → Prop) (M : MM) (x1 : Int) (x2 : Int) : Prop :=
  R32 (M 39 6) ∧ ((M 39 6 = 0 → ∀ M13 : MM, M13 = up M 39 7 x1 → (∀ M15 : MM, M15 = up M13 39 5 x2 → (∀ M17 : MM, M17 = up M15 39 4 (-1) → (Con E l D qX4_seat [vr 39, vi 0, vi 0, vj 0] M17 (fun r M19 => r = none ∧ (∀ M21 : MM, M21 = up M19 39 6 1 → (post none M21))))))) ∧ (¬ M 39 6 = 0 → R32 (M 39 7) ∧ (R32 x1 ∧ ((¬ M 39 7 = x1 → ∀ M25 : MM, M25 = up M 39 7 x1 → (∀ M27 : MM, M27 = up M25 39 5 x2 → (∀ M29 : MM, M29 = up M27 39 4 (-1) → (Con E l D qX4_seat [vr 39, vi 0, vi 0, vj 0] M29 (fun r M31 => r = none ∧ (∀ M33 : MM, M33 = up M31 39 6 1 → (post none M33))))))) ∧ (M 39 7 = x1 → R32 (M 39 5) ∧ (R32 x2 ∧ ((¬ M 39 5 = x2 → ∀ M37 : MM, M37 = up M 39 7 x1 → (∀ M39 : MM, M39 = up M37 39 5 x2 → (∀ M41 : MM, M41 = up M39 39 4 (-1) → (Con E l D qX4_seat [vr 39, vi 0, vi 0, vj 0] M41 (fun r M43 => r = none ∧ (∀ M45 : MM, M45 = up M43 39 6 1 → (post none M45))))))) ∧ (M 39 5 = x2 → post none M))))))))
set_option maxRecDepth 20000 in
theorem SX4_solve_0 {E : FX} {l : Launch} {D : Nat} {post : Option AV → MM → Prop} {z : RT} (C : Cx E z D RX4 cX4_solve 3) (r : Rt E z none post) {M : MM} {x1 : Int} {x2 : Int} (h : VX4_solve_0 E l D post M x1 x2) : Aj E l z 0 [(0, vr 39), (1, vi x1), (2, vi x2)] [] M := by
  unfold VX4_solve_0 at h
  refine v_aload_n (i := 0) C dX4_solve_0 rfl rfl ?_
  refine v_getf (k := 39) C fl_RX4_35 rfl rfl dX4_solve_1 ?_
  show Aj E l z (1 + 3) [(0, vr 39), (1, vi x1), (2, vi x2)] [vi (M 39 6)] M
  refine v_if_eq (tgt := 24) C h.1 dX4_solve_4 (by decide) (fun c => ?_) (fun c => ?_)
  · have g11 := h.2.1 c
    refine v_aload_n (i := 0) C dX4_solve_24 rfl rfl ?_
    refine v_iload_n (i := 1) C dX4_solve_25 rfl rfl ?_
    refine v_putf (k := 39) (x := x1) (t := 0) C fp_RX4_39 rfl rfl (by decide) (by simp [fv, up]) rfl rfl dX4_solve_26 ?_
    obtain ⟨M13, hM13⟩ : ∃ X : MM, X = up M 39 7 x1 := ⟨_, rfl⟩
    refine v_eqM hM13 ?_
    have g14 := g11 M13 hM13
    refine v_aload_n (i := 0) C dX4_solve_29 rfl rfl ?_
    refine v_iload_n (i := 2) C dX4_solve_30 rfl rfl ?_
    refine v_putf (k := 39) (x := x2) (t := 0) C fp_RX4_43 rfl rfl (by decide) (by simp [fv, up]) rfl rfl dX4_solve_31 ?_
    obtain ⟨M15, hM15⟩ : ∃ X : MM, X = up M13 39 5 x2 := ⟨_, rfl⟩
    refine v_eqM hM15 ?_
    have g16 := g14 M15 hM15
    refine v_aload_n (i := 0) C dX4_solve_34 rfl rfl ?_
    refine v_iconst C dX4_solve_35 ?_
    refine v_putf (k := 39) (x := (-1)) (t := 0) C fp_RX4_46 rfl rfl (by decide) (by simp [fv, up]) rfl rfl dX4_solve_36 ?_
    obtain ⟨M17, hM17⟩ : ∃ X : MM, X = up M15 39 4 (-1) := ⟨_, rfl⟩
    refine v_eqM hM17 ?_
    have g18 := g16 M17 hM17
    refine v_aload_n (i := 0) C dX4_solve_39 rfl rfl ?_
    refine v_iconst C dX4_solve_40 ?_
    refine v_iconst C dX4_solve_41 ?_
    refine v_lconst (x := 0) C dX4_solve_42 (by decide) ?_
    refine v_callS (q := qX4_seat) (As := [vr 39, vi 0, vi 0, vj 0]) (S := []) C co_yX4_seat ml_RX4_49 st_yX4_seat ini_RX4 hq_X4_seat (by decide) (Nat.le_of_ble_eq_true rfl) rfl dX4_solve_43 (Con.mono g18 (fun rr M19 hr => ?_) (Nat.le_refl _))
    obtain ⟨rfl, g20⟩ := hr
    show Aj E l z (43 + 3) [(0, vr 39), (1, vi x1), (2, vi x2)] [] M19
    refine v_aload_n (i := 0) C dX4_solve_46 rfl rfl ?_
    refine v_iconst C dX4_solve_47 ?_
    refine v_putf (k := 39) (x := 1) (t := 0) C fp_RX4_35 rfl rfl (by decide) (by simp [fv, up]) rfl rfl dX4_solve_48 ?_
    obtain ⟨M21, hM21⟩ : ∃ X : MM, X = up M19 39 6 1 := ⟨_, rfl⟩
    refine v_eqM hM21 ?_
    have g22 := g20 M21 hM21
    exact v_vret C r dX4_solve_51 g22
  · have g12 := h.2.2 c
    refine v_aload_n (i := 0) C dX4_solve_7 rfl rfl ?_
    refine v_getf (k := 39) C fl_RX4_39 rfl rfl dX4_solve_8 ?_
    show Aj E l z (8 + 3) [(0, vr 39), (1, vi x1), (2, vi x2)] [vi (M 39 7)] M
    refine v_iload_n (i := 1) C dX4_solve_11 rfl rfl ?_
    refine v_icmp_ne (tgt := 24) C g12.1 g12.2.1 dX4_solve_12 (by decide) (fun c => ?_) (fun c => ?_)
    · have g23 := g12.2.2.1 c
      refine v_aload_n (i := 0) C dX4_solve_24 rfl rfl ?_
      refine v_iload_n (i := 1) C dX4_solve_25 rfl rfl ?_
      refine v_putf (k := 39) (x := x1) (t := 0) C fp_RX4_39 rfl rfl (by decide) (by simp [fv, up]) rfl rfl dX4_solve_26 ?_
      obtain ⟨M25, hM25⟩ : ∃ X : MM, X = up M 39 7 x1 := ⟨_, rfl⟩
      refine v_eqM hM25 ?_
      have g26 := g23 M25 hM25
      refine v_aload_n (i := 0) C dX4_solve_29 rfl rfl ?_
      refine v_iload_n (i := 2) C dX4_solve_30 rfl rfl ?_
      refine v_putf (k := 39) (x := x2) (t := 0) C fp_RX4_43 rfl rfl (by decide) (by simp [fv, up]) rfl rfl dX4_solve_31 ?_
      obtain ⟨M27, hM27⟩ : ∃ X : MM, X = up M25 39 5 x2 := ⟨_, rfl⟩
      refine v_eqM hM27 ?_
      have g28 := g26 M27 hM27
      refine v_aload_n (i := 0) C dX4_solve_34 rfl rfl ?_
      refine v_iconst C dX4_solve_35 ?_
      refine v_putf (k := 39) (x := (-1)) (t := 0) C fp_RX4_46 rfl rfl (by decide) (by simp [fv, up]) rfl rfl dX4_solve_36 ?_
      obtain ⟨M29, hM29⟩ : ∃ X : MM, X = up M27 39 4 (-1) := ⟨_, rfl⟩
      refine v_eqM hM29 ?_
      have g30 := g28 M29 hM29
      refine v_aload_n (i := 0) C dX4_solve_39 rfl rfl ?_
      refine v_iconst C dX4_solve_40 ?_
      refine v_iconst C dX4_solve_41 ?_
      refine v_lconst (x := 0) C dX4_solve_42 (by decide) ?_
      refine v_callS (q := qX4_seat) (As := [vr 39, vi 0, vi 0, vj 0]) (S := []) C co_yX4_seat ml_RX4_49 st_yX4_seat ini_RX4 hq_X4_seat (by decide) (Nat.le_of_ble_eq_true rfl) rfl dX4_solve_43 (Con.mono g30 (fun rr M31 hr => ?_) (Nat.le_refl _))
      obtain ⟨rfl, g32⟩ := hr
      show Aj E l z (43 + 3) [(0, vr 39), (1, vi x1), (2, vi x2)] [] M31
      refine v_aload_n (i := 0) C dX4_solve_46 rfl rfl ?_
      refine v_iconst C dX4_solve_47 ?_
      refine v_putf (k := 39) (x := 1) (t := 0) C fp_RX4_35 rfl rfl (by decide) (by simp [fv, up]) rfl rfl dX4_solve_48 ?_
      obtain ⟨M33, hM33⟩ : ∃ X : MM, X = up M31 39 6 1 := ⟨_, rfl⟩
      refine v_eqM hM33 ?_
      have g34 := g32 M33 hM33
      exact v_vret C r dX4_solve_51 g34
    · have g24 := g12.2.2.2 c
      refine v_aload_n (i := 0) C dX4_solve_15 rfl rfl ?_
      refine v_getf (k := 39) C fl_RX4_43 rfl rfl dX4_solve_16 ?_
      show Aj E l z (16 + 3) [(0, vr 39), (1, vi x1), (2, vi x2)] [vi (M 39 5)] M
      refine v_iload_n (i := 2) C dX4_solve_19 rfl rfl ?_
      refine v_icmp_ne (tgt := 24) C g24.1 g24.2.1 dX4_solve_20 (by decide) (fun c => ?_) (fun c => ?_)
      · have g35 := g24.2.2.1 c
        refine v_aload_n (i := 0) C dX4_solve_24 rfl rfl ?_
        refine v_iload_n (i := 1) C dX4_solve_25 rfl rfl ?_
        refine v_putf (k := 39) (x := x1) (t := 0) C fp_RX4_39 rfl rfl (by decide) (by simp [fv, up]) rfl rfl dX4_solve_26 ?_
        obtain ⟨M37, hM37⟩ : ∃ X : MM, X = up M 39 7 x1 := ⟨_, rfl⟩
        refine v_eqM hM37 ?_
        have g38 := g35 M37 hM37
        refine v_aload_n (i := 0) C dX4_solve_29 rfl rfl ?_
        refine v_iload_n (i := 2) C dX4_solve_30 rfl rfl ?_
        refine v_putf (k := 39) (x := x2) (t := 0) C fp_RX4_43 rfl rfl (by decide) (by simp [fv, up]) rfl rfl dX4_solve_31 ?_
        obtain ⟨M39, hM39⟩ : ∃ X : MM, X = up M37 39 5 x2 := ⟨_, rfl⟩
        refine v_eqM hM39 ?_
        have g40 := g38 M39 hM39
        refine v_aload_n (i := 0) C dX4_solve_34 rfl rfl ?_
        refine v_iconst C dX4_solve_35 ?_
        refine v_putf (k := 39) (x := (-1)) (t := 0) C fp_RX4_46 rfl rfl (by decide) (by simp [fv, up]) rfl rfl dX4_solve_36 ?_
        obtain ⟨M41, hM41⟩ : ∃ X : MM, X = up M39 39 4 (-1) := ⟨_, rfl⟩
        refine v_eqM hM41 ?_
        have g42 := g40 M41 hM41
        refine v_aload_n (i := 0) C dX4_solve_39 rfl rfl ?_
        refine v_iconst C dX4_solve_40 ?_
        refine v_iconst C dX4_solve_41 ?_
        refine v_lconst (x := 0) C dX4_solve_42 (by decide) ?_
        refine v_callS (q := qX4_seat) (As := [vr 39, vi 0, vi 0, vj 0]) (S := []) C co_yX4_seat ml_RX4_49 st_yX4_seat ini_RX4 hq_X4_seat (by decide) (Nat.le_of_ble_eq_true rfl) rfl dX4_solve_43 (Con.mono g42 (fun rr M43 hr => ?_) (Nat.le_refl _))
        obtain ⟨rfl, g44⟩ := hr
        show Aj E l z (43 + 3) [(0, vr 39), (1, vi x1), (2, vi x2)] [] M43
        refine v_aload_n (i := 0) C dX4_solve_46 rfl rfl ?_
        refine v_iconst C dX4_solve_47 ?_
        refine v_putf (k := 39) (x := 1) (t := 0) C fp_RX4_35 rfl rfl (by decide) (by simp [fv, up]) rfl rfl dX4_solve_48 ?_
        obtain ⟨M45, hM45⟩ : ∃ X : MM, X = up M43 39 6 1 := ⟨_, rfl⟩
        refine v_eqM hM45 ?_
        have g46 := g44 M45 hM45
        exact v_vret C r dX4_solve_51 g46
      · have g36 := g24.2.2.2 c
        exact v_vret C r dX4_solve_23 g36
theorem RX4_solve {E : FX} {l : Launch} {D : Nat} {post : Option AV → MM → Prop} {M : MM} {x1 : Int} {x2 : Int} (h0 : VX4_solve_0 E l D post M x1 x2) : Con E l (D + 1) qX4_solve [vr 39, vi x1, vi x2] M post := by
  refine con_of (by decide +kernel) (Nat.le_of_ble_eq_true rfl) (fun z C r => ?_)
  exact v_sub [0, 1, 2] rfl (SX4_solve_0 C r h0)
def VX4_keepIfBetter_54 (E : FX) (l : Launch) (D : Nat) (post : Option AV → MM → Prop) (M : MM) : Prop :=
  post none M
set_option maxRecDepth 20000 in
theorem SX4_keepIfBetter_54 {E : FX} {l : Launch} {D : Nat} {post : Option AV → MM → Prop} {z : RT} (C : Cx E z D RX4 cX4_keepIfBetter 4) (r : Rt E z none post) {M : MM} (h : VX4_keepIfBetter_54 E l D post M) : Aj E l z 54 [] [] M := by
  unfold VX4_keepIfBetter_54 at h
  exact v_vret C r dX4_keepIfBetter_54 h
def VX4_keepIfBetter_33 (E : FX) (l : Launch) (D : Nat) (post : Option AV → MM → Prop) (M : MM) (x1 : Int) (x2 : Int) : Prop :=
  ∀ M1 : MM, M1 = up M 39 8 x2 → (∀ M3 : MM, M3 = up M1 39 4 x1 → (Con E l D qX7_fill [vr 43, vr 42] M3 (fun r M5 => r = none ∧ (VX4_keepIfBetter_54 E l D post M5 ))))
set_option maxRecDepth 20000 in
theorem SX4_keepIfBetter_33 {E : FX} {l : Launch} {D : Nat} {post : Option AV → MM → Prop} {z : RT} (C : Cx E z D RX4 cX4_keepIfBetter 4) (r : Rt E z none post) {M : MM} {x1 : Int} {x2 : Int} (h : VX4_keepIfBetter_33 E l D post M x1 x2) : Aj E l z 33 [(0, vr 39), (1, vi x1), (2, vj x2)] [] M := by
  unfold VX4_keepIfBetter_33 at h
  refine v_aload_n (i := 0) C dX4_keepIfBetter_33 rfl rfl ?_
  refine v_lload_n (i := 2) C dX4_keepIfBetter_34 rfl rfl ?_
  refine v_putf (k := 39) (x := x2) (t := 1) C fp_RX4_75 rfl rfl (by decide) (by simp [fv, up]) rfl rfl dX4_keepIfBetter_35 ?_
  obtain ⟨M1, hM1⟩ : ∃ X : MM, X = up M 39 8 x2 := ⟨_, rfl⟩
  refine v_eqM hM1 ?_
  have g2 := h M1 hM1
  refine v_aload_n (i := 0) C dX4_keepIfBetter_38 rfl rfl ?_
  refine v_iload_n (i := 1) C dX4_keepIfBetter_39 rfl rfl ?_
  refine v_putf (k := 39) (x := x1) (t := 0) C fp_RX4_46 rfl rfl (by decide) (by simp [fv, up]) rfl rfl dX4_keepIfBetter_40 ?_
  obtain ⟨M3, hM3⟩ : ∃ X : MM, X = up M1 39 4 x1 := ⟨_, rfl⟩
  refine v_eqM hM3 ?_
  have g4 := g2 M3 hM3
  refine v_aload_n (i := 0) C dX4_keepIfBetter_43 rfl rfl ?_
  refine v_getf (k := 39) C fl_RX4_22 rfl rfl dX4_keepIfBetter_44 ?_
  show Aj E l z (44 + 3) [(0, vr 39), (1, vi x1), (2, vj x2)] [vr 43] M3
  refine v_aload_n (i := 0) C dX4_keepIfBetter_47 rfl rfl ?_
  refine v_getf (k := 39) C fl_RX4_19 rfl rfl dX4_keepIfBetter_48 ?_
  show Aj E l z (48 + 3) [(0, vr 39), (1, vi x1), (2, vj x2)] [vr 42, vr 43] M3
  refine v_callS (q := qX7_fill) (As := [vr 43, vr 42]) (S := []) C co_yX7_fill ml_RX4_79 st_yX7_fill ini_RX7 hq_X7_fill (by decide) (Nat.le_of_ble_eq_true rfl) rfl dX4_keepIfBetter_51 (Con.mono g4 (fun rr M5 hr => ?_) (Nat.le_refl _))
  obtain ⟨rfl, g6⟩ := hr
  show Aj E l z (51 + 3) [(0, vr 39), (1, vi x1), (2, vj x2)] [] M5
  exact v_sub [] rfl (SX4_keepIfBetter_54 C r g6)
def VX4_keepIfBetter_0 (E : FX) (l : Launch) (D : Nat) (post : Option AV → MM → Prop) (M : MM) (x1 : Int) (x2 : Int) : Prop :=
  R32 (M 39 4) ∧ ((M 39 4 < 0 → ∀ M9 : MM, M9 = up M 39 8 x2 → (∀ M11 : MM, M11 = up M9 39 4 x1 → (Con E l D qX7_fill [vr 43, vr 42] M11 (fun r M13 => r = none ∧ (VX4_keepIfBetter_54 E l D post M13 ))))) ∧ (¬ M 39 4 < 0 → R64 x2 ∧ (R64 (M 39 8) ∧ ((M 39 8 < x2 → ∀ M17 : MM, M17 = up M 39 8 x2 → (∀ M19 : MM, M19 = up M17 39 4 x1 → (Con E l D qX7_fill [vr 43, vr 42] M19 (fun r M21 => r = none ∧ (VX4_keepIfBetter_54 E l D post M21 ))))) ∧ (¬ M 39 8 < x2 → R64 x2 ∧ (R64 (M 39 8) ∧ ((¬ x2 = M 39 8 → post none M) ∧ (x2 = M 39 8 → R32 x1 ∧ (R32 (M 39 4) ∧ ((x1 ≤ M 39 4 → post none M) ∧ (¬ x1 ≤ M 39 4 → ∀ M27 : MM, M27 = up M 39 8 x2 → (∀ M29 : MM, M29 = up M27 39 4 x1 → (Con E l D qX7_fill [vr 43, vr 42] M29 (fun r M31 => r = none ∧ (VX4_keepIfBetter_54 E l D post M31 )))))))))))))))
set_option maxRecDepth 20000 in
theorem SX4_keepIfBetter_0 {E : FX} {l : Launch} {D : Nat} {post : Option AV → MM → Prop} {z : RT} (C : Cx E z D RX4 cX4_keepIfBetter 4) (r : Rt E z none post) {M : MM} {x1 : Int} {x2 : Int} (h : VX4_keepIfBetter_0 E l D post M x1 x2) : Aj E l z 0 [(0, vr 39), (1, vi x1), (2, vj x2)] [] M := by
  unfold VX4_keepIfBetter_0 at h
  refine v_aload_n (i := 0) C dX4_keepIfBetter_0 rfl rfl ?_
  refine v_getf (k := 39) C fl_RX4_46 rfl rfl dX4_keepIfBetter_1 ?_
  show Aj E l z (1 + 3) [(0, vr 39), (1, vi x1), (2, vj x2)] [vi (M 39 4)] M
  refine v_if_lt (tgt := 33) C h.1 dX4_keepIfBetter_4 (by decide) (fun c => ?_) (fun c => ?_)
  · have g7 := h.2.1 c
    refine v_aload_n (i := 0) C dX4_keepIfBetter_33 rfl rfl ?_
    refine v_lload_n (i := 2) C dX4_keepIfBetter_34 rfl rfl ?_
    refine v_putf (k := 39) (x := x2) (t := 1) C fp_RX4_75 rfl rfl (by decide) (by simp [fv, up]) rfl rfl dX4_keepIfBetter_35 ?_
    obtain ⟨M9, hM9⟩ : ∃ X : MM, X = up M 39 8 x2 := ⟨_, rfl⟩
    refine v_eqM hM9 ?_
    have g10 := g7 M9 hM9
    refine v_aload_n (i := 0) C dX4_keepIfBetter_38 rfl rfl ?_
    refine v_iload_n (i := 1) C dX4_keepIfBetter_39 rfl rfl ?_
    refine v_putf (k := 39) (x := x1) (t := 0) C fp_RX4_46 rfl rfl (by decide) (by simp [fv, up]) rfl rfl dX4_keepIfBetter_40 ?_
    obtain ⟨M11, hM11⟩ : ∃ X : MM, X = up M9 39 4 x1 := ⟨_, rfl⟩
    refine v_eqM hM11 ?_
    have g12 := g10 M11 hM11
    refine v_aload_n (i := 0) C dX4_keepIfBetter_43 rfl rfl ?_
    refine v_getf (k := 39) C fl_RX4_22 rfl rfl dX4_keepIfBetter_44 ?_
    show Aj E l z (44 + 3) [(0, vr 39), (1, vi x1), (2, vj x2)] [vr 43] M11
    refine v_aload_n (i := 0) C dX4_keepIfBetter_47 rfl rfl ?_
    refine v_getf (k := 39) C fl_RX4_19 rfl rfl dX4_keepIfBetter_48 ?_
    show Aj E l z (48 + 3) [(0, vr 39), (1, vi x1), (2, vj x2)] [vr 42, vr 43] M11
    refine v_callS (q := qX7_fill) (As := [vr 43, vr 42]) (S := []) C co_yX7_fill ml_RX4_79 st_yX7_fill ini_RX7 hq_X7_fill (by decide) (Nat.le_of_ble_eq_true rfl) rfl dX4_keepIfBetter_51 (Con.mono g12 (fun rr M13 hr => ?_) (Nat.le_refl _))
    obtain ⟨rfl, g14⟩ := hr
    show Aj E l z (51 + 3) [(0, vr 39), (1, vi x1), (2, vj x2)] [] M13
    exact v_sub [] rfl (SX4_keepIfBetter_54 C r g14)
  · have g8 := h.2.2 c
    refine v_lload_n (i := 2) C dX4_keepIfBetter_7 rfl rfl ?_
    refine v_aload_n (i := 0) C dX4_keepIfBetter_8 rfl rfl ?_
    refine v_getf (k := 39) C fl_RX4_75 rfl rfl dX4_keepIfBetter_9 ?_
    show Aj E l z (9 + 3) [(0, vr 39), (1, vi x1), (2, vj x2)] [vj (M 39 8), vj x2] M
    refine v_lif_gt (tgt := 33) C g8.1 g8.2.1 dX4_keepIfBetter_12 dX4_keepIfBetter_13 (by decide) (fun c => ?_) (fun c => ?_)
    · have g15 := g8.2.2.1 c
      refine v_aload_n (i := 0) C dX4_keepIfBetter_33 rfl rfl ?_
      refine v_lload_n (i := 2) C dX4_keepIfBetter_34 rfl rfl ?_
      refine v_putf (k := 39) (x := x2) (t := 1) C fp_RX4_75 rfl rfl (by decide) (by simp [fv, up]) rfl rfl dX4_keepIfBetter_35 ?_
      obtain ⟨M17, hM17⟩ : ∃ X : MM, X = up M 39 8 x2 := ⟨_, rfl⟩
      refine v_eqM hM17 ?_
      have g18 := g15 M17 hM17
      refine v_aload_n (i := 0) C dX4_keepIfBetter_38 rfl rfl ?_
      refine v_iload_n (i := 1) C dX4_keepIfBetter_39 rfl rfl ?_
      refine v_putf (k := 39) (x := x1) (t := 0) C fp_RX4_46 rfl rfl (by decide) (by simp [fv, up]) rfl rfl dX4_keepIfBetter_40 ?_
      obtain ⟨M19, hM19⟩ : ∃ X : MM, X = up M17 39 4 x1 := ⟨_, rfl⟩
      refine v_eqM hM19 ?_
      have g20 := g18 M19 hM19
      refine v_aload_n (i := 0) C dX4_keepIfBetter_43 rfl rfl ?_
      refine v_getf (k := 39) C fl_RX4_22 rfl rfl dX4_keepIfBetter_44 ?_
      show Aj E l z (44 + 3) [(0, vr 39), (1, vi x1), (2, vj x2)] [vr 43] M19
      refine v_aload_n (i := 0) C dX4_keepIfBetter_47 rfl rfl ?_
      refine v_getf (k := 39) C fl_RX4_19 rfl rfl dX4_keepIfBetter_48 ?_
      show Aj E l z (48 + 3) [(0, vr 39), (1, vi x1), (2, vj x2)] [vr 42, vr 43] M19
      refine v_callS (q := qX7_fill) (As := [vr 43, vr 42]) (S := []) C co_yX7_fill ml_RX4_79 st_yX7_fill ini_RX7 hq_X7_fill (by decide) (Nat.le_of_ble_eq_true rfl) rfl dX4_keepIfBetter_51 (Con.mono g20 (fun rr M21 hr => ?_) (Nat.le_refl _))
      obtain ⟨rfl, g22⟩ := hr
      show Aj E l z (51 + 3) [(0, vr 39), (1, vi x1), (2, vj x2)] [] M21
      exact v_sub [] rfl (SX4_keepIfBetter_54 C r g22)
    · have g16 := g8.2.2.2 c
      refine v_lload_n (i := 2) C dX4_keepIfBetter_16 rfl rfl ?_
      refine v_aload_n (i := 0) C dX4_keepIfBetter_17 rfl rfl ?_
      refine v_getf (k := 39) C fl_RX4_75 rfl rfl dX4_keepIfBetter_18 ?_
      show Aj E l z (18 + 3) [(0, vr 39), (1, vi x1), (2, vj x2)] [vj (M 39 8), vj x2] M
      refine v_lif_ne (tgt := 54) C g16.1 g16.2.1 dX4_keepIfBetter_21 dX4_keepIfBetter_22 (by decide) (fun c => ?_) (fun c => ?_)
      · have g23 := g16.2.2.1 c
        exact v_vret C r dX4_keepIfBetter_54 g23
      · have g24 := g16.2.2.2 c
        refine v_iload_n (i := 1) C dX4_keepIfBetter_25 rfl rfl ?_
        refine v_aload_n (i := 0) C dX4_keepIfBetter_26 rfl rfl ?_
        refine v_getf (k := 39) C fl_RX4_46 rfl rfl dX4_keepIfBetter_27 ?_
        show Aj E l z (27 + 3) [(0, vr 39), (1, vi x1), (2, vj x2)] [vi (M 39 4), vi x1] M
        refine v_icmp_le (tgt := 54) C g24.1 g24.2.1 dX4_keepIfBetter_30 (by decide) (fun c => ?_) (fun c => ?_)
        · have g25 := g24.2.2.1 c
          exact v_vret C r dX4_keepIfBetter_54 g25
        · have g26 := g24.2.2.2 c
          refine v_aload_n (i := 0) C dX4_keepIfBetter_33 rfl rfl ?_
          refine v_lload_n (i := 2) C dX4_keepIfBetter_34 rfl rfl ?_
          refine v_putf (k := 39) (x := x2) (t := 1) C fp_RX4_75 rfl rfl (by decide) (by simp [fv, up]) rfl rfl dX4_keepIfBetter_35 ?_
          obtain ⟨M27, hM27⟩ : ∃ X : MM, X = up M 39 8 x2 := ⟨_, rfl⟩
          refine v_eqM hM27 ?_
          have g28 := g26 M27 hM27
          refine v_aload_n (i := 0) C dX4_keepIfBetter_38 rfl rfl ?_
          refine v_iload_n (i := 1) C dX4_keepIfBetter_39 rfl rfl ?_
          refine v_putf (k := 39) (x := x1) (t := 0) C fp_RX4_46 rfl rfl (by decide) (by simp [fv, up]) rfl rfl dX4_keepIfBetter_40 ?_
          obtain ⟨M29, hM29⟩ : ∃ X : MM, X = up M27 39 4 x1 := ⟨_, rfl⟩
          refine v_eqM hM29 ?_
          have g30 := g28 M29 hM29
          refine v_aload_n (i := 0) C dX4_keepIfBetter_43 rfl rfl ?_
          refine v_getf (k := 39) C fl_RX4_22 rfl rfl dX4_keepIfBetter_44 ?_
          show Aj E l z (44 + 3) [(0, vr 39), (1, vi x1), (2, vj x2)] [vr 43] M29
          refine v_aload_n (i := 0) C dX4_keepIfBetter_47 rfl rfl ?_
          refine v_getf (k := 39) C fl_RX4_19 rfl rfl dX4_keepIfBetter_48 ?_
          show Aj E l z (48 + 3) [(0, vr 39), (1, vi x1), (2, vj x2)] [vr 42, vr 43] M29
          refine v_callS (q := qX7_fill) (As := [vr 43, vr 42]) (S := []) C co_yX7_fill ml_RX4_79 st_yX7_fill ini_RX7 hq_X7_fill (by decide) (Nat.le_of_ble_eq_true rfl) rfl dX4_keepIfBetter_51 (Con.mono g30 (fun rr M31 hr => ?_) (Nat.le_refl _))
          obtain ⟨rfl, g32⟩ := hr
          show Aj E l z (51 + 3) [(0, vr 39), (1, vi x1), (2, vj x2)] [] M31
          exact v_sub [] rfl (SX4_keepIfBetter_54 C r g32)
theorem RX4_keepIfBetter {E : FX} {l : Launch} {D : Nat} {post : Option AV → MM → Prop} {M : MM} {x1 : Int} {x2 : Int} (h0 : VX4_keepIfBetter_0 E l D post M x1 x2) : Con E l (D + 1) qX4_keepIfBetter [vr 39, vi x1, vj x2] M post := by
  refine con_of (by decide +kernel) (Nat.le_of_ble_eq_true rfl) (fun z C r => ?_)
  exact v_sub [0, 1, 2] rfl (SX4_keepIfBetter_0 C r h0)
def VX4_seat_14 (E : FX) (l : Launch) (D : Nat) (post : Option AV → MM → Prop) (J24 : MM → Int → Int → Int → Int → Prop) (M : MM) (x2 : Int) (x3 : Int) : Prop :=
  Con E l D qX4_keepIfBetter [vr 39, vi x2, vj x3] M (fun r M1 => r = none ∧ (post none M1))
set_option maxRecDepth 20000 in
theorem SX4_seat_14 {E : FX} {l : Launch} {D : Nat} {post : Option AV → MM → Prop} {z : RT} {J24 : MM → Int → Int → Int → Int → Prop} (C : Cx E z D RX4 cX4_seat 10) (r : Rt E z none post) (hD : 1 ≤ D) (hJ24 : ∀ (M : MM) (x1 : Int) (x2 : Int) (x3 : Int) (x5 : Int), J24 M x1 x2 x3 x5 → Aj E l z 24 [(0, vr 39), (1, vi x1), (2, vi x2), (3, vj x3), (5, vi x5)] [] M) {M : MM} {x2 : Int} {x3 : Int} (h : VX4_seat_14 E l D post J24 M x2 x3) : Aj E l z 14 [(0, vr 39), (2, vi x2), (3, vj x3)] [] M := by
  unfold VX4_seat_14 at h
  refine v_aload_n (i := 0) C dX4_seat_14 rfl rfl ?_
  refine v_iload_n (i := 1) C dX4_seat_15 rfl rfl ?_
  refine v_lload_n (i := 2) C dX4_seat_16 rfl rfl ?_
  refine v_callV (q := qX4_keepIfBetter) (k := 39) (As := [vi x2, vj x3]) (S := []) C co_yX4_keepIfBetter ml_RX4_53 im_yX4_keepIfBetter se_yX4_keepIfBetter ini_RX4 rfl rfl hq_X4_keepIfBetter (by decide) (Nat.le_of_ble_eq_true rfl) rfl dX4_seat_17 (Con.mono h (fun rr M1 hr => ?_) (Nat.le_refl _))
  obtain ⟨rfl, g2⟩ := hr
  show Aj E l z (17 + 3) [(0, vr 39), (2, vi x2), (3, vj x3)] [] M1
  exact v_vret C r dX4_seat_20 g2
def VX4_seat_0 (E : FX) (l : Launch) (D : Nat) (post : Option AV → MM → Prop) (J24 : MM → Int → Int → Int → Int → Prop) (M : MM) (x1 : Int) (x2 : Int) (x3 : Int) : Prop :=
  R32 x1 ∧ (R32 (M 39 7) ∧ ((M 39 7 ≤ x1 → Con E l D qX4_keepIfBetter [vr 39, vi x2, vj x3] M (fun r M5 => r = none ∧ (post none M5))) ∧ (¬ M 39 7 ≤ x1 → R32 x1 ∧ ((x1 < 8 → J24 M x1 x2 x3 0) ∧ (¬ x1 < 8 → Con E l D qX4_keepIfBetter [vr 39, vi x2, vj x3] M (fun r M9 => r = none ∧ (post none M9)))))))
set_option maxRecDepth 20000 in
theorem SX4_seat_0 {E : FX} {l : Launch} {D : Nat} {post : Option AV → MM → Prop} {z : RT} {J24 : MM → Int → Int → Int → Int → Prop} (C : Cx E z D RX4 cX4_seat 10) (r : Rt E z none post) (hD : 1 ≤ D) (hJ24 : ∀ (M : MM) (x1 : Int) (x2 : Int) (x3 : Int) (x5 : Int), J24 M x1 x2 x3 x5 → Aj E l z 24 [(0, vr 39), (1, vi x1), (2, vi x2), (3, vj x3), (5, vi x5)] [] M) {M : MM} {x1 : Int} {x2 : Int} {x3 : Int} (h : VX4_seat_0 E l D post J24 M x1 x2 x3) : Aj E l z 0 [(0, vr 39), (1, vi x1), (2, vi x2), (3, vj x3)] [] M := by
  unfold VX4_seat_0 at h
  refine v_iload_n (i := 1) C dX4_seat_0 rfl rfl ?_
  refine v_aload_n (i := 0) C dX4_seat_1 rfl rfl ?_
  refine v_getf (k := 39) C fl_RX4_39 rfl rfl dX4_seat_2 ?_
  show Aj E l z (2 + 3) [(0, vr 39), (1, vi x1), (2, vi x2), (3, vj x3)] [vi (M 39 7), vi x1] M
  refine v_icmp_ge (tgt := 14) C h.1 h.2.1 dX4_seat_5 (by decide) (fun c => ?_) (fun c => ?_)
  · have g3 := h.2.2.1 c
    refine v_aload_n (i := 0) C dX4_seat_14 rfl rfl ?_
    refine v_iload_n (i := 2) C dX4_seat_15 rfl rfl ?_
    refine v_lload_n (i := 3) C dX4_seat_16 rfl rfl ?_
    refine v_callV (q := qX4_keepIfBetter) (k := 39) (As := [vi x2, vj x3]) (S := []) C co_yX4_keepIfBetter ml_RX4_53 im_yX4_keepIfBetter se_yX4_keepIfBetter ini_RX4 rfl rfl hq_X4_keepIfBetter (by decide) (Nat.le_of_ble_eq_true rfl) rfl dX4_seat_17 (Con.mono g3 (fun rr M5 hr => ?_) (Nat.le_refl _))
    obtain ⟨rfl, g6⟩ := hr
    show Aj E l z (17 + 3) [(0, vr 39), (1, vi x1), (2, vi x2), (3, vj x3)] [] M5
    exact v_vret C r dX4_seat_20 g6
  · have g4 := h.2.2.2 c
    refine v_iload_n (i := 1) C dX4_seat_8 rfl rfl ?_
    refine v_bipush C dX4_seat_9 (by decide) ?_
    refine v_icmp_lt (tgt := 21) C g4.1 (by decide) dX4_seat_11 (by decide) (fun c => ?_) (fun c => ?_)
    · have g7 := g4.2.1 c
      refine v_iconst C dX4_seat_21 ?_
      refine v_istore (L' := [(5, vi 0), (0, vr 39), (1, vi x1), (2, vi x2), (3, vj x3)]) C dX4_seat_22 (by decide) rfl ?_
      exact v_sub [1, 2, 3, 4, 0] rfl (hJ24 _ _ _ _ _ g7)
    · have g8 := g4.2.2 c
      refine v_aload_n (i := 0) C dX4_seat_14 rfl rfl ?_
      refine v_iload_n (i := 2) C dX4_seat_15 rfl rfl ?_
      refine v_lload_n (i := 3) C dX4_seat_16 rfl rfl ?_
      refine v_callV (q := qX4_keepIfBetter) (k := 39) (As := [vi x2, vj x3]) (S := []) C co_yX4_keepIfBetter ml_RX4_53 im_yX4_keepIfBetter se_yX4_keepIfBetter ini_RX4 rfl rfl hq_X4_keepIfBetter (by decide) (Nat.le_of_ble_eq_true rfl) rfl dX4_seat_17 (Con.mono g8 (fun rr M9 hr => ?_) (Nat.le_refl _))
      obtain ⟨rfl, g10⟩ := hr
      show Aj E l z (17 + 3) [(0, vr 39), (1, vi x1), (2, vi x2), (3, vj x3)] [] M9
      exact v_vret C r dX4_seat_20 g10
def VX4_seat_146 (E : FX) (l : Launch) (D : Nat) (post : Option AV → MM → Prop) (J24 : MM → Int → Int → Int → Int → Prop) (M : MM) : Prop :=
  post none M
set_option maxRecDepth 20000 in
theorem SX4_seat_146 {E : FX} {l : Launch} {D : Nat} {post : Option AV → MM → Prop} {z : RT} {J24 : MM → Int → Int → Int → Int → Prop} (C : Cx E z D RX4 cX4_seat 10) (r : Rt E z none post) (hD : 1 ≤ D) (hJ24 : ∀ (M : MM) (x1 : Int) (x2 : Int) (x3 : Int) (x5 : Int), J24 M x1 x2 x3 x5 → Aj E l z 24 [(0, vr 39), (1, vi x1), (2, vi x2), (3, vj x3), (5, vi x5)] [] M) {M : MM} (h : VX4_seat_146 E l D post J24 M) : Aj E l z 146 [] [] M := by
  unfold VX4_seat_146 at h
  exact v_vret C r dX4_seat_146 h
def VX4_seat_140 (E : FX) (l : Launch) (D : Nat) (post : Option AV → MM → Prop) (J24 : MM → Int → Int → Int → Int → Prop) (M : MM) (x1 : Int) (x2 : Int) (x3 : Int) (x5 : Int) : Prop :=
  ∀ y11 : Int, y11 = x5 + 1 → (J24 M x1 x2 x3 y11)
set_option maxRecDepth 20000 in
theorem SX4_seat_140 {E : FX} {l : Launch} {D : Nat} {post : Option AV → MM → Prop} {z : RT} {J24 : MM → Int → Int → Int → Int → Prop} (C : Cx E z D RX4 cX4_seat 10) (r : Rt E z none post) (hD : 1 ≤ D) (hJ24 : ∀ (M : MM) (x1 : Int) (x2 : Int) (x3 : Int) (x5 : Int), J24 M x1 x2 x3 x5 → Aj E l z 24 [(0, vr 39), (1, vi x1), (2, vi x2), (3, vj x3), (5, vi x5)] [] M) {M : MM} {x1 : Int} {x2 : Int} {x3 : Int} {x5 : Int} (h : VX4_seat_140 E l D post J24 M x1 x2 x3 x5) : Aj E l z 140 [(0, vr 39), (1, vi x1), (2, vi x2), (3, vj x3), (5, vi x5)] [] M := by
  unfold VX4_seat_140 at h
  obtain ⟨y11, hy11⟩ : ∃ y : Int, y = x5 + 1 := ⟨_, rfl⟩
  have g12 := h y11 hy11
  refine v_iinc (i := 4) (L' := [(5, vi y11), (0, vr 39), (1, vi x1), (2, vi x2), (3, vj x3)]) C dX4_seat_140 rfl (by decide) hy11 rfl ?_
  refine v_goto C dX4_seat_143 (tgt := 24) (by decide) ?_
  exact v_sub [1, 2, 3, 4, 0] rfl (hJ24 _ _ _ _ _ g12)
def VX4_seat_24 (E : FX) (l : Launch) (D : Nat) (post : Option AV → MM → Prop) (J24 : MM → Int → Int → Int → Int → Prop) (M : MM) (x1 : Int) (x2 : Int) (x3 : Int) (x5 : Int) : Prop :=
  R32 x5 ∧ (R32 x2 ∧ ((x2 < x5 → post none M) ∧ (¬ x2 < x5 → R32 x5 ∧ ((8 ≤ x5 → post none M) ∧ (¬ 8 ≤ x5 → Con E l D qX7_at [vr 41, vi x5] M (fun r M17 => ∃ y18 : Int, r = some (vi y18) ∧ (∀ y20 : Int, y20 = ior y18 (ishl 1 x1) → (Con E l D qJ6_bitCount_0f7a4 [vi y20] M17 (fun r M22 => ∃ y23 : Int, r = some (vi y23) ∧ (R32 y23 ∧ (R32 (M22 39 5) ∧ ((M22 39 5 < y23 → ∀ y27 : Int, y27 = x5 + 1 → (J24 M22 x1 x2 x3 y27)) ∧ (¬ M22 39 5 < y23 → Con E l D qX7_put [vr 41, vi x5, vi y20] M22 (fun r M29 => r = none ∧ (Con E l D qX7_put [vr 42, vi x1, vi x5] M29 (fun r M31 => r = none ∧ (Con E l D qX7_at_ [vr 40, vi y20] M31 (fun r M33 => ∃ y34 : Int, r = some (vj y34) ∧ (Con E l D qX7_at_ [vr 40, vi y18] M33 (fun r M36 => ∃ y37 : Int, r = some (vj y37) ∧ (∀ y39 : Int, y39 = y34 - y37 → (R32 x2 ∧ (R32 (x5 + 1) ∧ (∀ y41 : Int, y41 = (if x2 < (x5 + 1) then (x5 + 1) else x2) → (Con E l D qX4_seat [vr 39, vi (x1 + 1), vi y41, vj (x3 + y39)] M36 (fun r M43 => r = none ∧ (Con E l D qX7_put [vr 41, vi x5, vi y18] M43 (fun r M45 => r = none ∧ (VX4_seat_140 E l D post J24 M45 x1 x2 x3 x5)))))))))))))))))))))))))))))
set_option maxRecDepth 20000 in
theorem SX4_seat_24 {E : FX} {l : Launch} {D : Nat} {post : Option AV → MM → Prop} {z : RT} {J24 : MM → Int → Int → Int → Int → Prop} (C : Cx E z D RX4 cX4_seat 10) (r : Rt E z none post) (hD : 1 ≤ D) (hJ24 : ∀ (M : MM) (x1 : Int) (x2 : Int) (x3 : Int) (x5 : Int), J24 M x1 x2 x3 x5 → Aj E l z 24 [(0, vr 39), (1, vi x1), (2, vi x2), (3, vj x3), (5, vi x5)] [] M) {M : MM} {x1 : Int} {x2 : Int} {x3 : Int} {x5 : Int} (h : VX4_seat_24 E l D post J24 M x1 x2 x3 x5) : Aj E l z 24 [(0, vr 39), (1, vi x1), (2, vi x2), (3, vj x3), (5, vi x5)] [] M := by
  unfold VX4_seat_24 at h
  refine v_iload (i := 4) C dX4_seat_24 rfl ?_
  refine v_iload_n (i := 2) C dX4_seat_26 rfl rfl ?_
  refine v_icmp_gt (tgt := 146) C h.1 h.2.1 dX4_seat_27 (by decide) (fun c => ?_) (fun c => ?_)
  · have g13 := h.2.2.1 c
    exact v_vret C r dX4_seat_146 g13
  · have g14 := h.2.2.2 c
    refine v_iload (i := 4) C dX4_seat_30 rfl ?_
    refine v_bipush C dX4_seat_32 (by decide) ?_
    refine v_icmp_ge (tgt := 146) C g14.1 (by decide) dX4_seat_34 (by decide) (fun c => ?_) (fun c => ?_)
    · have g15 := g14.2.1 c
      exact v_vret C r dX4_seat_146 g15
    · have g16 := g14.2.2 c
      refine v_aload_n (i := 0) C dX4_seat_37 rfl rfl ?_
      refine v_getf (k := 39) C fl_RX4_15 rfl rfl dX4_seat_38 ?_
      show Aj E l z (38 + 3) [(0, vr 39), (1, vi x1), (2, vi x2), (3, vj x3), (5, vi x5)] [vr 41] M
      refine v_iload (i := 4) C dX4_seat_41 rfl ?_
      refine v_callS (q := qX7_at) (As := [vr 41, vi x5]) (S := []) C co_yX7_at ml_RX4_57 st_yX7_at ini_RX7 hq_X7_at (by decide) (Nat.le_of_ble_eq_true rfl) rfl dX4_seat_43 (Con.mono g16 (fun rr M17 hr => ?_) (Nat.le_refl _))
      obtain ⟨y18, rfl, g19⟩ := hr
      show Aj E l z (43 + 3) [(0, vr 39), (1, vi x1), (2, vi x2), (3, vj x3), (5, vi x5)] [vi y18] M17
      refine v_istore (L' := [(6, vi y18), (0, vr 39), (1, vi x1), (2, vi x2), (3, vj x3), (5, vi x5)]) C dX4_seat_46 (by decide) rfl ?_
      refine v_iload (i := 0) C dX4_seat_48 rfl ?_
      refine v_iconst C dX4_seat_50 ?_
      refine v_iload_n (i := 2) C dX4_seat_51 rfl rfl ?_
      refine v_ishl C dX4_seat_52 ?_
      refine v_ior C dX4_seat_53 ?_
      obtain ⟨y20, hy20⟩ : ∃ y : Int, y = ior y18 (ishl 1 x1) := ⟨_, rfl⟩
      have g21 := g19 y20 hy20
      refine v_eqi hy20 ?_
      refine v_istore (L' := [(7, vi y20), (6, vi y18), (0, vr 39), (1, vi x1), (2, vi x2), (3, vj x3), (5, vi x5)]) C dX4_seat_54 (by decide) rfl ?_
      refine v_iload (i := 0) C dX4_seat_56 rfl ?_
      refine v_callS (q := qJ6_bitCount_0f7a4) (As := [vi y20]) (S := []) C co_yJ6_bitCount_0f7a4 ml_RX4_60 st_yJ6_bitCount_0f7a4 ini_RJ6 hq_J6_bitCount_0f7a4 (by decide) (Nat.le_of_ble_eq_true rfl) rfl dX4_seat_58 (Con.mono g21 (fun rr M22 hr => ?_) (Nat.le_refl _))
      obtain ⟨y23, rfl, g24⟩ := hr
      show Aj E l z (58 + 3) [(7, vi y20), (6, vi y18), (0, vr 39), (1, vi x1), (2, vi x2), (3, vj x3), (5, vi x5)] [vi y23] M22
      refine v_aload_n (i := 2) C dX4_seat_61 rfl rfl ?_
      refine v_getf (k := 39) C fl_RX4_43 rfl rfl dX4_seat_62 ?_
      show Aj E l z (62 + 3) [(7, vi y20), (6, vi y18), (0, vr 39), (1, vi x1), (2, vi x2), (3, vj x3), (5, vi x5)] [vi (M22 39 5), vi y23] M22
      refine v_icmp_gt (tgt := 140) C g24.1 g24.2.1 dX4_seat_65 (by decide) (fun c => ?_) (fun c => ?_)
      · have g25 := g24.2.2.1 c
        obtain ⟨y27, hy27⟩ : ∃ y : Int, y = x5 + 1 := ⟨_, rfl⟩
        have g28 := g25 y27 hy27
        refine v_iinc (i := 6) (L' := [(5, vi y27), (7, vi y20), (6, vi y18), (0, vr 39), (1, vi x1), (2, vi x2), (3, vj x3)]) C dX4_seat_140 rfl (by decide) hy27 rfl ?_
        refine v_goto C dX4_seat_143 (tgt := 24) (by decide) ?_
        exact v_sub [3, 4, 5, 6, 0] rfl (hJ24 _ _ _ _ _ g28)
      · have g26 := g24.2.2.2 c
        refine v_aload_n (i := 2) C dX4_seat_68 rfl rfl ?_
        refine v_getf (k := 39) C fl_RX4_15 rfl rfl dX4_seat_69 ?_
        show Aj E l z (69 + 3) [(7, vi y20), (6, vi y18), (0, vr 39), (1, vi x1), (2, vi x2), (3, vj x3), (5, vi x5)] [vr 41] M22
        refine v_iload (i := 6) C dX4_seat_72 rfl ?_
        refine v_iload (i := 0) C dX4_seat_74 rfl ?_
        refine v_callS (q := qX7_put) (As := [vr 41, vi x5, vi y20]) (S := []) C co_yX7_put ml_RX4_66 st_yX7_put ini_RX7 hq_X7_put (by decide) (Nat.le_of_ble_eq_true rfl) rfl dX4_seat_76 (Con.mono g26 (fun rr M29 hr => ?_) (Nat.le_refl _))
        obtain ⟨rfl, g30⟩ := hr
        show Aj E l z (76 + 3) [(7, vi y20), (6, vi y18), (0, vr 39), (1, vi x1), (2, vi x2), (3, vj x3), (5, vi x5)] [] M29
        refine v_aload_n (i := 2) C dX4_seat_79 rfl rfl ?_
        refine v_getf (k := 39) C fl_RX4_19 rfl rfl dX4_seat_80 ?_
        show Aj E l z (80 + 3) [(7, vi y20), (6, vi y18), (0, vr 39), (1, vi x1), (2, vi x2), (3, vj x3), (5, vi x5)] [vr 42] M29
        refine v_iload_n (i := 3) C dX4_seat_83 rfl rfl ?_
        refine v_iload (i := 6) C dX4_seat_84 rfl ?_
        refine v_callS (q := qX7_put) (As := [vr 42, vi x1, vi x5]) (S := []) C co_yX7_put ml_RX4_66 st_yX7_put ini_RX7 hq_X7_put (by decide) (Nat.le_of_ble_eq_true rfl) rfl dX4_seat_86 (Con.mono g30 (fun rr M31 hr => ?_) (Nat.le_refl _))
        obtain ⟨rfl, g32⟩ := hr
        show Aj E l z (86 + 3) [(7, vi y20), (6, vi y18), (0, vr 39), (1, vi x1), (2, vi x2), (3, vj x3), (5, vi x5)] [] M31
        refine v_aload_n (i := 2) C dX4_seat_89 rfl rfl ?_
        refine v_getf (k := 39) C fl_RX4_9 rfl rfl dX4_seat_90 ?_
        show Aj E l z (90 + 3) [(7, vi y20), (6, vi y18), (0, vr 39), (1, vi x1), (2, vi x2), (3, vj x3), (5, vi x5)] [vr 40] M31
        refine v_iload (i := 0) C dX4_seat_93 rfl ?_
        refine v_callS (q := qX7_at_) (As := [vr 40, vi y20]) (S := []) C co_yX7_at_ ml_RX4_25 st_yX7_at_ ini_RX7 hq_X7_at_ (by decide) (Nat.le_of_ble_eq_true rfl) rfl dX4_seat_95 (Con.mono g32 (fun rr M33 hr => ?_) (Nat.le_refl _))
        obtain ⟨y34, rfl, g35⟩ := hr
        show Aj E l z (95 + 3) [(7, vi y20), (6, vi y18), (0, vr 39), (1, vi x1), (2, vi x2), (3, vj x3), (5, vi x5)] [vj y34] M33
        refine v_aload_n (i := 2) C dX4_seat_98 rfl rfl ?_
        refine v_getf (k := 39) C fl_RX4_9 rfl rfl dX4_seat_99 ?_
        show Aj E l z (99 + 3) [(7, vi y20), (6, vi y18), (0, vr 39), (1, vi x1), (2, vi x2), (3, vj x3), (5, vi x5)] [vr 40, vj y34] M33
        refine v_iload (i := 1) C dX4_seat_102 rfl ?_
        refine v_callS (q := qX7_at_) (As := [vr 40, vi y18]) (S := [vj y34]) C co_yX7_at_ ml_RX4_25 st_yX7_at_ ini_RX7 hq_X7_at_ (by decide) (Nat.le_of_ble_eq_true rfl) rfl dX4_seat_104 (Con.mono g35 (fun rr M36 hr => ?_) (Nat.le_refl _))
        obtain ⟨y37, rfl, g38⟩ := hr
        show Aj E l z (104 + 3) [(7, vi y20), (6, vi y18), (0, vr 39), (1, vi x1), (2, vi x2), (3, vj x3), (5, vi x5)] [vj y37, vj y34] M36
        refine v_lsub C dX4_seat_107 ?_
        obtain ⟨y39, hy39⟩ : ∃ y : Int, y = y34 - y37 := ⟨_, rfl⟩
        have g40 := g38 y39 hy39
        refine v_eqj hy39 ?_
        refine v_lstore (L' := [(8, vj y39), (7, vi y20), (6, vi y18), (0, vr 39), (1, vi x1), (2, vi x2), (3, vj x3), (5, vi x5)]) C dX4_seat_108 (by decide) rfl ?_
        refine v_aload_n (i := 3) C dX4_seat_110 rfl rfl ?_
        refine v_iload_n (i := 4) C dX4_seat_111 rfl rfl ?_
        refine v_iconst C dX4_seat_112 ?_
        refine v_iadd C dX4_seat_113 ?_
        refine v_iload_n (i := 5) C dX4_seat_114 rfl rfl ?_
        refine v_iload (i := 7) C dX4_seat_115 rfl ?_
        refine v_iconst C dX4_seat_117 ?_
        refine v_iadd C dX4_seat_118 ?_
        refine v_max (S := [vi (x1 + 1), vr 39]) C hD ml_RX4_69 (Nat.le_of_ble_eq_true rfl) g40.1 g40.2.1 dX4_seat_119 ?_
        obtain ⟨y41, hy41⟩ : ∃ y : Int, y = (if x2 < (x5 + 1) then (x5 + 1) else x2) := ⟨_, rfl⟩
        have g42 := g40.2.2 y41 hy41
        refine v_eqi hy41 ?_
        refine v_lload_n (i := 6) C dX4_seat_122 rfl rfl ?_
        refine v_lload (i := 0) C dX4_seat_123 rfl ?_
        refine v_ladd C dX4_seat_125 ?_
        refine v_callS (q := qX4_seat) (As := [vr 39, vi (x1 + 1), vi y41, vj (x3 + y39)]) (S := []) C co_yX4_seat ml_RX4_49 st_yX4_seat ini_RX4 hq_X4_seat (by decide) (Nat.le_of_ble_eq_true rfl) rfl dX4_seat_126 (Con.mono g42 (fun rr M43 hr => ?_) (Nat.le_refl _))
        obtain ⟨rfl, g44⟩ := hr
        show Aj E l z (126 + 3) [(8, vj y39), (7, vi y20), (6, vi y18), (0, vr 39), (1, vi x1), (2, vi x2), (3, vj x3), (5, vi x5)] [] M43
        refine v_aload_n (i := 3) C dX4_seat_129 rfl rfl ?_
        refine v_getf (k := 39) C fl_RX4_15 rfl rfl dX4_seat_130 ?_
        show Aj E l z (130 + 3) [(8, vj y39), (7, vi y20), (6, vi y18), (0, vr 39), (1, vi x1), (2, vi x2), (3, vj x3), (5, vi x5)] [vr 41] M43
        refine v_iload (i := 7) C dX4_seat_133 rfl ?_
        refine v_iload (i := 2) C dX4_seat_135 rfl ?_
        refine v_callS (q := qX7_put) (As := [vr 41, vi x5, vi y18]) (S := []) C co_yX7_put ml_RX4_66 st_yX7_put ini_RX7 hq_X7_put (by decide) (Nat.le_of_ble_eq_true rfl) rfl dX4_seat_137 (Con.mono g44 (fun rr M45 hr => ?_) (Nat.le_refl _))
        obtain ⟨rfl, g46⟩ := hr
        show Aj E l z (137 + 3) [(8, vj y39), (7, vi y20), (6, vi y18), (0, vr 39), (1, vi x1), (2, vi x2), (3, vj x3), (5, vi x5)] [] M45
        exact v_sub [3, 4, 5, 6, 7] rfl (SX4_seat_140 C r hD hJ24 g46)
theorem RX4_seat {E : FX} {l : Launch} {D : Nat} {post : Option AV → MM → Prop} (hD : 1 ≤ D) (I24 : MM → Int → Int → Int → Int → Prop) (m24 : MM → Int → Int → Int → Int → Nat) {M : MM} {x1 : Int} {x2 : Int} {x3 : Int} (h0 : VX4_seat_0 E l D post I24 M x1 x2 x3) (h24I : ∀ (M : MM) (x1 : Int) (x2 : Int) (x3 : Int) (x5 : Int), I24 M x1 x2 x3 x5 → VX4_seat_24 E l D post (fun M' x1' x2' x3' x5' => I24 M' x1' x2' x3' x5' ∧ m24 M' x1' x2' x3' x5' < m24 M x1 x2 x3 x5) M x1 x2 x3 x5) : Con E l (D + 1) qX4_seat [vr 39, vi x1, vi x2, vj x3] M post := by
  refine con_of (by decide +kernel) (Nat.le_of_ble_eq_true rfl) (fun z C r => ?_)
  have all : ∀ n : Nat, (∀ (M : MM) (x1 : Int) (x2 : Int) (x3 : Int) (x5 : Int), I24 M x1 x2 x3 x5 → m24 M x1 x2 x3 x5 < n → Aj E l z 24 [(0, vr 39), (1, vi x1), (2, vi x2), (3, vj x3), (5, vi x5)] [] M) := by
    intro n
    induction n with
    | zero => exact fun _ _ _ _ _ _ hm => absurd hm (Nat.not_lt_zero _)
    | succ n ih => exact fun M x1 x2 x3 x5 hi hm => SX4_seat_24 C r hD (fun M' x1' x2' x3' x5' hj => ih M' x1' x2' x3' x5' hj.1 (by omega)) (h24I M x1 x2 x3 x5 hi)
  exact v_sub [0, 1, 2, 3] rfl (SX4_seat_0 C r hD (fun M' x1' x2' x3' x5' hj => (all _) M' x1' x2' x3' x5' hj (Nat.lt_succ_self _)) h0)
