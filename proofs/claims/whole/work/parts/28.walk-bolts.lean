def VX0_has_17 (E : FX) (l : Launch) (D : Nat) (post : Option AV → MM → Prop) (M : MM) (s0 : Int) : Prop :=
  (s0 = 0 ∨ s0 = 1) ∧ (post (some (vi s0)) M)
set_option maxRecDepth 20000 in
theorem SX0_has_17 {E : FX} {l : Launch} {D : Nat} {post : Option AV → MM → Prop} {z : RT} (C : Cx E z D RX0 cX0_has 2) (r : Rt E z (some .boolean) post) {M : MM} {s0 : Int} (h : VX0_has_17 E l D post M s0) : Aj E l z 17 [] [vi s0] M := by
  unfold VX0_has_17 at h
  exact v_zret C r h.1 dX0_has_17 h.2
def VX0_has_16 (E : FX) (l : Launch) (D : Nat) (post : Option AV → MM → Prop) (M : MM) : Prop :=
  VX0_has_17 E l D post M 0
set_option maxRecDepth 20000 in
theorem SX0_has_16 {E : FX} {l : Launch} {D : Nat} {post : Option AV → MM → Prop} {z : RT} (C : Cx E z D RX0 cX0_has 2) (r : Rt E z (some .boolean) post) {M : MM} (h : VX0_has_16 E l D post M) : Aj E l z 16 [] [] M := by
  unfold VX0_has_16 at h
  refine v_iconst C dX0_has_16 ?_
  exact v_sub [] rfl (SX0_has_17 C r h)
def VX0_has_0 (E : FX) (l : Launch) (D : Nat) (post : Option AV → MM → Prop) (M : MM) (x1 : Int) : Prop :=
  R32 x1 ∧ ((x1 < 0 → VX0_has_17 E l D post M 0) ∧ (¬ x1 < 0 → R32 x1 ∧ (R32 (M 5 3) ∧ ((M 5 3 ≤ x1 → VX0_has_17 E l D post M 0) ∧ (¬ M 5 3 ≤ x1 → VX0_has_17 E l D post M 1)))))
set_option maxRecDepth 20000 in
theorem SX0_has_0 {E : FX} {l : Launch} {D : Nat} {post : Option AV → MM → Prop} {z : RT} (C : Cx E z D RX0 cX0_has 2) (r : Rt E z (some .boolean) post) {M : MM} {x1 : Int} (h : VX0_has_0 E l D post M x1) : Aj E l z 0 [(0, vr 5), (1, vi x1)] [] M := by
  unfold VX0_has_0 at h
  refine v_iload_n (i := 1) C dX0_has_0 rfl rfl ?_
  refine v_if_lt (tgt := 16) C h.1 dX0_has_1 (by decide) (fun c => ?_) (fun c => ?_)
  · have g1 := h.2.1 c
    refine v_iconst C dX0_has_16 ?_
    exact v_sub [] rfl (SX0_has_17 C r g1)
  · have g2 := h.2.2 c
    refine v_iload_n (i := 1) C dX0_has_4 rfl rfl ?_
    refine v_aload_n (i := 0) C dX0_has_5 rfl rfl ?_
    refine v_getf (k := 5) C fl_RX0_31 rfl rfl dX0_has_6 ?_
    show Aj E l z (6 + 3) [(0, vr 5), (1, vi x1)] [vi (M 5 3), vi x1] M
    refine v_icmp_ge (tgt := 16) C g2.1 g2.2.1 dX0_has_9 (by decide) (fun c => ?_) (fun c => ?_)
    · have g3 := g2.2.2.1 c
      refine v_iconst C dX0_has_16 ?_
      exact v_sub [] rfl (SX0_has_17 C r g3)
    · have g4 := g2.2.2.2 c
      refine v_iconst C dX0_has_12 ?_
      refine v_goto C dX0_has_13 (tgt := 17) (by decide) ?_
      exact v_sub [] rfl (SX0_has_17 C r g4)
theorem RX0_has {E : FX} {l : Launch} {D : Nat} {post : Option AV → MM → Prop} {M : MM} {x1 : Int} (h0 : VX0_has_0 E l D post M x1) : Con E l (D + 1) qX0_has [vr 5, vi x1] M post := by
  refine con_of (by decide +kernel) (Nat.le_of_ble_eq_true rfl) (fun z C r => ?_)
  exact v_sub [0, 1] rfl (SX0_has_0 C r h0)
def VX0_add_0 (E : FX) (l : Launch) (D : Nat) (post : Option AV → MM → Prop) (M : MM) (x1 : Int) (x2 : Int) : Prop :=
  Con E l D qX7_put [vr 6, vi (M 5 3), vi x1] M (fun r M1 => r = none ∧ (Con E l D qX7_put [vr 7, vi (M1 5 3), vi x2] M1 (fun r M3 => r = none ∧ (∀ M5 : MM, M5 = up M3 5 3 ((M3 5 3) + 1) → (post (some (vi (M3 5 3))) M5)))))
set_option maxRecDepth 20000 in
theorem SX0_add_0 {E : FX} {l : Launch} {D : Nat} {post : Option AV → MM → Prop} {z : RT} (C : Cx E z D RX0 cX0_add 3) (r : Rt E z (some .int) post) {M : MM} {x1 : Int} {x2 : Int} (h : VX0_add_0 E l D post M x1 x2) : Aj E l z 0 [(0, vr 5), (1, vi x1), (2, vi x2)] [] M := by
  unfold VX0_add_0 at h
  refine v_aload_n (i := 0) C dX0_add_0 rfl rfl ?_
  refine v_getf (k := 5) C fl_RX0_9 rfl rfl dX0_add_1 ?_
  show Aj E l z (1 + 3) [(0, vr 5), (1, vi x1), (2, vi x2)] [vr 6] M
  refine v_aload_n (i := 0) C dX0_add_4 rfl rfl ?_
  refine v_getf (k := 5) C fl_RX0_31 rfl rfl dX0_add_5 ?_
  show Aj E l z (5 + 3) [(0, vr 5), (1, vi x1), (2, vi x2)] [vi (M 5 3), vr 6] M
  refine v_iload_n (i := 1) C dX0_add_8 rfl rfl ?_
  refine v_callS (q := qX7_put) (As := [vr 6, vi (M 5 3), vi x1]) (S := []) C co_yX7_put ml_RX0_37 st_yX7_put ini_RX7 hq_X7_put (by decide) (Nat.le_of_ble_eq_true rfl) rfl dX0_add_9 (Con.mono h (fun rr M1 hr => ?_) (Nat.le_refl _))
  obtain ⟨rfl, g2⟩ := hr
  show Aj E l z (9 + 3) [(0, vr 5), (1, vi x1), (2, vi x2)] [] M1
  refine v_aload_n (i := 0) C dX0_add_12 rfl rfl ?_
  refine v_getf (k := 5) C fl_RX0_15 rfl rfl dX0_add_13 ?_
  show Aj E l z (13 + 3) [(0, vr 5), (1, vi x1), (2, vi x2)] [vr 7] M1
  refine v_aload_n (i := 0) C dX0_add_16 rfl rfl ?_
  refine v_getf (k := 5) C fl_RX0_31 rfl rfl dX0_add_17 ?_
  show Aj E l z (17 + 3) [(0, vr 5), (1, vi x1), (2, vi x2)] [vi (M1 5 3), vr 7] M1
  refine v_iload_n (i := 2) C dX0_add_20 rfl rfl ?_
  refine v_callS (q := qX7_put) (As := [vr 7, vi (M1 5 3), vi x2]) (S := []) C co_yX7_put ml_RX0_37 st_yX7_put ini_RX7 hq_X7_put (by decide) (Nat.le_of_ble_eq_true rfl) rfl dX0_add_21 (Con.mono g2 (fun rr M3 hr => ?_) (Nat.le_refl _))
  obtain ⟨rfl, g4⟩ := hr
  show Aj E l z (21 + 3) [(0, vr 5), (1, vi x1), (2, vi x2)] [] M3
  refine v_aload_n (i := 0) C dX0_add_24 rfl rfl ?_
  refine v_dup C rfl dX0_add_25 ?_
  refine v_getf (k := 5) C fl_RX0_31 rfl rfl dX0_add_26 ?_
  show Aj E l z (26 + 3) [(0, vr 5), (1, vi x1), (2, vi x2)] [vi (M3 5 3), vr 5] M3
  refine v_dup_x1 C rfl rfl dX0_add_29 ?_
  refine v_iconst C dX0_add_30 ?_
  refine v_iadd C dX0_add_31 ?_
  refine v_putf (k := 5) (x := (M3 5 3) + 1) (t := 0) C fp_RX0_31 rfl rfl (by decide) (by simp [fv, up]) rfl rfl dX0_add_32 ?_
  obtain ⟨M5, hM5⟩ : ∃ X : MM, X = up M3 5 3 ((M3 5 3) + 1) := ⟨_, rfl⟩
  refine v_eqM hM5 ?_
  have g6 := g4 M5 hM5
  exact v_iret C r dX0_add_35 g6
theorem RX0_add {E : FX} {l : Launch} {D : Nat} {post : Option AV → MM → Prop} {M : MM} {x1 : Int} {x2 : Int} (h0 : VX0_add_0 E l D post M x1 x2) : Con E l (D + 1) qX0_add [vr 5, vi x1, vi x2] M post := by
  refine con_of (by decide +kernel) (Nat.le_of_ble_eq_true rfl) (fun z C r => ?_)
  exact v_sub [0, 1, 2] rfl (SX0_add_0 C r h0)
def VX0_inches_0 (E : FX) (l : Launch) (D : Nat) (post : Option AV → MM → Prop) (J4 : MM → Int → Int → Prop) (M : MM) : Prop :=
  J4 M 0 0
set_option maxRecDepth 20000 in
theorem SX0_inches_0 {E : FX} {l : Launch} {D : Nat} {post : Option AV → MM → Prop} {z : RT} {J4 : MM → Int → Int → Prop} (C : Cx E z D RX0 cX0_inches 3) (r : Rt E z (some .int) post) (hJ4 : ∀ (M : MM) (x1 : Int) (x2 : Int), J4 M x1 x2 → Aj E l z 4 [(0, vr 5), (1, vi x1), (2, vi x2)] [] M) {M : MM} (h : VX0_inches_0 E l D post J4 M) : Aj E l z 0 [(0, vr 5)] [] M := by
  unfold VX0_inches_0 at h
  refine v_iconst C dX0_inches_0 ?_
  refine v_istore_n (L' := [(1, vi 0), (0, vr 5)]) C dX0_inches_1 rfl (by decide) rfl ?_
  refine v_iconst C dX0_inches_2 ?_
  refine v_istore_n (L' := [(2, vi 0), (1, vi 0), (0, vr 5)]) C dX0_inches_3 rfl (by decide) rfl ?_
  exact v_sub [2, 1, 0] rfl (hJ4 _ _ _ h)
def VX0_inches_4 (E : FX) (l : Launch) (D : Nat) (post : Option AV → MM → Prop) (J4 : MM → Int → Int → Prop) (M : MM) (x1 : Int) (x2 : Int) : Prop :=
  R32 x2 ∧ (R32 (M 5 3) ∧ ((M 5 3 ≤ x2 → post (some (vi x1)) M) ∧ (¬ M 5 3 ≤ x2 → Con E l D qX7_at [vr 7, vi x2] M (fun r M3 => ∃ y4 : Int, r = some (vi y4) ∧ (∀ y6 : Int, y6 = x1 + y4 → (∀ y8 : Int, y8 = x2 + 1 → (J4 M3 y6 y8)))))))
set_option maxRecDepth 20000 in
theorem SX0_inches_4 {E : FX} {l : Launch} {D : Nat} {post : Option AV → MM → Prop} {z : RT} {J4 : MM → Int → Int → Prop} (C : Cx E z D RX0 cX0_inches 3) (r : Rt E z (some .int) post) (hJ4 : ∀ (M : MM) (x1 : Int) (x2 : Int), J4 M x1 x2 → Aj E l z 4 [(0, vr 5), (1, vi x1), (2, vi x2)] [] M) {M : MM} {x1 : Int} {x2 : Int} (h : VX0_inches_4 E l D post J4 M x1 x2) : Aj E l z 4 [(0, vr 5), (1, vi x1), (2, vi x2)] [] M := by
  unfold VX0_inches_4 at h
  refine v_iload_n (i := 2) C dX0_inches_4 rfl rfl ?_
  refine v_aload_n (i := 0) C dX0_inches_5 rfl rfl ?_
  refine v_getf (k := 5) C fl_RX0_31 rfl rfl dX0_inches_6 ?_
  show Aj E l z (6 + 3) [(0, vr 5), (1, vi x1), (2, vi x2)] [vi (M 5 3), vi x2] M
  refine v_icmp_ge (tgt := 29) C h.1 h.2.1 dX0_inches_9 (by decide) (fun c => ?_) (fun c => ?_)
  · have g1 := h.2.2.1 c
    refine v_iload_n (i := 1) C dX0_inches_29 rfl rfl ?_
    exact v_iret C r dX0_inches_30 g1
  · have g2 := h.2.2.2 c
    refine v_iload_n (i := 1) C dX0_inches_12 rfl rfl ?_
    refine v_aload_n (i := 0) C dX0_inches_13 rfl rfl ?_
    refine v_getf (k := 5) C fl_RX0_15 rfl rfl dX0_inches_14 ?_
    show Aj E l z (14 + 3) [(0, vr 5), (1, vi x1), (2, vi x2)] [vr 7, vi x1] M
    refine v_iload_n (i := 2) C dX0_inches_17 rfl rfl ?_
    refine v_callS (q := qX7_at) (As := [vr 7, vi x2]) (S := [vi x1]) C co_yX7_at ml_RX0_41 st_yX7_at ini_RX7 hq_X7_at (by decide) (Nat.le_of_ble_eq_true rfl) rfl dX0_inches_18 (Con.mono g2 (fun rr M3 hr => ?_) (Nat.le_refl _))
    obtain ⟨y4, rfl, g5⟩ := hr
    show Aj E l z (18 + 3) [(0, vr 5), (1, vi x1), (2, vi x2)] [vi y4, vi x1] M3
    refine v_iadd C dX0_inches_21 ?_
    obtain ⟨y6, hy6⟩ : ∃ y : Int, y = x1 + y4 := ⟨_, rfl⟩
    have g7 := g5 y6 hy6
    refine v_eqi hy6 ?_
    refine v_istore_n (L' := [(1, vi y6), (0, vr 5), (2, vi x2)]) C dX0_inches_22 rfl (by decide) rfl ?_
    obtain ⟨y8, hy8⟩ : ∃ y : Int, y = x2 + 1 := ⟨_, rfl⟩
    have g9 := g7 y8 hy8
    refine v_iinc (i := 2) (L' := [(2, vi y8), (1, vi y6), (0, vr 5)]) C dX0_inches_23 rfl (by decide) hy8 rfl ?_
    refine v_goto C dX0_inches_26 (tgt := 4) (by decide) ?_
    exact v_sub [2, 1, 0] rfl (hJ4 _ _ _ g9)
theorem RX0_inches {E : FX} {l : Launch} {D : Nat} {post : Option AV → MM → Prop} (I4 : MM → Int → Int → Prop) (m4 : MM → Int → Int → Nat) {M : MM} (h0 : VX0_inches_0 E l D post I4 M) (h4I : ∀ (M : MM) (x1 : Int) (x2 : Int), I4 M x1 x2 → VX0_inches_4 E l D post (fun M' x1' x2' => I4 M' x1' x2' ∧ m4 M' x1' x2' < m4 M x1 x2) M x1 x2) : Con E l (D + 1) qX0_inches [vr 5] M post := by
  refine con_of (by decide +kernel) (Nat.le_of_ble_eq_true rfl) (fun z C r => ?_)
  have all : ∀ n : Nat, (∀ (M : MM) (x1 : Int) (x2 : Int), I4 M x1 x2 → m4 M x1 x2 < n → Aj E l z 4 [(0, vr 5), (1, vi x1), (2, vi x2)] [] M) := by
    intro n
    induction n with
    | zero => exact fun _ _ _ _ hm => absurd hm (Nat.not_lt_zero _)
    | succ n ih => exact fun M x1 x2 hi hm => SX0_inches_4 C r (fun M' x1' x2' hj => ih M' x1' x2' hj.1 (by omega)) (h4I M x1 x2 hi)
  exact v_sub [0] rfl (SX0_inches_0 C r (fun M' x1' x2' hj => (all _) M' x1' x2' hj (Nat.lt_succ_self _)) h0)
def VX0_waste_0 (E : FX) (l : Launch) (D : Nat) (post : Option AV → MM → Prop) (J4 : MM → Int → Int → Prop) (M : MM) : Prop :=
  J4 M 0 0
set_option maxRecDepth 20000 in
theorem SX0_waste_0 {E : FX} {l : Launch} {D : Nat} {post : Option AV → MM → Prop} {z : RT} {J4 : MM → Int → Int → Prop} (C : Cx E z D RX0 cX0_waste 5) (r : Rt E z (some .int) post) (hJ4 : ∀ (M : MM) (x2 : Int) (x3 : Int), J4 M x2 x3 → Aj E l z 4 [(0, vr 5), (1, vr 37), (2, vi x2), (3, vi x3)] [] M) {M : MM} (h : VX0_waste_0 E l D post J4 M) : Aj E l z 0 [(0, vr 5), (1, vr 37)] [] M := by
  unfold VX0_waste_0 at h
  refine v_iconst C dX0_waste_0 ?_
  refine v_istore_n (L' := [(2, vi 0), (0, vr 5), (1, vr 37)]) C dX0_waste_1 rfl (by decide) rfl ?_
  refine v_iconst C dX0_waste_2 ?_
  refine v_istore_n (L' := [(3, vi 0), (2, vi 0), (0, vr 5), (1, vr 37)]) C dX0_waste_3 rfl (by decide) rfl ?_
  exact v_sub [2, 3, 1, 0] rfl (hJ4 _ _ _ h)
def VX0_waste_4 (E : FX) (l : Launch) (D : Nat) (post : Option AV → MM → Prop) (J4 : MM → Int → Int → Prop) (M : MM) (x2 : Int) (x3 : Int) : Prop :=
  R32 x3 ∧ (R32 (M 5 3) ∧ ((M 5 3 ≤ x3 → post (some (vi x2)) M) ∧ (¬ M 5 3 ≤ x3 → Con E l D qX7_at [vr 7, vi x3] M (fun r M3 => ∃ y4 : Int, r = some (vi y4) ∧ (R32 y4 ∧ (Con E l D qX6_lastTo [vr 37, vj y4] M3 (fun r M6 => ∃ y7 : Int, r = some (vj y7) ∧ (∀ y9 : Int, y9 = x2 + (y4 - (w32 y7)) → (∀ y11 : Int, y11 = x3 + 1 → (J4 M6 y9 y11))))))))))
set_option maxRecDepth 20000 in
theorem SX0_waste_4 {E : FX} {l : Launch} {D : Nat} {post : Option AV → MM → Prop} {z : RT} {J4 : MM → Int → Int → Prop} (C : Cx E z D RX0 cX0_waste 5) (r : Rt E z (some .int) post) (hJ4 : ∀ (M : MM) (x2 : Int) (x3 : Int), J4 M x2 x3 → Aj E l z 4 [(0, vr 5), (1, vr 37), (2, vi x2), (3, vi x3)] [] M) {M : MM} {x2 : Int} {x3 : Int} (h : VX0_waste_4 E l D post J4 M x2 x3) : Aj E l z 4 [(0, vr 5), (1, vr 37), (2, vi x2), (3, vi x3)] [] M := by
  unfold VX0_waste_4 at h
  refine v_iload_n (i := 3) C dX0_waste_4 rfl rfl ?_
  refine v_aload_n (i := 0) C dX0_waste_5 rfl rfl ?_
  refine v_getf (k := 5) C fl_RX0_31 rfl rfl dX0_waste_6 ?_
  show Aj E l z (6 + 3) [(0, vr 5), (1, vr 37), (2, vi x2), (3, vi x3)] [vi (M 5 3), vi x3] M
  refine v_icmp_ge (tgt := 42) C h.1 h.2.1 dX0_waste_9 (by decide) (fun c => ?_) (fun c => ?_)
  · have g1 := h.2.2.1 c
    refine v_iload_n (i := 2) C dX0_waste_42 rfl rfl ?_
    exact v_iret C r dX0_waste_43 g1
  · have g2 := h.2.2.2 c
    refine v_aload_n (i := 0) C dX0_waste_12 rfl rfl ?_
    refine v_getf (k := 5) C fl_RX0_15 rfl rfl dX0_waste_13 ?_
    show Aj E l z (13 + 3) [(0, vr 5), (1, vr 37), (2, vi x2), (3, vi x3)] [vr 7] M
    refine v_iload_n (i := 3) C dX0_waste_16 rfl rfl ?_
    refine v_callS (q := qX7_at) (As := [vr 7, vi x3]) (S := []) C co_yX7_at ml_RX0_41 st_yX7_at ini_RX7 hq_X7_at (by decide) (Nat.le_of_ble_eq_true rfl) rfl dX0_waste_17 (Con.mono g2 (fun rr M3 hr => ?_) (Nat.le_refl _))
    obtain ⟨y4, rfl, g5⟩ := hr
    show Aj E l z (17 + 3) [(0, vr 5), (1, vr 37), (2, vi x2), (3, vi x3)] [vi y4] M3
    refine v_istore (L' := [(4, vi y4), (0, vr 5), (1, vr 37), (2, vi x2), (3, vi x3)]) C dX0_waste_20 (by decide) rfl ?_
    refine v_iload_n (i := 3) C dX0_waste_22 rfl rfl ?_
    refine v_iload (i := 0) C dX0_waste_23 rfl ?_
    refine v_aload_n (i := 2) C dX0_waste_25 rfl rfl ?_
    refine v_iload (i := 0) C dX0_waste_26 rfl ?_
    refine v_i2l C g5.1 dX0_waste_28 ?_
    refine v_callV (q := qX6_lastTo) (k := 37) (As := [vj y4]) (S := [vi y4, vi x2]) C co_yX6_lastTo ml_RX0_45 im_yX6_lastTo se_yX6_lastTo ini_RX6 rfl rfl hq_X6_lastTo (by decide) (Nat.le_of_ble_eq_true rfl) rfl dX0_waste_29 (Con.mono g5.2 (fun rr M6 hr => ?_) (Nat.le_refl _))
    obtain ⟨y7, rfl, g8⟩ := hr
    show Aj E l z (29 + 3) [(4, vi y4), (0, vr 5), (1, vr 37), (2, vi x2), (3, vi x3)] [vj y7, vi y4, vi x2] M6
    refine v_l2i C dX0_waste_32 ?_
    refine v_isub C dX0_waste_33 ?_
    refine v_iadd C dX0_waste_34 ?_
    obtain ⟨y9, hy9⟩ : ∃ y : Int, y = x2 + (y4 - (w32 y7)) := ⟨_, rfl⟩
    have g10 := g8 y9 hy9
    refine v_eqi hy9 ?_
    refine v_istore_n (L' := [(2, vi y9), (4, vi y4), (0, vr 5), (1, vr 37), (3, vi x3)]) C dX0_waste_35 rfl (by decide) rfl ?_
    obtain ⟨y11, hy11⟩ : ∃ y : Int, y = x3 + 1 := ⟨_, rfl⟩
    have g12 := g10 y11 hy11
    refine v_iinc (i := 4) (L' := [(3, vi y11), (2, vi y9), (4, vi y4), (0, vr 5), (1, vr 37)]) C dX0_waste_36 rfl (by decide) hy11 rfl ?_
    refine v_goto C dX0_waste_39 (tgt := 4) (by decide) ?_
    exact v_sub [3, 4, 1, 0] rfl (hJ4 _ _ _ g12)
theorem RX0_waste {E : FX} {l : Launch} {D : Nat} {post : Option AV → MM → Prop} (I4 : MM → Int → Int → Prop) (m4 : MM → Int → Int → Nat) {M : MM} (h0 : VX0_waste_0 E l D post I4 M) (h4I : ∀ (M : MM) (x2 : Int) (x3 : Int), I4 M x2 x3 → VX0_waste_4 E l D post (fun M' x2' x3' => I4 M' x2' x3' ∧ m4 M' x2' x3' < m4 M x2 x3) M x2 x3) : Con E l (D + 1) qX0_waste [vr 5, vr 37] M post := by
  refine con_of (by decide +kernel) (Nat.le_of_ble_eq_true rfl) (fun z C r => ?_)
  have all : ∀ n : Nat, (∀ (M : MM) (x2 : Int) (x3 : Int), I4 M x2 x3 → m4 M x2 x3 < n → Aj E l z 4 [(0, vr 5), (1, vr 37), (2, vi x2), (3, vi x3)] [] M) := by
    intro n
    induction n with
    | zero => exact fun _ _ _ _ hm => absurd hm (Nat.not_lt_zero _)
    | succ n ih => exact fun M x2 x3 hi hm => SX0_waste_4 C r (fun M' x2' x3' hj => ih M' x2' x3' hj.1 (by omega)) (h4I M x2 x3 hi)
  exact v_sub [0, 1] rfl (SX0_waste_0 C r (fun M' x2' x3' hj => (all _) M' x2' x3' hj (Nat.lt_succ_self _)) h0)
def VX0_sell_0 (E : FX) (l : Launch) (D : Nat) (post : Option AV → MM → Prop) (M : MM) (x1 : Int) (x2 : Int) : Prop :=
  Con E l D qX7_at [vr 7, vi x1] M (fun r M1 => ∃ y2 : Int, r = some (vi y2) ∧ (∀ y4 : Int, y4 = y2 - x2 → (Con E l D qX7_at [vr 6, vi x1] M1 (fun r M6 => ∃ y7 : Int, r = some (vi y7) ∧ (Con E l D qX0_clothOf [vi y7] M6 (fun r M9 => ∃ o10 : Nat, r = some (vr o10) ∧ (∃ k12 : Nat, o10 = 101 + k12 ∧ k12 < 4 ∧ (R32 (y4 - (lbc k12)) ∧ (∀ y13 : Int, y13 = (if 0 < (y4 - (lbc k12)) then (y4 - (lbc k12)) else 0) → (Con E l D qX7_put [vr 7, vi x1, vi y13] M9 (fun r M15 => r = none ∧ (∀ M17 : MM, M17 = up M15 5 4 ((M15 5 4) + x2) → (post (some (vi y13)) M17)))))))))))))
set_option maxRecDepth 20000 in
theorem SX0_sell_0 {E : FX} {l : Launch} {D : Nat} {post : Option AV → MM → Prop} {z : RT} (C : Cx E z D RX0 cX0_sell 4) (r : Rt E z (some .int) post) (hD : 1 ≤ D) {M : MM} {x1 : Int} {x2 : Int} (h : VX0_sell_0 E l D post M x1 x2) : Aj E l z 0 [(0, vr 5), (1, vi x1), (2, vi x2)] [] M := by
  unfold VX0_sell_0 at h
  refine v_aload_n (i := 0) C dX0_sell_0 rfl rfl ?_
  refine v_getf (k := 5) C fl_RX0_15 rfl rfl dX0_sell_1 ?_
  show Aj E l z (1 + 3) [(0, vr 5), (1, vi x1), (2, vi x2)] [vr 7] M
  refine v_iload_n (i := 1) C dX0_sell_4 rfl rfl ?_
  refine v_callS (q := qX7_at) (As := [vr 7, vi x1]) (S := []) C co_yX7_at ml_RX0_41 st_yX7_at ini_RX7 hq_X7_at (by decide) (Nat.le_of_ble_eq_true rfl) rfl dX0_sell_5 (Con.mono h (fun rr M1 hr => ?_) (Nat.le_refl _))
  obtain ⟨y2, rfl, g3⟩ := hr
  show Aj E l z (5 + 3) [(0, vr 5), (1, vi x1), (2, vi x2)] [vi y2] M1
  refine v_iload_n (i := 2) C dX0_sell_8 rfl rfl ?_
  refine v_isub C dX0_sell_9 ?_
  obtain ⟨y4, hy4⟩ : ∃ y : Int, y = y2 - x2 := ⟨_, rfl⟩
  have g5 := g3 y4 hy4
  refine v_eqi hy4 ?_
  refine v_istore_n (L' := [(3, vi y4), (0, vr 5), (1, vi x1), (2, vi x2)]) C dX0_sell_10 rfl (by decide) rfl ?_
  refine v_iconst C dX0_sell_11 ?_
  refine v_iload_n (i := 0) C dX0_sell_12 rfl rfl ?_
  refine v_aload_n (i := 1) C dX0_sell_13 rfl rfl ?_
  refine v_getf (k := 5) C fl_RX0_9 rfl rfl dX0_sell_14 ?_
  show Aj E l z (14 + 3) [(3, vi y4), (0, vr 5), (1, vi x1), (2, vi x2)] [vr 6, vi y4, vi 0] M1
  refine v_iload_n (i := 2) C dX0_sell_17 rfl rfl ?_
  refine v_callS (q := qX7_at) (As := [vr 6, vi x1]) (S := [vi y4, vi 0]) C co_yX7_at ml_RX0_41 st_yX7_at ini_RX7 hq_X7_at (by decide) (Nat.le_of_ble_eq_true rfl) rfl dX0_sell_18 (Con.mono g5 (fun rr M6 hr => ?_) (Nat.le_refl _))
  obtain ⟨y7, rfl, g8⟩ := hr
  show Aj E l z (18 + 3) [(3, vi y4), (0, vr 5), (1, vi x1), (2, vi x2)] [vi y7, vi y4, vi 0] M6
  refine v_callS (q := qX0_clothOf) (As := [vi y7]) (S := [vi y4, vi 0]) C co_yX0_clothOf ml_RX0_51 st_yX0_clothOf ini_RX0 hq_X0_clothOf (by decide) (Nat.le_of_ble_eq_true rfl) rfl dX0_sell_21 (Con.mono g8 (fun rr M9 hr => ?_) (Nat.le_refl _))
  obtain ⟨o10, rfl, g11⟩ := hr
  show Aj E l z (21 + 3) [(3, vi y4), (0, vr 5), (1, vi x1), (2, vi x2)] [vr o10, vi y4, vi 0] M9
  obtain ⟨k12, ek12, lk12, gk12⟩ := g11
  rw [ek12]
  refine v_clCut (i := k12) C lk12 fk_RX0_55 dX0_sell_24 ?_
  refine v_isub C dX0_sell_27 ?_
  refine v_max (S := []) C hD ml_RX0_60 (Nat.le_of_ble_eq_true rfl) (by decide) gk12.1 dX0_sell_28 ?_
  obtain ⟨y13, hy13⟩ : ∃ y : Int, y = (if 0 < (y4 - (lbc k12)) then (y4 - (lbc k12)) else 0) := ⟨_, rfl⟩
  have g14 := gk12.2 y13 hy13
  refine v_eqi hy13 ?_
  refine v_istore_n (L' := [(3, vi y13), (0, vr 5), (1, vi x1), (2, vi x2)]) C dX0_sell_31 rfl (by decide) rfl ?_
  refine v_aload_n (i := 1) C dX0_sell_32 rfl rfl ?_
  refine v_getf (k := 5) C fl_RX0_15 rfl rfl dX0_sell_33 ?_
  show Aj E l z (33 + 3) [(3, vi y13), (0, vr 5), (1, vi x1), (2, vi x2)] [vr 7] M9
  refine v_iload_n (i := 2) C dX0_sell_36 rfl rfl ?_
  refine v_iload_n (i := 0) C dX0_sell_37 rfl rfl ?_
  refine v_callS (q := qX7_put) (As := [vr 7, vi x1, vi y13]) (S := []) C co_yX7_put ml_RX0_37 st_yX7_put ini_RX7 hq_X7_put (by decide) (Nat.le_of_ble_eq_true rfl) rfl dX0_sell_38 (Con.mono g14 (fun rr M15 hr => ?_) (Nat.le_refl _))
  obtain ⟨rfl, g16⟩ := hr
  show Aj E l z (38 + 3) [(3, vi y13), (0, vr 5), (1, vi x1), (2, vi x2)] [] M15
  refine v_aload_n (i := 1) C dX0_sell_41 rfl rfl ?_
  refine v_dup C rfl dX0_sell_42 ?_
  refine v_getf (k := 5) C fl_RX0_34 rfl rfl dX0_sell_43 ?_
  show Aj E l z (43 + 3) [(3, vi y13), (0, vr 5), (1, vi x1), (2, vi x2)] [vi (M15 5 4), vr 5] M15
  refine v_iload_n (i := 3) C dX0_sell_46 rfl rfl ?_
  refine v_iadd C dX0_sell_47 ?_
  refine v_putf (k := 5) (x := (M15 5 4) + x2) (t := 0) C fp_RX0_34 rfl rfl (by decide) (by simp [fv, up]) rfl rfl dX0_sell_48 ?_
  obtain ⟨M17, hM17⟩ : ∃ X : MM, X = up M15 5 4 ((M15 5 4) + x2) := ⟨_, rfl⟩
  refine v_eqM hM17 ?_
  have g18 := g16 M17 hM17
  refine v_iload_n (i := 0) C dX0_sell_51 rfl rfl ?_
  exact v_iret C r dX0_sell_52 g18
theorem RX0_sell {E : FX} {l : Launch} {D : Nat} {post : Option AV → MM → Prop} (hD : 1 ≤ D) {M : MM} {x1 : Int} {x2 : Int} (h0 : VX0_sell_0 E l D post M x1 x2) : Con E l (D + 1) qX0_sell [vr 5, vi x1, vi x2] M post := by
  refine con_of (by decide +kernel) (Nat.le_of_ble_eq_true rfl) (fun z C r => ?_)
  exact v_sub [0, 1, 2] rfl (SX0_sell_0 C r hD h0)
def VX0_canBeSewn_56 (E : FX) (l : Launch) (D : Nat) (post : Option AV → MM → Prop) (M : MM) (s0 : Int) : Prop :=
  (s0 = 0 ∨ s0 = 1) ∧ (post (some (vi s0)) M)
set_option maxRecDepth 20000 in
theorem SX0_canBeSewn_56 {E : FX} {l : Launch} {D : Nat} {post : Option AV → MM → Prop} {z : RT} (C : Cx E z D RX0 cX0_canBeSewn 4) (r : Rt E z (some .boolean) post) {M : MM} {s0 : Int} (h : VX0_canBeSewn_56 E l D post M s0) : Aj E l z 56 [] [vi s0] M := by
  unfold VX0_canBeSewn_56 at h
  exact v_zret C r h.1 dX0_canBeSewn_56 h.2
def VX0_canBeSewn_55 (E : FX) (l : Launch) (D : Nat) (post : Option AV → MM → Prop) (M : MM) : Prop :=
  VX0_canBeSewn_56 E l D post M 0
set_option maxRecDepth 20000 in
theorem SX0_canBeSewn_55 {E : FX} {l : Launch} {D : Nat} {post : Option AV → MM → Prop} {z : RT} (C : Cx E z D RX0 cX0_canBeSewn 4) (r : Rt E z (some .boolean) post) {M : MM} (h : VX0_canBeSewn_55 E l D post M) : Aj E l z 55 [] [] M := by
  unfold VX0_canBeSewn_55 at h
  refine v_iconst C dX0_canBeSewn_55 ?_
  exact v_sub [] rfl (SX0_canBeSewn_56 C r h)
def VX0_canBeSewn_24 (E : FX) (l : Launch) (D : Nat) (post : Option AV → MM → Prop) (M : MM) (x1 : Int) (x2 : Int) (s0 : Int) : Prop :=
  R32 s0 ∧ ((s0 = 0 → VX0_canBeSewn_56 E l D post M 0) ∧ (¬ s0 = 0 → Con E l D qX7_at [vr 7, vi x1] M (fun r M3 => ∃ y4 : Int, r = some (vi y4) ∧ (R32 y4 ∧ ((y4 ≤ 0 → VX0_canBeSewn_56 E l D post M3 0) ∧ (¬ y4 ≤ 0 → Con E l D qX7_at [vr 7, vi x2] M3 (fun r M8 => ∃ y9 : Int, r = some (vi y9) ∧ (R32 y9 ∧ ((y9 ≤ 0 → VX0_canBeSewn_56 E l D post M8 0) ∧ (¬ y9 ≤ 0 → VX0_canBeSewn_56 E l D post M8 1))))))))))
set_option maxRecDepth 20000 in
theorem SX0_canBeSewn_24 {E : FX} {l : Launch} {D : Nat} {post : Option AV → MM → Prop} {z : RT} (C : Cx E z D RX0 cX0_canBeSewn 4) (r : Rt E z (some .boolean) post) {M : MM} {x1 : Int} {x2 : Int} {s0 : Int} (h : VX0_canBeSewn_24 E l D post M x1 x2 s0) : Aj E l z 24 [(0, vr 5), (1, vi x1), (2, vi x2)] [vi s0] M := by
  unfold VX0_canBeSewn_24 at h
  refine v_istore_n (L' := [(3, vi s0), (0, vr 5), (1, vi x1), (2, vi x2)]) C dX0_canBeSewn_24 rfl (by decide) rfl ?_
  refine v_iload_n (i := 0) C dX0_canBeSewn_25 rfl rfl ?_
  refine v_if_eq (tgt := 55) C h.1 dX0_canBeSewn_26 (by decide) (fun c => ?_) (fun c => ?_)
  · have g1 := h.2.1 c
    refine v_iconst C dX0_canBeSewn_55 ?_
    exact v_sub [] rfl (SX0_canBeSewn_56 C r g1)
  · have g2 := h.2.2 c
    refine v_aload_n (i := 1) C dX0_canBeSewn_29 rfl rfl ?_
    refine v_getf (k := 5) C fl_RX0_15 rfl rfl dX0_canBeSewn_30 ?_
    show Aj E l z (30 + 3) [(3, vi s0), (0, vr 5), (1, vi x1), (2, vi x2)] [vr 7] M
    refine v_iload_n (i := 2) C dX0_canBeSewn_33 rfl rfl ?_
    refine v_callS (q := qX7_at) (As := [vr 7, vi x1]) (S := []) C co_yX7_at ml_RX0_41 st_yX7_at ini_RX7 hq_X7_at (by decide) (Nat.le_of_ble_eq_true rfl) rfl dX0_canBeSewn_34 (Con.mono g2 (fun rr M3 hr => ?_) (Nat.le_refl _))
    obtain ⟨y4, rfl, g5⟩ := hr
    show Aj E l z (34 + 3) [(3, vi s0), (0, vr 5), (1, vi x1), (2, vi x2)] [vi y4] M3
    refine v_if_le (tgt := 55) C g5.1 dX0_canBeSewn_37 (by decide) (fun c => ?_) (fun c => ?_)
    · have g6 := g5.2.1 c
      refine v_iconst C dX0_canBeSewn_55 ?_
      exact v_sub [] rfl (SX0_canBeSewn_56 C r g6)
    · have g7 := g5.2.2 c
      refine v_aload_n (i := 1) C dX0_canBeSewn_40 rfl rfl ?_
      refine v_getf (k := 5) C fl_RX0_15 rfl rfl dX0_canBeSewn_41 ?_
      show Aj E l z (41 + 3) [(3, vi s0), (0, vr 5), (1, vi x1), (2, vi x2)] [vr 7] M3
      refine v_iload_n (i := 3) C dX0_canBeSewn_44 rfl rfl ?_
      refine v_callS (q := qX7_at) (As := [vr 7, vi x2]) (S := []) C co_yX7_at ml_RX0_41 st_yX7_at ini_RX7 hq_X7_at (by decide) (Nat.le_of_ble_eq_true rfl) rfl dX0_canBeSewn_45 (Con.mono g7 (fun rr M8 hr => ?_) (Nat.le_refl _))
      obtain ⟨y9, rfl, g10⟩ := hr
      show Aj E l z (45 + 3) [(3, vi s0), (0, vr 5), (1, vi x1), (2, vi x2)] [vi y9] M8
      refine v_if_le (tgt := 55) C g10.1 dX0_canBeSewn_48 (by decide) (fun c => ?_) (fun c => ?_)
      · have g11 := g10.2.1 c
        refine v_iconst C dX0_canBeSewn_55 ?_
        exact v_sub [] rfl (SX0_canBeSewn_56 C r g11)
      · have g12 := g10.2.2 c
        refine v_iconst C dX0_canBeSewn_51 ?_
        refine v_goto C dX0_canBeSewn_52 (tgt := 56) (by decide) ?_
        exact v_sub [] rfl (SX0_canBeSewn_56 C r g12)
def VX0_canBeSewn_0 (E : FX) (l : Launch) (D : Nat) (post : Option AV → MM → Prop) (M : MM) (x1 : Int) (x2 : Int) : Prop :=
  Con E l D qX7_at [vr 6, vi x1] M (fun r M13 => ∃ y14 : Int, r = some (vi y14) ∧ (Con E l D qX7_at [vr 6, vi x2] M13 (fun r M16 => ∃ y17 : Int, r = some (vi y17) ∧ (R32 y14 ∧ (R32 y17 ∧ ((¬ y14 = y17 → VX0_canBeSewn_24 E l D post M16 x1 x2 0) ∧ (y14 = y17 → VX0_canBeSewn_24 E l D post M16 x1 x2 1)))))))
set_option maxRecDepth 20000 in
theorem SX0_canBeSewn_0 {E : FX} {l : Launch} {D : Nat} {post : Option AV → MM → Prop} {z : RT} (C : Cx E z D RX0 cX0_canBeSewn 4) (r : Rt E z (some .boolean) post) {M : MM} {x1 : Int} {x2 : Int} (h : VX0_canBeSewn_0 E l D post M x1 x2) : Aj E l z 0 [(0, vr 5), (1, vi x1), (2, vi x2)] [] M := by
  unfold VX0_canBeSewn_0 at h
  refine v_aload_n (i := 0) C dX0_canBeSewn_0 rfl rfl ?_
  refine v_getf (k := 5) C fl_RX0_9 rfl rfl dX0_canBeSewn_1 ?_
  show Aj E l z (1 + 3) [(0, vr 5), (1, vi x1), (2, vi x2)] [vr 6] M
  refine v_iload_n (i := 1) C dX0_canBeSewn_4 rfl rfl ?_
  refine v_callS (q := qX7_at) (As := [vr 6, vi x1]) (S := []) C co_yX7_at ml_RX0_41 st_yX7_at ini_RX7 hq_X7_at (by decide) (Nat.le_of_ble_eq_true rfl) rfl dX0_canBeSewn_5 (Con.mono h (fun rr M13 hr => ?_) (Nat.le_refl _))
  obtain ⟨y14, rfl, g15⟩ := hr
  show Aj E l z (5 + 3) [(0, vr 5), (1, vi x1), (2, vi x2)] [vi y14] M13
  refine v_aload_n (i := 0) C dX0_canBeSewn_8 rfl rfl ?_
  refine v_getf (k := 5) C fl_RX0_9 rfl rfl dX0_canBeSewn_9 ?_
  show Aj E l z (9 + 3) [(0, vr 5), (1, vi x1), (2, vi x2)] [vr 6, vi y14] M13
  refine v_iload_n (i := 2) C dX0_canBeSewn_12 rfl rfl ?_
  refine v_callS (q := qX7_at) (As := [vr 6, vi x2]) (S := [vi y14]) C co_yX7_at ml_RX0_41 st_yX7_at ini_RX7 hq_X7_at (by decide) (Nat.le_of_ble_eq_true rfl) rfl dX0_canBeSewn_13 (Con.mono g15 (fun rr M16 hr => ?_) (Nat.le_refl _))
  obtain ⟨y17, rfl, g18⟩ := hr
  show Aj E l z (13 + 3) [(0, vr 5), (1, vi x1), (2, vi x2)] [vi y17, vi y14] M16
  refine v_icmp_ne (tgt := 23) C g18.1 g18.2.1 dX0_canBeSewn_16 (by decide) (fun c => ?_) (fun c => ?_)
  · have g19 := g18.2.2.1 c
    refine v_iconst C dX0_canBeSewn_23 ?_
    exact v_sub [0, 1, 2] rfl (SX0_canBeSewn_24 C r g19)
  · have g20 := g18.2.2.2 c
    refine v_iconst C dX0_canBeSewn_19 ?_
    refine v_goto C dX0_canBeSewn_20 (tgt := 24) (by decide) ?_
    exact v_sub [0, 1, 2] rfl (SX0_canBeSewn_24 C r g20)
theorem RX0_canBeSewn {E : FX} {l : Launch} {D : Nat} {post : Option AV → MM → Prop} {M : MM} {x1 : Int} {x2 : Int} (h0 : VX0_canBeSewn_0 E l D post M x1 x2) : Con E l (D + 1) qX0_canBeSewn [vr 5, vi x1, vi x2] M post := by
  refine con_of (by decide +kernel) (Nat.le_of_ble_eq_true rfl) (fun z C r => ?_)
  exact v_sub [0, 1, 2] rfl (SX0_canBeSewn_0 C r h0)
def VX0_sew_0 (E : FX) (l : Launch) (D : Nat) (post : Option AV → MM → Prop) (M : MM) (x1 : Int) (x2 : Int) (x3 : Int) : Prop :=
  Con E l D qX7_put [vr 7, vi x1, vi x3] M (fun r M1 => r = none ∧ (Con E l D qX7_put [vr 7, vi x2, vi 0] M1 (fun r M3 => r = none ∧ (post none M3))))
set_option maxRecDepth 20000 in
theorem SX0_sew_0 {E : FX} {l : Launch} {D : Nat} {post : Option AV → MM → Prop} {z : RT} (C : Cx E z D RX0 cX0_sew 4) (r : Rt E z none post) {M : MM} {x1 : Int} {x2 : Int} {x3 : Int} (h : VX0_sew_0 E l D post M x1 x2 x3) : Aj E l z 0 [(0, vr 5), (1, vi x1), (2, vi x2), (3, vi x3)] [] M := by
  unfold VX0_sew_0 at h
  refine v_aload_n (i := 0) C dX0_sew_0 rfl rfl ?_
  refine v_getf (k := 5) C fl_RX0_15 rfl rfl dX0_sew_1 ?_
  show Aj E l z (1 + 3) [(0, vr 5), (1, vi x1), (2, vi x2), (3, vi x3)] [vr 7] M
  refine v_iload_n (i := 1) C dX0_sew_4 rfl rfl ?_
  refine v_iload_n (i := 3) C dX0_sew_5 rfl rfl ?_
  refine v_callS (q := qX7_put) (As := [vr 7, vi x1, vi x3]) (S := []) C co_yX7_put ml_RX0_37 st_yX7_put ini_RX7 hq_X7_put (by decide) (Nat.le_of_ble_eq_true rfl) rfl dX0_sew_6 (Con.mono h (fun rr M1 hr => ?_) (Nat.le_refl _))
  obtain ⟨rfl, g2⟩ := hr
  show Aj E l z (6 + 3) [(0, vr 5), (1, vi x1), (2, vi x2), (3, vi x3)] [] M1
  refine v_aload_n (i := 0) C dX0_sew_9 rfl rfl ?_
  refine v_getf (k := 5) C fl_RX0_15 rfl rfl dX0_sew_10 ?_
  show Aj E l z (10 + 3) [(0, vr 5), (1, vi x1), (2, vi x2), (3, vi x3)] [vr 7] M1
  refine v_iload_n (i := 2) C dX0_sew_13 rfl rfl ?_
  refine v_iconst C dX0_sew_14 ?_
  refine v_callS (q := qX7_put) (As := [vr 7, vi x2, vi 0]) (S := []) C co_yX7_put ml_RX0_37 st_yX7_put ini_RX7 hq_X7_put (by decide) (Nat.le_of_ble_eq_true rfl) rfl dX0_sew_15 (Con.mono g2 (fun rr M3 hr => ?_) (Nat.le_refl _))
  obtain ⟨rfl, g4⟩ := hr
  show Aj E l z (15 + 3) [(0, vr 5), (1, vi x1), (2, vi x2), (3, vi x3)] [] M3
  exact v_vret C r dX0_sew_18 g4
theorem RX0_sew {E : FX} {l : Launch} {D : Nat} {post : Option AV → MM → Prop} {M : MM} {x1 : Int} {x2 : Int} {x3 : Int} (h0 : VX0_sew_0 E l D post M x1 x2 x3) : Con E l (D + 1) qX0_sew [vr 5, vi x1, vi x2, vi x3] M post := by
  refine con_of (by decide +kernel) (Nat.le_of_ble_eq_true rfl) (fun z C r => ?_)
  exact v_sub [0, 1, 2, 3] rfl (SX0_sew_0 C r h0)
def VX0_pick_0 (E : FX) (l : Launch) (D : Nat) (post : Option AV → MM → Prop) (J4 : MM → Int → Int → Int → Prop) (M : MM) (x1 : Int) : Prop :=
  J4 M x1 0 0
set_option maxRecDepth 20000 in
theorem SX0_pick_0 {E : FX} {l : Launch} {D : Nat} {post : Option AV → MM → Prop} {z : RT} {J4 : MM → Int → Int → Int → Prop} (C : Cx E z D RX0 cX0_pick 4) (r : Rt E z (some .int) post) (hJ4 : ∀ (M : MM) (x1 : Int) (x2 : Int) (x3 : Int), J4 M x1 x2 x3 → Aj E l z 4 [(0, vr 5), (1, vi x1), (2, vi x2), (3, vi x3)] [] M) {M : MM} {x1 : Int} (h : VX0_pick_0 E l D post J4 M x1) : Aj E l z 0 [(0, vr 5), (1, vi x1)] [] M := by
  unfold VX0_pick_0 at h
  refine v_iconst C dX0_pick_0 ?_
  refine v_istore_n (L' := [(2, vi 0), (0, vr 5), (1, vi x1)]) C dX0_pick_1 rfl (by decide) rfl ?_
  refine v_iconst C dX0_pick_2 ?_
  refine v_istore_n (L' := [(3, vi 0), (2, vi 0), (0, vr 5), (1, vi x1)]) C dX0_pick_3 rfl (by decide) rfl ?_
  exact v_sub [2, 3, 1, 0] rfl (hJ4 _ _ _ _ h)
def VX0_pick_47 (E : FX) (l : Launch) (D : Nat) (post : Option AV → MM → Prop) (J4 : MM → Int → Int → Int → Prop) (M : MM) (x1 : Int) (x2 : Int) (x3 : Int) : Prop :=
  ∀ y1 : Int, y1 = x3 + 1 → (J4 M x1 x2 y1)
set_option maxRecDepth 20000 in
theorem SX0_pick_47 {E : FX} {l : Launch} {D : Nat} {post : Option AV → MM → Prop} {z : RT} {J4 : MM → Int → Int → Int → Prop} (C : Cx E z D RX0 cX0_pick 4) (r : Rt E z (some .int) post) (hJ4 : ∀ (M : MM) (x1 : Int) (x2 : Int) (x3 : Int), J4 M x1 x2 x3 → Aj E l z 4 [(0, vr 5), (1, vi x1), (2, vi x2), (3, vi x3)] [] M) {M : MM} {x1 : Int} {x2 : Int} {x3 : Int} (h : VX0_pick_47 E l D post J4 M x1 x2 x3) : Aj E l z 47 [(0, vr 5), (1, vi x1), (2, vi x2), (3, vi x3)] [] M := by
  unfold VX0_pick_47 at h
  obtain ⟨y1, hy1⟩ : ∃ y : Int, y = x3 + 1 := ⟨_, rfl⟩
  have g2 := h y1 hy1
  refine v_iinc (i := 3) (L' := [(3, vi y1), (0, vr 5), (1, vi x1), (2, vi x2)]) C dX0_pick_47 rfl (by decide) hy1 rfl ?_
  refine v_goto C dX0_pick_50 (tgt := 4) (by decide) ?_
  exact v_sub [1, 2, 3, 0] rfl (hJ4 _ _ _ _ g2)
def VX0_pick_4 (E : FX) (l : Launch) (D : Nat) (post : Option AV → MM → Prop) (J4 : MM → Int → Int → Int → Prop) (M : MM) (x1 : Int) (x2 : Int) (x3 : Int) : Prop :=
  R32 x3 ∧ (R32 (M 5 3) ∧ ((M 5 3 ≤ x3 → post (some (vi x2)) M) ∧ (¬ M 5 3 ≤ x3 → Con E l D qX7_at [vr 6, vi x3] M (fun r M5 => ∃ y6 : Int, r = some (vi y6) ∧ (R32 y6 ∧ (R32 x1 ∧ ((¬ y6 = x1 → ∀ y10 : Int, y10 = x3 + 1 → (J4 M5 x1 x2 y10)) ∧ (y6 = x1 → Con E l D qX7_at [vr 7, vi x3] M5 (fun r M12 => ∃ y13 : Int, r = some (vi y13) ∧ (R32 y13 ∧ ((y13 ≤ 0 → ∀ y17 : Int, y17 = x3 + 1 → (J4 M12 x1 x2 y17)) ∧ (¬ y13 ≤ 0 → Con E l D qX7_put [vr 8, vi x2, vi x3] M12 (fun r M19 => r = none ∧ (∀ y21 : Int, y21 = x2 + 1 → (VX0_pick_47 E l D post J4 M19 x1 y21 x3)))))))))))))))
set_option maxRecDepth 20000 in
theorem SX0_pick_4 {E : FX} {l : Launch} {D : Nat} {post : Option AV → MM → Prop} {z : RT} {J4 : MM → Int → Int → Int → Prop} (C : Cx E z D RX0 cX0_pick 4) (r : Rt E z (some .int) post) (hJ4 : ∀ (M : MM) (x1 : Int) (x2 : Int) (x3 : Int), J4 M x1 x2 x3 → Aj E l z 4 [(0, vr 5), (1, vi x1), (2, vi x2), (3, vi x3)] [] M) {M : MM} {x1 : Int} {x2 : Int} {x3 : Int} (h : VX0_pick_4 E l D post J4 M x1 x2 x3) : Aj E l z 4 [(0, vr 5), (1, vi x1), (2, vi x2), (3, vi x3)] [] M := by
  unfold VX0_pick_4 at h
  refine v_iload_n (i := 3) C dX0_pick_4 rfl rfl ?_
  refine v_aload_n (i := 0) C dX0_pick_5 rfl rfl ?_
  refine v_getf (k := 5) C fl_RX0_31 rfl rfl dX0_pick_6 ?_
  show Aj E l z (6 + 3) [(0, vr 5), (1, vi x1), (2, vi x2), (3, vi x3)] [vi (M 5 3), vi x3] M
  refine v_icmp_ge (tgt := 53) C h.1 h.2.1 dX0_pick_9 (by decide) (fun c => ?_) (fun c => ?_)
  · have g3 := h.2.2.1 c
    refine v_iload_n (i := 2) C dX0_pick_53 rfl rfl ?_
    exact v_iret C r dX0_pick_54 g3
  · have g4 := h.2.2.2 c
    refine v_aload_n (i := 0) C dX0_pick_12 rfl rfl ?_
    refine v_getf (k := 5) C fl_RX0_9 rfl rfl dX0_pick_13 ?_
    show Aj E l z (13 + 3) [(0, vr 5), (1, vi x1), (2, vi x2), (3, vi x3)] [vr 6] M
    refine v_iload_n (i := 3) C dX0_pick_16 rfl rfl ?_
    refine v_callS (q := qX7_at) (As := [vr 6, vi x3]) (S := []) C co_yX7_at ml_RX0_41 st_yX7_at ini_RX7 hq_X7_at (by decide) (Nat.le_of_ble_eq_true rfl) rfl dX0_pick_17 (Con.mono g4 (fun rr M5 hr => ?_) (Nat.le_refl _))
    obtain ⟨y6, rfl, g7⟩ := hr
    show Aj E l z (17 + 3) [(0, vr 5), (1, vi x1), (2, vi x2), (3, vi x3)] [vi y6] M5
    refine v_iload_n (i := 1) C dX0_pick_20 rfl rfl ?_
    refine v_icmp_ne (tgt := 47) C g7.1 g7.2.1 dX0_pick_21 (by decide) (fun c => ?_) (fun c => ?_)
    · have g8 := g7.2.2.1 c
      obtain ⟨y10, hy10⟩ : ∃ y : Int, y = x3 + 1 := ⟨_, rfl⟩
      have g11 := g8 y10 hy10
      refine v_iinc (i := 3) (L' := [(3, vi y10), (0, vr 5), (1, vi x1), (2, vi x2)]) C dX0_pick_47 rfl (by decide) hy10 rfl ?_
      refine v_goto C dX0_pick_50 (tgt := 4) (by decide) ?_
      exact v_sub [1, 2, 3, 0] rfl (hJ4 _ _ _ _ g11)
    · have g9 := g7.2.2.2 c
      refine v_aload_n (i := 0) C dX0_pick_24 rfl rfl ?_
      refine v_getf (k := 5) C fl_RX0_15 rfl rfl dX0_pick_25 ?_
      show Aj E l z (25 + 3) [(0, vr 5), (1, vi x1), (2, vi x2), (3, vi x3)] [vr 7] M5
      refine v_iload_n (i := 3) C dX0_pick_28 rfl rfl ?_
      refine v_callS (q := qX7_at) (As := [vr 7, vi x3]) (S := []) C co_yX7_at ml_RX0_41 st_yX7_at ini_RX7 hq_X7_at (by decide) (Nat.le_of_ble_eq_true rfl) rfl dX0_pick_29 (Con.mono g9 (fun rr M12 hr => ?_) (Nat.le_refl _))
      obtain ⟨y13, rfl, g14⟩ := hr
      show Aj E l z (29 + 3) [(0, vr 5), (1, vi x1), (2, vi x2), (3, vi x3)] [vi y13] M12
      refine v_if_le (tgt := 47) C g14.1 dX0_pick_32 (by decide) (fun c => ?_) (fun c => ?_)
      · have g15 := g14.2.1 c
        obtain ⟨y17, hy17⟩ : ∃ y : Int, y = x3 + 1 := ⟨_, rfl⟩
        have g18 := g15 y17 hy17
        refine v_iinc (i := 3) (L' := [(3, vi y17), (0, vr 5), (1, vi x1), (2, vi x2)]) C dX0_pick_47 rfl (by decide) hy17 rfl ?_
        refine v_goto C dX0_pick_50 (tgt := 4) (by decide) ?_
        exact v_sub [1, 2, 3, 0] rfl (hJ4 _ _ _ _ g18)
      · have g16 := g14.2.2 c
        refine v_aload_n (i := 0) C dX0_pick_35 rfl rfl ?_
        refine v_getf (k := 5) C fl_RX0_18 rfl rfl dX0_pick_36 ?_
        show Aj E l z (36 + 3) [(0, vr 5), (1, vi x1), (2, vi x2), (3, vi x3)] [vr 8] M12
        refine v_iload_n (i := 2) C dX0_pick_39 rfl rfl ?_
        refine v_iload_n (i := 3) C dX0_pick_40 rfl rfl ?_
        refine v_callS (q := qX7_put) (As := [vr 8, vi x2, vi x3]) (S := []) C co_yX7_put ml_RX0_37 st_yX7_put ini_RX7 hq_X7_put (by decide) (Nat.le_of_ble_eq_true rfl) rfl dX0_pick_41 (Con.mono g16 (fun rr M19 hr => ?_) (Nat.le_refl _))
        obtain ⟨rfl, g20⟩ := hr
        show Aj E l z (41 + 3) [(0, vr 5), (1, vi x1), (2, vi x2), (3, vi x3)] [] M19
        obtain ⟨y21, hy21⟩ : ∃ y : Int, y = x2 + 1 := ⟨_, rfl⟩
        have g22 := g20 y21 hy21
        refine v_iinc (i := 2) (L' := [(2, vi y21), (0, vr 5), (1, vi x1), (3, vi x3)]) C dX0_pick_44 rfl (by decide) hy21 rfl ?_
        exact v_sub [1, 2, 0, 3] rfl (SX0_pick_47 C r hJ4 g22)
theorem RX0_pick {E : FX} {l : Launch} {D : Nat} {post : Option AV → MM → Prop} (I4 : MM → Int → Int → Int → Prop) (m4 : MM → Int → Int → Int → Nat) {M : MM} {x1 : Int} (h0 : VX0_pick_0 E l D post I4 M x1) (h4I : ∀ (M : MM) (x1 : Int) (x2 : Int) (x3 : Int), I4 M x1 x2 x3 → VX0_pick_4 E l D post (fun M' x1' x2' x3' => I4 M' x1' x2' x3' ∧ m4 M' x1' x2' x3' < m4 M x1 x2 x3) M x1 x2 x3) : Con E l (D + 1) qX0_pick [vr 5, vi x1] M post := by
  refine con_of (by decide +kernel) (Nat.le_of_ble_eq_true rfl) (fun z C r => ?_)
  have all : ∀ n : Nat, (∀ (M : MM) (x1 : Int) (x2 : Int) (x3 : Int), I4 M x1 x2 x3 → m4 M x1 x2 x3 < n → Aj E l z 4 [(0, vr 5), (1, vi x1), (2, vi x2), (3, vi x3)] [] M) := by
    intro n
    induction n with
    | zero => exact fun _ _ _ _ _ hm => absurd hm (Nat.not_lt_zero _)
    | succ n ih => exact fun M x1 x2 x3 hi hm => SX0_pick_4 C r (fun M' x1' x2' x3' hj => ih M' x1' x2' x3' hj.1 (by omega)) (h4I M x1 x2 x3 hi)
  exact v_sub [0, 1] rfl (SX0_pick_0 C r (fun M' x1' x2' x3' hj => (all _) M' x1' x2' x3' hj (Nat.lt_succ_self _)) h0)
def VX0_lengthOfPicked_0 (E : FX) (l : Launch) (D : Nat) (post : Option AV → MM → Prop) (J5 : MM → Int → Int → Int → Int → Prop) (M : MM) (x1 : Int) (x2 : Int) : Prop :=
  J5 M x1 x2 0 0
set_option maxRecDepth 20000 in
theorem SX0_lengthOfPicked_0 {E : FX} {l : Launch} {D : Nat} {post : Option AV → MM → Prop} {z : RT} {J5 : MM → Int → Int → Int → Int → Prop} (C : Cx E z D RX0 cX0_lengthOfPicked 5) (r : Rt E z (some .int) post) (hJ5 : ∀ (M : MM) (x1 : Int) (x2 : Int) (x3 : Int) (x4 : Int), J5 M x1 x2 x3 x4 → Aj E l z 5 [(0, vr 5), (1, vi x1), (2, vi x2), (3, vi x3), (4, vi x4)] [] M) {M : MM} {x1 : Int} {x2 : Int} (h : VX0_lengthOfPicked_0 E l D post J5 M x1 x2) : Aj E l z 0 [(0, vr 5), (1, vi x1), (2, vi x2)] [] M := by
  unfold VX0_lengthOfPicked_0 at h
  refine v_iconst C dX0_lengthOfPicked_0 ?_
  refine v_istore_n (L' := [(3, vi 0), (0, vr 5), (1, vi x1), (2, vi x2)]) C dX0_lengthOfPicked_1 rfl (by decide) rfl ?_
  refine v_iconst C dX0_lengthOfPicked_2 ?_
  refine v_istore (L' := [(4, vi 0), (3, vi 0), (0, vr 5), (1, vi x1), (2, vi x2)]) C dX0_lengthOfPicked_3 (by decide) rfl ?_
  exact v_sub [2, 3, 4, 1, 0] rfl (hJ5 _ _ _ _ _ h)
def VX0_lengthOfPicked_36 (E : FX) (l : Launch) (D : Nat) (post : Option AV → MM → Prop) (J5 : MM → Int → Int → Int → Int → Prop) (M : MM) (x1 : Int) (x2 : Int) (x3 : Int) (x4 : Int) : Prop :=
  ∀ y1 : Int, y1 = x4 + 1 → (J5 M x1 x2 x3 y1)
set_option maxRecDepth 20000 in
theorem SX0_lengthOfPicked_36 {E : FX} {l : Launch} {D : Nat} {post : Option AV → MM → Prop} {z : RT} {J5 : MM → Int → Int → Int → Int → Prop} (C : Cx E z D RX0 cX0_lengthOfPicked 5) (r : Rt E z (some .int) post) (hJ5 : ∀ (M : MM) (x1 : Int) (x2 : Int) (x3 : Int) (x4 : Int), J5 M x1 x2 x3 x4 → Aj E l z 5 [(0, vr 5), (1, vi x1), (2, vi x2), (3, vi x3), (4, vi x4)] [] M) {M : MM} {x1 : Int} {x2 : Int} {x3 : Int} {x4 : Int} (h : VX0_lengthOfPicked_36 E l D post J5 M x1 x2 x3 x4) : Aj E l z 36 [(0, vr 5), (1, vi x1), (2, vi x2), (3, vi x3), (4, vi x4)] [] M := by
  unfold VX0_lengthOfPicked_36 at h
  obtain ⟨y1, hy1⟩ : ∃ y : Int, y = x4 + 1 := ⟨_, rfl⟩
  have g2 := h y1 hy1
  refine v_iinc (i := 4) (L' := [(4, vi y1), (0, vr 5), (1, vi x1), (2, vi x2), (3, vi x3)]) C dX0_lengthOfPicked_36 rfl (by decide) hy1 rfl ?_
  refine v_goto C dX0_lengthOfPicked_39 (tgt := 5) (by decide) ?_
  exact v_sub [1, 2, 3, 4, 0] rfl (hJ5 _ _ _ _ _ g2)
def VX0_lengthOfPicked_5 (E : FX) (l : Launch) (D : Nat) (post : Option AV → MM → Prop) (J5 : MM → Int → Int → Int → Int → Prop) (M : MM) (x1 : Int) (x2 : Int) (x3 : Int) (x4 : Int) : Prop :=
  R32 x4 ∧ ((8 ≤ x4 → Con E l D qX0_lengthOfAll [vr 5, vi x3, vi x2] M (fun r M5 => ∃ y6 : Int, r = some (vi y6) ∧ (post (some (vi y6)) M5))) ∧ (¬ 8 ≤ x4 → R32 (iand (ishr x1 x4) 1) ∧ ((¬ iand (ishr x1 x4) 1 = 1 → ∀ y10 : Int, y10 = x4 + 1 → (J5 M x1 x2 x3 y10)) ∧ (iand (ishr x1 x4) 1 = 1 → Con E l D qX7_at [vr 8, vi x4] M (fun r M12 => ∃ y13 : Int, r = some (vi y13) ∧ (∀ y15 : Int, y15 = ior x3 (ishl 1 y13) → (VX0_lengthOfPicked_36 E l D post J5 M12 x1 x2 y15 x4)))))))
set_option maxRecDepth 20000 in
theorem SX0_lengthOfPicked_5 {E : FX} {l : Launch} {D : Nat} {post : Option AV → MM → Prop} {z : RT} {J5 : MM → Int → Int → Int → Int → Prop} (C : Cx E z D RX0 cX0_lengthOfPicked 5) (r : Rt E z (some .int) post) (hJ5 : ∀ (M : MM) (x1 : Int) (x2 : Int) (x3 : Int) (x4 : Int), J5 M x1 x2 x3 x4 → Aj E l z 5 [(0, vr 5), (1, vi x1), (2, vi x2), (3, vi x3), (4, vi x4)] [] M) {M : MM} {x1 : Int} {x2 : Int} {x3 : Int} {x4 : Int} (h : VX0_lengthOfPicked_5 E l D post J5 M x1 x2 x3 x4) : Aj E l z 5 [(0, vr 5), (1, vi x1), (2, vi x2), (3, vi x3), (4, vi x4)] [] M := by
  unfold VX0_lengthOfPicked_5 at h
  refine v_iload (i := 4) C dX0_lengthOfPicked_5 rfl ?_
  refine v_bipush C dX0_lengthOfPicked_7 (by decide) ?_
  refine v_icmp_ge (tgt := 42) C h.1 (by decide) dX0_lengthOfPicked_9 (by decide) (fun c => ?_) (fun c => ?_)
  · have g3 := h.2.1 c
    refine v_aload_n (i := 0) C dX0_lengthOfPicked_42 rfl rfl ?_
    refine v_iload_n (i := 3) C dX0_lengthOfPicked_43 rfl rfl ?_
    refine v_iload_n (i := 2) C dX0_lengthOfPicked_44 rfl rfl ?_
    refine v_callV (q := qX0_lengthOfAll) (k := 5) (As := [vi x3, vi x2]) (S := []) C co_yX0_lengthOfAll ml_RX0_66 im_yX0_lengthOfAll se_yX0_lengthOfAll ini_RX0 rfl rfl hq_X0_lengthOfAll (by decide) (Nat.le_of_ble_eq_true rfl) rfl dX0_lengthOfPicked_45 (Con.mono g3 (fun rr M5 hr => ?_) (Nat.le_refl _))
    obtain ⟨y6, rfl, g7⟩ := hr
    show Aj E l z (45 + 3) [(0, vr 5), (1, vi x1), (2, vi x2), (3, vi x3), (4, vi x4)] [vi y6] M5
    exact v_iret C r dX0_lengthOfPicked_48 g7
  · have g4 := h.2.2 c
    refine v_iload_n (i := 1) C dX0_lengthOfPicked_12 rfl rfl ?_
    refine v_iload (i := 4) C dX0_lengthOfPicked_13 rfl ?_
    refine v_ishr C dX0_lengthOfPicked_15 ?_
    refine v_iconst C dX0_lengthOfPicked_16 ?_
    refine v_iand C dX0_lengthOfPicked_17 ?_
    refine v_iconst C dX0_lengthOfPicked_18 ?_
    refine v_icmp_ne (tgt := 36) C g4.1 (by decide) dX0_lengthOfPicked_19 (by decide) (fun c => ?_) (fun c => ?_)
    · have g8 := g4.2.1 c
      obtain ⟨y10, hy10⟩ : ∃ y : Int, y = x4 + 1 := ⟨_, rfl⟩
      have g11 := g8 y10 hy10
      refine v_iinc (i := 4) (L' := [(4, vi y10), (0, vr 5), (1, vi x1), (2, vi x2), (3, vi x3)]) C dX0_lengthOfPicked_36 rfl (by decide) hy10 rfl ?_
      refine v_goto C dX0_lengthOfPicked_39 (tgt := 5) (by decide) ?_
      exact v_sub [1, 2, 3, 4, 0] rfl (hJ5 _ _ _ _ _ g11)
    · have g9 := g4.2.2 c
      refine v_iload_n (i := 3) C dX0_lengthOfPicked_22 rfl rfl ?_
      refine v_iconst C dX0_lengthOfPicked_23 ?_
      refine v_aload_n (i := 0) C dX0_lengthOfPicked_24 rfl rfl ?_
      refine v_getf (k := 5) C fl_RX0_18 rfl rfl dX0_lengthOfPicked_25 ?_
      show Aj E l z (25 + 3) [(0, vr 5), (1, vi x1), (2, vi x2), (3, vi x3), (4, vi x4)] [vr 8, vi 1, vi x3] M
      refine v_iload (i := 4) C dX0_lengthOfPicked_28 rfl ?_
      refine v_callS (q := qX7_at) (As := [vr 8, vi x4]) (S := [vi 1, vi x3]) C co_yX7_at ml_RX0_41 st_yX7_at ini_RX7 hq_X7_at (by decide) (Nat.le_of_ble_eq_true rfl) rfl dX0_lengthOfPicked_30 (Con.mono g9 (fun rr M12 hr => ?_) (Nat.le_refl _))
      obtain ⟨y13, rfl, g14⟩ := hr
      show Aj E l z (30 + 3) [(0, vr 5), (1, vi x1), (2, vi x2), (3, vi x3), (4, vi x4)] [vi y13, vi 1, vi x3] M12
      refine v_ishl C dX0_lengthOfPicked_33 ?_
      refine v_ior C dX0_lengthOfPicked_34 ?_
      obtain ⟨y15, hy15⟩ : ∃ y : Int, y = ior x3 (ishl 1 y13) := ⟨_, rfl⟩
      have g16 := g14 y15 hy15
      refine v_eqi hy15 ?_
      refine v_istore_n (L' := [(3, vi y15), (0, vr 5), (1, vi x1), (2, vi x2), (4, vi x4)]) C dX0_lengthOfPicked_35 rfl (by decide) rfl ?_
      exact v_sub [1, 2, 3, 0, 4] rfl (SX0_lengthOfPicked_36 C r hJ5 g16)
theorem RX0_lengthOfPicked {E : FX} {l : Launch} {D : Nat} {post : Option AV → MM → Prop} (I5 : MM → Int → Int → Int → Int → Prop) (m5 : MM → Int → Int → Int → Int → Nat) {M : MM} {x1 : Int} {x2 : Int} (h0 : VX0_lengthOfPicked_0 E l D post I5 M x1 x2) (h5I : ∀ (M : MM) (x1 : Int) (x2 : Int) (x3 : Int) (x4 : Int), I5 M x1 x2 x3 x4 → VX0_lengthOfPicked_5 E l D post (fun M' x1' x2' x3' x4' => I5 M' x1' x2' x3' x4' ∧ m5 M' x1' x2' x3' x4' < m5 M x1 x2 x3 x4) M x1 x2 x3 x4) : Con E l (D + 1) qX0_lengthOfPicked [vr 5, vi x1, vi x2] M post := by
  refine con_of (by decide +kernel) (Nat.le_of_ble_eq_true rfl) (fun z C r => ?_)
  have all : ∀ n : Nat, (∀ (M : MM) (x1 : Int) (x2 : Int) (x3 : Int) (x4 : Int), I5 M x1 x2 x3 x4 → m5 M x1 x2 x3 x4 < n → Aj E l z 5 [(0, vr 5), (1, vi x1), (2, vi x2), (3, vi x3), (4, vi x4)] [] M) := by
    intro n
    induction n with
    | zero => exact fun _ _ _ _ _ _ hm => absurd hm (Nat.not_lt_zero _)
    | succ n ih => exact fun M x1 x2 x3 x4 hi hm => SX0_lengthOfPicked_5 C r (fun M' x1' x2' x3' x4' hj => ih M' x1' x2' x3' x4' hj.1 (by omega)) (h5I M x1 x2 x3 x4 hi)
  exact v_sub [0, 1, 2] rfl (SX0_lengthOfPicked_0 C r (fun M' x1' x2' x3' x4' hj => (all _) M' x1' x2' x3' x4' hj (Nat.lt_succ_self _)) h0)
def VX0_lengthOfAll_18 (E : FX) (l : Launch) (D : Nat) (post : Option AV → MM → Prop) (J33 : MM → Int → Int → Int → Prop) (M : MM) (x1 : Int) (s0 : Int) : Prop :=
  Con E l D qJ6_bitCount_0f7a4 [vi x1] M (fun r M1 => ∃ y2 : Int, r = some (vi y2) ∧ (∀ y4 : Int, y4 = (-s0) * (y2 - 1) → (J33 M1 x1 y4 0)))
set_option maxRecDepth 20000 in
theorem SX0_lengthOfAll_18 {E : FX} {l : Launch} {D : Nat} {post : Option AV → MM → Prop} {z : RT} {J33 : MM → Int → Int → Int → Prop} (C : Cx E z D RX0 cX0_lengthOfAll 6) (r : Rt E z (some .int) post) (hD : 1 ≤ D) (hJ33 : ∀ (M : MM) (x1 : Int) (x4 : Int) (x5 : Int), J33 M x1 x4 x5 → Aj E l z 33 [(0, vr 5), (1, vi x1), (4, vi x4), (5, vi x5)] [] M) {M : MM} {x1 : Int} {s0 : Int} (h : VX0_lengthOfAll_18 E l D post J33 M x1 s0) : Aj E l z 18 [(0, vr 5), (1, vi x1)] [vi s0] M := by
  unfold VX0_lengthOfAll_18 at h
  refine v_istore_n (L' := [(3, vi s0), (0, vr 5), (1, vi x1)]) C dX0_lengthOfAll_18 rfl (by decide) rfl ?_
  refine v_iload_n (i := 0) C dX0_lengthOfAll_19 rfl rfl ?_
  refine v_ineg C dX0_lengthOfAll_20 ?_
  refine v_iload_n (i := 2) C dX0_lengthOfAll_21 rfl rfl ?_
  refine v_callS (q := qJ6_bitCount_0f7a4) (As := [vi x1]) (S := [vi (-s0)]) C co_yJ6_bitCount_0f7a4 ml_RX0_73 st_yJ6_bitCount_0f7a4 ini_RJ6 hq_J6_bitCount_0f7a4 (by decide) (Nat.le_of_ble_eq_true rfl) rfl dX0_lengthOfAll_22 (Con.mono h (fun rr M1 hr => ?_) (Nat.le_refl _))
  obtain ⟨y2, rfl, g3⟩ := hr
  show Aj E l z (22 + 3) [(3, vi s0), (0, vr 5), (1, vi x1)] [vi y2, vi (-s0)] M1
  refine v_iconst C dX0_lengthOfAll_25 ?_
  refine v_isub C dX0_lengthOfAll_26 ?_
  refine v_imul C dX0_lengthOfAll_27 ?_
  obtain ⟨y4, hy4⟩ : ∃ y : Int, y = (-s0) * (y2 - 1) := ⟨_, rfl⟩
  have g5 := g3 y4 hy4
  refine v_eqi hy4 ?_
  refine v_istore (L' := [(4, vi y4), (3, vi s0), (0, vr 5), (1, vi x1)]) C dX0_lengthOfAll_28 (by decide) rfl ?_
  refine v_iconst C dX0_lengthOfAll_30 ?_
  refine v_istore (L' := [(5, vi 0), (4, vi y4), (3, vi s0), (0, vr 5), (1, vi x1)]) C dX0_lengthOfAll_31 (by decide) rfl ?_
  exact v_sub [3, 4, 1, 0] rfl (hJ33 _ _ _ _ g5)
def VX0_lengthOfAll_0 (E : FX) (l : Launch) (D : Nat) (post : Option AV → MM → Prop) (J33 : MM → Int → Int → Int → Prop) (M : MM) (x1 : Int) (x2 : Int) : Prop :=
  Con E l D qX0_clothOf [vi x2] M (fun r M6 => ∃ o7 : Nat, r = some (vr o7) ∧ (∃ k9 : Nat, o7 = 101 + k9 ∧ k9 < 4 ∧ (R32 (lbs k9) ∧ ((lbs k9 = 0 → VX0_lengthOfAll_18 E l D post J33 M6 x1 0) ∧ (¬ lbs k9 = 0 → VX0_lengthOfAll_18 E l D post J33 M6 x1 (M6 5 5))))))
set_option maxRecDepth 20000 in
theorem SX0_lengthOfAll_0 {E : FX} {l : Launch} {D : Nat} {post : Option AV → MM → Prop} {z : RT} {J33 : MM → Int → Int → Int → Prop} (C : Cx E z D RX0 cX0_lengthOfAll 6) (r : Rt E z (some .int) post) (hD : 1 ≤ D) (hJ33 : ∀ (M : MM) (x1 : Int) (x4 : Int) (x5 : Int), J33 M x1 x4 x5 → Aj E l z 33 [(0, vr 5), (1, vi x1), (4, vi x4), (5, vi x5)] [] M) {M : MM} {x1 : Int} {x2 : Int} (h : VX0_lengthOfAll_0 E l D post J33 M x1 x2) : Aj E l z 0 [(0, vr 5), (1, vi x1), (2, vi x2)] [] M := by
  unfold VX0_lengthOfAll_0 at h
  refine v_iload_n (i := 2) C dX0_lengthOfAll_0 rfl rfl ?_
  refine v_callS (q := qX0_clothOf) (As := [vi x2]) (S := []) C co_yX0_clothOf ml_RX0_51 st_yX0_clothOf ini_RX0 hq_X0_clothOf (by decide) (Nat.le_of_ble_eq_true rfl) rfl dX0_lengthOfAll_1 (Con.mono h (fun rr M6 hr => ?_) (Nat.le_refl _))
  obtain ⟨o7, rfl, g8⟩ := hr
  show Aj E l z (1 + 3) [(0, vr 5), (1, vi x1), (2, vi x2)] [vr o7] M6
  obtain ⟨k9, ek9, lk9, gk9⟩ := g8
  rw [ek9]
  refine v_clSeam (i := k9) C lk9 fk_RX0_69 dX0_lengthOfAll_4 ?_
  refine v_if_eq (tgt := 17) C gk9.1 dX0_lengthOfAll_7 (by decide) (fun c => ?_) (fun c => ?_)
  · have g10 := gk9.2.1 c
    refine v_iconst C dX0_lengthOfAll_17 ?_
    exact v_sub [0, 1] rfl (SX0_lengthOfAll_18 C r hD hJ33 g10)
  · have g11 := gk9.2.2 c
    refine v_aload_n (i := 0) C dX0_lengthOfAll_10 rfl rfl ?_
    refine v_getf (k := 5) C fl_RX0_21 rfl rfl dX0_lengthOfAll_11 ?_
    show Aj E l z (11 + 3) [(0, vr 5), (1, vi x1), (2, vi x2)] [vi (M6 5 5)] M6
    refine v_goto C dX0_lengthOfAll_14 (tgt := 18) (by decide) ?_
    exact v_sub [0, 1] rfl (SX0_lengthOfAll_18 C r hD hJ33 g11)
def VX0_lengthOfAll_66 (E : FX) (l : Launch) (D : Nat) (post : Option AV → MM → Prop) (J33 : MM → Int → Int → Int → Prop) (M : MM) (x1 : Int) (x4 : Int) (x5 : Int) : Prop :=
  ∀ y12 : Int, y12 = x5 + 1 → (J33 M x1 x4 y12)
set_option maxRecDepth 20000 in
theorem SX0_lengthOfAll_66 {E : FX} {l : Launch} {D : Nat} {post : Option AV → MM → Prop} {z : RT} {J33 : MM → Int → Int → Int → Prop} (C : Cx E z D RX0 cX0_lengthOfAll 6) (r : Rt E z (some .int) post) (hD : 1 ≤ D) (hJ33 : ∀ (M : MM) (x1 : Int) (x4 : Int) (x5 : Int), J33 M x1 x4 x5 → Aj E l z 33 [(0, vr 5), (1, vi x1), (4, vi x4), (5, vi x5)] [] M) {M : MM} {x1 : Int} {x4 : Int} {x5 : Int} (h : VX0_lengthOfAll_66 E l D post J33 M x1 x4 x5) : Aj E l z 66 [(0, vr 5), (1, vi x1), (4, vi x4), (5, vi x5)] [] M := by
  unfold VX0_lengthOfAll_66 at h
  obtain ⟨y12, hy12⟩ : ∃ y : Int, y = x5 + 1 := ⟨_, rfl⟩
  have g13 := h y12 hy12
  refine v_iinc (i := 3) (L' := [(5, vi y12), (0, vr 5), (1, vi x1), (4, vi x4)]) C dX0_lengthOfAll_66 rfl (by decide) hy12 rfl ?_
  refine v_goto C dX0_lengthOfAll_69 (tgt := 33) (by decide) ?_
  exact v_sub [1, 2, 3, 0] rfl (hJ33 _ _ _ _ g13)
def VX0_lengthOfAll_33 (E : FX) (l : Launch) (D : Nat) (post : Option AV → MM → Prop) (J33 : MM → Int → Int → Int → Prop) (M : MM) (x1 : Int) (x4 : Int) (x5 : Int) : Prop :=
  R32 x5 ∧ (R32 (M 5 3) ∧ ((M 5 3 ≤ x5 → R32 x4 ∧ (∀ y16 : Int, y16 = (if 0 < x4 then x4 else 0) → (post (some (vi y16)) M))) ∧ (¬ M 5 3 ≤ x5 → R32 (iand (ishr x1 x5) 1) ∧ ((¬ iand (ishr x1 x5) 1 = 1 → ∀ y20 : Int, y20 = x5 + 1 → (J33 M x1 x4 y20)) ∧ (iand (ishr x1 x5) 1 = 1 → Con E l D qX7_at [vr 7, vi x5] M (fun r M22 => ∃ y23 : Int, r = some (vi y23) ∧ (∀ y25 : Int, y25 = x4 + y23 → (VX0_lengthOfAll_66 E l D post J33 M22 x1 y25 x5))))))))
set_option maxRecDepth 20000 in
theorem SX0_lengthOfAll_33 {E : FX} {l : Launch} {D : Nat} {post : Option AV → MM → Prop} {z : RT} {J33 : MM → Int → Int → Int → Prop} (C : Cx E z D RX0 cX0_lengthOfAll 6) (r : Rt E z (some .int) post) (hD : 1 ≤ D) (hJ33 : ∀ (M : MM) (x1 : Int) (x4 : Int) (x5 : Int), J33 M x1 x4 x5 → Aj E l z 33 [(0, vr 5), (1, vi x1), (4, vi x4), (5, vi x5)] [] M) {M : MM} {x1 : Int} {x4 : Int} {x5 : Int} (h : VX0_lengthOfAll_33 E l D post J33 M x1 x4 x5) : Aj E l z 33 [(0, vr 5), (1, vi x1), (4, vi x4), (5, vi x5)] [] M := by
  unfold VX0_lengthOfAll_33 at h
  refine v_iload (i := 3) C dX0_lengthOfAll_33 rfl ?_
  refine v_aload_n (i := 0) C dX0_lengthOfAll_35 rfl rfl ?_
  refine v_getf (k := 5) C fl_RX0_31 rfl rfl dX0_lengthOfAll_36 ?_
  show Aj E l z (36 + 3) [(0, vr 5), (1, vi x1), (4, vi x4), (5, vi x5)] [vi (M 5 3), vi x5] M
  refine v_icmp_ge (tgt := 72) C h.1 h.2.1 dX0_lengthOfAll_39 (by decide) (fun c => ?_) (fun c => ?_)
  · have g14 := h.2.2.1 c
    refine v_iconst C dX0_lengthOfAll_72 ?_
    refine v_iload (i := 2) C dX0_lengthOfAll_73 rfl ?_
    refine v_max (S := []) C hD ml_RX0_60 (Nat.le_of_ble_eq_true rfl) (by decide) g14.1 dX0_lengthOfAll_75 ?_
    obtain ⟨y16, hy16⟩ : ∃ y : Int, y = (if 0 < x4 then x4 else 0) := ⟨_, rfl⟩
    have g17 := g14.2 y16 hy16
    refine v_eqi hy16 ?_
    exact v_iret C r dX0_lengthOfAll_78 g17
  · have g15 := h.2.2.2 c
    refine v_iload_n (i := 1) C dX0_lengthOfAll_42 rfl rfl ?_
    refine v_iload (i := 3) C dX0_lengthOfAll_43 rfl ?_
    refine v_ishr C dX0_lengthOfAll_45 ?_
    refine v_iconst C dX0_lengthOfAll_46 ?_
    refine v_iand C dX0_lengthOfAll_47 ?_
    refine v_iconst C dX0_lengthOfAll_48 ?_
    refine v_icmp_ne (tgt := 66) C g15.1 (by decide) dX0_lengthOfAll_49 (by decide) (fun c => ?_) (fun c => ?_)
    · have g18 := g15.2.1 c
      obtain ⟨y20, hy20⟩ : ∃ y : Int, y = x5 + 1 := ⟨_, rfl⟩
      have g21 := g18 y20 hy20
      refine v_iinc (i := 3) (L' := [(5, vi y20), (0, vr 5), (1, vi x1), (4, vi x4)]) C dX0_lengthOfAll_66 rfl (by decide) hy20 rfl ?_
      refine v_goto C dX0_lengthOfAll_69 (tgt := 33) (by decide) ?_
      exact v_sub [1, 2, 3, 0] rfl (hJ33 _ _ _ _ g21)
    · have g19 := g15.2.2 c
      refine v_iload (i := 2) C dX0_lengthOfAll_52 rfl ?_
      refine v_aload_n (i := 0) C dX0_lengthOfAll_54 rfl rfl ?_
      refine v_getf (k := 5) C fl_RX0_15 rfl rfl dX0_lengthOfAll_55 ?_
      show Aj E l z (55 + 3) [(0, vr 5), (1, vi x1), (4, vi x4), (5, vi x5)] [vr 7, vi x4] M
      refine v_iload (i := 3) C dX0_lengthOfAll_58 rfl ?_
      refine v_callS (q := qX7_at) (As := [vr 7, vi x5]) (S := [vi x4]) C co_yX7_at ml_RX0_41 st_yX7_at ini_RX7 hq_X7_at (by decide) (Nat.le_of_ble_eq_true rfl) rfl dX0_lengthOfAll_60 (Con.mono g19 (fun rr M22 hr => ?_) (Nat.le_refl _))
      obtain ⟨y23, rfl, g24⟩ := hr
      show Aj E l z (60 + 3) [(0, vr 5), (1, vi x1), (4, vi x4), (5, vi x5)] [vi y23, vi x4] M22
      refine v_iadd C dX0_lengthOfAll_63 ?_
      obtain ⟨y25, hy25⟩ : ∃ y : Int, y = x4 + y23 := ⟨_, rfl⟩
      have g26 := g24 y25 hy25
      refine v_eqi hy25 ?_
      refine v_istore (L' := [(4, vi y25), (0, vr 5), (1, vi x1), (5, vi x5)]) C dX0_lengthOfAll_64 (by decide) rfl ?_
      exact v_sub [1, 2, 0, 3] rfl (SX0_lengthOfAll_66 C r hD hJ33 g26)
theorem RX0_lengthOfAll {E : FX} {l : Launch} {D : Nat} {post : Option AV → MM → Prop} (hD : 1 ≤ D) (I33 : MM → Int → Int → Int → Prop) (m33 : MM → Int → Int → Int → Nat) {M : MM} {x1 : Int} {x2 : Int} (h0 : VX0_lengthOfAll_0 E l D post I33 M x1 x2) (h33I : ∀ (M : MM) (x1 : Int) (x4 : Int) (x5 : Int), I33 M x1 x4 x5 → VX0_lengthOfAll_33 E l D post (fun M' x1' x4' x5' => I33 M' x1' x4' x5' ∧ m33 M' x1' x4' x5' < m33 M x1 x4 x5) M x1 x4 x5) : Con E l (D + 1) qX0_lengthOfAll [vr 5, vi x1, vi x2] M post := by
  refine con_of (by decide +kernel) (Nat.le_of_ble_eq_true rfl) (fun z C r => ?_)
  have all : ∀ n : Nat, (∀ (M : MM) (x1 : Int) (x4 : Int) (x5 : Int), I33 M x1 x4 x5 → m33 M x1 x4 x5 < n → Aj E l z 33 [(0, vr 5), (1, vi x1), (4, vi x4), (5, vi x5)] [] M) := by
    intro n
    induction n with
    | zero => exact fun _ _ _ _ _ hm => absurd hm (Nat.not_lt_zero _)
    | succ n ih => exact fun M x1 x4 x5 hi hm => SX0_lengthOfAll_33 C r hD (fun M' x1' x4' x5' hj => ih M' x1' x4' x5' hj.1 (by omega)) (h33I M x1 x4 x5 hi)
  exact v_sub [0, 1, 2] rfl (SX0_lengthOfAll_0 C r hD (fun M' x1' x4' x5' hj => (all _) M' x1' x4' x5' hj (Nat.lt_succ_self _)) h0)
def VX0_clothOf_23 (E : FX) (l : Launch) (D : Nat) (post : Option AV → MM → Prop) (M : MM) (s0 : Nat) : Prop :=
  post (some (vr s0)) M
set_option maxRecDepth 20000 in
theorem SX0_clothOf_23 {E : FX} {l : Launch} {D : Nat} {post : Option AV → MM → Prop} {z : RT} (C : Cx E z D RX0 cX0_clothOf 1) (r : Rt E z (some (.object "WholeMarks$Cloth")) post) {M : MM} {s0 : Nat} (h : VX0_clothOf_23 E l D post M s0) : Aj E l z 23 [] [vr s0] M := by
  unfold VX0_clothOf_23 at h
  exact v_aret C r dX0_clothOf_23 h
def VX0_clothOf_20 (E : FX) (l : Launch) (D : Nat) (post : Option AV → MM → Prop) (M : MM) : Prop :=
  VX0_clothOf_23 E l D post M 101
set_option maxRecDepth 20000 in
theorem SX0_clothOf_20 {E : FX} {l : Launch} {D : Nat} {post : Option AV → MM → Prop} {z : RT} (C : Cx E z D RX0 cX0_clothOf 1) (r : Rt E z (some (.object "WholeMarks$Cloth")) post) {M : MM} (h : VX0_clothOf_20 E l D post M) : Aj E l z 20 [] [] M := by
  unfold VX0_clothOf_20 at h
  refine v_gLinen C fk_RX0_83 dX0_clothOf_20 ?_
  exact v_sub [] rfl (SX0_clothOf_23 C r h)
def VX0_clothOf_0 (E : FX) (l : Launch) (D : Nat) (post : Option AV → MM → Prop) (M : MM) (x0 : Int) : Prop :=
  R32 x0 ∧ ((x0 < 0 → VX0_clothOf_23 E l D post M 101) ∧ (¬ x0 < 0 → R32 x0 ∧ ((4 ≤ x0 → VX0_clothOf_23 E l D post M 101) ∧ (¬ 4 ≤ x0 → 0 ≤ x0 ∧ (x0 < 4 ∧ (VX0_clothOf_23 E l D post M (101 + (x0).toNat)))))))
set_option maxRecDepth 20000 in
theorem SX0_clothOf_0 {E : FX} {l : Launch} {D : Nat} {post : Option AV → MM → Prop} {z : RT} (C : Cx E z D RX0 cX0_clothOf 1) (r : Rt E z (some (.object "WholeMarks$Cloth")) post) {M : MM} {x0 : Int} (h : VX0_clothOf_0 E l D post M x0) : Aj E l z 0 [(0, vi x0)] [] M := by
  unfold VX0_clothOf_0 at h
  refine v_iload_n (i := 0) C dX0_clothOf_0 rfl rfl ?_
  refine v_if_lt (tgt := 20) C h.1 dX0_clothOf_1 (by decide) (fun c => ?_) (fun c => ?_)
  · have g1 := h.2.1 c
    refine v_gLinen C fk_RX0_83 dX0_clothOf_20 ?_
    exact v_sub [] rfl (SX0_clothOf_23 C r g1)
  · have g2 := h.2.2 c
    refine v_iload_n (i := 0) C dX0_clothOf_4 rfl rfl ?_
    refine v_gClothsN C dX0_clothOf_5 ?_
    refine v_clLen C dX0_clothOf_8 ?_
    refine v_icmp_ge (tgt := 20) C g2.1 (by decide) dX0_clothOf_9 (by decide) (fun c => ?_) (fun c => ?_)
    · have g3 := g2.2.1 c
      refine v_gLinen C fk_RX0_83 dX0_clothOf_20 ?_
      exact v_sub [] rfl (SX0_clothOf_23 C r g3)
    · have g4 := g2.2.2 c
      refine v_gClothsN C dX0_clothOf_12 ?_
      refine v_iload_n (i := 0) C dX0_clothOf_15 rfl rfl ?_
      refine v_clAld C g4.1 g4.2.1 dX0_clothOf_16 ?_
      refine v_goto C dX0_clothOf_17 (tgt := 23) (by decide) ?_
      exact v_sub [] rfl (SX0_clothOf_23 C r g4.2.2)
theorem RX0_clothOf {E : FX} {l : Launch} {D : Nat} {post : Option AV → MM → Prop} {M : MM} {x0 : Int} (h0 : VX0_clothOf_0 E l D post M x0) : Con E l (D + 1) qX0_clothOf [vi x0] M post := by
  refine con_of (by decide +kernel) (Nat.le_of_ble_eq_true rfl) (fun z C r => ?_)
  exact v_sub [0] rfl (SX0_clothOf_0 C r h0)
def VX0_becomeLike_k_0 (E : FX) (l : Launch) (D : Nat) (post : Option AV → MM → Prop) (M : MM) : Prop :=
  Con E l D qX7_fill [vr 17, vr 6] M (fun r M1 => r = none ∧ (Con E l D qX7_fill [vr 18, vr 7] M1 (fun r M3 => r = none ∧ (∀ M5 : MM, M5 = up M3 16 3 (M3 5 3) → (∀ M7 : MM, M7 = up M5 16 4 (M5 5 4) → (∀ M9 : MM, M9 = up M7 16 5 (M7 5 5) → (post none M9)))))))
set_option maxRecDepth 20000 in
theorem SX0_becomeLike_k_0 {E : FX} {l : Launch} {D : Nat} {post : Option AV → MM → Prop} {z : RT} (C : Cx E z D RX0 cX0_becomeLike 2) (r : Rt E z none post) {M : MM} (h : VX0_becomeLike_k_0 E l D post M) : Aj E l z 0 [(0, vr 16), (1, vr 5)] [] M := by
  unfold VX0_becomeLike_k_0 at h
  refine v_aload_n (i := 0) C dX0_becomeLike_0 rfl rfl ?_
  refine v_getf (k := 16) C fl_RX0_9 rfl rfl dX0_becomeLike_1 ?_
  show Aj E l z (1 + 3) [(0, vr 16), (1, vr 5)] [vr 17] M
  refine v_aload_n (i := 1) C dX0_becomeLike_4 rfl rfl ?_
  refine v_getf (k := 5) C fl_RX0_9 rfl rfl dX0_becomeLike_5 ?_
  show Aj E l z (5 + 3) [(0, vr 16), (1, vr 5)] [vr 6, vr 17] M
  refine v_callS (q := qX7_fill) (As := [vr 17, vr 6]) (S := []) C co_yX7_fill ml_RX0_25 st_yX7_fill ini_RX7 hq_X7_fill (by decide) (Nat.le_of_ble_eq_true rfl) rfl dX0_becomeLike_8 (Con.mono h (fun rr M1 hr => ?_) (Nat.le_refl _))
  obtain ⟨rfl, g2⟩ := hr
  show Aj E l z (8 + 3) [(0, vr 16), (1, vr 5)] [] M1
  refine v_aload_n (i := 0) C dX0_becomeLike_11 rfl rfl ?_
  refine v_getf (k := 16) C fl_RX0_15 rfl rfl dX0_becomeLike_12 ?_
  show Aj E l z (12 + 3) [(0, vr 16), (1, vr 5)] [vr 18] M1
  refine v_aload_n (i := 1) C dX0_becomeLike_15 rfl rfl ?_
  refine v_getf (k := 5) C fl_RX0_15 rfl rfl dX0_becomeLike_16 ?_
  show Aj E l z (16 + 3) [(0, vr 16), (1, vr 5)] [vr 7, vr 18] M1
  refine v_callS (q := qX7_fill) (As := [vr 18, vr 7]) (S := []) C co_yX7_fill ml_RX0_25 st_yX7_fill ini_RX7 hq_X7_fill (by decide) (Nat.le_of_ble_eq_true rfl) rfl dX0_becomeLike_19 (Con.mono g2 (fun rr M3 hr => ?_) (Nat.le_refl _))
  obtain ⟨rfl, g4⟩ := hr
  show Aj E l z (19 + 3) [(0, vr 16), (1, vr 5)] [] M3
  refine v_aload_n (i := 0) C dX0_becomeLike_22 rfl rfl ?_
  refine v_aload_n (i := 1) C dX0_becomeLike_23 rfl rfl ?_
  refine v_getf (k := 5) C fl_RX0_31 rfl rfl dX0_becomeLike_24 ?_
  show Aj E l z (24 + 3) [(0, vr 16), (1, vr 5)] [vi (M3 5 3), vr 16] M3
  refine v_putf (k := 16) (x := M3 5 3) (t := 0) C fp_RX0_31 rfl rfl (by decide) (by simp [fv, up]) rfl rfl dX0_becomeLike_27 ?_
  obtain ⟨M5, hM5⟩ : ∃ X : MM, X = up M3 16 3 (M3 5 3) := ⟨_, rfl⟩
  refine v_eqM hM5 ?_
  have g6 := g4 M5 hM5
  refine v_aload_n (i := 0) C dX0_becomeLike_30 rfl rfl ?_
  refine v_aload_n (i := 1) C dX0_becomeLike_31 rfl rfl ?_
  refine v_getf (k := 5) C fl_RX0_34 rfl rfl dX0_becomeLike_32 ?_
  show Aj E l z (32 + 3) [(0, vr 16), (1, vr 5)] [vi (M5 5 4), vr 16] M5
  refine v_putf (k := 16) (x := M5 5 4) (t := 0) C fp_RX0_34 rfl rfl (by decide) (by simp [fv, up]) rfl rfl dX0_becomeLike_35 ?_
  obtain ⟨M7, hM7⟩ : ∃ X : MM, X = up M5 16 4 (M5 5 4) := ⟨_, rfl⟩
  refine v_eqM hM7 ?_
  have g8 := g6 M7 hM7
  refine v_aload_n (i := 0) C dX0_becomeLike_38 rfl rfl ?_
  refine v_aload_n (i := 1) C dX0_becomeLike_39 rfl rfl ?_
  refine v_getf (k := 5) C fl_RX0_21 rfl rfl dX0_becomeLike_40 ?_
  show Aj E l z (40 + 3) [(0, vr 16), (1, vr 5)] [vi (M7 5 5), vr 16] M7
  refine v_putf (k := 16) (x := M7 5 5) (t := 0) C fp_RX0_21 rfl rfl (by decide) (by simp [fv, up]) rfl rfl dX0_becomeLike_43 ?_
  obtain ⟨M9, hM9⟩ : ∃ X : MM, X = up M7 16 5 (M7 5 5) := ⟨_, rfl⟩
  refine v_eqM hM9 ?_
  have g10 := g8 M9 hM9
  exact v_vret C r dX0_becomeLike_46 g10
theorem RX0_becomeLike_k {E : FX} {l : Launch} {D : Nat} {post : Option AV → MM → Prop} {M : MM} (h0 : VX0_becomeLike_k_0 E l D post M) : Con E l (D + 1) qX0_becomeLike [vr 16, vr 5] M post := by
  refine con_of (by decide +kernel) (Nat.le_of_ble_eq_true rfl) (fun z C r => ?_)
  exact v_sub [0, 1] rfl (SX0_becomeLike_k_0 C r h0)
def VX0_becomeLike_m_0 (E : FX) (l : Launch) (D : Nat) (post : Option AV → MM → Prop) (M : MM) : Prop :=
  Con E l D qX7_fill [vr 6, vr 17] M (fun r M1 => r = none ∧ (Con E l D qX7_fill [vr 7, vr 18] M1 (fun r M3 => r = none ∧ (∀ M5 : MM, M5 = up M3 5 3 (M3 16 3) → (∀ M7 : MM, M7 = up M5 5 4 (M5 16 4) → (∀ M9 : MM, M9 = up M7 5 5 (M7 16 5) → (post none M9)))))))
set_option maxRecDepth 20000 in
theorem SX0_becomeLike_m_0 {E : FX} {l : Launch} {D : Nat} {post : Option AV → MM → Prop} {z : RT} (C : Cx E z D RX0 cX0_becomeLike 2) (r : Rt E z none post) {M : MM} (h : VX0_becomeLike_m_0 E l D post M) : Aj E l z 0 [(0, vr 5), (1, vr 16)] [] M := by
  unfold VX0_becomeLike_m_0 at h
  refine v_aload_n (i := 0) C dX0_becomeLike_0 rfl rfl ?_
  refine v_getf (k := 5) C fl_RX0_9 rfl rfl dX0_becomeLike_1 ?_
  show Aj E l z (1 + 3) [(0, vr 5), (1, vr 16)] [vr 6] M
  refine v_aload_n (i := 1) C dX0_becomeLike_4 rfl rfl ?_
  refine v_getf (k := 16) C fl_RX0_9 rfl rfl dX0_becomeLike_5 ?_
  show Aj E l z (5 + 3) [(0, vr 5), (1, vr 16)] [vr 17, vr 6] M
  refine v_callS (q := qX7_fill) (As := [vr 6, vr 17]) (S := []) C co_yX7_fill ml_RX0_25 st_yX7_fill ini_RX7 hq_X7_fill (by decide) (Nat.le_of_ble_eq_true rfl) rfl dX0_becomeLike_8 (Con.mono h (fun rr M1 hr => ?_) (Nat.le_refl _))
  obtain ⟨rfl, g2⟩ := hr
  show Aj E l z (8 + 3) [(0, vr 5), (1, vr 16)] [] M1
  refine v_aload_n (i := 0) C dX0_becomeLike_11 rfl rfl ?_
  refine v_getf (k := 5) C fl_RX0_15 rfl rfl dX0_becomeLike_12 ?_
  show Aj E l z (12 + 3) [(0, vr 5), (1, vr 16)] [vr 7] M1
  refine v_aload_n (i := 1) C dX0_becomeLike_15 rfl rfl ?_
  refine v_getf (k := 16) C fl_RX0_15 rfl rfl dX0_becomeLike_16 ?_
  show Aj E l z (16 + 3) [(0, vr 5), (1, vr 16)] [vr 18, vr 7] M1
  refine v_callS (q := qX7_fill) (As := [vr 7, vr 18]) (S := []) C co_yX7_fill ml_RX0_25 st_yX7_fill ini_RX7 hq_X7_fill (by decide) (Nat.le_of_ble_eq_true rfl) rfl dX0_becomeLike_19 (Con.mono g2 (fun rr M3 hr => ?_) (Nat.le_refl _))
  obtain ⟨rfl, g4⟩ := hr
  show Aj E l z (19 + 3) [(0, vr 5), (1, vr 16)] [] M3
  refine v_aload_n (i := 0) C dX0_becomeLike_22 rfl rfl ?_
  refine v_aload_n (i := 1) C dX0_becomeLike_23 rfl rfl ?_
  refine v_getf (k := 16) C fl_RX0_31 rfl rfl dX0_becomeLike_24 ?_
  show Aj E l z (24 + 3) [(0, vr 5), (1, vr 16)] [vi (M3 16 3), vr 5] M3
  refine v_putf (k := 5) (x := M3 16 3) (t := 0) C fp_RX0_31 rfl rfl (by decide) (by simp [fv, up]) rfl rfl dX0_becomeLike_27 ?_
  obtain ⟨M5, hM5⟩ : ∃ X : MM, X = up M3 5 3 (M3 16 3) := ⟨_, rfl⟩
  refine v_eqM hM5 ?_
  have g6 := g4 M5 hM5
  refine v_aload_n (i := 0) C dX0_becomeLike_30 rfl rfl ?_
  refine v_aload_n (i := 1) C dX0_becomeLike_31 rfl rfl ?_
  refine v_getf (k := 16) C fl_RX0_34 rfl rfl dX0_becomeLike_32 ?_
  show Aj E l z (32 + 3) [(0, vr 5), (1, vr 16)] [vi (M5 16 4), vr 5] M5
  refine v_putf (k := 5) (x := M5 16 4) (t := 0) C fp_RX0_34 rfl rfl (by decide) (by simp [fv, up]) rfl rfl dX0_becomeLike_35 ?_
  obtain ⟨M7, hM7⟩ : ∃ X : MM, X = up M5 5 4 (M5 16 4) := ⟨_, rfl⟩
  refine v_eqM hM7 ?_
  have g8 := g6 M7 hM7
  refine v_aload_n (i := 0) C dX0_becomeLike_38 rfl rfl ?_
  refine v_aload_n (i := 1) C dX0_becomeLike_39 rfl rfl ?_
  refine v_getf (k := 16) C fl_RX0_21 rfl rfl dX0_becomeLike_40 ?_
  show Aj E l z (40 + 3) [(0, vr 5), (1, vr 16)] [vi (M7 16 5), vr 5] M7
  refine v_putf (k := 5) (x := M7 16 5) (t := 0) C fp_RX0_21 rfl rfl (by decide) (by simp [fv, up]) rfl rfl dX0_becomeLike_43 ?_
  obtain ⟨M9, hM9⟩ : ∃ X : MM, X = up M7 5 5 (M7 16 5) := ⟨_, rfl⟩
  refine v_eqM hM9 ?_
  have g10 := g8 M9 hM9
  exact v_vret C r dX0_becomeLike_46 g10
theorem RX0_becomeLike_m {E : FX} {l : Launch} {D : Nat} {post : Option AV → MM → Prop} {M : MM} (h0 : VX0_becomeLike_m_0 E l D post M) : Con E l (D + 1) qX0_becomeLike [vr 5, vr 16] M post := by
  refine con_of (by decide +kernel) (Nat.le_of_ble_eq_true rfl) (fun z C r => ?_)
  exact v_sub [0, 1] rfl (SX0_becomeLike_m_0 C r h0)
