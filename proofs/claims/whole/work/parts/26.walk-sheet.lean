def VX8_begin_0 (E : FX) (l : Launch) (D : Nat) (post : Option AV → MM → Prop) (J2 : MM → Nat → Int → Int → Int → Prop) (M : MM) (x0 : Nat) (x1 : Int) (x2 : Int) : Prop :=
  J2 M x0 x1 x2 0
set_option maxRecDepth 20000 in
theorem SX8_begin_0 {E : FX} {l : Launch} {D : Nat} {post : Option AV → MM → Prop} {z : RT} {J2 : MM → Nat → Int → Int → Int → Prop} (C : Cx E z D RX8 cX8_begin 4) (r : Rt E z none post) (hJ2 : ∀ (M : MM) (x0 : Nat) (x1 : Int) (x2 : Int) (x3 : Int), J2 M x0 x1 x2 x3 → Aj E l z 2 [(0, vr x0), (1, vi x1), (2, vi x2), (3, vi x3)] [] M) {M : MM} {x0 : Nat} {x1 : Int} {x2 : Int} (h : VX8_begin_0 E l D post J2 M x0 x1 x2) : Aj E l z 0 [(0, vr x0), (1, vi x1), (2, vi x2)] [] M := by
  unfold VX8_begin_0 at h
  refine v_iconst C dX8_begin_0 ?_
  refine v_istore_n (L' := [(3, vi 0), (0, vr x0), (1, vi x1), (2, vi x2)]) C dX8_begin_1 rfl (by decide) rfl ?_
  exact v_sub [1, 2, 3, 0] rfl (hJ2 _ _ _ _ _ h)
def VX8_begin_2 (E : FX) (l : Launch) (D : Nat) (post : Option AV → MM → Prop) (J2 : MM → Nat → Int → Int → Int → Prop) (M : MM) (x0 : Nat) (x1 : Int) (x2 : Int) (x3 : Int) : Prop :=
  kd x0 = (3, 6) ∧ (∃ k1 : Nat, (ft x0)[0]? = some (k1 + 2) ∧ (∃ k2 k3 : Nat, kd k1 = (k2, k3) ∧ k2 < 3 ∧ (R32 x3 ∧ (R32 (k3 : Int) ∧ (((k3 : Int) ≤ x3 → kd x0 = (3, 6) ∧ ((ft x0)[1]? = some 0 ∧ (∀ M6 : MM, M6 = up M x0 1 1 → (kd x0 = (3, 6) ∧ ((ft x0)[2]? = some 0 ∧ (∀ M8 : MM, M8 = up M6 x0 2 x1 → (kd x0 = (3, 6) ∧ ((ft x0)[3]? = some 0 ∧ (∀ M10 : MM, M10 = up M8 x0 3 x2 → (post none M10)))))))))) ∧ (¬ (k3 : Int) ≤ x3 → kd x0 = (3, 6) ∧ (∃ k12 : Nat, (ft x0)[0]? = some (k12 + 2) ∧ (∃ k13 : Nat, kd k12 = (1, k13) ∧ (0 ≤ x3 ∧ (x3 < (k13 : Int) ∧ (∀ M14 : MM, M14 = up M k12 (x3).toNat 0 → (∀ y16 : Int, y16 = x3 + 1 → (J2 M14 x0 x1 x2 y16)))))))))))))
set_option maxRecDepth 20000 in
theorem SX8_begin_2 {E : FX} {l : Launch} {D : Nat} {post : Option AV → MM → Prop} {z : RT} {J2 : MM → Nat → Int → Int → Int → Prop} (C : Cx E z D RX8 cX8_begin 4) (r : Rt E z none post) (hJ2 : ∀ (M : MM) (x0 : Nat) (x1 : Int) (x2 : Int) (x3 : Int), J2 M x0 x1 x2 x3 → Aj E l z 2 [(0, vr x0), (1, vi x1), (2, vi x2), (3, vi x3)] [] M) {M : MM} {x0 : Nat} {x1 : Int} {x2 : Int} {x3 : Int} (h : VX8_begin_2 E l D post J2 M x0 x1 x2 x3) : Aj E l z 2 [(0, vr x0), (1, vi x1), (2, vi x2), (3, vi x3)] [] M := by
  unfold VX8_begin_2 at h
  refine v_iload_n (i := 3) C dX8_begin_2 rfl rfl ?_
  refine v_aload_n (i := 0) C dX8_begin_3 rfl rfl ?_
  obtain ⟨k1, ek1, gk1⟩ := h.2
  refine v_getf (k := x0) C fl_RX8_9 h.1 ek1 dX8_begin_4 ?_
  show Aj E l z (4 + 3) [(0, vr x0), (1, vi x1), (2, vi x2), (3, vi x3)] [vr k1, vi x3] M
  obtain ⟨k2, k3, ek2, lk2, gk2⟩ := gk1
  refine v_alen (k := k1) C ek2 lk2 dX8_begin_7 ?_
  refine v_icmp_ge (tgt := 24) C gk2.1 gk2.2.1 dX8_begin_8 (by decide) (fun c => ?_) (fun c => ?_)
  · have g4 := gk2.2.2.1 c
    refine v_aload_n (i := 0) C dX8_begin_24 rfl rfl ?_
    refine v_iconst C dX8_begin_25 ?_
    refine v_putf (k := x0) (x := 1) (t := 0) C fp_RX8_15 g4.1 g4.2.1 (by decide) (by simp [fv, up]) rfl rfl dX8_begin_26 ?_
    obtain ⟨M6, hM6⟩ : ∃ X : MM, X = up M x0 1 1 := ⟨_, rfl⟩
    refine v_eqM hM6 ?_
    have g7 := g4.2.2 M6 hM6
    refine v_aload_n (i := 0) C dX8_begin_29 rfl rfl ?_
    refine v_iload_n (i := 1) C dX8_begin_30 rfl rfl ?_
    refine v_putf (k := x0) (x := x1) (t := 0) C fp_RX8_19 g7.1 g7.2.1 (by decide) (by simp [fv, up]) rfl rfl dX8_begin_31 ?_
    obtain ⟨M8, hM8⟩ : ∃ X : MM, X = up M6 x0 2 x1 := ⟨_, rfl⟩
    refine v_eqM hM8 ?_
    have g9 := g7.2.2 M8 hM8
    refine v_aload_n (i := 0) C dX8_begin_34 rfl rfl ?_
    refine v_iload_n (i := 2) C dX8_begin_35 rfl rfl ?_
    refine v_putf (k := x0) (x := x2) (t := 0) C fp_RX8_23 g9.1 g9.2.1 (by decide) (by simp [fv, up]) rfl rfl dX8_begin_36 ?_
    obtain ⟨M10, hM10⟩ : ∃ X : MM, X = up M8 x0 3 x2 := ⟨_, rfl⟩
    refine v_eqM hM10 ?_
    have g11 := g9.2.2 M10 hM10
    exact v_vret C r dX8_begin_39 g11
  · have g5 := gk2.2.2.2 c
    refine v_aload_n (i := 0) C dX8_begin_11 rfl rfl ?_
    obtain ⟨k12, ek12, gk12⟩ := g5.2
    refine v_getf (k := x0) C fl_RX8_9 g5.1 ek12 dX8_begin_12 ?_
    show Aj E l z (12 + 3) [(0, vr x0), (1, vi x1), (2, vi x2), (3, vi x3)] [vr k12] M
    refine v_iload_n (i := 3) C dX8_begin_15 rfl rfl ?_
    refine v_lconst (x := 0) C dX8_begin_16 (by decide) ?_
    obtain ⟨k13, ek13, gk13⟩ := gk12
    refine v_last (k := k12) C ek13 gk13.1 gk13.2.1 dX8_begin_17 ?_
    obtain ⟨M14, hM14⟩ : ∃ X : MM, X = up M k12 (x3).toNat 0 := ⟨_, rfl⟩
    refine v_eqM hM14 ?_
    have g15 := gk13.2.2 M14 hM14
    obtain ⟨y16, hy16⟩ : ∃ y : Int, y = x3 + 1 := ⟨_, rfl⟩
    have g17 := g15 y16 hy16
    refine v_iinc (i := 3) (L' := [(3, vi y16), (0, vr x0), (1, vi x1), (2, vi x2)]) C dX8_begin_18 rfl (by decide) hy16 rfl ?_
    refine v_goto C dX8_begin_21 (tgt := 2) (by decide) ?_
    exact v_sub [1, 2, 3, 0] rfl (hJ2 _ _ _ _ _ g17)
theorem RX8_begin {E : FX} {l : Launch} {D : Nat} {post : Option AV → MM → Prop} (I2 : MM → Nat → Int → Int → Int → Prop) (m2 : MM → Nat → Int → Int → Int → Nat) {M : MM} {x0 : Nat} {x1 : Int} {x2 : Int} (h0 : VX8_begin_0 E l D post I2 M x0 x1 x2) (h2I : ∀ (M : MM) (x0 : Nat) (x1 : Int) (x2 : Int) (x3 : Int), I2 M x0 x1 x2 x3 → VX8_begin_2 E l D post (fun M' x0' x1' x2' x3' => I2 M' x0' x1' x2' x3' ∧ m2 M' x0' x1' x2' x3' < m2 M x0 x1 x2 x3) M x0 x1 x2 x3) : Con E l (D + 1) qX8_begin [vr x0, vi x1, vi x2] M post := by
  refine con_of (by decide +kernel) (Nat.le_of_ble_eq_true rfl) (fun z C r => ?_)
  have all : ∀ n : Nat, (∀ (M : MM) (x0 : Nat) (x1 : Int) (x2 : Int) (x3 : Int), I2 M x0 x1 x2 x3 → m2 M x0 x1 x2 x3 < n → Aj E l z 2 [(0, vr x0), (1, vi x1), (2, vi x2), (3, vi x3)] [] M) := by
    intro n
    induction n with
    | zero => exact fun _ _ _ _ _ _ hm => absurd hm (Nat.not_lt_zero _)
    | succ n ih => exact fun M x0 x1 x2 x3 hi hm => SX8_begin_2 C r (fun M' x0' x1' x2' x3' hj => ih M' x0' x1' x2' x3' hj.1 (by omega)) (h2I M x0 x1 x2 x3 hi)
  exact v_sub [0, 1, 2] rfl (SX8_begin_0 C r (fun M' x0' x1' x2' x3' hj => (all _) M' x0' x1' x2' x3' hj (Nat.lt_succ_self _)) h0)
def VX8_spans_43 (E : FX) (l : Launch) (D : Nat) (post : Option AV → MM → Prop) (M : MM) (s0 : Int) : Prop :=
  (s0 = 0 ∨ s0 = 1) ∧ (post (some (vi s0)) M)
set_option maxRecDepth 20000 in
theorem SX8_spans_43 {E : FX} {l : Launch} {D : Nat} {post : Option AV → MM → Prop} {z : RT} (C : Cx E z D RX8 cX8_spans 3) (r : Rt E z (some .boolean) post) {M : MM} {s0 : Int} (h : VX8_spans_43 E l D post M s0) : Aj E l z 43 [] [vi s0] M := by
  unfold VX8_spans_43 at h
  exact v_zret C r h.1 dX8_spans_43 h.2
def VX8_spans_42 (E : FX) (l : Launch) (D : Nat) (post : Option AV → MM → Prop) (M : MM) : Prop :=
  VX8_spans_43 E l D post M 0
set_option maxRecDepth 20000 in
theorem SX8_spans_42 {E : FX} {l : Launch} {D : Nat} {post : Option AV → MM → Prop} {z : RT} (C : Cx E z D RX8 cX8_spans 3) (r : Rt E z (some .boolean) post) {M : MM} (h : VX8_spans_42 E l D post M) : Aj E l z 42 [] [] M := by
  unfold VX8_spans_42 at h
  refine v_iconst C dX8_spans_42 ?_
  exact v_sub [] rfl (SX8_spans_43 C r h)
def VX8_spans_0 (E : FX) (l : Launch) (D : Nat) (post : Option AV → MM → Prop) (M : MM) (x0 : Nat) (x1 : Int) (x2 : Int) : Prop :=
  R32 x1 ∧ ((x1 < 0 → VX8_spans_43 E l D post M 0) ∧ (¬ x1 < 0 → R32 x2 ∧ ((x2 < 0 → VX8_spans_43 E l D post M 0) ∧ (¬ x2 < 0 → kd x0 = (3, 6) ∧ ((ft x0)[3]? = some 0 ∧ (R32 x2 ∧ (R32 (M x0 3) ∧ ((M x0 3 < x2 → VX8_spans_43 E l D post M 0) ∧ (¬ M x0 3 < x2 → kd x0 = (3, 6) ∧ ((ft x0)[3]? = some 0 ∧ (R32 x1 ∧ (R32 ((M x0 3) - x2) ∧ (((M x0 3) - x2 < x1 → VX8_spans_43 E l D post M 0) ∧ (¬ (M x0 3) - x2 < x1 → kd x0 = (3, 6) ∧ ((ft x0)[3]? = some 0 ∧ (kd x0 = (3, 6) ∧ (∃ k9 : Nat, (ft x0)[0]? = some (k9 + 2) ∧ (∃ k10 k11 : Nat, kd k9 = (k10, k11) ∧ k10 < 3 ∧ (R32 (M x0 3) ∧ (R32 (k11 : Int) ∧ (((k11 : Int) < M x0 3 → VX8_spans_43 E l D post M 0) ∧ (¬ (k11 : Int) < M x0 3 → VX8_spans_43 E l D post M 1))))))))))))))))))))))
set_option maxRecDepth 20000 in
theorem SX8_spans_0 {E : FX} {l : Launch} {D : Nat} {post : Option AV → MM → Prop} {z : RT} (C : Cx E z D RX8 cX8_spans 3) (r : Rt E z (some .boolean) post) {M : MM} {x0 : Nat} {x1 : Int} {x2 : Int} (h : VX8_spans_0 E l D post M x0 x1 x2) : Aj E l z 0 [(0, vr x0), (1, vi x1), (2, vi x2)] [] M := by
  unfold VX8_spans_0 at h
  refine v_iload_n (i := 1) C dX8_spans_0 rfl rfl ?_
  refine v_if_lt (tgt := 42) C h.1 dX8_spans_1 (by decide) (fun c => ?_) (fun c => ?_)
  · have g1 := h.2.1 c
    refine v_iconst C dX8_spans_42 ?_
    exact v_sub [] rfl (SX8_spans_43 C r g1)
  · have g2 := h.2.2 c
    refine v_iload_n (i := 2) C dX8_spans_4 rfl rfl ?_
    refine v_if_lt (tgt := 42) C g2.1 dX8_spans_5 (by decide) (fun c => ?_) (fun c => ?_)
    · have g3 := g2.2.1 c
      refine v_iconst C dX8_spans_42 ?_
      exact v_sub [] rfl (SX8_spans_43 C r g3)
    · have g4 := g2.2.2 c
      refine v_iload_n (i := 2) C dX8_spans_8 rfl rfl ?_
      refine v_aload_n (i := 0) C dX8_spans_9 rfl rfl ?_
      refine v_getf (k := x0) C fl_RX8_23 g4.1 g4.2.1 dX8_spans_10 ?_
      show Aj E l z (10 + 3) [(0, vr x0), (1, vi x1), (2, vi x2)] [vi (M x0 3), vi x2] M
      refine v_icmp_gt (tgt := 42) C g4.2.2.1 g4.2.2.2.1 dX8_spans_13 (by decide) (fun c => ?_) (fun c => ?_)
      · have g5 := g4.2.2.2.2.1 c
        refine v_iconst C dX8_spans_42 ?_
        exact v_sub [] rfl (SX8_spans_43 C r g5)
      · have g6 := g4.2.2.2.2.2 c
        refine v_iload_n (i := 1) C dX8_spans_16 rfl rfl ?_
        refine v_aload_n (i := 0) C dX8_spans_17 rfl rfl ?_
        refine v_getf (k := x0) C fl_RX8_23 g6.1 g6.2.1 dX8_spans_18 ?_
        show Aj E l z (18 + 3) [(0, vr x0), (1, vi x1), (2, vi x2)] [vi (M x0 3), vi x1] M
        refine v_iload_n (i := 2) C dX8_spans_21 rfl rfl ?_
        refine v_isub C dX8_spans_22 ?_
        refine v_icmp_gt (tgt := 42) C g6.2.2.1 g6.2.2.2.1 dX8_spans_23 (by decide) (fun c => ?_) (fun c => ?_)
        · have g7 := g6.2.2.2.2.1 c
          refine v_iconst C dX8_spans_42 ?_
          exact v_sub [] rfl (SX8_spans_43 C r g7)
        · have g8 := g6.2.2.2.2.2 c
          refine v_aload_n (i := 0) C dX8_spans_26 rfl rfl ?_
          refine v_getf (k := x0) C fl_RX8_23 g8.1 g8.2.1 dX8_spans_27 ?_
          show Aj E l z (27 + 3) [(0, vr x0), (1, vi x1), (2, vi x2)] [vi (M x0 3)] M
          refine v_aload_n (i := 0) C dX8_spans_30 rfl rfl ?_
          obtain ⟨k9, ek9, gk9⟩ := g8.2.2.2
          refine v_getf (k := x0) C fl_RX8_9 g8.2.2.1 ek9 dX8_spans_31 ?_
          show Aj E l z (31 + 3) [(0, vr x0), (1, vi x1), (2, vi x2)] [vr k9, vi (M x0 3)] M
          obtain ⟨k10, k11, ek10, lk10, gk10⟩ := gk9
          refine v_alen (k := k9) C ek10 lk10 dX8_spans_34 ?_
          refine v_icmp_gt (tgt := 42) C gk10.1 gk10.2.1 dX8_spans_35 (by decide) (fun c => ?_) (fun c => ?_)
          · have g12 := gk10.2.2.1 c
            refine v_iconst C dX8_spans_42 ?_
            exact v_sub [] rfl (SX8_spans_43 C r g12)
          · have g13 := gk10.2.2.2 c
            refine v_iconst C dX8_spans_38 ?_
            refine v_goto C dX8_spans_39 (tgt := 43) (by decide) ?_
            exact v_sub [] rfl (SX8_spans_43 C r g13)
theorem RX8_spans {E : FX} {l : Launch} {D : Nat} {post : Option AV → MM → Prop} {M : MM} {x0 : Nat} {x1 : Int} {x2 : Int} (h0 : VX8_spans_0 E l D post M x0 x1 x2) : Con E l (D + 1) qX8_spans [vr x0, vi x1, vi x2] M post := by
  refine con_of (by decide +kernel) (Nat.le_of_ble_eq_true rfl) (fun z C r => ?_)
  exact v_sub [0, 1, 2] rfl (SX8_spans_0 C r h0)
def VX8_write_34 (E : FX) (l : Launch) (D : Nat) (post : Option AV → MM → Prop) (M : MM) (s0 : Nat) (s1 : Int) (s2 : Int) : Prop :=
  Con E l D qX7_put_ [vr s0, vi s1, vj s2] M (fun r M1 => r = none ∧ (post none M1))
set_option maxRecDepth 20000 in
theorem SX8_write_34 {E : FX} {l : Launch} {D : Nat} {post : Option AV → MM → Prop} {z : RT} (C : Cx E z D RX8 cX8_write 4) (r : Rt E z none post) {M : MM} {s0 : Nat} {s1 : Int} {s2 : Int} (h : VX8_write_34 E l D post M s0 s1 s2) : Aj E l z 34 [] [vj s2, vi s1, vr s0] M := by
  unfold VX8_write_34 at h
  refine v_callS (q := qX7_put_) (As := [vr s0, vi s1, vj s2]) (S := []) C co_yX7_put_ ml_RX8_26 st_yX7_put_ ini_RX7 hq_X7_put_ (by decide) (Nat.le_of_ble_eq_true rfl) rfl dX8_write_34 (Con.mono h (fun rr M1 hr => ?_) (Nat.le_refl _))
  obtain ⟨rfl, g2⟩ := hr
  show Aj E l z (34 + 3) [] [] M1
  exact v_vret C r dX8_write_37 g2
def VX8_write_0 (E : FX) (l : Launch) (D : Nat) (post : Option AV → MM → Prop) (M : MM) (x0 : Nat) (x1 : Int) (x2 : Int) : Prop :=
  kd x0 = (3, 6) ∧ (∃ k3 : Nat, (ft x0)[0]? = some (k3 + 2) ∧ (kd x0 = (3, 6) ∧ ((ft x0)[2]? = some 0 ∧ (R32 (M x0 2) ∧ ((¬ M x0 2 = 0 → kd x0 = (3, 6) ∧ ((ft x0)[2]? = some 0 ∧ (R32 (M x0 2) ∧ ((¬ M x0 2 = 1 → VX8_write_34 E l D post M k3 x1 x2) ∧ (M x0 2 = 1 → R32 (w32 x2) ∧ (VX8_write_34 E l D post M k3 x1 (w32 x2))))))) ∧ (M x0 2 = 0 → R32 (w16 (w32 x2)) ∧ (VX8_write_34 E l D post M k3 x1 (w16 (w32 x2)))))))))
set_option maxRecDepth 20000 in
theorem SX8_write_0 {E : FX} {l : Launch} {D : Nat} {post : Option AV → MM → Prop} {z : RT} (C : Cx E z D RX8 cX8_write 4) (r : Rt E z none post) {M : MM} {x0 : Nat} {x1 : Int} {x2 : Int} (h : VX8_write_0 E l D post M x0 x1 x2) : Aj E l z 0 [(0, vr x0), (1, vi x1), (2, vj x2)] [] M := by
  unfold VX8_write_0 at h
  refine v_aload_n (i := 0) C dX8_write_0 rfl rfl ?_
  obtain ⟨k3, ek3, gk3⟩ := h.2
  refine v_getf (k := x0) C fl_RX8_9 h.1 ek3 dX8_write_1 ?_
  show Aj E l z (1 + 3) [(0, vr x0), (1, vi x1), (2, vj x2)] [vr k3] M
  refine v_iload_n (i := 1) C dX8_write_4 rfl rfl ?_
  refine v_aload_n (i := 0) C dX8_write_5 rfl rfl ?_
  refine v_getf (k := x0) C fl_RX8_19 gk3.1 gk3.2.1 dX8_write_6 ?_
  show Aj E l z (6 + 3) [(0, vr x0), (1, vi x1), (2, vj x2)] [vi (M x0 2), vi x1, vr k3] M
  refine v_if_ne (tgt := 19) C gk3.2.2.1 dX8_write_9 (by decide) (fun c => ?_) (fun c => ?_)
  · have g4 := gk3.2.2.2.1 c
    refine v_aload_n (i := 0) C dX8_write_19 rfl rfl ?_
    refine v_getf (k := x0) C fl_RX8_19 g4.1 g4.2.1 dX8_write_20 ?_
    show Aj E l z (20 + 3) [(0, vr x0), (1, vi x1), (2, vj x2)] [vi (M x0 2), vi x1, vr k3] M
    refine v_iconst C dX8_write_23 ?_
    refine v_icmp_ne (tgt := 33) C g4.2.2.1 (by decide) dX8_write_24 (by decide) (fun c => ?_) (fun c => ?_)
    · have g6 := g4.2.2.2.1 c
      refine v_lload_n (i := 2) C dX8_write_33 rfl rfl ?_
      exact v_sub [] rfl (SX8_write_34 C r g6)
    · have g7 := g4.2.2.2.2 c
      refine v_lload_n (i := 2) C dX8_write_27 rfl rfl ?_
      refine v_l2i C dX8_write_28 ?_
      refine v_i2l C g7.1 dX8_write_29 ?_
      refine v_goto C dX8_write_30 (tgt := 34) (by decide) ?_
      exact v_sub [] rfl (SX8_write_34 C r g7.2)
  · have g5 := gk3.2.2.2.2 c
    refine v_lload_n (i := 2) C dX8_write_12 rfl rfl ?_
    refine v_l2i C dX8_write_13 ?_
    refine v_i2s C dX8_write_14 ?_
    refine v_i2l C g5.1 dX8_write_15 ?_
    refine v_goto C dX8_write_16 (tgt := 34) (by decide) ?_
    exact v_sub [] rfl (SX8_write_34 C r g5.2)
theorem RX8_write {E : FX} {l : Launch} {D : Nat} {post : Option AV → MM → Prop} {M : MM} {x0 : Nat} {x1 : Int} {x2 : Int} (h0 : VX8_write_0 E l D post M x0 x1 x2) : Con E l (D + 1) qX8_write [vr x0, vi x1, vj x2] M post := by
  refine con_of (by decide +kernel) (Nat.le_of_ble_eq_true rfl) (fun z C r => ?_)
  exact v_sub [0, 1, 2] rfl (SX8_write_0 C r h0)
def VX8_allWithin_0 (E : FX) (l : Launch) (D : Nat) (post : Option AV → MM → Prop) (J3 : MM → Nat → Int → Int → Int → Int → Int → Prop) (M : MM) (x0 : Nat) (x1 : Int) (x2 : Int) (x3 : Int) (x4 : Int) : Prop :=
  J3 M x0 x1 x2 x3 x4 x1
set_option maxRecDepth 20000 in
theorem SX8_allWithin_0 {E : FX} {l : Launch} {D : Nat} {post : Option AV → MM → Prop} {z : RT} {J3 : MM → Nat → Int → Int → Int → Int → Int → Prop} (C : Cx E z D RX8 cX8_allWithin 6) (r : Rt E z (some .boolean) post) (hJ3 : ∀ (M : MM) (x0 : Nat) (x1 : Int) (x2 : Int) (x3 : Int) (x4 : Int) (x5 : Int), J3 M x0 x1 x2 x3 x4 x5 → Aj E l z 3 [(0, vr x0), (1, vi x1), (2, vi x2), (3, vi x3), (4, vi x4), (5, vi x5)] [] M) {M : MM} {x0 : Nat} {x1 : Int} {x2 : Int} {x3 : Int} {x4 : Int} (h : VX8_allWithin_0 E l D post J3 M x0 x1 x2 x3 x4) : Aj E l z 0 [(0, vr x0), (1, vi x1), (2, vi x2), (3, vi x3), (4, vi x4)] [] M := by
  unfold VX8_allWithin_0 at h
  refine v_iload_n (i := 1) C dX8_allWithin_0 rfl rfl ?_
  refine v_istore (L' := [(5, vi x1), (0, vr x0), (1, vi x1), (2, vi x2), (3, vi x3), (4, vi x4)]) C dX8_allWithin_1 (by decide) rfl ?_
  exact v_sub [1, 2, 3, 4, 5, 0] rfl (hJ3 _ _ _ _ _ _ _ h)
def VX8_allWithin_42 (E : FX) (l : Launch) (D : Nat) (post : Option AV → MM → Prop) (J3 : MM → Nat → Int → Int → Int → Int → Int → Prop) (M : MM) : Prop :=
  post (some (vi 0)) M
set_option maxRecDepth 20000 in
theorem SX8_allWithin_42 {E : FX} {l : Launch} {D : Nat} {post : Option AV → MM → Prop} {z : RT} {J3 : MM → Nat → Int → Int → Int → Int → Int → Prop} (C : Cx E z D RX8 cX8_allWithin 6) (r : Rt E z (some .boolean) post) (hJ3 : ∀ (M : MM) (x0 : Nat) (x1 : Int) (x2 : Int) (x3 : Int) (x4 : Int) (x5 : Int), J3 M x0 x1 x2 x3 x4 x5 → Aj E l z 3 [(0, vr x0), (1, vi x1), (2, vi x2), (3, vi x3), (4, vi x4), (5, vi x5)] [] M) {M : MM} (h : VX8_allWithin_42 E l D post J3 M) : Aj E l z 42 [] [] M := by
  unfold VX8_allWithin_42 at h
  refine v_iconst C dX8_allWithin_42 ?_
  exact v_zret C r (by decide) dX8_allWithin_43 h
def VX8_allWithin_3 (E : FX) (l : Launch) (D : Nat) (post : Option AV → MM → Prop) (J3 : MM → Nat → Int → Int → Int → Int → Int → Prop) (M : MM) (x0 : Nat) (x1 : Int) (x2 : Int) (x3 : Int) (x4 : Int) (x5 : Int) : Prop :=
  R32 x5 ∧ (R32 (x1 + x2) ∧ ((x1 + x2 ≤ x5 → post (some (vi 1)) M) ∧ (¬ x1 + x2 ≤ x5 → kd x0 = (3, 6) ∧ (∃ k3 : Nat, (ft x0)[0]? = some (k3 + 2) ∧ (Con E l D qX7_at_ [vr k3, vi x5] M (fun r M4 => ∃ y5 : Int, r = some (vj y5) ∧ (R32 x3 ∧ (R64 y5 ∧ (R64 x3 ∧ ((y5 < x3 → post (some (vi 0)) M4) ∧ (¬ y5 < x3 → kd x0 = (3, 6) ∧ (∃ k9 : Nat, (ft x0)[0]? = some (k9 + 2) ∧ (Con E l D qX7_at_ [vr k9, vi x5] M4 (fun r M10 => ∃ y11 : Int, r = some (vj y11) ∧ (R32 x4 ∧ (R64 y11 ∧ (R64 x4 ∧ ((y11 ≤ x4 → ∀ y15 : Int, y15 = x5 + 1 → (J3 M10 x0 x1 x2 x3 x4 y15)) ∧ (¬ y11 ≤ x4 → post (some (vi 0)) M10)))))))))))))))))))
set_option maxRecDepth 20000 in
theorem SX8_allWithin_3 {E : FX} {l : Launch} {D : Nat} {post : Option AV → MM → Prop} {z : RT} {J3 : MM → Nat → Int → Int → Int → Int → Int → Prop} (C : Cx E z D RX8 cX8_allWithin 6) (r : Rt E z (some .boolean) post) (hJ3 : ∀ (M : MM) (x0 : Nat) (x1 : Int) (x2 : Int) (x3 : Int) (x4 : Int) (x5 : Int), J3 M x0 x1 x2 x3 x4 x5 → Aj E l z 3 [(0, vr x0), (1, vi x1), (2, vi x2), (3, vi x3), (4, vi x4), (5, vi x5)] [] M) {M : MM} {x0 : Nat} {x1 : Int} {x2 : Int} {x3 : Int} {x4 : Int} {x5 : Int} (h : VX8_allWithin_3 E l D post J3 M x0 x1 x2 x3 x4 x5) : Aj E l z 3 [(0, vr x0), (1, vi x1), (2, vi x2), (3, vi x3), (4, vi x4), (5, vi x5)] [] M := by
  unfold VX8_allWithin_3 at h
  refine v_iload (i := 5) C dX8_allWithin_3 rfl ?_
  refine v_iload_n (i := 1) C dX8_allWithin_5 rfl rfl ?_
  refine v_iload_n (i := 2) C dX8_allWithin_6 rfl rfl ?_
  refine v_iadd C dX8_allWithin_7 ?_
  refine v_icmp_ge (tgt := 50) C h.1 h.2.1 dX8_allWithin_8 (by decide) (fun c => ?_) (fun c => ?_)
  · have g1 := h.2.2.1 c
    refine v_iconst C dX8_allWithin_50 ?_
    exact v_zret C r (by decide) dX8_allWithin_51 g1
  · have g2 := h.2.2.2 c
    refine v_aload_n (i := 0) C dX8_allWithin_11 rfl rfl ?_
    obtain ⟨k3, ek3, gk3⟩ := g2.2
    refine v_getf (k := x0) C fl_RX8_9 g2.1 ek3 dX8_allWithin_12 ?_
    show Aj E l z (12 + 3) [(0, vr x0), (1, vi x1), (2, vi x2), (3, vi x3), (4, vi x4), (5, vi x5)] [vr k3] M
    refine v_iload (i := 5) C dX8_allWithin_15 rfl ?_
    refine v_callS (q := qX7_at_) (As := [vr k3, vi x5]) (S := []) C co_yX7_at_ ml_RX8_32 st_yX7_at_ ini_RX7 hq_X7_at_ (by decide) (Nat.le_of_ble_eq_true rfl) rfl dX8_allWithin_17 (Con.mono gk3 (fun rr M4 hr => ?_) (Nat.le_refl _))
    obtain ⟨y5, rfl, g6⟩ := hr
    show Aj E l z (17 + 3) [(0, vr x0), (1, vi x1), (2, vi x2), (3, vi x3), (4, vi x4), (5, vi x5)] [vj y5] M4
    refine v_iload_n (i := 3) C dX8_allWithin_20 rfl rfl ?_
    refine v_i2l C g6.1 dX8_allWithin_21 ?_
    refine v_lif_lt (tgt := 42) C g6.2.1 g6.2.2.1 dX8_allWithin_22 dX8_allWithin_23 (by decide) (fun c => ?_) (fun c => ?_)
    · have g7 := g6.2.2.2.1 c
      refine v_iconst C dX8_allWithin_42 ?_
      exact v_zret C r (by decide) dX8_allWithin_43 g7
    · have g8 := g6.2.2.2.2 c
      refine v_aload_n (i := 0) C dX8_allWithin_26 rfl rfl ?_
      obtain ⟨k9, ek9, gk9⟩ := g8.2
      refine v_getf (k := x0) C fl_RX8_9 g8.1 ek9 dX8_allWithin_27 ?_
      show Aj E l z (27 + 3) [(0, vr x0), (1, vi x1), (2, vi x2), (3, vi x3), (4, vi x4), (5, vi x5)] [vr k9] M4
      refine v_iload (i := 5) C dX8_allWithin_30 rfl ?_
      refine v_callS (q := qX7_at_) (As := [vr k9, vi x5]) (S := []) C co_yX7_at_ ml_RX8_32 st_yX7_at_ ini_RX7 hq_X7_at_ (by decide) (Nat.le_of_ble_eq_true rfl) rfl dX8_allWithin_32 (Con.mono gk9 (fun rr M10 hr => ?_) (Nat.le_refl _))
      obtain ⟨y11, rfl, g12⟩ := hr
      show Aj E l z (32 + 3) [(0, vr x0), (1, vi x1), (2, vi x2), (3, vi x3), (4, vi x4), (5, vi x5)] [vj y11] M10
      refine v_iload (i := 4) C dX8_allWithin_35 rfl ?_
      refine v_i2l C g12.1 dX8_allWithin_37 ?_
      refine v_lif_le (tgt := 44) C g12.2.1 g12.2.2.1 dX8_allWithin_38 dX8_allWithin_39 (by decide) (fun c => ?_) (fun c => ?_)
      · have g13 := g12.2.2.2.1 c
        obtain ⟨y15, hy15⟩ : ∃ y : Int, y = x5 + 1 := ⟨_, rfl⟩
        have g16 := g13 y15 hy15
        refine v_iinc (i := 5) (L' := [(5, vi y15), (0, vr x0), (1, vi x1), (2, vi x2), (3, vi x3), (4, vi x4)]) C dX8_allWithin_44 rfl (by decide) hy15 rfl ?_
        refine v_goto C dX8_allWithin_47 (tgt := 3) (by decide) ?_
        exact v_sub [1, 2, 3, 4, 5, 0] rfl (hJ3 _ _ _ _ _ _ _ g16)
      · have g14 := g12.2.2.2.2 c
        refine v_iconst C dX8_allWithin_42 ?_
        exact v_zret C r (by decide) dX8_allWithin_43 g14
theorem RX8_allWithin {E : FX} {l : Launch} {D : Nat} {post : Option AV → MM → Prop} (I3 : MM → Nat → Int → Int → Int → Int → Int → Prop) (m3 : MM → Nat → Int → Int → Int → Int → Int → Nat) {M : MM} {x0 : Nat} {x1 : Int} {x2 : Int} {x3 : Int} {x4 : Int} (h0 : VX8_allWithin_0 E l D post I3 M x0 x1 x2 x3 x4) (h3I : ∀ (M : MM) (x0 : Nat) (x1 : Int) (x2 : Int) (x3 : Int) (x4 : Int) (x5 : Int), I3 M x0 x1 x2 x3 x4 x5 → VX8_allWithin_3 E l D post (fun M' x0' x1' x2' x3' x4' x5' => I3 M' x0' x1' x2' x3' x4' x5' ∧ m3 M' x0' x1' x2' x3' x4' x5' < m3 M x0 x1 x2 x3 x4 x5) M x0 x1 x2 x3 x4 x5) : Con E l (D + 1) qX8_allWithin [vr x0, vi x1, vi x2, vi x3, vi x4] M post := by
  refine con_of (by decide +kernel) (Nat.le_of_ble_eq_true rfl) (fun z C r => ?_)
  have all : ∀ n : Nat, (∀ (M : MM) (x0 : Nat) (x1 : Int) (x2 : Int) (x3 : Int) (x4 : Int) (x5 : Int), I3 M x0 x1 x2 x3 x4 x5 → m3 M x0 x1 x2 x3 x4 x5 < n → Aj E l z 3 [(0, vr x0), (1, vi x1), (2, vi x2), (3, vi x3), (4, vi x4), (5, vi x5)] [] M) := by
    intro n
    induction n with
    | zero => exact fun _ _ _ _ _ _ _ _ hm => absurd hm (Nat.not_lt_zero _)
    | succ n ih => exact fun M x0 x1 x2 x3 x4 x5 hi hm => SX8_allWithin_3 C r (fun M' x0' x1' x2' x3' x4' x5' hj => ih M' x0' x1' x2' x3' x4' x5' hj.1 (by omega)) (h3I M x0 x1 x2 x3 x4 x5 hi)
  exact v_sub [0, 1, 2, 3, 4] rfl (SX8_allWithin_0 C r (fun M' x0' x1' x2' x3' x4' x5' hj => (all _) M' x0' x1' x2' x3' x4' x5' hj (Nat.lt_succ_self _)) h0)
def VX8_sumOf_0 (E : FX) (l : Launch) (D : Nat) (post : Option AV → MM → Prop) (J5 : MM → Nat → Int → Int → Int → Int → Prop) (M : MM) (x0 : Nat) (x1 : Int) (x2 : Int) : Prop :=
  J5 M x0 x1 x2 0 0
set_option maxRecDepth 20000 in
theorem SX8_sumOf_0 {E : FX} {l : Launch} {D : Nat} {post : Option AV → MM → Prop} {z : RT} {J5 : MM → Nat → Int → Int → Int → Int → Prop} (C : Cx E z D RX8 cX8_sumOf 6) (r : Rt E z (some .long) post) (hJ5 : ∀ (M : MM) (x0 : Nat) (x1 : Int) (x2 : Int) (x3 : Int) (x5 : Int), J5 M x0 x1 x2 x3 x5 → Aj E l z 5 [(0, vr x0), (1, vi x1), (2, vi x2), (3, vj x3), (5, vi x5)] [] M) {M : MM} {x0 : Nat} {x1 : Int} {x2 : Int} (h : VX8_sumOf_0 E l D post J5 M x0 x1 x2) : Aj E l z 0 [(0, vr x0), (1, vi x1), (2, vi x2)] [] M := by
  unfold VX8_sumOf_0 at h
  refine v_lconst (x := 0) C dX8_sumOf_0 (by decide) ?_
  refine v_lstore_n (L' := [(3, vj 0), (0, vr x0), (1, vi x1), (2, vi x2)]) C dX8_sumOf_1 rfl (by decide) rfl ?_
  refine v_iconst C dX8_sumOf_2 ?_
  refine v_istore (L' := [(5, vi 0), (3, vj 0), (0, vr x0), (1, vi x1), (2, vi x2)]) C dX8_sumOf_3 (by decide) rfl ?_
  exact v_sub [2, 3, 4, 1, 0] rfl (hJ5 _ _ _ _ _ _ h)
def VX8_sumOf_36 (E : FX) (l : Launch) (D : Nat) (post : Option AV → MM → Prop) (J5 : MM → Nat → Int → Int → Int → Int → Prop) (M : MM) (x0 : Nat) (x1 : Int) (x2 : Int) (x3 : Int) (x5 : Int) : Prop :=
  ∀ y1 : Int, y1 = x5 + 1 → (J5 M x0 x1 x2 x3 y1)
set_option maxRecDepth 20000 in
theorem SX8_sumOf_36 {E : FX} {l : Launch} {D : Nat} {post : Option AV → MM → Prop} {z : RT} {J5 : MM → Nat → Int → Int → Int → Int → Prop} (C : Cx E z D RX8 cX8_sumOf 6) (r : Rt E z (some .long) post) (hJ5 : ∀ (M : MM) (x0 : Nat) (x1 : Int) (x2 : Int) (x3 : Int) (x5 : Int), J5 M x0 x1 x2 x3 x5 → Aj E l z 5 [(0, vr x0), (1, vi x1), (2, vi x2), (3, vj x3), (5, vi x5)] [] M) {M : MM} {x0 : Nat} {x1 : Int} {x2 : Int} {x3 : Int} {x5 : Int} (h : VX8_sumOf_36 E l D post J5 M x0 x1 x2 x3 x5) : Aj E l z 36 [(0, vr x0), (1, vi x1), (2, vi x2), (3, vj x3), (5, vi x5)] [] M := by
  unfold VX8_sumOf_36 at h
  obtain ⟨y1, hy1⟩ : ∃ y : Int, y = x5 + 1 := ⟨_, rfl⟩
  have g2 := h y1 hy1
  refine v_iinc (i := 4) (L' := [(5, vi y1), (0, vr x0), (1, vi x1), (2, vi x2), (3, vj x3)]) C dX8_sumOf_36 rfl (by decide) hy1 rfl ?_
  refine v_goto C dX8_sumOf_39 (tgt := 5) (by decide) ?_
  exact v_sub [1, 2, 3, 4, 0] rfl (hJ5 _ _ _ _ _ _ g2)
def VX8_sumOf_5 (E : FX) (l : Launch) (D : Nat) (post : Option AV → MM → Prop) (J5 : MM → Nat → Int → Int → Int → Int → Prop) (M : MM) (x0 : Nat) (x1 : Int) (x2 : Int) (x3 : Int) (x5 : Int) : Prop :=
  R32 x5 ∧ ((6 ≤ x5 → post (some (vj x3)) M) ∧ (¬ 6 ≤ x5 → R32 (iand (ishr x2 x5) 1) ∧ ((¬ iand (ishr x2 x5) 1 = 1 → ∀ y7 : Int, y7 = x5 + 1 → (J5 M x0 x1 x2 x3 y7)) ∧ (iand (ishr x2 x5) 1 = 1 → kd x0 = (3, 6) ∧ (∃ k9 : Nat, (ft x0)[0]? = some (k9 + 2) ∧ (Con E l D qX7_at_ [vr k9, vi (x1 + x5)] M (fun r M10 => ∃ y11 : Int, r = some (vj y11) ∧ (∀ y13 : Int, y13 = x3 + y11 → (VX8_sumOf_36 E l D post J5 M10 x0 x1 x2 y13 x5)))))))))
set_option maxRecDepth 20000 in
theorem SX8_sumOf_5 {E : FX} {l : Launch} {D : Nat} {post : Option AV → MM → Prop} {z : RT} {J5 : MM → Nat → Int → Int → Int → Int → Prop} (C : Cx E z D RX8 cX8_sumOf 6) (r : Rt E z (some .long) post) (hJ5 : ∀ (M : MM) (x0 : Nat) (x1 : Int) (x2 : Int) (x3 : Int) (x5 : Int), J5 M x0 x1 x2 x3 x5 → Aj E l z 5 [(0, vr x0), (1, vi x1), (2, vi x2), (3, vj x3), (5, vi x5)] [] M) {M : MM} {x0 : Nat} {x1 : Int} {x2 : Int} {x3 : Int} {x5 : Int} (h : VX8_sumOf_5 E l D post J5 M x0 x1 x2 x3 x5) : Aj E l z 5 [(0, vr x0), (1, vi x1), (2, vi x2), (3, vj x3), (5, vi x5)] [] M := by
  unfold VX8_sumOf_5 at h
  refine v_iload (i := 4) C dX8_sumOf_5 rfl ?_
  refine v_bipush C dX8_sumOf_7 (by decide) ?_
  refine v_icmp_ge (tgt := 42) C h.1 (by decide) dX8_sumOf_9 (by decide) (fun c => ?_) (fun c => ?_)
  · have g3 := h.2.1 c
    refine v_lload_n (i := 3) C dX8_sumOf_42 rfl rfl ?_
    exact v_lret C r dX8_sumOf_43 g3
  · have g4 := h.2.2 c
    refine v_iload_n (i := 2) C dX8_sumOf_12 rfl rfl ?_
    refine v_iload (i := 4) C dX8_sumOf_13 rfl ?_
    refine v_ishr C dX8_sumOf_15 ?_
    refine v_iconst C dX8_sumOf_16 ?_
    refine v_iand C dX8_sumOf_17 ?_
    refine v_iconst C dX8_sumOf_18 ?_
    refine v_icmp_ne (tgt := 36) C g4.1 (by decide) dX8_sumOf_19 (by decide) (fun c => ?_) (fun c => ?_)
    · have g5 := g4.2.1 c
      obtain ⟨y7, hy7⟩ : ∃ y : Int, y = x5 + 1 := ⟨_, rfl⟩
      have g8 := g5 y7 hy7
      refine v_iinc (i := 4) (L' := [(5, vi y7), (0, vr x0), (1, vi x1), (2, vi x2), (3, vj x3)]) C dX8_sumOf_36 rfl (by decide) hy7 rfl ?_
      refine v_goto C dX8_sumOf_39 (tgt := 5) (by decide) ?_
      exact v_sub [1, 2, 3, 4, 0] rfl (hJ5 _ _ _ _ _ _ g8)
    · have g6 := g4.2.2 c
      refine v_lload_n (i := 3) C dX8_sumOf_22 rfl rfl ?_
      refine v_aload_n (i := 0) C dX8_sumOf_23 rfl rfl ?_
      obtain ⟨k9, ek9, gk9⟩ := g6.2
      refine v_getf (k := x0) C fl_RX8_9 g6.1 ek9 dX8_sumOf_24 ?_
      show Aj E l z (24 + 3) [(0, vr x0), (1, vi x1), (2, vi x2), (3, vj x3), (5, vi x5)] [vr k9, vj x3] M
      refine v_iload_n (i := 1) C dX8_sumOf_27 rfl rfl ?_
      refine v_iload (i := 4) C dX8_sumOf_28 rfl ?_
      refine v_iadd C dX8_sumOf_30 ?_
      refine v_callS (q := qX7_at_) (As := [vr k9, vi (x1 + x5)]) (S := [vj x3]) C co_yX7_at_ ml_RX8_32 st_yX7_at_ ini_RX7 hq_X7_at_ (by decide) (Nat.le_of_ble_eq_true rfl) rfl dX8_sumOf_31 (Con.mono gk9 (fun rr M10 hr => ?_) (Nat.le_refl _))
      obtain ⟨y11, rfl, g12⟩ := hr
      show Aj E l z (31 + 3) [(0, vr x0), (1, vi x1), (2, vi x2), (3, vj x3), (5, vi x5)] [vj y11, vj x3] M10
      refine v_ladd C dX8_sumOf_34 ?_
      obtain ⟨y13, hy13⟩ : ∃ y : Int, y = x3 + y11 := ⟨_, rfl⟩
      have g14 := g12 y13 hy13
      refine v_eqj hy13 ?_
      refine v_lstore_n (L' := [(3, vj y13), (0, vr x0), (1, vi x1), (2, vi x2), (5, vi x5)]) C dX8_sumOf_35 rfl (by decide) rfl ?_
      exact v_sub [1, 2, 3, 0, 4] rfl (SX8_sumOf_36 C r hJ5 g14)
theorem RX8_sumOf {E : FX} {l : Launch} {D : Nat} {post : Option AV → MM → Prop} (I5 : MM → Nat → Int → Int → Int → Int → Prop) (m5 : MM → Nat → Int → Int → Int → Int → Nat) {M : MM} {x0 : Nat} {x1 : Int} {x2 : Int} (h0 : VX8_sumOf_0 E l D post I5 M x0 x1 x2) (h5I : ∀ (M : MM) (x0 : Nat) (x1 : Int) (x2 : Int) (x3 : Int) (x5 : Int), I5 M x0 x1 x2 x3 x5 → VX8_sumOf_5 E l D post (fun M' x0' x1' x2' x3' x5' => I5 M' x0' x1' x2' x3' x5' ∧ m5 M' x0' x1' x2' x3' x5' < m5 M x0 x1 x2 x3 x5) M x0 x1 x2 x3 x5) : Con E l (D + 1) qX8_sumOf [vr x0, vi x1, vi x2] M post := by
  refine con_of (by decide +kernel) (Nat.le_of_ble_eq_true rfl) (fun z C r => ?_)
  have all : ∀ n : Nat, (∀ (M : MM) (x0 : Nat) (x1 : Int) (x2 : Int) (x3 : Int) (x5 : Int), I5 M x0 x1 x2 x3 x5 → m5 M x0 x1 x2 x3 x5 < n → Aj E l z 5 [(0, vr x0), (1, vi x1), (2, vi x2), (3, vj x3), (5, vi x5)] [] M) := by
    intro n
    induction n with
    | zero => exact fun _ _ _ _ _ _ _ hm => absurd hm (Nat.not_lt_zero _)
    | succ n ih => exact fun M x0 x1 x2 x3 x5 hi hm => SX8_sumOf_5 C r (fun M' x0' x1' x2' x3' x5' hj => ih M' x0' x1' x2' x3' x5' hj.1 (by omega)) (h5I M x0 x1 x2 x3 x5 hi)
  exact v_sub [0, 1, 2] rfl (SX8_sumOf_0 C r (fun M' x0' x1' x2' x3' x5' hj => (all _) M' x0' x1' x2' x3' x5' hj (Nat.lt_succ_self _)) h0)
def VX8_commonOf_0 (E : FX) (l : Launch) (D : Nat) (post : Option AV → MM → Prop) (J5 : MM → Nat → Int → Int → Int → Int → Prop) (M : MM) (x0 : Nat) (x1 : Int) (x2 : Int) : Prop :=
  J5 M x0 x1 x2 0 x1
set_option maxRecDepth 20000 in
theorem SX8_commonOf_0 {E : FX} {l : Launch} {D : Nat} {post : Option AV → MM → Prop} {z : RT} {J5 : MM → Nat → Int → Int → Int → Int → Prop} (C : Cx E z D RX8 cX8_commonOf 6) (r : Rt E z (some .long) post) (hJ5 : ∀ (M : MM) (x0 : Nat) (x1 : Int) (x2 : Int) (x3 : Int) (x5 : Int), J5 M x0 x1 x2 x3 x5 → Aj E l z 5 [(0, vr x0), (1, vi x1), (2, vi x2), (3, vj x3), (5, vi x5)] [] M) {M : MM} {x0 : Nat} {x1 : Int} {x2 : Int} (h : VX8_commonOf_0 E l D post J5 M x0 x1 x2) : Aj E l z 0 [(0, vr x0), (1, vi x1), (2, vi x2)] [] M := by
  unfold VX8_commonOf_0 at h
  refine v_lconst (x := 0) C dX8_commonOf_0 (by decide) ?_
  refine v_lstore_n (L' := [(3, vj 0), (0, vr x0), (1, vi x1), (2, vi x2)]) C dX8_commonOf_1 rfl (by decide) rfl ?_
  refine v_iload_n (i := 2) C dX8_commonOf_2 rfl rfl ?_
  refine v_istore (L' := [(5, vi x1), (3, vj 0), (0, vr x0), (1, vi x1), (2, vi x2)]) C dX8_commonOf_3 (by decide) rfl ?_
  exact v_sub [2, 3, 4, 1, 0] rfl (hJ5 _ _ _ _ _ _ h)
def VX8_commonOf_5 (E : FX) (l : Launch) (D : Nat) (post : Option AV → MM → Prop) (J5 : MM → Nat → Int → Int → Int → Int → Prop) (M : MM) (x0 : Nat) (x1 : Int) (x2 : Int) (x3 : Int) (x5 : Int) : Prop :=
  R32 x5 ∧ (R32 (x1 + x2) ∧ ((x1 + x2 ≤ x5 → post (some (vj x3)) M) ∧ (¬ x1 + x2 ≤ x5 → kd x0 = (3, 6) ∧ (∃ k3 : Nat, (ft x0)[0]? = some (k3 + 2) ∧ (Con E l D qX7_at_ [vr k3, vi x5] M (fun r M4 => ∃ y5 : Int, r = some (vj y5) ∧ (Con E l D qX7_greatestCommon [vj y5, vj x3] M4 (fun r M7 => ∃ y8 : Int, r = some (vj y8) ∧ (∀ y10 : Int, y10 = x5 + 1 → (J5 M7 x0 x1 x2 y8 y10))))))))))
set_option maxRecDepth 20000 in
theorem SX8_commonOf_5 {E : FX} {l : Launch} {D : Nat} {post : Option AV → MM → Prop} {z : RT} {J5 : MM → Nat → Int → Int → Int → Int → Prop} (C : Cx E z D RX8 cX8_commonOf 6) (r : Rt E z (some .long) post) (hJ5 : ∀ (M : MM) (x0 : Nat) (x1 : Int) (x2 : Int) (x3 : Int) (x5 : Int), J5 M x0 x1 x2 x3 x5 → Aj E l z 5 [(0, vr x0), (1, vi x1), (2, vi x2), (3, vj x3), (5, vi x5)] [] M) {M : MM} {x0 : Nat} {x1 : Int} {x2 : Int} {x3 : Int} {x5 : Int} (h : VX8_commonOf_5 E l D post J5 M x0 x1 x2 x3 x5) : Aj E l z 5 [(0, vr x0), (1, vi x1), (2, vi x2), (3, vj x3), (5, vi x5)] [] M := by
  unfold VX8_commonOf_5 at h
  refine v_iload (i := 4) C dX8_commonOf_5 rfl ?_
  refine v_iload_n (i := 1) C dX8_commonOf_7 rfl rfl ?_
  refine v_iload_n (i := 2) C dX8_commonOf_8 rfl rfl ?_
  refine v_iadd C dX8_commonOf_9 ?_
  refine v_icmp_ge (tgt := 33) C h.1 h.2.1 dX8_commonOf_10 (by decide) (fun c => ?_) (fun c => ?_)
  · have g1 := h.2.2.1 c
    refine v_lload_n (i := 3) C dX8_commonOf_33 rfl rfl ?_
    exact v_lret C r dX8_commonOf_34 g1
  · have g2 := h.2.2.2 c
    refine v_aload_n (i := 0) C dX8_commonOf_13 rfl rfl ?_
    obtain ⟨k3, ek3, gk3⟩ := g2.2
    refine v_getf (k := x0) C fl_RX8_9 g2.1 ek3 dX8_commonOf_14 ?_
    show Aj E l z (14 + 3) [(0, vr x0), (1, vi x1), (2, vi x2), (3, vj x3), (5, vi x5)] [vr k3] M
    refine v_iload (i := 4) C dX8_commonOf_17 rfl ?_
    refine v_callS (q := qX7_at_) (As := [vr k3, vi x5]) (S := []) C co_yX7_at_ ml_RX8_32 st_yX7_at_ ini_RX7 hq_X7_at_ (by decide) (Nat.le_of_ble_eq_true rfl) rfl dX8_commonOf_19 (Con.mono gk3 (fun rr M4 hr => ?_) (Nat.le_refl _))
    obtain ⟨y5, rfl, g6⟩ := hr
    show Aj E l z (19 + 3) [(0, vr x0), (1, vi x1), (2, vi x2), (3, vj x3), (5, vi x5)] [vj y5] M4
    refine v_lload_n (i := 3) C dX8_commonOf_22 rfl rfl ?_
    refine v_callS (q := qX7_greatestCommon) (As := [vj y5, vj x3]) (S := []) C co_yX7_greatestCommon ml_RX8_36 st_yX7_greatestCommon ini_RX7 hq_X7_greatestCommon (by decide) (Nat.le_of_ble_eq_true rfl) rfl dX8_commonOf_23 (Con.mono g6 (fun rr M7 hr => ?_) (Nat.le_refl _))
    obtain ⟨y8, rfl, g9⟩ := hr
    show Aj E l z (23 + 3) [(0, vr x0), (1, vi x1), (2, vi x2), (3, vj x3), (5, vi x5)] [vj y8] M7
    refine v_lstore_n (L' := [(3, vj y8), (0, vr x0), (1, vi x1), (2, vi x2), (5, vi x5)]) C dX8_commonOf_26 rfl (by decide) rfl ?_
    obtain ⟨y10, hy10⟩ : ∃ y : Int, y = x5 + 1 := ⟨_, rfl⟩
    have g11 := g9 y10 hy10
    refine v_iinc (i := 4) (L' := [(5, vi y10), (3, vj y8), (0, vr x0), (1, vi x1), (2, vi x2)]) C dX8_commonOf_27 rfl (by decide) hy10 rfl ?_
    refine v_goto C dX8_commonOf_30 (tgt := 5) (by decide) ?_
    exact v_sub [2, 3, 4, 1, 0] rfl (hJ5 _ _ _ _ _ _ g11)
theorem RX8_commonOf {E : FX} {l : Launch} {D : Nat} {post : Option AV → MM → Prop} (I5 : MM → Nat → Int → Int → Int → Int → Prop) (m5 : MM → Nat → Int → Int → Int → Int → Nat) {M : MM} {x0 : Nat} {x1 : Int} {x2 : Int} (h0 : VX8_commonOf_0 E l D post I5 M x0 x1 x2) (h5I : ∀ (M : MM) (x0 : Nat) (x1 : Int) (x2 : Int) (x3 : Int) (x5 : Int), I5 M x0 x1 x2 x3 x5 → VX8_commonOf_5 E l D post (fun M' x0' x1' x2' x3' x5' => I5 M' x0' x1' x2' x3' x5' ∧ m5 M' x0' x1' x2' x3' x5' < m5 M x0 x1 x2 x3 x5) M x0 x1 x2 x3 x5) : Con E l (D + 1) qX8_commonOf [vr x0, vi x1, vi x2] M post := by
  refine con_of (by decide +kernel) (Nat.le_of_ble_eq_true rfl) (fun z C r => ?_)
  have all : ∀ n : Nat, (∀ (M : MM) (x0 : Nat) (x1 : Int) (x2 : Int) (x3 : Int) (x5 : Int), I5 M x0 x1 x2 x3 x5 → m5 M x0 x1 x2 x3 x5 < n → Aj E l z 5 [(0, vr x0), (1, vi x1), (2, vi x2), (3, vj x3), (5, vi x5)] [] M) := by
    intro n
    induction n with
    | zero => exact fun _ _ _ _ _ _ _ hm => absurd hm (Nat.not_lt_zero _)
    | succ n ih => exact fun M x0 x1 x2 x3 x5 hi hm => SX8_commonOf_5 C r (fun M' x0' x1' x2' x3' x5' hj => ih M' x0' x1' x2' x3' x5' hj.1 (by omega)) (h5I M x0 x1 x2 x3 x5 hi)
  exact v_sub [0, 1, 2] rfl (SX8_commonOf_0 C r (fun M' x0' x1' x2' x3' x5' hj => (all _) M' x0' x1' x2' x3' x5' hj (Nat.lt_succ_self _)) h0)
