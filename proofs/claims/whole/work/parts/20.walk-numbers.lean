def VX7_at_17 (E : FX) (l : Launch) (D : Nat) (post : Option AV → MM → Prop) (M : MM) (s0 : Int) : Prop :=
  post (some (vi s0)) M
set_option maxRecDepth 20000 in
theorem SX7_at_17 {E : FX} {l : Launch} {D : Nat} {post : Option AV → MM → Prop} {z : RT} (C : Cx E z D RX7 cX7_at 2) (r : Rt E z (some .int) post) {M : MM} {s0 : Int} (h : VX7_at_17 E l D post M s0) : Aj E l z 17 [] [vi s0] M := by
  unfold VX7_at_17 at h
  exact v_iret C r dX7_at_17 h
def VX7_at_16 (E : FX) (l : Launch) (D : Nat) (post : Option AV → MM → Prop) (M : MM) : Prop :=
  VX7_at_17 E l D post M 0
set_option maxRecDepth 20000 in
theorem SX7_at_16 {E : FX} {l : Launch} {D : Nat} {post : Option AV → MM → Prop} {z : RT} (C : Cx E z D RX7 cX7_at 2) (r : Rt E z (some .int) post) {M : MM} (h : VX7_at_16 E l D post M) : Aj E l z 16 [] [] M := by
  unfold VX7_at_16 at h
  refine v_iconst C dX7_at_16 ?_
  exact v_sub [] rfl (SX7_at_17 C r h)
def VX7_at_0 (E : FX) (l : Launch) (D : Nat) (post : Option AV → MM → Prop) (M : MM) (x0 : Nat) (x1 : Int) : Prop :=
  R32 x1 ∧ ((x1 < 0 → VX7_at_17 E l D post M 0) ∧ (¬ x1 < 0 → ∃ k3 k4 : Nat, kd x0 = (k3, k4) ∧ k3 < 3 ∧ (R32 x1 ∧ (R32 (k4 : Int) ∧ (((k4 : Int) ≤ x1 → VX7_at_17 E l D post M 0) ∧ (¬ (k4 : Int) ≤ x1 → ∃ k7 : Nat, kd x0 = (0, k7) ∧ (0 ≤ x1 ∧ (x1 < (k7 : Int) ∧ (VX7_at_17 E l D post M (M x0 (x1).toNat))))))))))
set_option maxRecDepth 20000 in
theorem SX7_at_0 {E : FX} {l : Launch} {D : Nat} {post : Option AV → MM → Prop} {z : RT} (C : Cx E z D RX7 cX7_at 2) (r : Rt E z (some .int) post) {M : MM} {x0 : Nat} {x1 : Int} (h : VX7_at_0 E l D post M x0 x1) : Aj E l z 0 [(0, vr x0), (1, vi x1)] [] M := by
  unfold VX7_at_0 at h
  refine v_iload_n (i := 1) C dX7_at_0 rfl rfl ?_
  refine v_if_lt (tgt := 16) C h.1 dX7_at_1 (by decide) (fun c => ?_) (fun c => ?_)
  · have g1 := h.2.1 c
    refine v_iconst C dX7_at_16 ?_
    exact v_sub [] rfl (SX7_at_17 C r g1)
  · have g2 := h.2.2 c
    refine v_iload_n (i := 1) C dX7_at_4 rfl rfl ?_
    refine v_aload_n (i := 0) C dX7_at_5 rfl rfl ?_
    obtain ⟨k3, k4, ek3, lk3, gk3⟩ := g2
    refine v_alen (k := x0) C ek3 lk3 dX7_at_6 ?_
    refine v_icmp_ge (tgt := 16) C gk3.1 gk3.2.1 dX7_at_7 (by decide) (fun c => ?_) (fun c => ?_)
    · have g5 := gk3.2.2.1 c
      refine v_iconst C dX7_at_16 ?_
      exact v_sub [] rfl (SX7_at_17 C r g5)
    · have g6 := gk3.2.2.2 c
      refine v_aload_n (i := 0) C dX7_at_10 rfl rfl ?_
      refine v_iload_n (i := 1) C dX7_at_11 rfl rfl ?_
      obtain ⟨k7, ek7, gk7⟩ := g6
      refine v_iald (k := x0) C ek7 gk7.1 gk7.2.1 dX7_at_12 ?_
      show Aj E l z (12 + 1) [(0, vr x0), (1, vi x1)] [vi (M x0 (x1).toNat)] M
      refine v_goto C dX7_at_13 (tgt := 17) (by decide) ?_
      exact v_sub [] rfl (SX7_at_17 C r gk7.2.2)
theorem RX7_at {E : FX} {l : Launch} {D : Nat} {post : Option AV → MM → Prop} {M : MM} {x0 : Nat} {x1 : Int} (h0 : VX7_at_0 E l D post M x0 x1) : Con E l (D + 1) qX7_at [vr x0, vi x1] M post := by
  refine con_of (by decide +kernel) (Nat.le_of_ble_eq_true rfl) (fun z C r => ?_)
  exact v_sub [0, 1] rfl (SX7_at_0 C r h0)
def VX7_at__17 (E : FX) (l : Launch) (D : Nat) (post : Option AV → MM → Prop) (M : MM) (s0 : Int) : Prop :=
  post (some (vj s0)) M
set_option maxRecDepth 20000 in
theorem SX7_at__17 {E : FX} {l : Launch} {D : Nat} {post : Option AV → MM → Prop} {z : RT} (C : Cx E z D RX7 cX7_at_ 2) (r : Rt E z (some .long) post) {M : MM} {s0 : Int} (h : VX7_at__17 E l D post M s0) : Aj E l z 17 [] [vj s0] M := by
  unfold VX7_at__17 at h
  exact v_lret C r dX7_at__17 h
def VX7_at__16 (E : FX) (l : Launch) (D : Nat) (post : Option AV → MM → Prop) (M : MM) : Prop :=
  VX7_at__17 E l D post M 0
set_option maxRecDepth 20000 in
theorem SX7_at__16 {E : FX} {l : Launch} {D : Nat} {post : Option AV → MM → Prop} {z : RT} (C : Cx E z D RX7 cX7_at_ 2) (r : Rt E z (some .long) post) {M : MM} (h : VX7_at__16 E l D post M) : Aj E l z 16 [] [] M := by
  unfold VX7_at__16 at h
  refine v_lconst (x := 0) C dX7_at__16 (by decide) ?_
  exact v_sub [] rfl (SX7_at__17 C r h)
def VX7_at__0 (E : FX) (l : Launch) (D : Nat) (post : Option AV → MM → Prop) (M : MM) (x0 : Nat) (x1 : Int) : Prop :=
  R32 x1 ∧ ((x1 < 0 → VX7_at__17 E l D post M 0) ∧ (¬ x1 < 0 → ∃ k3 k4 : Nat, kd x0 = (k3, k4) ∧ k3 < 3 ∧ (R32 x1 ∧ (R32 (k4 : Int) ∧ (((k4 : Int) ≤ x1 → VX7_at__17 E l D post M 0) ∧ (¬ (k4 : Int) ≤ x1 → ∃ k7 : Nat, kd x0 = (1, k7) ∧ (0 ≤ x1 ∧ (x1 < (k7 : Int) ∧ (VX7_at__17 E l D post M (M x0 (x1).toNat))))))))))
set_option maxRecDepth 20000 in
theorem SX7_at__0 {E : FX} {l : Launch} {D : Nat} {post : Option AV → MM → Prop} {z : RT} (C : Cx E z D RX7 cX7_at_ 2) (r : Rt E z (some .long) post) {M : MM} {x0 : Nat} {x1 : Int} (h : VX7_at__0 E l D post M x0 x1) : Aj E l z 0 [(0, vr x0), (1, vi x1)] [] M := by
  unfold VX7_at__0 at h
  refine v_iload_n (i := 1) C dX7_at__0 rfl rfl ?_
  refine v_if_lt (tgt := 16) C h.1 dX7_at__1 (by decide) (fun c => ?_) (fun c => ?_)
  · have g1 := h.2.1 c
    refine v_lconst (x := 0) C dX7_at__16 (by decide) ?_
    exact v_sub [] rfl (SX7_at__17 C r g1)
  · have g2 := h.2.2 c
    refine v_iload_n (i := 1) C dX7_at__4 rfl rfl ?_
    refine v_aload_n (i := 0) C dX7_at__5 rfl rfl ?_
    obtain ⟨k3, k4, ek3, lk3, gk3⟩ := g2
    refine v_alen (k := x0) C ek3 lk3 dX7_at__6 ?_
    refine v_icmp_ge (tgt := 16) C gk3.1 gk3.2.1 dX7_at__7 (by decide) (fun c => ?_) (fun c => ?_)
    · have g5 := gk3.2.2.1 c
      refine v_lconst (x := 0) C dX7_at__16 (by decide) ?_
      exact v_sub [] rfl (SX7_at__17 C r g5)
    · have g6 := gk3.2.2.2 c
      refine v_aload_n (i := 0) C dX7_at__10 rfl rfl ?_
      refine v_iload_n (i := 1) C dX7_at__11 rfl rfl ?_
      obtain ⟨k7, ek7, gk7⟩ := g6
      refine v_lald (k := x0) C ek7 gk7.1 gk7.2.1 dX7_at__12 ?_
      show Aj E l z (12 + 1) [(0, vr x0), (1, vi x1)] [vj (M x0 (x1).toNat)] M
      refine v_goto C dX7_at__13 (tgt := 17) (by decide) ?_
      exact v_sub [] rfl (SX7_at__17 C r gk7.2.2)
theorem RX7_at_ {E : FX} {l : Launch} {D : Nat} {post : Option AV → MM → Prop} {M : MM} {x0 : Nat} {x1 : Int} (h0 : VX7_at__0 E l D post M x0 x1) : Con E l (D + 1) qX7_at_ [vr x0, vi x1] M post := by
  refine con_of (by decide +kernel) (Nat.le_of_ble_eq_true rfl) (fun z C r => ?_)
  exact v_sub [0, 1] rfl (SX7_at__0 C r h0)
def VX7_put_14 (E : FX) (l : Launch) (D : Nat) (post : Option AV → MM → Prop) (M : MM) : Prop :=
  post none M
set_option maxRecDepth 20000 in
theorem SX7_put_14 {E : FX} {l : Launch} {D : Nat} {post : Option AV → MM → Prop} {z : RT} (C : Cx E z D RX7 cX7_put 3) (r : Rt E z none post) {M : MM} (h : VX7_put_14 E l D post M) : Aj E l z 14 [] [] M := by
  unfold VX7_put_14 at h
  exact v_vret C r dX7_put_14 h
def VX7_put_0 (E : FX) (l : Launch) (D : Nat) (post : Option AV → MM → Prop) (M : MM) (x0 : Nat) (x1 : Int) (x2 : Int) : Prop :=
  R32 x1 ∧ ((x1 < 0 → post none M) ∧ (¬ x1 < 0 → ∃ k3 k4 : Nat, kd x0 = (k3, k4) ∧ k3 < 3 ∧ (R32 x1 ∧ (R32 (k4 : Int) ∧ (((k4 : Int) ≤ x1 → post none M) ∧ (¬ (k4 : Int) ≤ x1 → ∃ k7 : Nat, kd x0 = (0, k7) ∧ (0 ≤ x1 ∧ (x1 < (k7 : Int) ∧ (∀ M8 : MM, M8 = up M x0 (x1).toNat x2 → (VX7_put_14 E l D post M8 ))))))))))
set_option maxRecDepth 20000 in
theorem SX7_put_0 {E : FX} {l : Launch} {D : Nat} {post : Option AV → MM → Prop} {z : RT} (C : Cx E z D RX7 cX7_put 3) (r : Rt E z none post) {M : MM} {x0 : Nat} {x1 : Int} {x2 : Int} (h : VX7_put_0 E l D post M x0 x1 x2) : Aj E l z 0 [(0, vr x0), (1, vi x1), (2, vi x2)] [] M := by
  unfold VX7_put_0 at h
  refine v_iload_n (i := 1) C dX7_put_0 rfl rfl ?_
  refine v_if_lt (tgt := 14) C h.1 dX7_put_1 (by decide) (fun c => ?_) (fun c => ?_)
  · have g1 := h.2.1 c
    exact v_vret C r dX7_put_14 g1
  · have g2 := h.2.2 c
    refine v_iload_n (i := 1) C dX7_put_4 rfl rfl ?_
    refine v_aload_n (i := 0) C dX7_put_5 rfl rfl ?_
    obtain ⟨k3, k4, ek3, lk3, gk3⟩ := g2
    refine v_alen (k := x0) C ek3 lk3 dX7_put_6 ?_
    refine v_icmp_ge (tgt := 14) C gk3.1 gk3.2.1 dX7_put_7 (by decide) (fun c => ?_) (fun c => ?_)
    · have g5 := gk3.2.2.1 c
      exact v_vret C r dX7_put_14 g5
    · have g6 := gk3.2.2.2 c
      refine v_aload_n (i := 0) C dX7_put_10 rfl rfl ?_
      refine v_iload_n (i := 1) C dX7_put_11 rfl rfl ?_
      refine v_iload_n (i := 2) C dX7_put_12 rfl rfl ?_
      obtain ⟨k7, ek7, gk7⟩ := g6
      refine v_iast (k := x0) C ek7 gk7.1 gk7.2.1 dX7_put_13 ?_
      obtain ⟨M8, hM8⟩ : ∃ X : MM, X = up M x0 (x1).toNat x2 := ⟨_, rfl⟩
      refine v_eqM hM8 ?_
      have g9 := gk7.2.2 M8 hM8
      exact v_sub [] rfl (SX7_put_14 C r g9)
theorem RX7_put {E : FX} {l : Launch} {D : Nat} {post : Option AV → MM → Prop} {M : MM} {x0 : Nat} {x1 : Int} {x2 : Int} (h0 : VX7_put_0 E l D post M x0 x1 x2) : Con E l (D + 1) qX7_put [vr x0, vi x1, vi x2] M post := by
  refine con_of (by decide +kernel) (Nat.le_of_ble_eq_true rfl) (fun z C r => ?_)
  exact v_sub [0, 1, 2] rfl (SX7_put_0 C r h0)
def VX7_put__14 (E : FX) (l : Launch) (D : Nat) (post : Option AV → MM → Prop) (M : MM) : Prop :=
  post none M
set_option maxRecDepth 20000 in
theorem SX7_put__14 {E : FX} {l : Launch} {D : Nat} {post : Option AV → MM → Prop} {z : RT} (C : Cx E z D RX7 cX7_put_ 4) (r : Rt E z none post) {M : MM} (h : VX7_put__14 E l D post M) : Aj E l z 14 [] [] M := by
  unfold VX7_put__14 at h
  exact v_vret C r dX7_put__14 h
def VX7_put__0 (E : FX) (l : Launch) (D : Nat) (post : Option AV → MM → Prop) (M : MM) (x0 : Nat) (x1 : Int) (x2 : Int) : Prop :=
  R32 x1 ∧ ((x1 < 0 → post none M) ∧ (¬ x1 < 0 → ∃ k3 k4 : Nat, kd x0 = (k3, k4) ∧ k3 < 3 ∧ (R32 x1 ∧ (R32 (k4 : Int) ∧ (((k4 : Int) ≤ x1 → post none M) ∧ (¬ (k4 : Int) ≤ x1 → ∃ k7 : Nat, kd x0 = (1, k7) ∧ (0 ≤ x1 ∧ (x1 < (k7 : Int) ∧ (∀ M8 : MM, M8 = up M x0 (x1).toNat x2 → (VX7_put__14 E l D post M8 ))))))))))
set_option maxRecDepth 20000 in
theorem SX7_put__0 {E : FX} {l : Launch} {D : Nat} {post : Option AV → MM → Prop} {z : RT} (C : Cx E z D RX7 cX7_put_ 4) (r : Rt E z none post) {M : MM} {x0 : Nat} {x1 : Int} {x2 : Int} (h : VX7_put__0 E l D post M x0 x1 x2) : Aj E l z 0 [(0, vr x0), (1, vi x1), (2, vj x2)] [] M := by
  unfold VX7_put__0 at h
  refine v_iload_n (i := 1) C dX7_put__0 rfl rfl ?_
  refine v_if_lt (tgt := 14) C h.1 dX7_put__1 (by decide) (fun c => ?_) (fun c => ?_)
  · have g1 := h.2.1 c
    exact v_vret C r dX7_put__14 g1
  · have g2 := h.2.2 c
    refine v_iload_n (i := 1) C dX7_put__4 rfl rfl ?_
    refine v_aload_n (i := 0) C dX7_put__5 rfl rfl ?_
    obtain ⟨k3, k4, ek3, lk3, gk3⟩ := g2
    refine v_alen (k := x0) C ek3 lk3 dX7_put__6 ?_
    refine v_icmp_ge (tgt := 14) C gk3.1 gk3.2.1 dX7_put__7 (by decide) (fun c => ?_) (fun c => ?_)
    · have g5 := gk3.2.2.1 c
      exact v_vret C r dX7_put__14 g5
    · have g6 := gk3.2.2.2 c
      refine v_aload_n (i := 0) C dX7_put__10 rfl rfl ?_
      refine v_iload_n (i := 1) C dX7_put__11 rfl rfl ?_
      refine v_lload_n (i := 2) C dX7_put__12 rfl rfl ?_
      obtain ⟨k7, ek7, gk7⟩ := g6
      refine v_last (k := x0) C ek7 gk7.1 gk7.2.1 dX7_put__13 ?_
      obtain ⟨M8, hM8⟩ : ∃ X : MM, X = up M x0 (x1).toNat x2 := ⟨_, rfl⟩
      refine v_eqM hM8 ?_
      have g9 := gk7.2.2 M8 hM8
      exact v_sub [] rfl (SX7_put__14 C r g9)
theorem RX7_put_ {E : FX} {l : Launch} {D : Nat} {post : Option AV → MM → Prop} {M : MM} {x0 : Nat} {x1 : Int} {x2 : Int} (h0 : VX7_put__0 E l D post M x0 x1 x2) : Con E l (D + 1) qX7_put_ [vr x0, vi x1, vj x2] M post := by
  refine con_of (by decide +kernel) (Nat.le_of_ble_eq_true rfl) (fun z C r => ?_)
  exact v_sub [0, 1, 2] rfl (SX7_put__0 C r h0)
def VX7_fill_0 (E : FX) (l : Launch) (D : Nat) (post : Option AV → MM → Prop) (M : MM) (x0 : Nat) (x1 : Nat) : Prop :=
  ∃ k1 k2 : Nat, kd x1 = (k1, k2) ∧ k1 < 3 ∧ (∃ k3 k4 : Nat, kd x0 = (k3, k4) ∧ k3 < 3 ∧ (R32 (k2 : Int) ∧ (R32 (k4 : Int) ∧ (∀ y5 : Int, y5 = (if (k4 : Int) < (k2 : Int) then (k4 : Int) else (k2 : Int)) → (∃ k7 : Nat, kd x1 = (0, k7) ∧ (∃ k8 : Nat, kd x0 = (0, k8) ∧ (0 ≤ y5 ∧ (0 + y5 ≤ (k7 : Int) ∧ (0 + y5 ≤ (k8 : Int) ∧ (∀ M9 : MM, M9 = cpM M x1 0 x0 0 (y5).toNat → (post none M9)))))))))))
set_option maxRecDepth 20000 in
theorem SX7_fill_0 {E : FX} {l : Launch} {D : Nat} {post : Option AV → MM → Prop} {z : RT} (C : Cx E z D RX7 cX7_fill 2) (r : Rt E z none post) (hD : 1 ≤ D) {M : MM} {x0 : Nat} {x1 : Nat} (h : VX7_fill_0 E l D post M x0 x1) : Aj E l z 0 [(0, vr x0), (1, vr x1)] [] M := by
  unfold VX7_fill_0 at h
  refine v_aload_n (i := 1) C dX7_fill_0 rfl rfl ?_
  refine v_iconst C dX7_fill_1 ?_
  refine v_aload_n (i := 0) C dX7_fill_2 rfl rfl ?_
  refine v_iconst C dX7_fill_3 ?_
  refine v_aload_n (i := 1) C dX7_fill_4 rfl rfl ?_
  obtain ⟨k1, k2, ek1, lk1, gk1⟩ := h
  refine v_alen (k := x1) C ek1 lk1 dX7_fill_5 ?_
  refine v_aload_n (i := 0) C dX7_fill_6 rfl rfl ?_
  obtain ⟨k3, k4, ek3, lk3, gk3⟩ := gk1
  refine v_alen (k := x0) C ek3 lk3 dX7_fill_7 ?_
  refine v_min (S := [vi 0, vr x0, vi 0, vr x1]) C hD ml_RX7_7 (Nat.le_of_ble_eq_true rfl) gk3.1 gk3.2.1 dX7_fill_8 ?_
  obtain ⟨y5, hy5⟩ : ∃ y : Int, y = (if (k4 : Int) < (k2 : Int) then (k4 : Int) else (k2 : Int)) := ⟨_, rfl⟩
  have g6 := gk3.2.2 y5 hy5
  refine v_eqi hy5 ?_
  obtain ⟨k7, ek7, gk7⟩ := g6
  obtain ⟨k8, ek8, gk8⟩ := gk7
  refine v_copyi (S := []) C hD ml_RX7_13 (Nat.le_of_ble_eq_true rfl) ek7 ek8 (by decide) (by decide) gk8.1 gk8.2.1 gk8.2.2.1 dX7_fill_11 ?_
  show Aj E l z (11 + 3) [(0, vr x0), (1, vr x1)] [] (cpM M x1 0 x0 0 (y5).toNat)
  obtain ⟨M9, hM9⟩ : ∃ X : MM, X = cpM M x1 0 x0 0 (y5).toNat := ⟨_, rfl⟩
  refine v_eqM hM9 ?_
  have g10 := gk8.2.2.2 M9 hM9
  exact v_vret C r dX7_fill_14 g10
theorem RX7_fill {E : FX} {l : Launch} {D : Nat} {post : Option AV → MM → Prop} (hD : 1 ≤ D) {M : MM} {x0 : Nat} {x1 : Nat} (h0 : VX7_fill_0 E l D post M x0 x1) : Con E l (D + 1) qX7_fill [vr x0, vr x1] M post := by
  refine con_of (by decide +kernel) (Nat.le_of_ble_eq_true rfl) (fun z C r => ?_)
  exact v_sub [0, 1] rfl (SX7_fill_0 C r hD h0)
def VX7_quotient_13 (E : FX) (l : Launch) (D : Nat) (post : Option AV → MM → Prop) (M : MM) (s0 : Int) : Prop :=
  post (some (vj s0)) M
set_option maxRecDepth 20000 in
theorem SX7_quotient_13 {E : FX} {l : Launch} {D : Nat} {post : Option AV → MM → Prop} {z : RT} (C : Cx E z D RX7 cX7_quotient 4) (r : Rt E z (some .long) post) {M : MM} {s0 : Int} (h : VX7_quotient_13 E l D post M s0) : Aj E l z 13 [] [vj s0] M := by
  unfold VX7_quotient_13 at h
  exact v_lret C r dX7_quotient_13 h
def VX7_quotient_0 (E : FX) (l : Launch) (D : Nat) (post : Option AV → MM → Prop) (M : MM) (x0 : Int) (x2 : Int) : Prop :=
  R64 x2 ∧ ((¬ x2 = 0 → R64 x0 ∧ (R64 x2 ∧ (0 < x2 ∧ (VX7_quotient_13 E l D post M (Int.tdiv x0 x2))))) ∧ (x2 = 0 → VX7_quotient_13 E l D post M 0))
set_option maxRecDepth 20000 in
theorem SX7_quotient_0 {E : FX} {l : Launch} {D : Nat} {post : Option AV → MM → Prop} {z : RT} (C : Cx E z D RX7 cX7_quotient 4) (r : Rt E z (some .long) post) {M : MM} {x0 : Int} {x2 : Int} (h : VX7_quotient_0 E l D post M x0 x2) : Aj E l z 0 [(0, vj x0), (2, vj x2)] [] M := by
  unfold VX7_quotient_0 at h
  refine v_lload_n (i := 1) C dX7_quotient_0 rfl rfl ?_
  refine v_lconst (x := 0) C dX7_quotient_1 (by decide) ?_
  refine v_lif_ne (tgt := 10) C h.1 (by decide) dX7_quotient_2 dX7_quotient_3 (by decide) (fun c => ?_) (fun c => ?_)
  · have g1 := h.2.1 c
    refine v_lload_n (i := 0) C dX7_quotient_10 rfl rfl ?_
    refine v_lload_n (i := 1) C dX7_quotient_11 rfl rfl ?_
    refine v_ldiv C g1.1 g1.2.1 g1.2.2.1 dX7_quotient_12 ?_
    exact v_sub [] rfl (SX7_quotient_13 C r g1.2.2.2)
  · have g2 := h.2.2 c
    refine v_lconst (x := 0) C dX7_quotient_6 (by decide) ?_
    refine v_goto C dX7_quotient_7 (tgt := 13) (by decide) ?_
    exact v_sub [] rfl (SX7_quotient_13 C r g2)
theorem RX7_quotient {E : FX} {l : Launch} {D : Nat} {post : Option AV → MM → Prop} {M : MM} {x0 : Int} {x2 : Int} (h0 : VX7_quotient_0 E l D post M x0 x2) : Con E l (D + 1) qX7_quotient [vj x0, vj x2] M post := by
  refine con_of (by decide +kernel) (Nat.le_of_ble_eq_true rfl) (fun z C r => ?_)
  exact v_sub [0, 1] rfl (SX7_quotient_0 C r h0)
def VX7_divides_19 (E : FX) (l : Launch) (D : Nat) (post : Option AV → MM → Prop) (M : MM) (s0 : Int) : Prop :=
  (s0 = 0 ∨ s0 = 1) ∧ (post (some (vi s0)) M)
set_option maxRecDepth 20000 in
theorem SX7_divides_19 {E : FX} {l : Launch} {D : Nat} {post : Option AV → MM → Prop} {z : RT} (C : Cx E z D RX7 cX7_divides 4) (r : Rt E z (some .boolean) post) {M : MM} {s0 : Int} (h : VX7_divides_19 E l D post M s0) : Aj E l z 19 [] [vi s0] M := by
  unfold VX7_divides_19 at h
  exact v_zret C r h.1 dX7_divides_19 h.2
def VX7_divides_18 (E : FX) (l : Launch) (D : Nat) (post : Option AV → MM → Prop) (M : MM) : Prop :=
  VX7_divides_19 E l D post M 0
set_option maxRecDepth 20000 in
theorem SX7_divides_18 {E : FX} {l : Launch} {D : Nat} {post : Option AV → MM → Prop} {z : RT} (C : Cx E z D RX7 cX7_divides 4) (r : Rt E z (some .boolean) post) {M : MM} (h : VX7_divides_18 E l D post M) : Aj E l z 18 [] [] M := by
  unfold VX7_divides_18 at h
  refine v_iconst C dX7_divides_18 ?_
  exact v_sub [] rfl (SX7_divides_19 C r h)
def VX7_divides_0 (E : FX) (l : Launch) (D : Nat) (post : Option AV → MM → Prop) (M : MM) (x0 : Int) (x2 : Int) : Prop :=
  R64 x0 ∧ ((x0 = 0 → VX7_divides_19 E l D post M 0) ∧ (¬ x0 = 0 → R64 x2 ∧ (R64 x0 ∧ (0 < x0 ∧ (R64 (Int.tmod x2 x0) ∧ ((¬ Int.tmod x2 x0 = 0 → VX7_divides_19 E l D post M 0) ∧ (Int.tmod x2 x0 = 0 → VX7_divides_19 E l D post M 1)))))))
set_option maxRecDepth 20000 in
theorem SX7_divides_0 {E : FX} {l : Launch} {D : Nat} {post : Option AV → MM → Prop} {z : RT} (C : Cx E z D RX7 cX7_divides 4) (r : Rt E z (some .boolean) post) {M : MM} {x0 : Int} {x2 : Int} (h : VX7_divides_0 E l D post M x0 x2) : Aj E l z 0 [(0, vj x0), (2, vj x2)] [] M := by
  unfold VX7_divides_0 at h
  refine v_lload_n (i := 0) C dX7_divides_0 rfl rfl ?_
  refine v_lconst (x := 0) C dX7_divides_1 (by decide) ?_
  refine v_lif_eq (tgt := 18) C h.1 (by decide) dX7_divides_2 dX7_divides_3 (by decide) (fun c => ?_) (fun c => ?_)
  · have g1 := h.2.1 c
    refine v_iconst C dX7_divides_18 ?_
    exact v_sub [] rfl (SX7_divides_19 C r g1)
  · have g2 := h.2.2 c
    refine v_lload_n (i := 1) C dX7_divides_6 rfl rfl ?_
    refine v_lload_n (i := 0) C dX7_divides_7 rfl rfl ?_
    refine v_lrem C g2.1 g2.2.1 g2.2.2.1 dX7_divides_8 ?_
    refine v_lconst (x := 0) C dX7_divides_9 (by decide) ?_
    refine v_lif_ne (tgt := 18) C g2.2.2.2.1 (by decide) dX7_divides_10 dX7_divides_11 (by decide) (fun c => ?_) (fun c => ?_)
    · have g3 := g2.2.2.2.2.1 c
      refine v_iconst C dX7_divides_18 ?_
      exact v_sub [] rfl (SX7_divides_19 C r g3)
    · have g4 := g2.2.2.2.2.2 c
      refine v_iconst C dX7_divides_14 ?_
      refine v_goto C dX7_divides_15 (tgt := 19) (by decide) ?_
      exact v_sub [] rfl (SX7_divides_19 C r g4)
theorem RX7_divides {E : FX} {l : Launch} {D : Nat} {post : Option AV → MM → Prop} {M : MM} {x0 : Int} {x2 : Int} (h0 : VX7_divides_0 E l D post M x0 x2) : Con E l (D + 1) qX7_divides [vj x0, vj x2] M post := by
  refine con_of (by decide +kernel) (Nat.le_of_ble_eq_true rfl) (fun z C r => ?_)
  exact v_sub [0, 1] rfl (SX7_divides_0 C r h0)
def VX7_greatestCommon_0 (E : FX) (l : Launch) (D : Nat) (post : Option AV → MM → Prop) (J9 : MM → Int → Int → Int → Prop) (M : MM) (x0 : Int) (x2 : Int) : Prop :=
  J9 M x0 x2 0
set_option maxRecDepth 20000 in
theorem SX7_greatestCommon_0 {E : FX} {l : Launch} {D : Nat} {post : Option AV → MM → Prop} {z : RT} {J9 : MM → Int → Int → Int → Prop} (C : Cx E z D RX7 cX7_greatestCommon 11) (r : Rt E z (some .long) post) (hJ9 : ∀ (M : MM) (x4 : Int) (x6 : Int) (x8 : Int), J9 M x4 x6 x8 → Aj E l z 9 [(4, vj x4), (6, vj x6), (8, vi x8)] [] M) {M : MM} {x0 : Int} {x2 : Int} (h : VX7_greatestCommon_0 E l D post J9 M x0 x2) : Aj E l z 0 [(0, vj x0), (2, vj x2)] [] M := by
  unfold VX7_greatestCommon_0 at h
  refine v_lload_n (i := 0) C dX7_greatestCommon_0 rfl rfl ?_
  refine v_lstore (L' := [(4, vj x0), (0, vj x0), (2, vj x2)]) C dX7_greatestCommon_1 (by decide) rfl ?_
  refine v_lload_n (i := 2) C dX7_greatestCommon_3 rfl rfl ?_
  refine v_lstore (L' := [(6, vj x2), (4, vj x0), (0, vj x0), (2, vj x2)]) C dX7_greatestCommon_4 (by decide) rfl ?_
  refine v_iconst C dX7_greatestCommon_6 ?_
  refine v_istore (L' := [(8, vi 0), (6, vj x2), (4, vj x0), (0, vj x0), (2, vj x2)]) C dX7_greatestCommon_7 (by decide) rfl ?_
  exact v_sub [2, 1, 0] rfl (hJ9 _ _ _ _ h)
def VX7_greatestCommon_45 (E : FX) (l : Launch) (D : Nat) (post : Option AV → MM → Prop) (J9 : MM → Int → Int → Int → Prop) (M : MM) (x4 : Int) : Prop :=
  post (some (vj x4)) M
set_option maxRecDepth 20000 in
theorem SX7_greatestCommon_45 {E : FX} {l : Launch} {D : Nat} {post : Option AV → MM → Prop} {z : RT} {J9 : MM → Int → Int → Int → Prop} (C : Cx E z D RX7 cX7_greatestCommon 11) (r : Rt E z (some .long) post) (hJ9 : ∀ (M : MM) (x4 : Int) (x6 : Int) (x8 : Int), J9 M x4 x6 x8 → Aj E l z 9 [(4, vj x4), (6, vj x6), (8, vi x8)] [] M) {M : MM} {x4 : Int} (h : VX7_greatestCommon_45 E l D post J9 M x4) : Aj E l z 45 [(4, vj x4)] [] M := by
  unfold VX7_greatestCommon_45 at h
  refine v_lload (i := 0) C dX7_greatestCommon_45 rfl ?_
  exact v_lret C r dX7_greatestCommon_47 h
def VX7_greatestCommon_9 (E : FX) (l : Launch) (D : Nat) (post : Option AV → MM → Prop) (J9 : MM → Int → Int → Int → Prop) (M : MM) (x4 : Int) (x6 : Int) (x8 : Int) : Prop :=
  R32 x8 ∧ ((200 ≤ x8 → post (some (vj x4)) M) ∧ (¬ 200 ≤ x8 → R64 x6 ∧ ((x6 = 0 → post (some (vj x4)) M) ∧ (¬ x6 = 0 → R64 x4 ∧ (R64 x6 ∧ (0 < x6 ∧ (∀ y5 : Int, y5 = Int.tmod x4 x6 → (∀ y7 : Int, y7 = x8 + 1 → (J9 M x6 y5 y7)))))))))
set_option maxRecDepth 20000 in
theorem SX7_greatestCommon_9 {E : FX} {l : Launch} {D : Nat} {post : Option AV → MM → Prop} {z : RT} {J9 : MM → Int → Int → Int → Prop} (C : Cx E z D RX7 cX7_greatestCommon 11) (r : Rt E z (some .long) post) (hJ9 : ∀ (M : MM) (x4 : Int) (x6 : Int) (x8 : Int), J9 M x4 x6 x8 → Aj E l z 9 [(4, vj x4), (6, vj x6), (8, vi x8)] [] M) {M : MM} {x4 : Int} {x6 : Int} {x8 : Int} (h : VX7_greatestCommon_9 E l D post J9 M x4 x6 x8) : Aj E l z 9 [(4, vj x4), (6, vj x6), (8, vi x8)] [] M := by
  unfold VX7_greatestCommon_9 at h
  refine v_iload (i := 2) C dX7_greatestCommon_9 rfl ?_
  refine v_sipush C dX7_greatestCommon_11 (by decide) ?_
  refine v_icmp_ge (tgt := 45) C h.1 (by decide) dX7_greatestCommon_14 (by decide) (fun c => ?_) (fun c => ?_)
  · have g1 := h.2.1 c
    refine v_lload (i := 0) C dX7_greatestCommon_45 rfl ?_
    exact v_lret C r dX7_greatestCommon_47 g1
  · have g2 := h.2.2 c
    refine v_lload (i := 1) C dX7_greatestCommon_17 rfl ?_
    refine v_lconst (x := 0) C dX7_greatestCommon_19 (by decide) ?_
    refine v_lif_eq (tgt := 45) C g2.1 (by decide) dX7_greatestCommon_20 dX7_greatestCommon_21 (by decide) (fun c => ?_) (fun c => ?_)
    · have g3 := g2.2.1 c
      refine v_lload (i := 0) C dX7_greatestCommon_45 rfl ?_
      exact v_lret C r dX7_greatestCommon_47 g3
    · have g4 := g2.2.2 c
      refine v_lload (i := 0) C dX7_greatestCommon_24 rfl ?_
      refine v_lload (i := 1) C dX7_greatestCommon_26 rfl ?_
      refine v_lrem C g4.1 g4.2.1 g4.2.2.1 dX7_greatestCommon_28 ?_
      obtain ⟨y5, hy5⟩ : ∃ y : Int, y = Int.tmod x4 x6 := ⟨_, rfl⟩
      have g6 := g4.2.2.2 y5 hy5
      refine v_eqj hy5 ?_
      refine v_lstore (L' := [(9, vj y5), (4, vj x4), (6, vj x6), (8, vi x8)]) C dX7_greatestCommon_29 (by decide) rfl ?_
      refine v_lload (i := 2) C dX7_greatestCommon_31 rfl ?_
      refine v_lstore (L' := [(4, vj x6), (9, vj y5), (6, vj x6), (8, vi x8)]) C dX7_greatestCommon_33 (by decide) rfl ?_
      refine v_lload (i := 1) C dX7_greatestCommon_35 rfl ?_
      refine v_lstore (L' := [(6, vj y5), (4, vj x6), (9, vj y5), (8, vi x8)]) C dX7_greatestCommon_37 (by decide) rfl ?_
      obtain ⟨y7, hy7⟩ : ∃ y : Int, y = x8 + 1 := ⟨_, rfl⟩
      have g8 := g6 y7 hy7
      refine v_iinc (i := 3) (L' := [(8, vi y7), (6, vj y5), (4, vj x6), (9, vj y5)]) C dX7_greatestCommon_39 rfl (by decide) hy7 rfl ?_
      refine v_goto C dX7_greatestCommon_42 (tgt := 9) (by decide) ?_
      exact v_sub [2, 1, 0] rfl (hJ9 _ _ _ _ g8)
theorem RX7_greatestCommon {E : FX} {l : Launch} {D : Nat} {post : Option AV → MM → Prop} (I9 : MM → Int → Int → Int → Prop) (m9 : MM → Int → Int → Int → Nat) {M : MM} {x0 : Int} {x2 : Int} (h0 : VX7_greatestCommon_0 E l D post I9 M x0 x2) (h9I : ∀ (M : MM) (x4 : Int) (x6 : Int) (x8 : Int), I9 M x4 x6 x8 → VX7_greatestCommon_9 E l D post (fun M' x4' x6' x8' => I9 M' x4' x6' x8' ∧ m9 M' x4' x6' x8' < m9 M x4 x6 x8) M x4 x6 x8) : Con E l (D + 1) qX7_greatestCommon [vj x0, vj x2] M post := by
  refine con_of (by decide +kernel) (Nat.le_of_ble_eq_true rfl) (fun z C r => ?_)
  have all : ∀ n : Nat, (∀ (M : MM) (x4 : Int) (x6 : Int) (x8 : Int), I9 M x4 x6 x8 → m9 M x4 x6 x8 < n → Aj E l z 9 [(4, vj x4), (6, vj x6), (8, vi x8)] [] M) := by
    intro n
    induction n with
    | zero => exact fun _ _ _ _ _ hm => absurd hm (Nat.not_lt_zero _)
    | succ n ih => exact fun M x4 x6 x8 hi hm => SX7_greatestCommon_9 C r (fun M' x4' x6' x8' hj => ih M' x4' x6' x8' hj.1 (by omega)) (h9I M x4 x6 x8 hi)
  exact v_sub [0, 1] rfl (SX7_greatestCommon_0 C r (fun M' x4' x6' x8' hj => (all _) M' x4' x6' x8' hj (Nat.lt_succ_self _)) h0)
def VX7_leastCommon_0 (E : FX) (l : Launch) (D : Nat) (post : Option AV → MM → Prop) (M : MM) (x0 : Int) (x2 : Int) : Prop :=
  Con E l D qX7_greatestCommon [vj x0, vj x2] M (fun r M1 => ∃ y2 : Int, r = some (vj y2) ∧ (Con E l D qX7_quotient [vj x0, vj y2] M1 (fun r M4 => ∃ y5 : Int, r = some (vj y5) ∧ (post (some (vj (y5 * x2))) M4))))
set_option maxRecDepth 20000 in
theorem SX7_leastCommon_0 {E : FX} {l : Launch} {D : Nat} {post : Option AV → MM → Prop} {z : RT} (C : Cx E z D RX7 cX7_leastCommon 4) (r : Rt E z (some .long) post) {M : MM} {x0 : Int} {x2 : Int} (h : VX7_leastCommon_0 E l D post M x0 x2) : Aj E l z 0 [(0, vj x0), (2, vj x2)] [] M := by
  unfold VX7_leastCommon_0 at h
  refine v_lload_n (i := 0) C dX7_leastCommon_0 rfl rfl ?_
  refine v_lload_n (i := 0) C dX7_leastCommon_1 rfl rfl ?_
  refine v_lload_n (i := 1) C dX7_leastCommon_2 rfl rfl ?_
  refine v_callS (q := qX7_greatestCommon) (As := [vj x0, vj x2]) (S := [vj x0]) C co_yX7_greatestCommon ml_RX7_21 st_yX7_greatestCommon ini_RX7 hq_X7_greatestCommon (by decide) (Nat.le_of_ble_eq_true rfl) rfl dX7_leastCommon_3 (Con.mono h (fun rr M1 hr => ?_) (Nat.le_refl _))
  obtain ⟨y2, rfl, g3⟩ := hr
  show Aj E l z (3 + 3) [(0, vj x0), (2, vj x2)] [vj y2, vj x0] M1
  refine v_callS (q := qX7_quotient) (As := [vj x0, vj y2]) (S := []) C co_yX7_quotient ml_RX7_25 st_yX7_quotient ini_RX7 hq_X7_quotient (by decide) (Nat.le_of_ble_eq_true rfl) rfl dX7_leastCommon_6 (Con.mono g3 (fun rr M4 hr => ?_) (Nat.le_refl _))
  obtain ⟨y5, rfl, g6⟩ := hr
  show Aj E l z (6 + 3) [(0, vj x0), (2, vj x2)] [vj y5] M4
  refine v_lload_n (i := 1) C dX7_leastCommon_9 rfl rfl ?_
  refine v_lmul C dX7_leastCommon_10 ?_
  exact v_lret C r dX7_leastCommon_11 g6
theorem RX7_leastCommon {E : FX} {l : Launch} {D : Nat} {post : Option AV → MM → Prop} {M : MM} {x0 : Int} {x2 : Int} (h0 : VX7_leastCommon_0 E l D post M x0 x2) : Con E l (D + 1) qX7_leastCommon [vj x0, vj x2] M post := by
  refine con_of (by decide +kernel) (Nat.le_of_ble_eq_true rfl) (fun z C r => ?_)
  exact v_sub [0, 1] rfl (SX7_leastCommon_0 C r h0)
