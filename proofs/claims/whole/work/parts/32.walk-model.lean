def VX12_in_18 (E : FX) (l : Launch) (D : Nat) (post : Option AV → MM → Prop) (M : MM) (s0 : Int) : Prop :=
  (s0 = 0 ∨ s0 = 1) ∧ (post (some (vi s0)) M)
set_option maxRecDepth 20000 in
theorem SX12_in_18 {E : FX} {l : Launch} {D : Nat} {post : Option AV → MM → Prop} {z : RT} (C : Cx E z D RX12 cX12_in 6) (r : Rt E z (some .boolean) post) {M : MM} {s0 : Int} (h : VX12_in_18 E l D post M s0) : Aj E l z 18 [] [vi s0] M := by
  unfold VX12_in_18 at h
  exact v_zret C r h.1 dX12_in_18 h.2
def VX12_in_17 (E : FX) (l : Launch) (D : Nat) (post : Option AV → MM → Prop) (M : MM) : Prop :=
  VX12_in_18 E l D post M 0
set_option maxRecDepth 20000 in
theorem SX12_in_17 {E : FX} {l : Launch} {D : Nat} {post : Option AV → MM → Prop} {z : RT} (C : Cx E z D RX12 cX12_in 6) (r : Rt E z (some .boolean) post) {M : MM} (h : VX12_in_17 E l D post M) : Aj E l z 17 [] [] M := by
  unfold VX12_in_17 at h
  refine v_iconst C dX12_in_17 ?_
  exact v_sub [] rfl (SX12_in_18 C r h)
def VX12_in_0 (E : FX) (l : Launch) (D : Nat) (post : Option AV → MM → Prop) (M : MM) (x0 : Int) (x2 : Int) (x4 : Int) : Prop :=
  R64 x0 ∧ (R64 x2 ∧ ((x0 < x2 → VX12_in_18 E l D post M 0) ∧ (¬ x0 < x2 → R64 x0 ∧ (R64 x4 ∧ ((x4 < x0 → VX12_in_18 E l D post M 0) ∧ (¬ x4 < x0 → VX12_in_18 E l D post M 1))))))
set_option maxRecDepth 20000 in
theorem SX12_in_0 {E : FX} {l : Launch} {D : Nat} {post : Option AV → MM → Prop} {z : RT} (C : Cx E z D RX12 cX12_in 6) (r : Rt E z (some .boolean) post) {M : MM} {x0 : Int} {x2 : Int} {x4 : Int} (h : VX12_in_0 E l D post M x0 x2 x4) : Aj E l z 0 [(0, vj x0), (2, vj x2), (4, vj x4)] [] M := by
  unfold VX12_in_0 at h
  refine v_lload_n (i := 0) C dX12_in_0 rfl rfl ?_
  refine v_lload_n (i := 1) C dX12_in_1 rfl rfl ?_
  refine v_lif_lt (tgt := 17) C h.1 h.2.1 dX12_in_2 dX12_in_3 (by decide) (fun c => ?_) (fun c => ?_)
  · have g1 := h.2.2.1 c
    refine v_iconst C dX12_in_17 ?_
    exact v_sub [] rfl (SX12_in_18 C r g1)
  · have g2 := h.2.2.2 c
    refine v_lload_n (i := 0) C dX12_in_6 rfl rfl ?_
    refine v_lload (i := 2) C dX12_in_7 rfl ?_
    refine v_lif_gt (tgt := 17) C g2.1 g2.2.1 dX12_in_9 dX12_in_10 (by decide) (fun c => ?_) (fun c => ?_)
    · have g3 := g2.2.2.1 c
      refine v_iconst C dX12_in_17 ?_
      exact v_sub [] rfl (SX12_in_18 C r g3)
    · have g4 := g2.2.2.2 c
      refine v_iconst C dX12_in_13 ?_
      refine v_goto C dX12_in_14 (tgt := 18) (by decide) ?_
      exact v_sub [] rfl (SX12_in_18 C r g4)
theorem RX12_in {E : FX} {l : Launch} {D : Nat} {post : Option AV → MM → Prop} {M : MM} {x0 : Int} {x2 : Int} {x4 : Int} (h0 : VX12_in_0 E l D post M x0 x2 x4) : Con E l (D + 1) qX12_in [vj x0, vj x2, vj x4] M post := by
  refine con_of (by decide +kernel) (Nat.le_of_ble_eq_true rfl) (fun z C r => ?_)
  exact v_sub [0, 1, 2] rfl (SX12_in_0 C r h0)
def VX12_has_14 (E : FX) (l : Launch) (D : Nat) (post : Option AV → MM → Prop) (M : MM) (s0 : Int) : Prop :=
  (s0 = 0 ∨ s0 = 1) ∧ (post (some (vi s0)) M)
set_option maxRecDepth 20000 in
theorem SX12_has_14 {E : FX} {l : Launch} {D : Nat} {post : Option AV → MM → Prop} {z : RT} (C : Cx E z D RX12 cX12_has 2) (r : Rt E z (some .boolean) post) {M : MM} {s0 : Int} (h : VX12_has_14 E l D post M s0) : Aj E l z 14 [] [vi s0] M := by
  unfold VX12_has_14 at h
  exact v_zret C r h.1 dX12_has_14 h.2
def VX12_has_0 (E : FX) (l : Launch) (D : Nat) (post : Option AV → MM → Prop) (M : MM) (x0 : Int) (x1 : Int) : Prop :=
  R32 (iand (ishr x0 x1) 1) ∧ ((¬ iand (ishr x0 x1) 1 = 1 → VX12_has_14 E l D post M 0) ∧ (iand (ishr x0 x1) 1 = 1 → VX12_has_14 E l D post M 1))
set_option maxRecDepth 20000 in
theorem SX12_has_0 {E : FX} {l : Launch} {D : Nat} {post : Option AV → MM → Prop} {z : RT} (C : Cx E z D RX12 cX12_has 2) (r : Rt E z (some .boolean) post) {M : MM} {x0 : Int} {x1 : Int} (h : VX12_has_0 E l D post M x0 x1) : Aj E l z 0 [(0, vi x0), (1, vi x1)] [] M := by
  unfold VX12_has_0 at h
  refine v_iload_n (i := 0) C dX12_has_0 rfl rfl ?_
  refine v_iload_n (i := 1) C dX12_has_1 rfl rfl ?_
  refine v_ishr C dX12_has_2 ?_
  refine v_iconst C dX12_has_3 ?_
  refine v_iand C dX12_has_4 ?_
  refine v_iconst C dX12_has_5 ?_
  refine v_icmp_ne (tgt := 13) C h.1 (by decide) dX12_has_6 (by decide) (fun c => ?_) (fun c => ?_)
  · have g1 := h.2.1 c
    refine v_iconst C dX12_has_13 ?_
    exact v_sub [] rfl (SX12_has_14 C r g1)
  · have g2 := h.2.2 c
    refine v_iconst C dX12_has_9 ?_
    refine v_goto C dX12_has_10 (tgt := 14) (by decide) ?_
    exact v_sub [] rfl (SX12_has_14 C r g2)
theorem RX12_has {E : FX} {l : Launch} {D : Nat} {post : Option AV → MM → Prop} {M : MM} {x0 : Int} {x1 : Int} (h0 : VX12_has_0 E l D post M x0 x1) : Con E l (D + 1) qX12_has [vi x0, vi x1] M post := by
  refine con_of (by decide +kernel) (Nat.le_of_ble_eq_true rfl) (fun z C r => ?_)
  exact v_sub [0, 1] rfl (SX12_has_0 C r h0)
def VX12_lesser_11 (E : FX) (l : Launch) (D : Nat) (post : Option AV → MM → Prop) (M : MM) (s0 : Int) : Prop :=
  post (some (vj s0)) M
set_option maxRecDepth 20000 in
theorem SX12_lesser_11 {E : FX} {l : Launch} {D : Nat} {post : Option AV → MM → Prop} {z : RT} (C : Cx E z D RX12 cX12_lesser 4) (r : Rt E z (some .long) post) {M : MM} {s0 : Int} (h : VX12_lesser_11 E l D post M s0) : Aj E l z 11 [] [vj s0] M := by
  unfold VX12_lesser_11 at h
  exact v_lret C r dX12_lesser_11 h
def VX12_lesser_0 (E : FX) (l : Launch) (D : Nat) (post : Option AV → MM → Prop) (M : MM) (x0 : Int) (x2 : Int) : Prop :=
  R64 x0 ∧ (R64 x2 ∧ ((x2 ≤ x0 → VX12_lesser_11 E l D post M x2) ∧ (¬ x2 ≤ x0 → VX12_lesser_11 E l D post M x0)))
set_option maxRecDepth 20000 in
theorem SX12_lesser_0 {E : FX} {l : Launch} {D : Nat} {post : Option AV → MM → Prop} {z : RT} (C : Cx E z D RX12 cX12_lesser 4) (r : Rt E z (some .long) post) {M : MM} {x0 : Int} {x2 : Int} (h : VX12_lesser_0 E l D post M x0 x2) : Aj E l z 0 [(0, vj x0), (2, vj x2)] [] M := by
  unfold VX12_lesser_0 at h
  refine v_lload_n (i := 0) C dX12_lesser_0 rfl rfl ?_
  refine v_lload_n (i := 1) C dX12_lesser_1 rfl rfl ?_
  refine v_lif_ge (tgt := 10) C h.1 h.2.1 dX12_lesser_2 dX12_lesser_3 (by decide) (fun c => ?_) (fun c => ?_)
  · have g1 := h.2.2.1 c
    refine v_lload_n (i := 1) C dX12_lesser_10 rfl rfl ?_
    exact v_sub [] rfl (SX12_lesser_11 C r g1)
  · have g2 := h.2.2.2 c
    refine v_lload_n (i := 0) C dX12_lesser_6 rfl rfl ?_
    refine v_goto C dX12_lesser_7 (tgt := 11) (by decide) ?_
    exact v_sub [] rfl (SX12_lesser_11 C r g2)
theorem RX12_lesser {E : FX} {l : Launch} {D : Nat} {post : Option AV → MM → Prop} {M : MM} {x0 : Int} {x2 : Int} (h0 : VX12_lesser_0 E l D post M x0 x2) : Con E l (D + 1) qX12_lesser [vj x0, vj x2] M post := by
  refine con_of (by decide +kernel) (Nat.le_of_ble_eq_true rfl) (fun z C r => ?_)
  exact v_sub [0, 1] rfl (SX12_lesser_0 C r h0)
def VX12_greater_11 (E : FX) (l : Launch) (D : Nat) (post : Option AV → MM → Prop) (M : MM) (s0 : Int) : Prop :=
  post (some (vj s0)) M
set_option maxRecDepth 20000 in
theorem SX12_greater_11 {E : FX} {l : Launch} {D : Nat} {post : Option AV → MM → Prop} {z : RT} (C : Cx E z D RX12 cX12_greater 4) (r : Rt E z (some .long) post) {M : MM} {s0 : Int} (h : VX12_greater_11 E l D post M s0) : Aj E l z 11 [] [vj s0] M := by
  unfold VX12_greater_11 at h
  exact v_lret C r dX12_greater_11 h
def VX12_greater_0 (E : FX) (l : Launch) (D : Nat) (post : Option AV → MM → Prop) (M : MM) (x0 : Int) (x2 : Int) : Prop :=
  R64 x0 ∧ (R64 x2 ∧ ((x0 ≤ x2 → VX12_greater_11 E l D post M x2) ∧ (¬ x0 ≤ x2 → VX12_greater_11 E l D post M x0)))
set_option maxRecDepth 20000 in
theorem SX12_greater_0 {E : FX} {l : Launch} {D : Nat} {post : Option AV → MM → Prop} {z : RT} (C : Cx E z D RX12 cX12_greater 4) (r : Rt E z (some .long) post) {M : MM} {x0 : Int} {x2 : Int} (h : VX12_greater_0 E l D post M x0 x2) : Aj E l z 0 [(0, vj x0), (2, vj x2)] [] M := by
  unfold VX12_greater_0 at h
  refine v_lload_n (i := 0) C dX12_greater_0 rfl rfl ?_
  refine v_lload_n (i := 1) C dX12_greater_1 rfl rfl ?_
  refine v_lif_le (tgt := 10) C h.1 h.2.1 dX12_greater_2 dX12_greater_3 (by decide) (fun c => ?_) (fun c => ?_)
  · have g1 := h.2.2.1 c
    refine v_lload_n (i := 1) C dX12_greater_10 rfl rfl ?_
    exact v_sub [] rfl (SX12_greater_11 C r g1)
  · have g2 := h.2.2.2 c
    refine v_lload_n (i := 0) C dX12_greater_6 rfl rfl ?_
    refine v_goto C dX12_greater_7 (tgt := 11) (by decide) ?_
    exact v_sub [] rfl (SX12_greater_11 C r g2)
theorem RX12_greater {E : FX} {l : Launch} {D : Nat} {post : Option AV → MM → Prop} {M : MM} {x0 : Int} {x2 : Int} (h0 : VX12_greater_0 E l D post M x0 x2) : Con E l (D + 1) qX12_greater [vj x0, vj x2] M post := by
  refine con_of (by decide +kernel) (Nat.le_of_ble_eq_true rfl) (fun z C r => ?_)
  exact v_sub [0, 1] rfl (SX12_greater_0 C r h0)
def VX12_ones_0 (E : FX) (l : Launch) (D : Nat) (post : Option AV → MM → Prop) (J4 : MM → Int → Int → Int → Prop) (M : MM) (x0 : Int) : Prop :=
  J4 M x0 0 0
set_option maxRecDepth 20000 in
theorem SX12_ones_0 {E : FX} {l : Launch} {D : Nat} {post : Option AV → MM → Prop} {z : RT} {J4 : MM → Int → Int → Int → Prop} (C : Cx E z D RX12 cX12_ones 3) (r : Rt E z (some .int) post) (hJ4 : ∀ (M : MM) (x0 : Int) (x1 : Int) (x2 : Int), J4 M x0 x1 x2 → Aj E l z 4 [(0, vi x0), (1, vi x1), (2, vi x2)] [] M) {M : MM} {x0 : Int} (h : VX12_ones_0 E l D post J4 M x0) : Aj E l z 0 [(0, vi x0)] [] M := by
  unfold VX12_ones_0 at h
  refine v_iconst C dX12_ones_0 ?_
  refine v_istore_n (L' := [(1, vi 0), (0, vi x0)]) C dX12_ones_1 rfl (by decide) rfl ?_
  refine v_iconst C dX12_ones_2 ?_
  refine v_istore_n (L' := [(2, vi 0), (1, vi 0), (0, vi x0)]) C dX12_ones_3 rfl (by decide) rfl ?_
  exact v_sub [2, 1, 0] rfl (hJ4 _ _ _ _ h)
def VX12_ones_4 (E : FX) (l : Launch) (D : Nat) (post : Option AV → MM → Prop) (J4 : MM → Int → Int → Int → Prop) (M : MM) (x0 : Int) (x1 : Int) (x2 : Int) : Prop :=
  R32 x2 ∧ ((6 ≤ x2 → post (some (vi x1)) M) ∧ (¬ 6 ≤ x2 → ∀ y3 : Int, y3 = x1 + (iand (ishr x0 x2) 1) → (∀ y5 : Int, y5 = x2 + 1 → (J4 M x0 y3 y5))))
set_option maxRecDepth 20000 in
theorem SX12_ones_4 {E : FX} {l : Launch} {D : Nat} {post : Option AV → MM → Prop} {z : RT} {J4 : MM → Int → Int → Int → Prop} (C : Cx E z D RX12 cX12_ones 3) (r : Rt E z (some .int) post) (hJ4 : ∀ (M : MM) (x0 : Int) (x1 : Int) (x2 : Int), J4 M x0 x1 x2 → Aj E l z 4 [(0, vi x0), (1, vi x1), (2, vi x2)] [] M) {M : MM} {x0 : Int} {x1 : Int} {x2 : Int} (h : VX12_ones_4 E l D post J4 M x0 x1 x2) : Aj E l z 4 [(0, vi x0), (1, vi x1), (2, vi x2)] [] M := by
  unfold VX12_ones_4 at h
  refine v_iload_n (i := 2) C dX12_ones_4 rfl rfl ?_
  refine v_bipush C dX12_ones_5 (by decide) ?_
  refine v_icmp_ge (tgt := 24) C h.1 (by decide) dX12_ones_7 (by decide) (fun c => ?_) (fun c => ?_)
  · have g1 := h.2.1 c
    refine v_iload_n (i := 1) C dX12_ones_24 rfl rfl ?_
    exact v_iret C r dX12_ones_25 g1
  · have g2 := h.2.2 c
    refine v_iload_n (i := 1) C dX12_ones_10 rfl rfl ?_
    refine v_iload_n (i := 0) C dX12_ones_11 rfl rfl ?_
    refine v_iload_n (i := 2) C dX12_ones_12 rfl rfl ?_
    refine v_ishr C dX12_ones_13 ?_
    refine v_iconst C dX12_ones_14 ?_
    refine v_iand C dX12_ones_15 ?_
    refine v_iadd C dX12_ones_16 ?_
    obtain ⟨y3, hy3⟩ : ∃ y : Int, y = x1 + (iand (ishr x0 x2) 1) := ⟨_, rfl⟩
    have g4 := g2 y3 hy3
    refine v_eqi hy3 ?_
    refine v_istore_n (L' := [(1, vi y3), (0, vi x0), (2, vi x2)]) C dX12_ones_17 rfl (by decide) rfl ?_
    obtain ⟨y5, hy5⟩ : ∃ y : Int, y = x2 + 1 := ⟨_, rfl⟩
    have g6 := g4 y5 hy5
    refine v_iinc (i := 2) (L' := [(2, vi y5), (1, vi y3), (0, vi x0)]) C dX12_ones_18 rfl (by decide) hy5 rfl ?_
    refine v_goto C dX12_ones_21 (tgt := 4) (by decide) ?_
    exact v_sub [2, 1, 0] rfl (hJ4 _ _ _ _ g6)
theorem RX12_ones {E : FX} {l : Launch} {D : Nat} {post : Option AV → MM → Prop} (I4 : MM → Int → Int → Int → Prop) (m4 : MM → Int → Int → Int → Nat) {M : MM} {x0 : Int} (h0 : VX12_ones_0 E l D post I4 M x0) (h4I : ∀ (M : MM) (x0 : Int) (x1 : Int) (x2 : Int), I4 M x0 x1 x2 → VX12_ones_4 E l D post (fun M' x0' x1' x2' => I4 M' x0' x1' x2' ∧ m4 M' x0' x1' x2' < m4 M x0 x1 x2) M x0 x1 x2) : Con E l (D + 1) qX12_ones [vi x0] M post := by
  refine con_of (by decide +kernel) (Nat.le_of_ble_eq_true rfl) (fun z C r => ?_)
  have all : ∀ n : Nat, (∀ (M : MM) (x0 : Int) (x1 : Int) (x2 : Int), I4 M x0 x1 x2 → m4 M x0 x1 x2 < n → Aj E l z 4 [(0, vi x0), (1, vi x1), (2, vi x2)] [] M) := by
    intro n
    induction n with
    | zero => exact fun _ _ _ _ _ hm => absurd hm (Nat.not_lt_zero _)
    | succ n ih => exact fun M x0 x1 x2 hi hm => SX12_ones_4 C r (fun M' x0' x1' x2' hj => ih M' x0' x1' x2' hj.1 (by omega)) (h4I M x0 x1 x2 hi)
  exact v_sub [0] rfl (SX12_ones_0 C r (fun M' x0' x1' x2' hj => (all _) M' x0' x1' x2' hj (Nat.lt_succ_self _)) h0)
def VX12_divisor_0 (E : FX) (l : Launch) (D : Nat) (post : Option AV → MM → Prop) (J6 : MM → Int → Int → Prop) (M : MM) (x0 : Int) (x2 : Int) : Prop :=
  J6 M x0 x2
set_option maxRecDepth 20000 in
theorem SX12_divisor_0 {E : FX} {l : Launch} {D : Nat} {post : Option AV → MM → Prop} {z : RT} {J6 : MM → Int → Int → Prop} (C : Cx E z D RX12 cX12_divisor 10) (r : Rt E z (some .long) post) (hJ6 : ∀ (M : MM) (x4 : Int) (x6 : Int), J6 M x4 x6 → Aj E l z 6 [(4, vj x4), (6, vj x6)] [] M) {M : MM} {x0 : Int} {x2 : Int} (h : VX12_divisor_0 E l D post J6 M x0 x2) : Aj E l z 0 [(0, vj x0), (2, vj x2)] [] M := by
  unfold VX12_divisor_0 at h
  refine v_lload_n (i := 0) C dX12_divisor_0 rfl rfl ?_
  refine v_lstore (L' := [(4, vj x0), (0, vj x0), (2, vj x2)]) C dX12_divisor_1 (by decide) rfl ?_
  refine v_lload_n (i := 2) C dX12_divisor_3 rfl rfl ?_
  refine v_lstore (L' := [(6, vj x2), (4, vj x0), (0, vj x0), (2, vj x2)]) C dX12_divisor_4 (by decide) rfl ?_
  exact v_sub [1, 0] rfl (hJ6 _ _ _ h)
def VX12_divisor_6 (E : FX) (l : Launch) (D : Nat) (post : Option AV → MM → Prop) (J6 : MM → Int → Int → Prop) (M : MM) (x4 : Int) (x6 : Int) : Prop :=
  R64 x6 ∧ ((x6 = 0 → post (some (vj x4)) M) ∧ (¬ x6 = 0 → R64 x4 ∧ (R64 x6 ∧ (0 < x6 ∧ (∀ y3 : Int, y3 = Int.tmod x4 x6 → (J6 M x6 y3))))))
set_option maxRecDepth 20000 in
theorem SX12_divisor_6 {E : FX} {l : Launch} {D : Nat} {post : Option AV → MM → Prop} {z : RT} {J6 : MM → Int → Int → Prop} (C : Cx E z D RX12 cX12_divisor 10) (r : Rt E z (some .long) post) (hJ6 : ∀ (M : MM) (x4 : Int) (x6 : Int), J6 M x4 x6 → Aj E l z 6 [(4, vj x4), (6, vj x6)] [] M) {M : MM} {x4 : Int} {x6 : Int} (h : VX12_divisor_6 E l D post J6 M x4 x6) : Aj E l z 6 [(4, vj x4), (6, vj x6)] [] M := by
  unfold VX12_divisor_6 at h
  refine v_lload (i := 1) C dX12_divisor_6 rfl ?_
  refine v_lconst (x := 0) C dX12_divisor_8 (by decide) ?_
  refine v_lif_eq (tgt := 31) C h.1 (by decide) dX12_divisor_9 dX12_divisor_10 (by decide) (fun c => ?_) (fun c => ?_)
  · have g1 := h.2.1 c
    refine v_lload (i := 0) C dX12_divisor_31 rfl ?_
    exact v_lret C r dX12_divisor_33 g1
  · have g2 := h.2.2 c
    refine v_lload (i := 0) C dX12_divisor_13 rfl ?_
    refine v_lload (i := 1) C dX12_divisor_15 rfl ?_
    refine v_lrem C g2.1 g2.2.1 g2.2.2.1 dX12_divisor_17 ?_
    obtain ⟨y3, hy3⟩ : ∃ y : Int, y = Int.tmod x4 x6 := ⟨_, rfl⟩
    have g4 := g2.2.2.2 y3 hy3
    refine v_eqj hy3 ?_
    refine v_lstore (L' := [(8, vj y3), (4, vj x4), (6, vj x6)]) C dX12_divisor_18 (by decide) rfl ?_
    refine v_lload (i := 2) C dX12_divisor_20 rfl ?_
    refine v_lstore (L' := [(4, vj x6), (8, vj y3), (6, vj x6)]) C dX12_divisor_22 (by decide) rfl ?_
    refine v_lload (i := 1) C dX12_divisor_24 rfl ?_
    refine v_lstore (L' := [(6, vj y3), (4, vj x6), (8, vj y3)]) C dX12_divisor_26 (by decide) rfl ?_
    refine v_goto C dX12_divisor_28 (tgt := 6) (by decide) ?_
    exact v_sub [1, 0] rfl (hJ6 _ _ _ g4)
theorem RX12_divisor {E : FX} {l : Launch} {D : Nat} {post : Option AV → MM → Prop} (I6 : MM → Int → Int → Prop) (m6 : MM → Int → Int → Nat) {M : MM} {x0 : Int} {x2 : Int} (h0 : VX12_divisor_0 E l D post I6 M x0 x2) (h6I : ∀ (M : MM) (x4 : Int) (x6 : Int), I6 M x4 x6 → VX12_divisor_6 E l D post (fun M' x4' x6' => I6 M' x4' x6' ∧ m6 M' x4' x6' < m6 M x4 x6) M x4 x6) : Con E l (D + 1) qX12_divisor [vj x0, vj x2] M post := by
  refine con_of (by decide +kernel) (Nat.le_of_ble_eq_true rfl) (fun z C r => ?_)
  have all : ∀ n : Nat, (∀ (M : MM) (x4 : Int) (x6 : Int), I6 M x4 x6 → m6 M x4 x6 < n → Aj E l z 6 [(4, vj x4), (6, vj x6)] [] M) := by
    intro n
    induction n with
    | zero => exact fun _ _ _ _ hm => absurd hm (Nat.not_lt_zero _)
    | succ n ih => exact fun M x4 x6 hi hm => SX12_divisor_6 C r (fun M' x4' x6' hj => ih M' x4' x6' hj.1 (by omega)) (h6I M x4 x6 hi)
  exact v_sub [0, 1] rfl (SX12_divisor_0 C r (fun M' x4' x6' hj => (all _) M' x4' x6' hj (Nat.lt_succ_self _)) h0)
def VX12_common_0 (E : FX) (l : Launch) (D : Nat) (post : Option AV → MM → Prop) (M : MM) (x0 : Int) (x2 : Int) : Prop :=
  Con E l D qX12_divisor [vj x0, vj x2] M (fun r M1 => ∃ y2 : Int, r = some (vj y2) ∧ (R64 x0 ∧ (R64 y2 ∧ (0 < y2 ∧ (post (some (vj ((Int.tdiv x0 y2) * x2))) M1)))))
set_option maxRecDepth 20000 in
theorem SX12_common_0 {E : FX} {l : Launch} {D : Nat} {post : Option AV → MM → Prop} {z : RT} (C : Cx E z D RX12 cX12_common 4) (r : Rt E z (some .long) post) {M : MM} {x0 : Int} {x2 : Int} (h : VX12_common_0 E l D post M x0 x2) : Aj E l z 0 [(0, vj x0), (2, vj x2)] [] M := by
  unfold VX12_common_0 at h
  refine v_lload_n (i := 0) C dX12_common_0 rfl rfl ?_
  refine v_lload_n (i := 0) C dX12_common_1 rfl rfl ?_
  refine v_lload_n (i := 1) C dX12_common_2 rfl rfl ?_
  refine v_callS (q := qX12_divisor) (As := [vj x0, vj x2]) (S := [vj x0]) C co_yX12_divisor ml_RX12_44 st_yX12_divisor ini_RX12 hq_X12_divisor (by decide) (Nat.le_of_ble_eq_true rfl) rfl dX12_common_3 (Con.mono h (fun rr M1 hr => ?_) (Nat.le_refl _))
  obtain ⟨y2, rfl, g3⟩ := hr
  show Aj E l z (3 + 3) [(0, vj x0), (2, vj x2)] [vj y2, vj x0] M1
  refine v_ldiv C g3.1 g3.2.1 g3.2.2.1 dX12_common_6 ?_
  refine v_lload_n (i := 1) C dX12_common_7 rfl rfl ?_
  refine v_lmul C dX12_common_8 ?_
  exact v_lret C r dX12_common_9 g3.2.2.2
theorem RX12_common {E : FX} {l : Launch} {D : Nat} {post : Option AV → MM → Prop} {M : MM} {x0 : Int} {x2 : Int} (h0 : VX12_common_0 E l D post M x0 x2) : Con E l (D + 1) qX12_common [vj x0, vj x2] M post := by
  refine con_of (by decide +kernel) (Nat.le_of_ble_eq_true rfl) (fun z C r => ?_)
  exact v_sub [0, 1] rfl (SX12_common_0 C r h0)
def VX12_lay_157 (E : FX) (l : Launch) (D : Nat) (post : Option AV → MM → Prop) (M : MM) : Prop :=
  post none M
set_option maxRecDepth 20000 in
theorem SX12_lay_157 {E : FX} {l : Launch} {D : Nat} {post : Option AV → MM → Prop} {z : RT} (C : Cx E z D RX12 cX12_lay 8) (r : Rt E z none post) {M : MM} (h : VX12_lay_157 E l D post M) : Aj E l z 157 [] [] M := by
  unfold VX12_lay_157 at h
  exact v_vret C r dX12_lay_157 h
def VX12_lay_144 (E : FX) (l : Launch) (D : Nat) (post : Option AV → MM → Prop) (M : MM) (s1 : Int) : Prop :=
  ∀ M1 : MM, M1 = up M 44 6 s1 → (∀ M3 : MM, M3 = up M1 47 0 (M1 44 6) → (VX12_lay_157 E l D post M3 ))
set_option maxRecDepth 20000 in
theorem SX12_lay_144 {E : FX} {l : Launch} {D : Nat} {post : Option AV → MM → Prop} {z : RT} (C : Cx E z D RX12 cX12_lay 8) (r : Rt E z none post) {M : MM} {s1 : Int} (h : VX12_lay_144 E l D post M s1) : Aj E l z 144 [(0, vr 44)] [vj s1, vr 44] M := by
  unfold VX12_lay_144 at h
  refine v_putf (k := 44) (x := s1) (t := 1) C fp_RX12_55 rfl rfl (by decide) (by simp [fv, up]) rfl rfl dX12_lay_144 ?_
  obtain ⟨M1, hM1⟩ : ∃ X : MM, X = up M 44 6 s1 := ⟨_, rfl⟩
  refine v_eqM hM1 ?_
  have g2 := h M1 hM1
  refine v_aload_n (i := 0) C dX12_lay_147 rfl rfl ?_
  refine v_getf (k := 44) C fl_RX12_16 rfl rfl dX12_lay_148 ?_
  show Aj E l z (148 + 3) [(0, vr 44)] [vr 47] M1
  refine v_iconst C dX12_lay_151 ?_
  refine v_aload_n (i := 0) C dX12_lay_152 rfl rfl ?_
  refine v_getf (k := 44) C fl_RX12_55 rfl rfl dX12_lay_153 ?_
  show Aj E l z (153 + 3) [(0, vr 44)] [vj (M1 44 6), vi 0, vr 47] M1
  refine v_last (k := 47) C rfl (by decide) (by decide) dX12_lay_156 ?_
  show Aj E l z (156 + 1) [(0, vr 44)] [] (up M1 47 0 (M1 44 6))
  obtain ⟨M3, hM3⟩ : ∃ X : MM, X = up M1 47 0 (M1 44 6) := ⟨_, rfl⟩
  refine v_eqM hM3 ?_
  have g4 := g2 M3 hM3
  exact v_sub [] rfl (SX12_lay_157 C r g4)
def VX12_lay_139 (E : FX) (l : Launch) (D : Nat) (post : Option AV → MM → Prop) (M : MM) (x3 : Int) (s1 : Int) : Prop :=
  R32 x3 ∧ (Con E l D qX12_common [vj s1, vj x3] M (fun r M5 => ∃ y6 : Int, r = some (vj y6) ∧ (VX12_lay_144 E l D post M5 y6)))
set_option maxRecDepth 20000 in
theorem SX12_lay_139 {E : FX} {l : Launch} {D : Nat} {post : Option AV → MM → Prop} {z : RT} (C : Cx E z D RX12 cX12_lay 8) (r : Rt E z none post) {M : MM} {x3 : Int} {s1 : Int} (h : VX12_lay_139 E l D post M x3 s1) : Aj E l z 139 [(0, vr 44), (3, vi x3)] [vj s1, vr 44] M := by
  unfold VX12_lay_139 at h
  refine v_iload_n (i := 1) C dX12_lay_139 rfl rfl ?_
  refine v_i2l C h.1 dX12_lay_140 ?_
  refine v_callS (q := qX12_common) (As := [vj s1, vj x3]) (S := [vr 44]) C co_yX12_common ml_RX12_52 st_yX12_common ini_RX12 hq_X12_common (by decide) (Nat.le_of_ble_eq_true rfl) rfl dX12_lay_141 (Con.mono h.2 (fun rr M5 hr => ?_) (Nat.le_refl _))
  obtain ⟨y6, rfl, g7⟩ := hr
  show Aj E l z (141 + 3) [(0, vr 44), (3, vi x3)] [vj y6, vr 44] M5
  exact v_sub [0] rfl (SX12_lay_144 C r g7)
def VX12_lay_105 (E : FX) (l : Launch) (D : Nat) (post : Option AV → MM → Prop) (M : MM) (s1 : Int) : Prop :=
  ∀ M8 : MM, M8 = up M 44 5 s1 → (VX12_lay_157 E l D post M8 )
set_option maxRecDepth 20000 in
theorem SX12_lay_105 {E : FX} {l : Launch} {D : Nat} {post : Option AV → MM → Prop} {z : RT} (C : Cx E z D RX12 cX12_lay 8) (r : Rt E z none post) {M : MM} {s1 : Int} (h : VX12_lay_105 E l D post M s1) : Aj E l z 105 [] [vi s1, vr 44] M := by
  unfold VX12_lay_105 at h
  refine v_putf (k := 44) (x := s1) (t := 0) C fp_RX12_48 rfl rfl (by decide) (by simp [fv, up]) rfl rfl dX12_lay_105 ?_
  obtain ⟨M8, hM8⟩ : ∃ X : MM, X = up M 44 5 s1 := ⟨_, rfl⟩
  refine v_eqM hM8 ?_
  have g9 := h M8 hM8
  refine v_goto C dX12_lay_108 (tgt := 157) (by decide) ?_
  exact v_sub [] rfl (SX12_lay_157 C r g9)
def VX12_lay_68 (E : FX) (l : Launch) (D : Nat) (post : Option AV → MM → Prop) (M : MM) (x2 : Int) (x3 : Int) (x4 : Int) (x6 : Int) (s1 : Int) (s2 : Int) : Prop :=
  0 ≤ s1 ∧ (s1 < 3 ∧ (∀ M10 : MM, M10 = up M 47 (s1).toNat s2 → (R32 x3 ∧ (Con E l D qX12_common [vj x4, vj x3] M10 (fun r M12 => ∃ y13 : Int, r = some (vj y13) ∧ (∀ M15 : MM, M15 = up M12 47 1 y13 → (R32 x3 ∧ (Con E l D qX12_common [vj x6, vj x3] M15 (fun r M17 => ∃ y18 : Int, r = some (vj y18) ∧ (∀ M20 : MM, M20 = up M17 47 2 y18 → (R32 x2 ∧ ((¬ x2 = 0 → VX12_lay_105 E l D post M20 3) ∧ (x2 = 0 → VX12_lay_105 E l D post M20 1)))))))))))))
set_option maxRecDepth 20000 in
theorem SX12_lay_68 {E : FX} {l : Launch} {D : Nat} {post : Option AV → MM → Prop} {z : RT} (C : Cx E z D RX12 cX12_lay 8) (r : Rt E z none post) {M : MM} {x2 : Int} {x3 : Int} {x4 : Int} {x6 : Int} {s1 : Int} {s2 : Int} (h : VX12_lay_68 E l D post M x2 x3 x4 x6 s1 s2) : Aj E l z 68 [(0, vr 44), (2, vi x2), (3, vi x3), (4, vj x4), (6, vj x6)] [vj s2, vi s1, vr 47] M := by
  unfold VX12_lay_68 at h
  refine v_last (k := 47) C rfl h.1 h.2.1 dX12_lay_68 ?_
  obtain ⟨M10, hM10⟩ : ∃ X : MM, X = up M 47 (s1).toNat s2 := ⟨_, rfl⟩
  refine v_eqM hM10 ?_
  have g11 := h.2.2 M10 hM10
  refine v_aload_n (i := 0) C dX12_lay_69 rfl rfl ?_
  refine v_getf (k := 44) C fl_RX12_16 rfl rfl dX12_lay_70 ?_
  show Aj E l z (70 + 3) [(0, vr 44), (2, vi x2), (3, vi x3), (4, vj x4), (6, vj x6)] [vr 47] M10
  refine v_iconst C dX12_lay_73 ?_
  refine v_lload (i := 3) C dX12_lay_74 rfl ?_
  refine v_iload_n (i := 2) C dX12_lay_76 rfl rfl ?_
  refine v_i2l C g11.1 dX12_lay_77 ?_
  refine v_callS (q := qX12_common) (As := [vj x4, vj x3]) (S := [vi 1, vr 47]) C co_yX12_common ml_RX12_52 st_yX12_common ini_RX12 hq_X12_common (by decide) (Nat.le_of_ble_eq_true rfl) rfl dX12_lay_78 (Con.mono g11.2 (fun rr M12 hr => ?_) (Nat.le_refl _))
  obtain ⟨y13, rfl, g14⟩ := hr
  show Aj E l z (78 + 3) [(0, vr 44), (2, vi x2), (3, vi x3), (4, vj x4), (6, vj x6)] [vj y13, vi 1, vr 47] M12
  refine v_last (k := 47) C rfl (by decide) (by decide) dX12_lay_81 ?_
  show Aj E l z (81 + 1) [(0, vr 44), (2, vi x2), (3, vi x3), (4, vj x4), (6, vj x6)] [] (up M12 47 1 y13)
  obtain ⟨M15, hM15⟩ : ∃ X : MM, X = up M12 47 1 y13 := ⟨_, rfl⟩
  refine v_eqM hM15 ?_
  have g16 := g14 M15 hM15
  refine v_aload_n (i := 0) C dX12_lay_82 rfl rfl ?_
  refine v_getf (k := 44) C fl_RX12_16 rfl rfl dX12_lay_83 ?_
  show Aj E l z (83 + 3) [(0, vr 44), (2, vi x2), (3, vi x3), (4, vj x4), (6, vj x6)] [vr 47] M15
  refine v_iconst C dX12_lay_86 ?_
  refine v_lload (i := 4) C dX12_lay_87 rfl ?_
  refine v_iload_n (i := 2) C dX12_lay_89 rfl rfl ?_
  refine v_i2l C g16.1 dX12_lay_90 ?_
  refine v_callS (q := qX12_common) (As := [vj x6, vj x3]) (S := [vi 2, vr 47]) C co_yX12_common ml_RX12_52 st_yX12_common ini_RX12 hq_X12_common (by decide) (Nat.le_of_ble_eq_true rfl) rfl dX12_lay_91 (Con.mono g16.2 (fun rr M17 hr => ?_) (Nat.le_refl _))
  obtain ⟨y18, rfl, g19⟩ := hr
  show Aj E l z (91 + 3) [(0, vr 44), (2, vi x2), (3, vi x3), (4, vj x4), (6, vj x6)] [vj y18, vi 2, vr 47] M17
  refine v_last (k := 47) C rfl (by decide) (by decide) dX12_lay_94 ?_
  show Aj E l z (94 + 1) [(0, vr 44), (2, vi x2), (3, vi x3), (4, vj x4), (6, vj x6)] [] (up M17 47 2 y18)
  obtain ⟨M20, hM20⟩ : ∃ X : MM, X = up M17 47 2 y18 := ⟨_, rfl⟩
  refine v_eqM hM20 ?_
  have g21 := g19 M20 hM20
  refine v_aload_n (i := 0) C dX12_lay_95 rfl rfl ?_
  refine v_iload_n (i := 1) C dX12_lay_96 rfl rfl ?_
  refine v_if_ne (tgt := 104) C g21.1 dX12_lay_97 (by decide) (fun c => ?_) (fun c => ?_)
  · have g22 := g21.2.1 c
    refine v_iconst C dX12_lay_104 ?_
    exact v_sub [] rfl (SX12_lay_105 C r g22)
  · have g23 := g21.2.2 c
    refine v_iconst C dX12_lay_100 ?_
    refine v_goto C dX12_lay_101 (tgt := 105) (by decide) ?_
    exact v_sub [] rfl (SX12_lay_105 C r g23)
def VX12_lay_0 (E : FX) (l : Launch) (D : Nat) (post : Option AV → MM → Prop) (M : MM) (x1 : Int) (x2 : Int) (x3 : Int) : Prop :=
  R32 (M 45 0) ∧ (∀ y24 : Int, y24 = M 45 0 → (R32 (M 45 1) ∧ (∀ y26 : Int, y26 = M 45 1 → (∀ M28 : MM, M28 = up M 44 5 1 → (R32 x1 ∧ ((¬ x1 = 7 → R32 x1 ∧ ((¬ x1 = 3 → R32 x1 ∧ ((¬ x1 = 5 → VX12_lay_139 E l D post M28 x3 y26) ∧ (x1 = 5 → VX12_lay_139 E l D post M28 x3 y24))) ∧ (x1 = 3 → Con E l D qX12_common [vj y24, vj y26] M28 (fun r M36 => ∃ y37 : Int, r = some (vj y37) ∧ (VX12_lay_144 E l D post M36 y37))))) ∧ (x1 = 7 → Con E l D qX12_common [vj y24, vj y26] M28 (fun r M39 => ∃ y40 : Int, r = some (vj y40) ∧ (R32 x3 ∧ (Con E l D qX12_common [vj y40, vj x3] M39 (fun r M42 => ∃ y43 : Int, r = some (vj y43) ∧ (∀ M45 : MM, M45 = up M42 44 6 y43 → (R32 x2 ∧ ((¬ x2 = 0 → Con E l D qX12_common [vj y24, vj y26] M45 (fun r M49 => ∃ y50 : Int, r = some (vj y50) ∧ (VX12_lay_68 E l D post M49 x2 x3 y24 y26 0 y50))) ∧ (x2 = 0 → VX12_lay_68 E l D post M45 x2 x3 y24 y26 0 (M45 44 6))))))))))))))))
set_option maxRecDepth 20000 in
theorem SX12_lay_0 {E : FX} {l : Launch} {D : Nat} {post : Option AV → MM → Prop} {z : RT} (C : Cx E z D RX12 cX12_lay 8) (r : Rt E z none post) {M : MM} {x1 : Int} {x2 : Int} {x3 : Int} (h : VX12_lay_0 E l D post M x1 x2 x3) : Aj E l z 0 [(0, vr 44), (1, vi x1), (2, vi x2), (3, vi x3)] [] M := by
  unfold VX12_lay_0 at h
  refine v_aload_n (i := 0) C dX12_lay_0 rfl rfl ?_
  refine v_getf (k := 44) C fl_RX12_7 rfl rfl dX12_lay_1 ?_
  show Aj E l z (1 + 3) [(0, vr 44), (1, vi x1), (2, vi x2), (3, vi x3)] [vr 45] M
  refine v_iconst C dX12_lay_4 ?_
  refine v_iald (k := 45) C rfl (by decide) (by decide) dX12_lay_5 ?_
  show Aj E l z (5 + 1) [(0, vr 44), (1, vi x1), (2, vi x2), (3, vi x3)] [vi (M 45 0)] M
  refine v_i2l C h.1 dX12_lay_6 ?_
  obtain ⟨y24, hy24⟩ : ∃ y : Int, y = M 45 0 := ⟨_, rfl⟩
  have g25 := h.2 y24 hy24
  refine v_eqj hy24 ?_
  refine v_lstore (L' := [(4, vj y24), (0, vr 44), (1, vi x1), (2, vi x2), (3, vi x3)]) C dX12_lay_7 (by decide) rfl ?_
  refine v_aload_n (i := 1) C dX12_lay_9 rfl rfl ?_
  refine v_getf (k := 44) C fl_RX12_7 rfl rfl dX12_lay_10 ?_
  show Aj E l z (10 + 3) [(4, vj y24), (0, vr 44), (1, vi x1), (2, vi x2), (3, vi x3)] [vr 45] M
  refine v_iconst C dX12_lay_13 ?_
  refine v_iald (k := 45) C rfl (by decide) (by decide) dX12_lay_14 ?_
  show Aj E l z (14 + 1) [(4, vj y24), (0, vr 44), (1, vi x1), (2, vi x2), (3, vi x3)] [vi (M 45 1)] M
  refine v_i2l C g25.1 dX12_lay_15 ?_
  obtain ⟨y26, hy26⟩ : ∃ y : Int, y = M 45 1 := ⟨_, rfl⟩
  have g27 := g25.2 y26 hy26
  refine v_eqj hy26 ?_
  refine v_lstore (L' := [(6, vj y26), (4, vj y24), (0, vr 44), (1, vi x1), (2, vi x2), (3, vi x3)]) C dX12_lay_16 (by decide) rfl ?_
  refine v_aload_n (i := 2) C dX12_lay_18 rfl rfl ?_
  refine v_iconst C dX12_lay_19 ?_
  refine v_putf (k := 44) (x := 1) (t := 0) C fp_RX12_48 rfl rfl (by decide) (by simp [fv, up]) rfl rfl dX12_lay_20 ?_
  obtain ⟨M28, hM28⟩ : ∃ X : MM, X = up M 44 5 1 := ⟨_, rfl⟩
  refine v_eqM hM28 ?_
  have g29 := g27 M28 hM28
  refine v_iload_n (i := 3) C dX12_lay_23 rfl rfl ?_
  refine v_bipush C dX12_lay_24 (by decide) ?_
  refine v_icmp_ne (tgt := 111) C g29.1 (by decide) dX12_lay_26 (by decide) (fun c => ?_) (fun c => ?_)
  · have g30 := g29.2.1 c
    refine v_aload_n (i := 2) C dX12_lay_111 rfl rfl ?_
    refine v_iload_n (i := 3) C dX12_lay_112 rfl rfl ?_
    refine v_iconst C dX12_lay_113 ?_
    refine v_icmp_ne (tgt := 127) C g30.1 (by decide) dX12_lay_114 (by decide) (fun c => ?_) (fun c => ?_)
    · have g32 := g30.2.1 c
      refine v_iload_n (i := 3) C dX12_lay_127 rfl rfl ?_
      refine v_iconst C dX12_lay_128 ?_
      refine v_icmp_ne (tgt := 137) C g32.1 (by decide) dX12_lay_129 (by decide) (fun c => ?_) (fun c => ?_)
      · have g34 := g32.2.1 c
        refine v_lload (i := 0) C dX12_lay_137 rfl ?_
        exact v_sub [2, 5] rfl (SX12_lay_139 C r g34)
      · have g35 := g32.2.2 c
        refine v_lload (i := 1) C dX12_lay_132 rfl ?_
        refine v_goto C dX12_lay_134 (tgt := 139) (by decide) ?_
        exact v_sub [2, 5] rfl (SX12_lay_139 C r g35)
    · have g33 := g30.2.2 c
      refine v_lload (i := 1) C dX12_lay_117 rfl ?_
      refine v_lload (i := 0) C dX12_lay_119 rfl ?_
      refine v_callS (q := qX12_common) (As := [vj y24, vj y26]) (S := [vr 44]) C co_yX12_common ml_RX12_52 st_yX12_common ini_RX12 hq_X12_common (by decide) (Nat.le_of_ble_eq_true rfl) rfl dX12_lay_121 (Con.mono g33 (fun rr M36 hr => ?_) (Nat.le_refl _))
      obtain ⟨y37, rfl, g38⟩ := hr
      show Aj E l z (121 + 3) [(6, vj y26), (4, vj y24), (0, vr 44), (1, vi x1), (2, vi x2), (3, vi x3)] [vj y37, vr 44] M36
      refine v_goto C dX12_lay_124 (tgt := 144) (by decide) ?_
      exact v_sub [2] rfl (SX12_lay_144 C r g38)
  · have g31 := g29.2.2 c
    refine v_aload_n (i := 2) C dX12_lay_29 rfl rfl ?_
    refine v_lload (i := 1) C dX12_lay_30 rfl ?_
    refine v_lload (i := 0) C dX12_lay_32 rfl ?_
    refine v_callS (q := qX12_common) (As := [vj y24, vj y26]) (S := [vr 44]) C co_yX12_common ml_RX12_52 st_yX12_common ini_RX12 hq_X12_common (by decide) (Nat.le_of_ble_eq_true rfl) rfl dX12_lay_34 (Con.mono g31 (fun rr M39 hr => ?_) (Nat.le_refl _))
    obtain ⟨y40, rfl, g41⟩ := hr
    show Aj E l z (34 + 3) [(6, vj y26), (4, vj y24), (0, vr 44), (1, vi x1), (2, vi x2), (3, vi x3)] [vj y40, vr 44] M39
    refine v_iload_n (i := 5) C dX12_lay_37 rfl rfl ?_
    refine v_i2l C g41.1 dX12_lay_38 ?_
    refine v_callS (q := qX12_common) (As := [vj y40, vj x3]) (S := [vr 44]) C co_yX12_common ml_RX12_52 st_yX12_common ini_RX12 hq_X12_common (by decide) (Nat.le_of_ble_eq_true rfl) rfl dX12_lay_39 (Con.mono g41.2 (fun rr M42 hr => ?_) (Nat.le_refl _))
    obtain ⟨y43, rfl, g44⟩ := hr
    show Aj E l z (39 + 3) [(6, vj y26), (4, vj y24), (0, vr 44), (1, vi x1), (2, vi x2), (3, vi x3)] [vj y43, vr 44] M42
    refine v_putf (k := 44) (x := y43) (t := 1) C fp_RX12_55 rfl rfl (by decide) (by simp [fv, up]) rfl rfl dX12_lay_42 ?_
    obtain ⟨M45, hM45⟩ : ∃ X : MM, X = up M42 44 6 y43 := ⟨_, rfl⟩
    refine v_eqM hM45 ?_
    have g46 := g44 M45 hM45
    refine v_aload_n (i := 2) C dX12_lay_45 rfl rfl ?_
    refine v_getf (k := 44) C fl_RX12_16 rfl rfl dX12_lay_46 ?_
    show Aj E l z (46 + 3) [(6, vj y26), (4, vj y24), (0, vr 44), (1, vi x1), (2, vi x2), (3, vi x3)] [vr 47] M45
    refine v_iconst C dX12_lay_49 ?_
    refine v_iload_n (i := 4) C dX12_lay_50 rfl rfl ?_
    refine v_if_ne (tgt := 61) C g46.1 dX12_lay_51 (by decide) (fun c => ?_) (fun c => ?_)
    · have g47 := g46.2.1 c
      refine v_lload (i := 1) C dX12_lay_61 rfl ?_
      refine v_lload (i := 0) C dX12_lay_63 rfl ?_
      refine v_callS (q := qX12_common) (As := [vj y24, vj y26]) (S := [vi 0, vr 47]) C co_yX12_common ml_RX12_52 st_yX12_common ini_RX12 hq_X12_common (by decide) (Nat.le_of_ble_eq_true rfl) rfl dX12_lay_65 (Con.mono g47 (fun rr M49 hr => ?_) (Nat.le_refl _))
      obtain ⟨y50, rfl, g51⟩ := hr
      show Aj E l z (65 + 3) [(6, vj y26), (4, vj y24), (0, vr 44), (1, vi x1), (2, vi x2), (3, vi x3)] [vj y50, vi 0, vr 47] M49
      exact v_sub [2, 4, 5, 1, 0] rfl (SX12_lay_68 C r g51)
    · have g48 := g46.2.2 c
      refine v_aload_n (i := 2) C dX12_lay_54 rfl rfl ?_
      refine v_getf (k := 44) C fl_RX12_55 rfl rfl dX12_lay_55 ?_
      show Aj E l z (55 + 3) [(6, vj y26), (4, vj y24), (0, vr 44), (1, vi x1), (2, vi x2), (3, vi x3)] [vj (M45 44 6), vi 0, vr 47] M45
      refine v_goto C dX12_lay_58 (tgt := 68) (by decide) ?_
      exact v_sub [2, 4, 5, 1, 0] rfl (SX12_lay_68 C r g48)
theorem RX12_lay {E : FX} {l : Launch} {D : Nat} {post : Option AV → MM → Prop} {M : MM} {x1 : Int} {x2 : Int} {x3 : Int} (h0 : VX12_lay_0 E l D post M x1 x2 x3) : Con E l (D + 1) qX12_lay [vr 44, vi x1, vi x2, vi x3] M post := by
  refine con_of (by decide +kernel) (Nat.le_of_ble_eq_true rfl) (fun z C r => ?_)
  exact v_sub [0, 1, 2, 3] rfl (SX12_lay_0 C r h0)
def VX12_layNow_0 (E : FX) (l : Launch) (D : Nat) (post : Option AV → MM → Prop) (M : MM) : Prop :=
  Con E l D qX12_lay [vr 44, vi (M 45 3), vi (M 45 4), vi (M 45 2)] M (fun r M1 => r = none ∧ (post none M1))
set_option maxRecDepth 20000 in
theorem SX12_layNow_0 {E : FX} {l : Launch} {D : Nat} {post : Option AV → MM → Prop} {z : RT} (C : Cx E z D RX12 cX12_layNow 1) (r : Rt E z none post) {M : MM} (h : VX12_layNow_0 E l D post M) : Aj E l z 0 [(0, vr 44)] [] M := by
  unfold VX12_layNow_0 at h
  refine v_aload_n (i := 0) C dX12_layNow_0 rfl rfl ?_
  refine v_aload_n (i := 0) C dX12_layNow_1 rfl rfl ?_
  refine v_getf (k := 44) C fl_RX12_7 rfl rfl dX12_layNow_2 ?_
  show Aj E l z (2 + 3) [(0, vr 44)] [vr 45, vr 44] M
  refine v_iconst C dX12_layNow_5 ?_
  refine v_iald (k := 45) C rfl (by decide) (by decide) dX12_layNow_6 ?_
  show Aj E l z (6 + 1) [(0, vr 44)] [vi (M 45 3), vr 44] M
  refine v_aload_n (i := 0) C dX12_layNow_7 rfl rfl ?_
  refine v_getf (k := 44) C fl_RX12_7 rfl rfl dX12_layNow_8 ?_
  show Aj E l z (8 + 3) [(0, vr 44)] [vr 45, vi (M 45 3), vr 44] M
  refine v_iconst C dX12_layNow_11 ?_
  refine v_iald (k := 45) C rfl (by decide) (by decide) dX12_layNow_12 ?_
  show Aj E l z (12 + 1) [(0, vr 44)] [vi (M 45 4), vi (M 45 3), vr 44] M
  refine v_aload_n (i := 0) C dX12_layNow_13 rfl rfl ?_
  refine v_getf (k := 44) C fl_RX12_7 rfl rfl dX12_layNow_14 ?_
  show Aj E l z (14 + 3) [(0, vr 44)] [vr 45, vi (M 45 4), vi (M 45 3), vr 44] M
  refine v_iconst C dX12_layNow_17 ?_
  refine v_iald (k := 45) C rfl (by decide) (by decide) dX12_layNow_18 ?_
  show Aj E l z (18 + 1) [(0, vr 44)] [vi (M 45 2), vi (M 45 4), vi (M 45 3), vr 44] M
  refine v_callV (q := qX12_lay) (k := 44) (As := [vi (M 45 3), vi (M 45 4), vi (M 45 2)]) (S := []) C co_yX12_lay ml_RX12_59 im_yX12_lay se_yX12_lay ini_RX12 rfl rfl hq_X12_lay (by decide) (Nat.le_of_ble_eq_true rfl) rfl dX12_layNow_19 (Con.mono h (fun rr M1 hr => ?_) (Nat.le_refl _))
  obtain ⟨rfl, g2⟩ := hr
  show Aj E l z (19 + 3) [(0, vr 44)] [] M1
  exact v_vret C r dX12_layNow_22 g2
theorem RX12_layNow {E : FX} {l : Launch} {D : Nat} {post : Option AV → MM → Prop} {M : MM} (h0 : VX12_layNow_0 E l D post M) : Con E l (D + 1) qX12_layNow [vr 44] M post := by
  refine con_of (by decide +kernel) (Nat.le_of_ble_eq_true rfl) (fun z C r => ?_)
  exact v_sub [0] rfl (SX12_layNow_0 C r h0)
def VX12_below_0 (E : FX) (l : Launch) (D : Nat) (post : Option AV → MM → Prop) (J5 : MM → Int → Int → Int → Prop) (M : MM) (x1 : Int) : Prop :=
  J5 M x1 0 0
set_option maxRecDepth 20000 in
theorem SX12_below_0 {E : FX} {l : Launch} {D : Nat} {post : Option AV → MM → Prop} {z : RT} {J5 : MM → Int → Int → Int → Prop} (C : Cx E z D RX12 cX12_below 6) (r : Rt E z (some .long) post) (hJ5 : ∀ (M : MM) (x1 : Int) (x3 : Int) (x5 : Int), J5 M x1 x3 x5 → Aj E l z 5 [(0, vr 44), (1, vj x1), (3, vj x3), (5, vi x5)] [] M) {M : MM} {x1 : Int} (h : VX12_below_0 E l D post J5 M x1) : Aj E l z 0 [(0, vr 44), (1, vj x1)] [] M := by
  unfold VX12_below_0 at h
  refine v_lconst (x := 0) C dX12_below_0 (by decide) ?_
  refine v_lstore_n (L' := [(3, vj 0), (0, vr 44), (1, vj x1)]) C dX12_below_1 rfl (by decide) rfl ?_
  refine v_iconst C dX12_below_2 ?_
  refine v_istore (L' := [(5, vi 0), (3, vj 0), (0, vr 44), (1, vj x1)]) C dX12_below_3 (by decide) rfl ?_
  exact v_sub [2, 3, 1, 0] rfl (hJ5 _ _ _ _ h)
def VX12_below_5 (E : FX) (l : Launch) (D : Nat) (post : Option AV → MM → Prop) (J5 : MM → Int → Int → Int → Prop) (M : MM) (x1 : Int) (x3 : Int) (x5 : Int) : Prop :=
  R32 x5 ∧ (R32 (M 44 5) ∧ ((M 44 5 ≤ x5 → post (some (vj x3)) M) ∧ (¬ M 44 5 ≤ x5 → 0 ≤ x5 ∧ (x5 < 3 ∧ (R64 x1 ∧ (R64 (M 47 (x5).toNat) ∧ (0 < M 47 (x5).toNat ∧ (0 ≤ x5 ∧ (x5 < 3 ∧ (Con E l D qX12_greater [vj x3, vj ((Int.tdiv x1 (M 47 (x5).toNat)) * (M 47 (x5).toNat))] M (fun r M3 => ∃ y4 : Int, r = some (vj y4) ∧ (∀ y6 : Int, y6 = x5 + 1 → (J5 M3 x1 y4 y6)))))))))))))
set_option maxRecDepth 20000 in
theorem SX12_below_5 {E : FX} {l : Launch} {D : Nat} {post : Option AV → MM → Prop} {z : RT} {J5 : MM → Int → Int → Int → Prop} (C : Cx E z D RX12 cX12_below 6) (r : Rt E z (some .long) post) (hJ5 : ∀ (M : MM) (x1 : Int) (x3 : Int) (x5 : Int), J5 M x1 x3 x5 → Aj E l z 5 [(0, vr 44), (1, vj x1), (3, vj x3), (5, vi x5)] [] M) {M : MM} {x1 : Int} {x3 : Int} {x5 : Int} (h : VX12_below_5 E l D post J5 M x1 x3 x5) : Aj E l z 5 [(0, vr 44), (1, vj x1), (3, vj x3), (5, vi x5)] [] M := by
  unfold VX12_below_5 at h
  refine v_iload (i := 3) C dX12_below_5 rfl ?_
  refine v_aload_n (i := 0) C dX12_below_7 rfl rfl ?_
  refine v_getf (k := 44) C fl_RX12_48 rfl rfl dX12_below_8 ?_
  show Aj E l z (8 + 3) [(0, vr 44), (1, vj x1), (3, vj x3), (5, vi x5)] [vi (M 44 5), vi x5] M
  refine v_icmp_ge (tgt := 42) C h.1 h.2.1 dX12_below_11 (by decide) (fun c => ?_) (fun c => ?_)
  · have g1 := h.2.2.1 c
    refine v_lload_n (i := 2) C dX12_below_42 rfl rfl ?_
    exact v_lret C r dX12_below_43 g1
  · have g2 := h.2.2.2 c
    refine v_lload_n (i := 2) C dX12_below_14 rfl rfl ?_
    refine v_lload_n (i := 1) C dX12_below_15 rfl rfl ?_
    refine v_aload_n (i := 0) C dX12_below_16 rfl rfl ?_
    refine v_getf (k := 44) C fl_RX12_16 rfl rfl dX12_below_17 ?_
    show Aj E l z (17 + 3) [(0, vr 44), (1, vj x1), (3, vj x3), (5, vi x5)] [vr 47, vj x1, vj x3] M
    refine v_iload (i := 3) C dX12_below_20 rfl ?_
    refine v_lald (k := 47) C rfl g2.1 g2.2.1 dX12_below_22 ?_
    show Aj E l z (22 + 1) [(0, vr 44), (1, vj x1), (3, vj x3), (5, vi x5)] [vj (M 47 (x5).toNat), vj x1, vj x3] M
    refine v_ldiv C g2.2.2.1 g2.2.2.2.1 g2.2.2.2.2.1 dX12_below_23 ?_
    refine v_aload_n (i := 0) C dX12_below_24 rfl rfl ?_
    refine v_getf (k := 44) C fl_RX12_16 rfl rfl dX12_below_25 ?_
    show Aj E l z (25 + 3) [(0, vr 44), (1, vj x1), (3, vj x3), (5, vi x5)] [vr 47, vj (Int.tdiv x1 (M 47 (x5).toNat)), vj x3] M
    refine v_iload (i := 3) C dX12_below_28 rfl ?_
    refine v_lald (k := 47) C rfl g2.2.2.2.2.2.1 g2.2.2.2.2.2.2.1 dX12_below_30 ?_
    show Aj E l z (30 + 1) [(0, vr 44), (1, vj x1), (3, vj x3), (5, vi x5)] [vj (M 47 (x5).toNat), vj (Int.tdiv x1 (M 47 (x5).toNat)), vj x3] M
    refine v_lmul C dX12_below_31 ?_
    refine v_callS (q := qX12_greater) (As := [vj x3, vj ((Int.tdiv x1 (M 47 (x5).toNat)) * (M 47 (x5).toNat))]) (S := []) C co_yX12_greater ml_RX12_63 st_yX12_greater ini_RX12 hq_X12_greater (by decide) (Nat.le_of_ble_eq_true rfl) rfl dX12_below_32 (Con.mono g2.2.2.2.2.2.2.2 (fun rr M3 hr => ?_) (Nat.le_refl _))
    obtain ⟨y4, rfl, g5⟩ := hr
    show Aj E l z (32 + 3) [(0, vr 44), (1, vj x1), (3, vj x3), (5, vi x5)] [vj y4] M3
    refine v_lstore_n (L' := [(3, vj y4), (0, vr 44), (1, vj x1), (5, vi x5)]) C dX12_below_35 rfl (by decide) rfl ?_
    obtain ⟨y6, hy6⟩ : ∃ y : Int, y = x5 + 1 := ⟨_, rfl⟩
    have g7 := g5 y6 hy6
    refine v_iinc (i := 3) (L' := [(5, vi y6), (3, vj y4), (0, vr 44), (1, vj x1)]) C dX12_below_36 rfl (by decide) hy6 rfl ?_
    refine v_goto C dX12_below_39 (tgt := 5) (by decide) ?_
    exact v_sub [2, 3, 1, 0] rfl (hJ5 _ _ _ _ g7)
theorem RX12_below {E : FX} {l : Launch} {D : Nat} {post : Option AV → MM → Prop} (I5 : MM → Int → Int → Int → Prop) (m5 : MM → Int → Int → Int → Nat) {M : MM} {x1 : Int} (h0 : VX12_below_0 E l D post I5 M x1) (h5I : ∀ (M : MM) (x1 : Int) (x3 : Int) (x5 : Int), I5 M x1 x3 x5 → VX12_below_5 E l D post (fun M' x1' x3' x5' => I5 M' x1' x3' x5' ∧ m5 M' x1' x3' x5' < m5 M x1 x3 x5) M x1 x3 x5) : Con E l (D + 1) qX12_below [vr 44, vj x1] M post := by
  refine con_of (by decide +kernel) (Nat.le_of_ble_eq_true rfl) (fun z C r => ?_)
  have all : ∀ n : Nat, (∀ (M : MM) (x1 : Int) (x3 : Int) (x5 : Int), I5 M x1 x3 x5 → m5 M x1 x3 x5 < n → Aj E l z 5 [(0, vr 44), (1, vj x1), (3, vj x3), (5, vi x5)] [] M) := by
    intro n
    induction n with
    | zero => exact fun _ _ _ _ _ hm => absurd hm (Nat.not_lt_zero _)
    | succ n ih => exact fun M x1 x3 x5 hi hm => SX12_below_5 C r (fun M' x1' x3' x5' hj => ih M' x1' x3' x5' hj.1 (by omega)) (h5I M x1 x3 x5 hi)
  exact v_sub [0, 1] rfl (SX12_below_0 C r (fun M' x1' x3' x5' hj => (all _) M' x1' x3' x5' hj (Nat.lt_succ_self _)) h0)
def VX12_above_0 (E : FX) (l : Launch) (D : Nat) (post : Option AV → MM → Prop) (J28 : MM → Int → Int → Int → Prop) (M : MM) (x1 : Int) : Prop :=
  R64 ((x1 + (M 47 0)) - 1) ∧ (R64 (M 47 0) ∧ (0 < M 47 0 ∧ (∀ y1 : Int, y1 = (Int.tdiv ((x1 + (M 47 0)) - 1) (M 47 0)) * (M 47 0) → (J28 M x1 y1 1))))
set_option maxRecDepth 20000 in
theorem SX12_above_0 {E : FX} {l : Launch} {D : Nat} {post : Option AV → MM → Prop} {z : RT} {J28 : MM → Int → Int → Int → Prop} (C : Cx E z D RX12 cX12_above 6) (r : Rt E z (some .long) post) (hJ28 : ∀ (M : MM) (x1 : Int) (x3 : Int) (x5 : Int), J28 M x1 x3 x5 → Aj E l z 28 [(0, vr 44), (1, vj x1), (3, vj x3), (5, vi x5)] [] M) {M : MM} {x1 : Int} (h : VX12_above_0 E l D post J28 M x1) : Aj E l z 0 [(0, vr 44), (1, vj x1)] [] M := by
  unfold VX12_above_0 at h
  refine v_lload_n (i := 1) C dX12_above_0 rfl rfl ?_
  refine v_aload_n (i := 0) C dX12_above_1 rfl rfl ?_
  refine v_getf (k := 44) C fl_RX12_16 rfl rfl dX12_above_2 ?_
  show Aj E l z (2 + 3) [(0, vr 44), (1, vj x1)] [vr 47, vj x1] M
  refine v_iconst C dX12_above_5 ?_
  refine v_lald (k := 47) C rfl (by decide) (by decide) dX12_above_6 ?_
  show Aj E l z (6 + 1) [(0, vr 44), (1, vj x1)] [vj (M 47 0), vj x1] M
  refine v_ladd C dX12_above_7 ?_
  refine v_lconst (x := 1) C dX12_above_8 (by decide) ?_
  refine v_lsub C dX12_above_9 ?_
  refine v_aload_n (i := 0) C dX12_above_10 rfl rfl ?_
  refine v_getf (k := 44) C fl_RX12_16 rfl rfl dX12_above_11 ?_
  show Aj E l z (11 + 3) [(0, vr 44), (1, vj x1)] [vr 47, vj ((x1 + (M 47 0)) - 1)] M
  refine v_iconst C dX12_above_14 ?_
  refine v_lald (k := 47) C rfl (by decide) (by decide) dX12_above_15 ?_
  show Aj E l z (15 + 1) [(0, vr 44), (1, vj x1)] [vj (M 47 0), vj ((x1 + (M 47 0)) - 1)] M
  refine v_ldiv C h.1 h.2.1 h.2.2.1 dX12_above_16 ?_
  refine v_aload_n (i := 0) C dX12_above_17 rfl rfl ?_
  refine v_getf (k := 44) C fl_RX12_16 rfl rfl dX12_above_18 ?_
  show Aj E l z (18 + 3) [(0, vr 44), (1, vj x1)] [vr 47, vj (Int.tdiv ((x1 + (M 47 0)) - 1) (M 47 0))] M
  refine v_iconst C dX12_above_21 ?_
  refine v_lald (k := 47) C rfl (by decide) (by decide) dX12_above_22 ?_
  show Aj E l z (22 + 1) [(0, vr 44), (1, vj x1)] [vj (M 47 0), vj (Int.tdiv ((x1 + (M 47 0)) - 1) (M 47 0))] M
  refine v_lmul C dX12_above_23 ?_
  obtain ⟨y1, hy1⟩ : ∃ y : Int, y = (Int.tdiv ((x1 + (M 47 0)) - 1) (M 47 0)) * (M 47 0) := ⟨_, rfl⟩
  have g2 := h.2.2.2 y1 hy1
  refine v_eqj hy1 ?_
  refine v_lstore_n (L' := [(3, vj y1), (0, vr 44), (1, vj x1)]) C dX12_above_24 rfl (by decide) rfl ?_
  refine v_iconst C dX12_above_25 ?_
  refine v_istore (L' := [(5, vi 1), (3, vj y1), (0, vr 44), (1, vj x1)]) C dX12_above_26 (by decide) rfl ?_
  exact v_sub [2, 3, 1, 0] rfl (hJ28 _ _ _ _ g2)
def VX12_above_28 (E : FX) (l : Launch) (D : Nat) (post : Option AV → MM → Prop) (J28 : MM → Int → Int → Int → Prop) (M : MM) (x1 : Int) (x3 : Int) (x5 : Int) : Prop :=
  R32 x5 ∧ (R32 (M 44 5) ∧ ((M 44 5 ≤ x5 → post (some (vj x3)) M) ∧ (¬ M 44 5 ≤ x5 → 0 ≤ x5 ∧ (x5 < 3 ∧ (0 ≤ x5 ∧ (x5 < 3 ∧ (R64 ((x1 + (M 47 (x5).toNat)) - 1) ∧ (R64 (M 47 (x5).toNat) ∧ (0 < M 47 (x5).toNat ∧ (0 ≤ x5 ∧ (x5 < 3 ∧ (Con E l D qX12_lesser [vj x3, vj ((Int.tdiv ((x1 + (M 47 (x5).toNat)) - 1) (M 47 (x5).toNat)) * (M 47 (x5).toNat))] M (fun r M5 => ∃ y6 : Int, r = some (vj y6) ∧ (∀ y8 : Int, y8 = x5 + 1 → (J28 M5 x1 y6 y8)))))))))))))))
set_option maxRecDepth 20000 in
theorem SX12_above_28 {E : FX} {l : Launch} {D : Nat} {post : Option AV → MM → Prop} {z : RT} {J28 : MM → Int → Int → Int → Prop} (C : Cx E z D RX12 cX12_above 6) (r : Rt E z (some .long) post) (hJ28 : ∀ (M : MM) (x1 : Int) (x3 : Int) (x5 : Int), J28 M x1 x3 x5 → Aj E l z 28 [(0, vr 44), (1, vj x1), (3, vj x3), (5, vi x5)] [] M) {M : MM} {x1 : Int} {x3 : Int} {x5 : Int} (h : VX12_above_28 E l D post J28 M x1 x3 x5) : Aj E l z 28 [(0, vr 44), (1, vj x1), (3, vj x3), (5, vi x5)] [] M := by
  unfold VX12_above_28 at h
  refine v_iload (i := 3) C dX12_above_28 rfl ?_
  refine v_aload_n (i := 0) C dX12_above_30 rfl rfl ?_
  refine v_getf (k := 44) C fl_RX12_48 rfl rfl dX12_above_31 ?_
  show Aj E l z (31 + 3) [(0, vr 44), (1, vj x1), (3, vj x3), (5, vi x5)] [vi (M 44 5), vi x5] M
  refine v_icmp_ge (tgt := 75) C h.1 h.2.1 dX12_above_34 (by decide) (fun c => ?_) (fun c => ?_)
  · have g3 := h.2.2.1 c
    refine v_lload_n (i := 2) C dX12_above_75 rfl rfl ?_
    exact v_lret C r dX12_above_76 g3
  · have g4 := h.2.2.2 c
    refine v_lload_n (i := 2) C dX12_above_37 rfl rfl ?_
    refine v_lload_n (i := 1) C dX12_above_38 rfl rfl ?_
    refine v_aload_n (i := 0) C dX12_above_39 rfl rfl ?_
    refine v_getf (k := 44) C fl_RX12_16 rfl rfl dX12_above_40 ?_
    show Aj E l z (40 + 3) [(0, vr 44), (1, vj x1), (3, vj x3), (5, vi x5)] [vr 47, vj x1, vj x3] M
    refine v_iload (i := 3) C dX12_above_43 rfl ?_
    refine v_lald (k := 47) C rfl g4.1 g4.2.1 dX12_above_45 ?_
    show Aj E l z (45 + 1) [(0, vr 44), (1, vj x1), (3, vj x3), (5, vi x5)] [vj (M 47 (x5).toNat), vj x1, vj x3] M
    refine v_ladd C dX12_above_46 ?_
    refine v_lconst (x := 1) C dX12_above_47 (by decide) ?_
    refine v_lsub C dX12_above_48 ?_
    refine v_aload_n (i := 0) C dX12_above_49 rfl rfl ?_
    refine v_getf (k := 44) C fl_RX12_16 rfl rfl dX12_above_50 ?_
    show Aj E l z (50 + 3) [(0, vr 44), (1, vj x1), (3, vj x3), (5, vi x5)] [vr 47, vj ((x1 + (M 47 (x5).toNat)) - 1), vj x3] M
    refine v_iload (i := 3) C dX12_above_53 rfl ?_
    refine v_lald (k := 47) C rfl g4.2.2.1 g4.2.2.2.1 dX12_above_55 ?_
    show Aj E l z (55 + 1) [(0, vr 44), (1, vj x1), (3, vj x3), (5, vi x5)] [vj (M 47 (x5).toNat), vj ((x1 + (M 47 (x5).toNat)) - 1), vj x3] M
    refine v_ldiv C g4.2.2.2.2.1 g4.2.2.2.2.2.1 g4.2.2.2.2.2.2.1 dX12_above_56 ?_
    refine v_aload_n (i := 0) C dX12_above_57 rfl rfl ?_
    refine v_getf (k := 44) C fl_RX12_16 rfl rfl dX12_above_58 ?_
    show Aj E l z (58 + 3) [(0, vr 44), (1, vj x1), (3, vj x3), (5, vi x5)] [vr 47, vj (Int.tdiv ((x1 + (M 47 (x5).toNat)) - 1) (M 47 (x5).toNat)), vj x3] M
    refine v_iload (i := 3) C dX12_above_61 rfl ?_
    refine v_lald (k := 47) C rfl g4.2.2.2.2.2.2.2.1 g4.2.2.2.2.2.2.2.2.1 dX12_above_63 ?_
    show Aj E l z (63 + 1) [(0, vr 44), (1, vj x1), (3, vj x3), (5, vi x5)] [vj (M 47 (x5).toNat), vj (Int.tdiv ((x1 + (M 47 (x5).toNat)) - 1) (M 47 (x5).toNat)), vj x3] M
    refine v_lmul C dX12_above_64 ?_
    refine v_callS (q := qX12_lesser) (As := [vj x3, vj ((Int.tdiv ((x1 + (M 47 (x5).toNat)) - 1) (M 47 (x5).toNat)) * (M 47 (x5).toNat))]) (S := []) C co_yX12_lesser ml_RX12_66 st_yX12_lesser ini_RX12 hq_X12_lesser (by decide) (Nat.le_of_ble_eq_true rfl) rfl dX12_above_65 (Con.mono g4.2.2.2.2.2.2.2.2.2 (fun rr M5 hr => ?_) (Nat.le_refl _))
    obtain ⟨y6, rfl, g7⟩ := hr
    show Aj E l z (65 + 3) [(0, vr 44), (1, vj x1), (3, vj x3), (5, vi x5)] [vj y6] M5
    refine v_lstore_n (L' := [(3, vj y6), (0, vr 44), (1, vj x1), (5, vi x5)]) C dX12_above_68 rfl (by decide) rfl ?_
    obtain ⟨y8, hy8⟩ : ∃ y : Int, y = x5 + 1 := ⟨_, rfl⟩
    have g9 := g7 y8 hy8
    refine v_iinc (i := 3) (L' := [(5, vi y8), (3, vj y6), (0, vr 44), (1, vj x1)]) C dX12_above_69 rfl (by decide) hy8 rfl ?_
    refine v_goto C dX12_above_72 (tgt := 28) (by decide) ?_
    exact v_sub [2, 3, 1, 0] rfl (hJ28 _ _ _ _ g9)
theorem RX12_above {E : FX} {l : Launch} {D : Nat} {post : Option AV → MM → Prop} (I28 : MM → Int → Int → Int → Prop) (m28 : MM → Int → Int → Int → Nat) {M : MM} {x1 : Int} (h0 : VX12_above_0 E l D post I28 M x1) (h28I : ∀ (M : MM) (x1 : Int) (x3 : Int) (x5 : Int), I28 M x1 x3 x5 → VX12_above_28 E l D post (fun M' x1' x3' x5' => I28 M' x1' x3' x5' ∧ m28 M' x1' x3' x5' < m28 M x1 x3 x5) M x1 x3 x5) : Con E l (D + 1) qX12_above [vr 44, vj x1] M post := by
  refine con_of (by decide +kernel) (Nat.le_of_ble_eq_true rfl) (fun z C r => ?_)
  have all : ∀ n : Nat, (∀ (M : MM) (x1 : Int) (x3 : Int) (x5 : Int), I28 M x1 x3 x5 → m28 M x1 x3 x5 < n → Aj E l z 28 [(0, vr 44), (1, vj x1), (3, vj x3), (5, vi x5)] [] M) := by
    intro n
    induction n with
    | zero => exact fun _ _ _ _ _ hm => absurd hm (Nat.not_lt_zero _)
    | succ n ih => exact fun M x1 x3 x5 hi hm => SX12_above_28 C r (fun M' x1' x3' x5' hj => ih M' x1' x3' x5' hj.1 (by omega)) (h28I M x1 x3 x5 hi)
  exact v_sub [0, 1] rfl (SX12_above_0 C r (fun M' x1' x3' x5' hj => (all _) M' x1' x3' x5' hj (Nat.lt_succ_self _)) h0)
def VX12_manyUpTo_0 (E : FX) (l : Launch) (D : Nat) (post : Option AV → MM → Prop) (J5 : MM → Int → Int → Int → Prop) (M : MM) (x1 : Int) : Prop :=
  J5 M x1 0 0
set_option maxRecDepth 20000 in
theorem SX12_manyUpTo_0 {E : FX} {l : Launch} {D : Nat} {post : Option AV → MM → Prop} {z : RT} {J5 : MM → Int → Int → Int → Prop} (C : Cx E z D RX12 cX12_manyUpTo 6) (r : Rt E z (some .long) post) (hJ5 : ∀ (M : MM) (x1 : Int) (x3 : Int) (x5 : Int), J5 M x1 x3 x5 → Aj E l z 5 [(0, vr 44), (1, vj x1), (3, vj x3), (5, vi x5)] [] M) {M : MM} {x1 : Int} (h : VX12_manyUpTo_0 E l D post J5 M x1) : Aj E l z 0 [(0, vr 44), (1, vj x1)] [] M := by
  unfold VX12_manyUpTo_0 at h
  refine v_lconst (x := 0) C dX12_manyUpTo_0 (by decide) ?_
  refine v_lstore_n (L' := [(3, vj 0), (0, vr 44), (1, vj x1)]) C dX12_manyUpTo_1 rfl (by decide) rfl ?_
  refine v_iconst C dX12_manyUpTo_2 ?_
  refine v_istore (L' := [(5, vi 0), (3, vj 0), (0, vr 44), (1, vj x1)]) C dX12_manyUpTo_3 (by decide) rfl ?_
  exact v_sub [2, 3, 1, 0] rfl (hJ5 _ _ _ _ h)
def VX12_manyUpTo_56 (E : FX) (l : Launch) (D : Nat) (post : Option AV → MM → Prop) (J5 : MM → Int → Int → Int → Prop) (M : MM) (s0 : Int) : Prop :=
  post (some (vj s0)) M
set_option maxRecDepth 20000 in
theorem SX12_manyUpTo_56 {E : FX} {l : Launch} {D : Nat} {post : Option AV → MM → Prop} {z : RT} {J5 : MM → Int → Int → Int → Prop} (C : Cx E z D RX12 cX12_manyUpTo 6) (r : Rt E z (some .long) post) (hJ5 : ∀ (M : MM) (x1 : Int) (x3 : Int) (x5 : Int), J5 M x1 x3 x5 → Aj E l z 5 [(0, vr 44), (1, vj x1), (3, vj x3), (5, vi x5)] [] M) {M : MM} {s0 : Int} (h : VX12_manyUpTo_56 E l D post J5 M s0) : Aj E l z 56 [] [vj s0] M := by
  unfold VX12_manyUpTo_56 at h
  exact v_lret C r dX12_manyUpTo_56 h
def VX12_manyUpTo_5 (E : FX) (l : Launch) (D : Nat) (post : Option AV → MM → Prop) (J5 : MM → Int → Int → Int → Prop) (M : MM) (x1 : Int) (x3 : Int) (x5 : Int) : Prop :=
  R32 x5 ∧ (R32 (M 44 5) ∧ ((M 44 5 ≤ x5 → R32 (M 44 5) ∧ ((¬ M 44 5 = 1 → R64 x1 ∧ (R64 (M 44 6) ∧ (0 < M 44 6 ∧ (VX12_manyUpTo_56 E l D post J5 M (x3 - (2 * (Int.tdiv x1 (M 44 6)))))))) ∧ (M 44 5 = 1 → VX12_manyUpTo_56 E l D post J5 M x3))) ∧ (¬ M 44 5 ≤ x5 → 0 ≤ x5 ∧ (x5 < 3 ∧ (R64 x1 ∧ (R64 (M 47 (x5).toNat) ∧ (0 < M 47 (x5).toNat ∧ (∀ y5 : Int, y5 = x3 + (Int.tdiv x1 (M 47 (x5).toNat)) → (∀ y7 : Int, y7 = x5 + 1 → (J5 M x1 y5 y7))))))))))
set_option maxRecDepth 20000 in
theorem SX12_manyUpTo_5 {E : FX} {l : Launch} {D : Nat} {post : Option AV → MM → Prop} {z : RT} {J5 : MM → Int → Int → Int → Prop} (C : Cx E z D RX12 cX12_manyUpTo 6) (r : Rt E z (some .long) post) (hJ5 : ∀ (M : MM) (x1 : Int) (x3 : Int) (x5 : Int), J5 M x1 x3 x5 → Aj E l z 5 [(0, vr 44), (1, vj x1), (3, vj x3), (5, vi x5)] [] M) {M : MM} {x1 : Int} {x3 : Int} {x5 : Int} (h : VX12_manyUpTo_5 E l D post J5 M x1 x3 x5) : Aj E l z 5 [(0, vr 44), (1, vj x1), (3, vj x3), (5, vi x5)] [] M := by
  unfold VX12_manyUpTo_5 at h
  refine v_iload (i := 3) C dX12_manyUpTo_5 rfl ?_
  refine v_aload_n (i := 0) C dX12_manyUpTo_7 rfl rfl ?_
  refine v_getf (k := 44) C fl_RX12_48 rfl rfl dX12_manyUpTo_8 ?_
  show Aj E l z (8 + 3) [(0, vr 44), (1, vj x1), (3, vj x3), (5, vi x5)] [vi (M 44 5), vi x5] M
  refine v_icmp_ge (tgt := 32) C h.1 h.2.1 dX12_manyUpTo_11 (by decide) (fun c => ?_) (fun c => ?_)
  · have g1 := h.2.2.1 c
    refine v_aload_n (i := 0) C dX12_manyUpTo_32 rfl rfl ?_
    refine v_getf (k := 44) C fl_RX12_48 rfl rfl dX12_manyUpTo_33 ?_
    show Aj E l z (33 + 3) [(0, vr 44), (1, vj x1), (3, vj x3), (5, vi x5)] [vi (M 44 5)] M
    refine v_iconst C dX12_manyUpTo_36 ?_
    refine v_icmp_ne (tgt := 44) C g1.1 (by decide) dX12_manyUpTo_37 (by decide) (fun c => ?_) (fun c => ?_)
    · have g3 := g1.2.1 c
      refine v_lload_n (i := 2) C dX12_manyUpTo_44 rfl rfl ?_
      refine v_ldc2 (x := 2) C cs_RX12_69 (by decide) dX12_manyUpTo_45 ?_
      refine v_lload_n (i := 1) C dX12_manyUpTo_48 rfl rfl ?_
      refine v_aload_n (i := 0) C dX12_manyUpTo_49 rfl rfl ?_
      refine v_getf (k := 44) C fl_RX12_55 rfl rfl dX12_manyUpTo_50 ?_
      show Aj E l z (50 + 3) [(0, vr 44), (1, vj x1), (3, vj x3), (5, vi x5)] [vj (M 44 6), vj x1, vj 2, vj x3] M
      refine v_ldiv C g3.1 g3.2.1 g3.2.2.1 dX12_manyUpTo_53 ?_
      refine v_lmul C dX12_manyUpTo_54 ?_
      refine v_lsub C dX12_manyUpTo_55 ?_
      exact v_sub [] rfl (SX12_manyUpTo_56 C r hJ5 g3.2.2.2)
    · have g4 := g1.2.2 c
      refine v_lload_n (i := 2) C dX12_manyUpTo_40 rfl rfl ?_
      refine v_goto C dX12_manyUpTo_41 (tgt := 56) (by decide) ?_
      exact v_sub [] rfl (SX12_manyUpTo_56 C r hJ5 g4)
  · have g2 := h.2.2.2 c
    refine v_lload_n (i := 2) C dX12_manyUpTo_14 rfl rfl ?_
    refine v_lload_n (i := 1) C dX12_manyUpTo_15 rfl rfl ?_
    refine v_aload_n (i := 0) C dX12_manyUpTo_16 rfl rfl ?_
    refine v_getf (k := 44) C fl_RX12_16 rfl rfl dX12_manyUpTo_17 ?_
    show Aj E l z (17 + 3) [(0, vr 44), (1, vj x1), (3, vj x3), (5, vi x5)] [vr 47, vj x1, vj x3] M
    refine v_iload (i := 3) C dX12_manyUpTo_20 rfl ?_
    refine v_lald (k := 47) C rfl g2.1 g2.2.1 dX12_manyUpTo_22 ?_
    show Aj E l z (22 + 1) [(0, vr 44), (1, vj x1), (3, vj x3), (5, vi x5)] [vj (M 47 (x5).toNat), vj x1, vj x3] M
    refine v_ldiv C g2.2.2.1 g2.2.2.2.1 g2.2.2.2.2.1 dX12_manyUpTo_23 ?_
    refine v_ladd C dX12_manyUpTo_24 ?_
    obtain ⟨y5, hy5⟩ : ∃ y : Int, y = x3 + (Int.tdiv x1 (M 47 (x5).toNat)) := ⟨_, rfl⟩
    have g6 := g2.2.2.2.2.2 y5 hy5
    refine v_eqj hy5 ?_
    refine v_lstore_n (L' := [(3, vj y5), (0, vr 44), (1, vj x1), (5, vi x5)]) C dX12_manyUpTo_25 rfl (by decide) rfl ?_
    obtain ⟨y7, hy7⟩ : ∃ y : Int, y = x5 + 1 := ⟨_, rfl⟩
    have g8 := g6 y7 hy7
    refine v_iinc (i := 3) (L' := [(5, vi y7), (3, vj y5), (0, vr 44), (1, vj x1)]) C dX12_manyUpTo_26 rfl (by decide) hy7 rfl ?_
    refine v_goto C dX12_manyUpTo_29 (tgt := 5) (by decide) ?_
    exact v_sub [2, 3, 1, 0] rfl (hJ5 _ _ _ _ g8)
theorem RX12_manyUpTo {E : FX} {l : Launch} {D : Nat} {post : Option AV → MM → Prop} (I5 : MM → Int → Int → Int → Prop) (m5 : MM → Int → Int → Int → Nat) {M : MM} {x1 : Int} (h0 : VX12_manyUpTo_0 E l D post I5 M x1) (h5I : ∀ (M : MM) (x1 : Int) (x3 : Int) (x5 : Int), I5 M x1 x3 x5 → VX12_manyUpTo_5 E l D post (fun M' x1' x3' x5' => I5 M' x1' x3' x5' ∧ m5 M' x1' x3' x5' < m5 M x1 x3 x5) M x1 x3 x5) : Con E l (D + 1) qX12_manyUpTo [vr 44, vj x1] M post := by
  refine con_of (by decide +kernel) (Nat.le_of_ble_eq_true rfl) (fun z C r => ?_)
  have all : ∀ n : Nat, (∀ (M : MM) (x1 : Int) (x3 : Int) (x5 : Int), I5 M x1 x3 x5 → m5 M x1 x3 x5 < n → Aj E l z 5 [(0, vr 44), (1, vj x1), (3, vj x3), (5, vi x5)] [] M) := by
    intro n
    induction n with
    | zero => exact fun _ _ _ _ _ hm => absurd hm (Nat.not_lt_zero _)
    | succ n ih => exact fun M x1 x3 x5 hi hm => SX12_manyUpTo_5 C r (fun M' x1' x3' x5' hj => ih M' x1' x3' x5' hj.1 (by omega)) (h5I M x1 x3 x5 hi)
  exact v_sub [0, 1] rfl (SX12_manyUpTo_0 C r (fun M' x1' x3' x5' hj => (all _) M' x1' x3' x5' hj (Nat.lt_succ_self _)) h0)
def VX12_measure_24 (E : FX) (l : Launch) (D : Nat) (post : Option AV → MM → Prop) (M : MM) : Prop :=
  post (some (vi (-1))) M
set_option maxRecDepth 20000 in
theorem SX12_measure_24 {E : FX} {l : Launch} {D : Nat} {post : Option AV → MM → Prop} {z : RT} (C : Cx E z D RX12 cX12_measure 4) (r : Rt E z (some .int) post) {M : MM} (h : VX12_measure_24 E l D post M) : Aj E l z 24 [] [] M := by
  unfold VX12_measure_24 at h
  refine v_iconst C dX12_measure_24 ?_
  exact v_iret C r dX12_measure_25 h
def VX12_measure_0 (E : FX) (l : Launch) (D : Nat) (post : Option AV → MM → Prop) (M : MM) (x1 : Int) (x2 : Int) : Prop :=
  R32 x1 ∧ (Con E l D qX12_in [vj x1, vj 0, vj 2] M (fun r M1 => ∃ y2 : Int, r = some (vi y2) ∧ (R32 y2 ∧ ((y2 = 0 → post (some (vi (-1))) M1) ∧ (¬ y2 = 0 → R32 x2 ∧ (Con E l D qX12_in [vj x2, vj 1, vj 999] M1 (fun r M6 => ∃ y7 : Int, r = some (vi y7) ∧ (R32 y7 ∧ ((¬ y7 = 0 → 0 ≤ 0 + x1 ∧ (0 + x1 < 140 ∧ (∀ y11 : Int, y11 = M6 45 (0 + x1).toNat → (0 ≤ 0 + x1 ∧ (0 + x1 < 140 ∧ (∀ M13 : MM, M13 = up M6 45 (0 + x1).toNat x2 → (post (some (vi y11)) M13))))))) ∧ (y7 = 0 → post (some (vi (-1))) M6))))))))))
set_option maxRecDepth 20000 in
theorem SX12_measure_0 {E : FX} {l : Launch} {D : Nat} {post : Option AV → MM → Prop} {z : RT} (C : Cx E z D RX12 cX12_measure 4) (r : Rt E z (some .int) post) {M : MM} {x1 : Int} {x2 : Int} (h : VX12_measure_0 E l D post M x1 x2) : Aj E l z 0 [(0, vr 44), (1, vi x1), (2, vi x2)] [] M := by
  unfold VX12_measure_0 at h
  refine v_iload_n (i := 1) C dX12_measure_0 rfl rfl ?_
  refine v_i2l C h.1 dX12_measure_1 ?_
  refine v_lconst (x := 0) C dX12_measure_2 (by decide) ?_
  refine v_ldc2 (x := 2) C cs_RX12_69 (by decide) dX12_measure_3 ?_
  refine v_callS (q := qX12_in) (As := [vj x1, vj 0, vj 2]) (S := []) C co_yX12_in ml_RX12_71 st_yX12_in ini_RX12 hq_X12_in (by decide) (Nat.le_of_ble_eq_true rfl) rfl dX12_measure_6 (Con.mono h.2 (fun rr M1 hr => ?_) (Nat.le_refl _))
  obtain ⟨y2, rfl, g3⟩ := hr
  show Aj E l z (6 + 3) [(0, vr 44), (1, vi x1), (2, vi x2)] [vi y2] M1
  refine v_if_eq (tgt := 24) C g3.1 dX12_measure_9 (by decide) (fun c => ?_) (fun c => ?_)
  · have g4 := g3.2.1 c
    refine v_iconst C dX12_measure_24 ?_
    exact v_iret C r dX12_measure_25 g4
  · have g5 := g3.2.2 c
    refine v_iload_n (i := 2) C dX12_measure_12 rfl rfl ?_
    refine v_i2l C g5.1 dX12_measure_13 ?_
    refine v_lconst (x := 1) C dX12_measure_14 (by decide) ?_
    refine v_ldc2 (x := 999) C cs_RX12_75 (by decide) dX12_measure_15 ?_
    refine v_callS (q := qX12_in) (As := [vj x2, vj 1, vj 999]) (S := []) C co_yX12_in ml_RX12_71 st_yX12_in ini_RX12 hq_X12_in (by decide) (Nat.le_of_ble_eq_true rfl) rfl dX12_measure_18 (Con.mono g5.2 (fun rr M6 hr => ?_) (Nat.le_refl _))
    obtain ⟨y7, rfl, g8⟩ := hr
    show Aj E l z (18 + 3) [(0, vr 44), (1, vi x1), (2, vi x2)] [vi y7] M6
    refine v_if_ne (tgt := 26) C g8.1 dX12_measure_21 (by decide) (fun c => ?_) (fun c => ?_)
    · have g9 := g8.2.1 c
      refine v_aload_n (i := 0) C dX12_measure_26 rfl rfl ?_
      refine v_getf (k := 44) C fl_RX12_7 rfl rfl dX12_measure_27 ?_
      show Aj E l z (27 + 3) [(0, vr 44), (1, vi x1), (2, vi x2)] [vr 45] M6
      refine v_iconst C dX12_measure_30 ?_
      refine v_iload_n (i := 1) C dX12_measure_31 rfl rfl ?_
      refine v_iadd C dX12_measure_32 ?_
      refine v_iald (k := 45) C rfl g9.1 g9.2.1 dX12_measure_33 ?_
      show Aj E l z (33 + 1) [(0, vr 44), (1, vi x1), (2, vi x2)] [vi (M6 45 (0 + x1).toNat)] M6
      obtain ⟨y11, hy11⟩ : ∃ y : Int, y = M6 45 (0 + x1).toNat := ⟨_, rfl⟩
      have g12 := g9.2.2 y11 hy11
      refine v_eqi hy11 ?_
      refine v_istore_n (L' := [(3, vi y11), (0, vr 44), (1, vi x1), (2, vi x2)]) C dX12_measure_34 rfl (by decide) rfl ?_
      refine v_aload_n (i := 1) C dX12_measure_35 rfl rfl ?_
      refine v_getf (k := 44) C fl_RX12_7 rfl rfl dX12_measure_36 ?_
      show Aj E l z (36 + 3) [(3, vi y11), (0, vr 44), (1, vi x1), (2, vi x2)] [vr 45] M6
      refine v_iconst C dX12_measure_39 ?_
      refine v_iload_n (i := 2) C dX12_measure_40 rfl rfl ?_
      refine v_iadd C dX12_measure_41 ?_
      refine v_iload_n (i := 3) C dX12_measure_42 rfl rfl ?_
      refine v_iast (k := 45) C rfl g12.1 g12.2.1 dX12_measure_43 ?_
      obtain ⟨M13, hM13⟩ : ∃ X : MM, X = up M6 45 (0 + x1).toNat x2 := ⟨_, rfl⟩
      refine v_eqM hM13 ?_
      have g14 := g12.2.2 M13 hM13
      refine v_iload_n (i := 0) C dX12_measure_44 rfl rfl ?_
      exact v_iret C r dX12_measure_45 g14
    · have g10 := g8.2.2 c
      refine v_iconst C dX12_measure_24 ?_
      exact v_iret C r dX12_measure_25 g10
theorem RX12_measure {E : FX} {l : Launch} {D : Nat} {post : Option AV → MM → Prop} {M : MM} {x1 : Int} {x2 : Int} (h0 : VX12_measure_0 E l D post M x1 x2) : Con E l (D + 1) qX12_measure [vr 44, vi x1, vi x2] M post := by
  refine con_of (by decide +kernel) (Nat.le_of_ble_eq_true rfl) (fun z C r => ?_)
  exact v_sub [0, 1, 2] rfl (SX12_measure_0 C r h0)
def VX12_rule_29 (E : FX) (l : Launch) (D : Nat) (post : Option AV → MM → Prop) (M : MM) : Prop :=
  post (some (vi (-1))) M
set_option maxRecDepth 20000 in
theorem SX12_rule_29 {E : FX} {l : Launch} {D : Nat} {post : Option AV → MM → Prop} {z : RT} (C : Cx E z D RX12 cX12_rule 4) (r : Rt E z (some .int) post) {M : MM} (h : VX12_rule_29 E l D post M) : Aj E l z 29 [] [] M := by
  unfold VX12_rule_29 at h
  refine v_iconst C dX12_rule_29 ?_
  exact v_iret C r dX12_rule_30 h
def VX12_rule_19 (E : FX) (l : Launch) (D : Nat) (post : Option AV → MM → Prop) (M : MM) (x1 : Int) (x2 : Int) : Prop :=
  R32 x2 ∧ (Con E l D qX12_in [vj x2, vj 0, vj 1] M (fun r M1 => ∃ y2 : Int, r = some (vi y2) ∧ (R32 y2 ∧ ((¬ y2 = 0 → ∀ y6 : Int, y6 = (10 * (M1 45 3)) + (M1 45 4) → (∀ M8 : MM, M8 = up M1 45 3 x1 → (∀ M10 : MM, M10 = up M8 45 4 x2 → (post (some (vi y6)) M10)))) ∧ (y2 = 0 → post (some (vi (-1))) M1)))))
set_option maxRecDepth 20000 in
theorem SX12_rule_19 {E : FX} {l : Launch} {D : Nat} {post : Option AV → MM → Prop} {z : RT} (C : Cx E z D RX12 cX12_rule 4) (r : Rt E z (some .int) post) {M : MM} {x1 : Int} {x2 : Int} (h : VX12_rule_19 E l D post M x1 x2) : Aj E l z 19 [(0, vr 44), (1, vi x1), (2, vi x2)] [] M := by
  unfold VX12_rule_19 at h
  refine v_iload_n (i := 2) C dX12_rule_19 rfl rfl ?_
  refine v_i2l C h.1 dX12_rule_20 ?_
  refine v_lconst (x := 0) C dX12_rule_21 (by decide) ?_
  refine v_lconst (x := 1) C dX12_rule_22 (by decide) ?_
  refine v_callS (q := qX12_in) (As := [vj x2, vj 0, vj 1]) (S := []) C co_yX12_in ml_RX12_71 st_yX12_in ini_RX12 hq_X12_in (by decide) (Nat.le_of_ble_eq_true rfl) rfl dX12_rule_23 (Con.mono h.2 (fun rr M1 hr => ?_) (Nat.le_refl _))
  obtain ⟨y2, rfl, g3⟩ := hr
  show Aj E l z (23 + 3) [(0, vr 44), (1, vi x1), (2, vi x2)] [vi y2] M1
  refine v_if_ne (tgt := 31) C g3.1 dX12_rule_26 (by decide) (fun c => ?_) (fun c => ?_)
  · have g4 := g3.2.1 c
    refine v_bipush C dX12_rule_31 (by decide) ?_
    refine v_aload_n (i := 0) C dX12_rule_33 rfl rfl ?_
    refine v_getf (k := 44) C fl_RX12_7 rfl rfl dX12_rule_34 ?_
    show Aj E l z (34 + 3) [(0, vr 44), (1, vi x1), (2, vi x2)] [vr 45, vi 10] M1
    refine v_iconst C dX12_rule_37 ?_
    refine v_iald (k := 45) C rfl (by decide) (by decide) dX12_rule_38 ?_
    show Aj E l z (38 + 1) [(0, vr 44), (1, vi x1), (2, vi x2)] [vi (M1 45 3), vi 10] M1
    refine v_imul C dX12_rule_39 ?_
    refine v_aload_n (i := 0) C dX12_rule_40 rfl rfl ?_
    refine v_getf (k := 44) C fl_RX12_7 rfl rfl dX12_rule_41 ?_
    show Aj E l z (41 + 3) [(0, vr 44), (1, vi x1), (2, vi x2)] [vr 45, vi (10 * (M1 45 3))] M1
    refine v_iconst C dX12_rule_44 ?_
    refine v_iald (k := 45) C rfl (by decide) (by decide) dX12_rule_45 ?_
    show Aj E l z (45 + 1) [(0, vr 44), (1, vi x1), (2, vi x2)] [vi (M1 45 4), vi (10 * (M1 45 3))] M1
    refine v_iadd C dX12_rule_46 ?_
    obtain ⟨y6, hy6⟩ : ∃ y : Int, y = (10 * (M1 45 3)) + (M1 45 4) := ⟨_, rfl⟩
    have g7 := g4 y6 hy6
    refine v_eqi hy6 ?_
    refine v_istore_n (L' := [(3, vi y6), (0, vr 44), (1, vi x1), (2, vi x2)]) C dX12_rule_47 rfl (by decide) rfl ?_
    refine v_aload_n (i := 1) C dX12_rule_48 rfl rfl ?_
    refine v_getf (k := 44) C fl_RX12_7 rfl rfl dX12_rule_49 ?_
    show Aj E l z (49 + 3) [(3, vi y6), (0, vr 44), (1, vi x1), (2, vi x2)] [vr 45] M1
    refine v_iconst C dX12_rule_52 ?_
    refine v_iload_n (i := 2) C dX12_rule_53 rfl rfl ?_
    refine v_iast (k := 45) C rfl (by decide) (by decide) dX12_rule_54 ?_
    show Aj E l z (54 + 1) [(3, vi y6), (0, vr 44), (1, vi x1), (2, vi x2)] [] (up M1 45 3 x1)
    obtain ⟨M8, hM8⟩ : ∃ X : MM, X = up M1 45 3 x1 := ⟨_, rfl⟩
    refine v_eqM hM8 ?_
    have g9 := g7 M8 hM8
    refine v_aload_n (i := 1) C dX12_rule_55 rfl rfl ?_
    refine v_getf (k := 44) C fl_RX12_7 rfl rfl dX12_rule_56 ?_
    show Aj E l z (56 + 3) [(3, vi y6), (0, vr 44), (1, vi x1), (2, vi x2)] [vr 45] M8
    refine v_iconst C dX12_rule_59 ?_
    refine v_iload_n (i := 3) C dX12_rule_60 rfl rfl ?_
    refine v_iast (k := 45) C rfl (by decide) (by decide) dX12_rule_61 ?_
    show Aj E l z (61 + 1) [(3, vi y6), (0, vr 44), (1, vi x1), (2, vi x2)] [] (up M8 45 4 x2)
    obtain ⟨M10, hM10⟩ : ∃ X : MM, X = up M8 45 4 x2 := ⟨_, rfl⟩
    refine v_eqM hM10 ?_
    have g11 := g9 M10 hM10
    refine v_iload_n (i := 0) C dX12_rule_62 rfl rfl ?_
    exact v_iret C r dX12_rule_63 g11
  · have g5 := g3.2.2 c
    refine v_iconst C dX12_rule_29 ?_
    exact v_iret C r dX12_rule_30 g5
def VX12_rule_0 (E : FX) (l : Launch) (D : Nat) (post : Option AV → MM → Prop) (M : MM) (x1 : Int) (x2 : Int) : Prop :=
  R32 x1 ∧ ((x1 = 3 → R32 x2 ∧ (Con E l D qX12_in [vj x2, vj 0, vj 1] M (fun r M14 => ∃ y15 : Int, r = some (vi y15) ∧ (R32 y15 ∧ ((¬ y15 = 0 → ∀ y19 : Int, y19 = (10 * (M14 45 3)) + (M14 45 4) → (∀ M21 : MM, M21 = up M14 45 3 x1 → (∀ M23 : MM, M23 = up M21 45 4 x2 → (post (some (vi y19)) M23)))) ∧ (y15 = 0 → post (some (vi (-1))) M14)))))) ∧ (¬ x1 = 3 → R32 x1 ∧ (Con E l D qX12_in [vj x1, vj 5, vj 7] M (fun r M25 => ∃ y26 : Int, r = some (vi y26) ∧ (R32 y26 ∧ ((y26 = 0 → post (some (vi (-1))) M25) ∧ (¬ y26 = 0 → R32 x2 ∧ (Con E l D qX12_in [vj x2, vj 0, vj 1] M25 (fun r M30 => ∃ y31 : Int, r = some (vi y31) ∧ (R32 y31 ∧ ((¬ y31 = 0 → ∀ y35 : Int, y35 = (10 * (M30 45 3)) + (M30 45 4) → (∀ M37 : MM, M37 = up M30 45 3 x1 → (∀ M39 : MM, M39 = up M37 45 4 x2 → (post (some (vi y35)) M39)))) ∧ (y31 = 0 → post (some (vi (-1))) M30))))))))))))
set_option maxRecDepth 20000 in
theorem SX12_rule_0 {E : FX} {l : Launch} {D : Nat} {post : Option AV → MM → Prop} {z : RT} (C : Cx E z D RX12 cX12_rule 4) (r : Rt E z (some .int) post) {M : MM} {x1 : Int} {x2 : Int} (h : VX12_rule_0 E l D post M x1 x2) : Aj E l z 0 [(0, vr 44), (1, vi x1), (2, vi x2)] [] M := by
  unfold VX12_rule_0 at h
  refine v_iload_n (i := 1) C dX12_rule_0 rfl rfl ?_
  refine v_iconst C dX12_rule_1 ?_
  refine v_icmp_eq (tgt := 19) C h.1 (by decide) dX12_rule_2 (by decide) (fun c => ?_) (fun c => ?_)
  · have g12 := h.2.1 c
    refine v_iload_n (i := 2) C dX12_rule_19 rfl rfl ?_
    refine v_i2l C g12.1 dX12_rule_20 ?_
    refine v_lconst (x := 0) C dX12_rule_21 (by decide) ?_
    refine v_lconst (x := 1) C dX12_rule_22 (by decide) ?_
    refine v_callS (q := qX12_in) (As := [vj x2, vj 0, vj 1]) (S := []) C co_yX12_in ml_RX12_71 st_yX12_in ini_RX12 hq_X12_in (by decide) (Nat.le_of_ble_eq_true rfl) rfl dX12_rule_23 (Con.mono g12.2 (fun rr M14 hr => ?_) (Nat.le_refl _))
    obtain ⟨y15, rfl, g16⟩ := hr
    show Aj E l z (23 + 3) [(0, vr 44), (1, vi x1), (2, vi x2)] [vi y15] M14
    refine v_if_ne (tgt := 31) C g16.1 dX12_rule_26 (by decide) (fun c => ?_) (fun c => ?_)
    · have g17 := g16.2.1 c
      refine v_bipush C dX12_rule_31 (by decide) ?_
      refine v_aload_n (i := 0) C dX12_rule_33 rfl rfl ?_
      refine v_getf (k := 44) C fl_RX12_7 rfl rfl dX12_rule_34 ?_
      show Aj E l z (34 + 3) [(0, vr 44), (1, vi x1), (2, vi x2)] [vr 45, vi 10] M14
      refine v_iconst C dX12_rule_37 ?_
      refine v_iald (k := 45) C rfl (by decide) (by decide) dX12_rule_38 ?_
      show Aj E l z (38 + 1) [(0, vr 44), (1, vi x1), (2, vi x2)] [vi (M14 45 3), vi 10] M14
      refine v_imul C dX12_rule_39 ?_
      refine v_aload_n (i := 0) C dX12_rule_40 rfl rfl ?_
      refine v_getf (k := 44) C fl_RX12_7 rfl rfl dX12_rule_41 ?_
      show Aj E l z (41 + 3) [(0, vr 44), (1, vi x1), (2, vi x2)] [vr 45, vi (10 * (M14 45 3))] M14
      refine v_iconst C dX12_rule_44 ?_
      refine v_iald (k := 45) C rfl (by decide) (by decide) dX12_rule_45 ?_
      show Aj E l z (45 + 1) [(0, vr 44), (1, vi x1), (2, vi x2)] [vi (M14 45 4), vi (10 * (M14 45 3))] M14
      refine v_iadd C dX12_rule_46 ?_
      obtain ⟨y19, hy19⟩ : ∃ y : Int, y = (10 * (M14 45 3)) + (M14 45 4) := ⟨_, rfl⟩
      have g20 := g17 y19 hy19
      refine v_eqi hy19 ?_
      refine v_istore_n (L' := [(3, vi y19), (0, vr 44), (1, vi x1), (2, vi x2)]) C dX12_rule_47 rfl (by decide) rfl ?_
      refine v_aload_n (i := 1) C dX12_rule_48 rfl rfl ?_
      refine v_getf (k := 44) C fl_RX12_7 rfl rfl dX12_rule_49 ?_
      show Aj E l z (49 + 3) [(3, vi y19), (0, vr 44), (1, vi x1), (2, vi x2)] [vr 45] M14
      refine v_iconst C dX12_rule_52 ?_
      refine v_iload_n (i := 2) C dX12_rule_53 rfl rfl ?_
      refine v_iast (k := 45) C rfl (by decide) (by decide) dX12_rule_54 ?_
      show Aj E l z (54 + 1) [(3, vi y19), (0, vr 44), (1, vi x1), (2, vi x2)] [] (up M14 45 3 x1)
      obtain ⟨M21, hM21⟩ : ∃ X : MM, X = up M14 45 3 x1 := ⟨_, rfl⟩
      refine v_eqM hM21 ?_
      have g22 := g20 M21 hM21
      refine v_aload_n (i := 1) C dX12_rule_55 rfl rfl ?_
      refine v_getf (k := 44) C fl_RX12_7 rfl rfl dX12_rule_56 ?_
      show Aj E l z (56 + 3) [(3, vi y19), (0, vr 44), (1, vi x1), (2, vi x2)] [vr 45] M21
      refine v_iconst C dX12_rule_59 ?_
      refine v_iload_n (i := 3) C dX12_rule_60 rfl rfl ?_
      refine v_iast (k := 45) C rfl (by decide) (by decide) dX12_rule_61 ?_
      show Aj E l z (61 + 1) [(3, vi y19), (0, vr 44), (1, vi x1), (2, vi x2)] [] (up M21 45 4 x2)
      obtain ⟨M23, hM23⟩ : ∃ X : MM, X = up M21 45 4 x2 := ⟨_, rfl⟩
      refine v_eqM hM23 ?_
      have g24 := g22 M23 hM23
      refine v_iload_n (i := 0) C dX12_rule_62 rfl rfl ?_
      exact v_iret C r dX12_rule_63 g24
    · have g18 := g16.2.2 c
      refine v_iconst C dX12_rule_29 ?_
      exact v_iret C r dX12_rule_30 g18
  · have g13 := h.2.2 c
    refine v_iload_n (i := 1) C dX12_rule_5 rfl rfl ?_
    refine v_i2l C g13.1 dX12_rule_6 ?_
    refine v_ldc2 (x := 5) C cs_RX12_77 (by decide) dX12_rule_7 ?_
    refine v_ldc2 (x := 7) C cs_RX12_79 (by decide) dX12_rule_10 ?_
    refine v_callS (q := qX12_in) (As := [vj x1, vj 5, vj 7]) (S := []) C co_yX12_in ml_RX12_71 st_yX12_in ini_RX12 hq_X12_in (by decide) (Nat.le_of_ble_eq_true rfl) rfl dX12_rule_13 (Con.mono g13.2 (fun rr M25 hr => ?_) (Nat.le_refl _))
    obtain ⟨y26, rfl, g27⟩ := hr
    show Aj E l z (13 + 3) [(0, vr 44), (1, vi x1), (2, vi x2)] [vi y26] M25
    refine v_if_eq (tgt := 29) C g27.1 dX12_rule_16 (by decide) (fun c => ?_) (fun c => ?_)
    · have g28 := g27.2.1 c
      refine v_iconst C dX12_rule_29 ?_
      exact v_iret C r dX12_rule_30 g28
    · have g29 := g27.2.2 c
      refine v_iload_n (i := 2) C dX12_rule_19 rfl rfl ?_
      refine v_i2l C g29.1 dX12_rule_20 ?_
      refine v_lconst (x := 0) C dX12_rule_21 (by decide) ?_
      refine v_lconst (x := 1) C dX12_rule_22 (by decide) ?_
      refine v_callS (q := qX12_in) (As := [vj x2, vj 0, vj 1]) (S := []) C co_yX12_in ml_RX12_71 st_yX12_in ini_RX12 hq_X12_in (by decide) (Nat.le_of_ble_eq_true rfl) rfl dX12_rule_23 (Con.mono g29.2 (fun rr M30 hr => ?_) (Nat.le_refl _))
      obtain ⟨y31, rfl, g32⟩ := hr
      show Aj E l z (23 + 3) [(0, vr 44), (1, vi x1), (2, vi x2)] [vi y31] M30
      refine v_if_ne (tgt := 31) C g32.1 dX12_rule_26 (by decide) (fun c => ?_) (fun c => ?_)
      · have g33 := g32.2.1 c
        refine v_bipush C dX12_rule_31 (by decide) ?_
        refine v_aload_n (i := 0) C dX12_rule_33 rfl rfl ?_
        refine v_getf (k := 44) C fl_RX12_7 rfl rfl dX12_rule_34 ?_
        show Aj E l z (34 + 3) [(0, vr 44), (1, vi x1), (2, vi x2)] [vr 45, vi 10] M30
        refine v_iconst C dX12_rule_37 ?_
        refine v_iald (k := 45) C rfl (by decide) (by decide) dX12_rule_38 ?_
        show Aj E l z (38 + 1) [(0, vr 44), (1, vi x1), (2, vi x2)] [vi (M30 45 3), vi 10] M30
        refine v_imul C dX12_rule_39 ?_
        refine v_aload_n (i := 0) C dX12_rule_40 rfl rfl ?_
        refine v_getf (k := 44) C fl_RX12_7 rfl rfl dX12_rule_41 ?_
        show Aj E l z (41 + 3) [(0, vr 44), (1, vi x1), (2, vi x2)] [vr 45, vi (10 * (M30 45 3))] M30
        refine v_iconst C dX12_rule_44 ?_
        refine v_iald (k := 45) C rfl (by decide) (by decide) dX12_rule_45 ?_
        show Aj E l z (45 + 1) [(0, vr 44), (1, vi x1), (2, vi x2)] [vi (M30 45 4), vi (10 * (M30 45 3))] M30
        refine v_iadd C dX12_rule_46 ?_
        obtain ⟨y35, hy35⟩ : ∃ y : Int, y = (10 * (M30 45 3)) + (M30 45 4) := ⟨_, rfl⟩
        have g36 := g33 y35 hy35
        refine v_eqi hy35 ?_
        refine v_istore_n (L' := [(3, vi y35), (0, vr 44), (1, vi x1), (2, vi x2)]) C dX12_rule_47 rfl (by decide) rfl ?_
        refine v_aload_n (i := 1) C dX12_rule_48 rfl rfl ?_
        refine v_getf (k := 44) C fl_RX12_7 rfl rfl dX12_rule_49 ?_
        show Aj E l z (49 + 3) [(3, vi y35), (0, vr 44), (1, vi x1), (2, vi x2)] [vr 45] M30
        refine v_iconst C dX12_rule_52 ?_
        refine v_iload_n (i := 2) C dX12_rule_53 rfl rfl ?_
        refine v_iast (k := 45) C rfl (by decide) (by decide) dX12_rule_54 ?_
        show Aj E l z (54 + 1) [(3, vi y35), (0, vr 44), (1, vi x1), (2, vi x2)] [] (up M30 45 3 x1)
        obtain ⟨M37, hM37⟩ : ∃ X : MM, X = up M30 45 3 x1 := ⟨_, rfl⟩
        refine v_eqM hM37 ?_
        have g38 := g36 M37 hM37
        refine v_aload_n (i := 1) C dX12_rule_55 rfl rfl ?_
        refine v_getf (k := 44) C fl_RX12_7 rfl rfl dX12_rule_56 ?_
        show Aj E l z (56 + 3) [(3, vi y35), (0, vr 44), (1, vi x1), (2, vi x2)] [vr 45] M37
        refine v_iconst C dX12_rule_59 ?_
        refine v_iload_n (i := 3) C dX12_rule_60 rfl rfl ?_
        refine v_iast (k := 45) C rfl (by decide) (by decide) dX12_rule_61 ?_
        show Aj E l z (61 + 1) [(3, vi y35), (0, vr 44), (1, vi x1), (2, vi x2)] [] (up M37 45 4 x2)
        obtain ⟨M39, hM39⟩ : ∃ X : MM, X = up M37 45 4 x2 := ⟨_, rfl⟩
        refine v_eqM hM39 ?_
        have g40 := g38 M39 hM39
        refine v_iload_n (i := 0) C dX12_rule_62 rfl rfl ?_
        exact v_iret C r dX12_rule_63 g40
      · have g34 := g32.2.2 c
        refine v_iconst C dX12_rule_29 ?_
        exact v_iret C r dX12_rule_30 g34
theorem RX12_rule {E : FX} {l : Launch} {D : Nat} {post : Option AV → MM → Prop} {M : MM} {x1 : Int} {x2 : Int} (h0 : VX12_rule_0 E l D post M x1 x2) : Con E l (D + 1) qX12_rule [vr 44, vi x1, vi x2] M post := by
  refine con_of (by decide +kernel) (Nat.le_of_ble_eq_true rfl) (fun z C r => ?_)
  exact v_sub [0, 1, 2] rfl (SX12_rule_0 C r h0)
def VX12_seam_0 (E : FX) (l : Launch) (D : Nat) (post : Option AV → MM → Prop) (M : MM) (x1 : Int) : Prop :=
  R32 x1 ∧ (Con E l D qX12_in [vj x1, vj 0, vj 99] M (fun r M1 => ∃ y2 : Int, r = some (vi y2) ∧ (R32 y2 ∧ ((¬ y2 = 0 → ∀ y6 : Int, y6 = M1 45 5 → (∀ M8 : MM, M8 = up M1 45 5 x1 → (post (some (vi y6)) M8))) ∧ (y2 = 0 → post (some (vi (-1))) M1)))))
set_option maxRecDepth 20000 in
theorem SX12_seam_0 {E : FX} {l : Launch} {D : Nat} {post : Option AV → MM → Prop} {z : RT} (C : Cx E z D RX12 cX12_seam 3) (r : Rt E z (some .int) post) {M : MM} {x1 : Int} (h : VX12_seam_0 E l D post M x1) : Aj E l z 0 [(0, vr 44), (1, vi x1)] [] M := by
  unfold VX12_seam_0 at h
  refine v_iload_n (i := 1) C dX12_seam_0 rfl rfl ?_
  refine v_i2l C h.1 dX12_seam_1 ?_
  refine v_lconst (x := 0) C dX12_seam_2 (by decide) ?_
  refine v_ldc2 (x := 99) C cs_RX12_81 (by decide) dX12_seam_3 ?_
  refine v_callS (q := qX12_in) (As := [vj x1, vj 0, vj 99]) (S := []) C co_yX12_in ml_RX12_71 st_yX12_in ini_RX12 hq_X12_in (by decide) (Nat.le_of_ble_eq_true rfl) rfl dX12_seam_6 (Con.mono h.2 (fun rr M1 hr => ?_) (Nat.le_refl _))
  obtain ⟨y2, rfl, g3⟩ := hr
  show Aj E l z (6 + 3) [(0, vr 44), (1, vi x1)] [vi y2] M1
  refine v_if_ne (tgt := 14) C g3.1 dX12_seam_9 (by decide) (fun c => ?_) (fun c => ?_)
  · have g4 := g3.2.1 c
    refine v_aload_n (i := 0) C dX12_seam_14 rfl rfl ?_
    refine v_getf (k := 44) C fl_RX12_7 rfl rfl dX12_seam_15 ?_
    show Aj E l z (15 + 3) [(0, vr 44), (1, vi x1)] [vr 45] M1
    refine v_iconst C dX12_seam_18 ?_
    refine v_iald (k := 45) C rfl (by decide) (by decide) dX12_seam_19 ?_
    show Aj E l z (19 + 1) [(0, vr 44), (1, vi x1)] [vi (M1 45 5)] M1
    obtain ⟨y6, hy6⟩ : ∃ y : Int, y = M1 45 5 := ⟨_, rfl⟩
    have g7 := g4 y6 hy6
    refine v_eqi hy6 ?_
    refine v_istore_n (L' := [(2, vi y6), (0, vr 44), (1, vi x1)]) C dX12_seam_20 rfl (by decide) rfl ?_
    refine v_aload_n (i := 1) C dX12_seam_21 rfl rfl ?_
    refine v_getf (k := 44) C fl_RX12_7 rfl rfl dX12_seam_22 ?_
    show Aj E l z (22 + 3) [(2, vi y6), (0, vr 44), (1, vi x1)] [vr 45] M1
    refine v_iconst C dX12_seam_25 ?_
    refine v_iload_n (i := 2) C dX12_seam_26 rfl rfl ?_
    refine v_iast (k := 45) C rfl (by decide) (by decide) dX12_seam_27 ?_
    show Aj E l z (27 + 1) [(2, vi y6), (0, vr 44), (1, vi x1)] [] (up M1 45 5 x1)
    obtain ⟨M8, hM8⟩ : ∃ X : MM, X = up M1 45 5 x1 := ⟨_, rfl⟩
    refine v_eqM hM8 ?_
    have g9 := g7 M8 hM8
    refine v_iload_n (i := 0) C dX12_seam_28 rfl rfl ?_
    exact v_iret C r dX12_seam_29 g9
  · have g5 := g3.2.2 c
    refine v_iconst C dX12_seam_12 ?_
    exact v_iret C r dX12_seam_13 g5
theorem RX12_seam {E : FX} {l : Launch} {D : Nat} {post : Option AV → MM → Prop} {M : MM} {x1 : Int} (h0 : VX12_seam_0 E l D post M x1) : Con E l (D + 1) qX12_seam [vr 44, vi x1] M post := by
  refine con_of (by decide +kernel) (Nat.le_of_ble_eq_true rfl) (fun z C r => ?_)
  exact v_sub [0, 1] rfl (SX12_seam_0 C r h0)
def VX12_place_0 (E : FX) (l : Launch) (D : Nat) (post : Option AV → MM → Prop) (J33 : MM → Int → Int → Int → Prop) (M : MM) (x1 : Int) : Prop :=
  R32 x1 ∧ (Con E l D qX12_in [vj x1, vj 1, vj 999999] M (fun r M1 => ∃ y2 : Int, r = some (vi y2) ∧ (R32 y2 ∧ ((¬ y2 = 0 → Con E l D qX12_layNow [vr 44] M1 (fun r M6 => r = none ∧ (R32 x1 ∧ (∀ y8 : Int, y8 = x1 * (M6 47 0) → (J33 M6 x1 0 y8))))) ∧ (y2 = 0 → post (some (vj (-1))) M1)))))
set_option maxRecDepth 20000 in
theorem SX12_place_0 {E : FX} {l : Launch} {D : Nat} {post : Option AV → MM → Prop} {z : RT} {J33 : MM → Int → Int → Int → Prop} (C : Cx E z D RX12 cX12_place 8) (r : Rt E z (some .long) post) (hJ33 : ∀ (M : MM) (x1 : Int) (x2 : Int) (x4 : Int), J33 M x1 x2 x4 → Aj E l z 33 [(0, vr 44), (1, vi x1), (2, vj x2), (4, vj x4)] [] M) {M : MM} {x1 : Int} (h : VX12_place_0 E l D post J33 M x1) : Aj E l z 0 [(0, vr 44), (1, vi x1)] [] M := by
  unfold VX12_place_0 at h
  refine v_iload_n (i := 1) C dX12_place_0 rfl rfl ?_
  refine v_i2l C h.1 dX12_place_1 ?_
  refine v_lconst (x := 1) C dX12_place_2 (by decide) ?_
  refine v_ldc2 (x := 999999) C cs_RX12_83 (by decide) dX12_place_3 ?_
  refine v_callS (q := qX12_in) (As := [vj x1, vj 1, vj 999999]) (S := []) C co_yX12_in ml_RX12_71 st_yX12_in ini_RX12 hq_X12_in (by decide) (Nat.le_of_ble_eq_true rfl) rfl dX12_place_6 (Con.mono h.2 (fun rr M1 hr => ?_) (Nat.le_refl _))
  obtain ⟨y2, rfl, g3⟩ := hr
  show Aj E l z (6 + 3) [(0, vr 44), (1, vi x1)] [vi y2] M1
  refine v_if_ne (tgt := 16) C g3.1 dX12_place_9 (by decide) (fun c => ?_) (fun c => ?_)
  · have g4 := g3.2.1 c
    refine v_aload_n (i := 0) C dX12_place_16 rfl rfl ?_
    refine v_callV (q := qX12_layNow) (k := 44) (As := []) (S := []) C co_yX12_layNow ml_RX12_87 im_yX12_layNow se_yX12_layNow ini_RX12 rfl rfl hq_X12_layNow (by decide) (Nat.le_of_ble_eq_true rfl) rfl dX12_place_17 (Con.mono g4 (fun rr M6 hr => ?_) (Nat.le_refl _))
    obtain ⟨rfl, g7⟩ := hr
    show Aj E l z (17 + 3) [(0, vr 44), (1, vi x1)] [] M6
    refine v_lconst (x := 0) C dX12_place_20 (by decide) ?_
    refine v_lstore_n (L' := [(2, vj 0), (0, vr 44), (1, vi x1)]) C dX12_place_21 rfl (by decide) rfl ?_
    refine v_iload_n (i := 2) C dX12_place_22 rfl rfl ?_
    refine v_i2l C g7.1 dX12_place_23 ?_
    refine v_aload_n (i := 1) C dX12_place_24 rfl rfl ?_
    refine v_getf (k := 44) C fl_RX12_16 rfl rfl dX12_place_25 ?_
    show Aj E l z (25 + 3) [(2, vj 0), (0, vr 44), (1, vi x1)] [vr 47, vj x1] M6
    refine v_iconst C dX12_place_28 ?_
    refine v_lald (k := 47) C rfl (by decide) (by decide) dX12_place_29 ?_
    show Aj E l z (29 + 1) [(2, vj 0), (0, vr 44), (1, vi x1)] [vj (M6 47 0), vj x1] M6
    refine v_lmul C dX12_place_30 ?_
    obtain ⟨y8, hy8⟩ : ∃ y : Int, y = x1 * (M6 47 0) := ⟨_, rfl⟩
    have g9 := g7.2 y8 hy8
    refine v_eqj hy8 ?_
    refine v_lstore (L' := [(4, vj y8), (2, vj 0), (0, vr 44), (1, vi x1)]) C dX12_place_31 (by decide) rfl ?_
    exact v_sub [2, 3, 1, 0] rfl (hJ33 _ _ _ _ g9)
  · have g5 := g3.2.2 c
    refine v_ldc2 (x := -1) C cs_RX12_85 (by decide) dX12_place_12 ?_
    exact v_lret C r dX12_place_15 g5
def VX12_place_74 (E : FX) (l : Launch) (D : Nat) (post : Option AV → MM → Prop) (J33 : MM → Int → Int → Int → Prop) (M : MM) (x1 : Int) (x2 : Int) (x4 : Int) : Prop :=
  J33 M x1 x2 x4
set_option maxRecDepth 20000 in
theorem SX12_place_74 {E : FX} {l : Launch} {D : Nat} {post : Option AV → MM → Prop} {z : RT} {J33 : MM → Int → Int → Int → Prop} (C : Cx E z D RX12 cX12_place 8) (r : Rt E z (some .long) post) (hJ33 : ∀ (M : MM) (x1 : Int) (x2 : Int) (x4 : Int), J33 M x1 x2 x4 → Aj E l z 33 [(0, vr 44), (1, vi x1), (2, vj x2), (4, vj x4)] [] M) {M : MM} {x1 : Int} {x2 : Int} {x4 : Int} (h : VX12_place_74 E l D post J33 M x1 x2 x4) : Aj E l z 74 [(0, vr 44), (1, vi x1), (2, vj x2), (4, vj x4)] [] M := by
  unfold VX12_place_74 at h
  refine v_goto C dX12_place_74 (tgt := 33) (by decide) ?_
  exact v_sub [0, 1, 2, 3] rfl (hJ33 _ _ _ _ h)
def VX12_place_33 (E : FX) (l : Launch) (D : Nat) (post : Option AV → MM → Prop) (J33 : MM → Int → Int → Int → Prop) (M : MM) (x1 : Int) (x2 : Int) (x4 : Int) : Prop :=
  R64 (x4 - x2) ∧ ((x4 - x2 ≤ 1 → post (some (vj x4)) M) ∧ (¬ x4 - x2 ≤ 1 → R64 (x2 + x4) ∧ (∀ y12 : Int, y12 = Int.tdiv (x2 + x4) 2 → (Con E l D qX12_manyUpTo [vr 44, vj y12] M (fun r M14 => ∃ y15 : Int, r = some (vj y15) ∧ (R32 x1 ∧ (R64 y15 ∧ (R64 x1 ∧ ((y15 < x1 → VX12_place_74 E l D post J33 M14 x1 y12 x4) ∧ (¬ y15 < x1 → VX12_place_74 E l D post J33 M14 x1 x2 y12))))))))))
set_option maxRecDepth 20000 in
theorem SX12_place_33 {E : FX} {l : Launch} {D : Nat} {post : Option AV → MM → Prop} {z : RT} {J33 : MM → Int → Int → Int → Prop} (C : Cx E z D RX12 cX12_place 8) (r : Rt E z (some .long) post) (hJ33 : ∀ (M : MM) (x1 : Int) (x2 : Int) (x4 : Int), J33 M x1 x2 x4 → Aj E l z 33 [(0, vr 44), (1, vi x1), (2, vj x2), (4, vj x4)] [] M) {M : MM} {x1 : Int} {x2 : Int} {x4 : Int} (h : VX12_place_33 E l D post J33 M x1 x2 x4) : Aj E l z 33 [(0, vr 44), (1, vi x1), (2, vj x2), (4, vj x4)] [] M := by
  unfold VX12_place_33 at h
  refine v_lload (i := 3) C dX12_place_33 rfl ?_
  refine v_lload_n (i := 2) C dX12_place_35 rfl rfl ?_
  refine v_lsub C dX12_place_36 ?_
  refine v_lconst (x := 1) C dX12_place_37 (by decide) ?_
  refine v_lif_le (tgt := 77) C h.1 (by decide) dX12_place_38 dX12_place_39 (by decide) (fun c => ?_) (fun c => ?_)
  · have g10 := h.2.1 c
    refine v_lload (i := 3) C dX12_place_77 rfl ?_
    exact v_lret C r dX12_place_79 g10
  · have g11 := h.2.2 c
    refine v_lload_n (i := 2) C dX12_place_42 rfl rfl ?_
    refine v_lload (i := 3) C dX12_place_43 rfl ?_
    refine v_ladd C dX12_place_45 ?_
    refine v_ldc2 (x := 2) C cs_RX12_69 (by decide) dX12_place_46 ?_
    refine v_ldiv C g11.1 (by decide) (by decide) dX12_place_49 ?_
    obtain ⟨y12, hy12⟩ : ∃ y : Int, y = Int.tdiv (x2 + x4) 2 := ⟨_, rfl⟩
    have g13 := g11.2 y12 hy12
    refine v_eqj hy12 ?_
    refine v_lstore (L' := [(6, vj y12), (0, vr 44), (1, vi x1), (2, vj x2), (4, vj x4)]) C dX12_place_50 (by decide) rfl ?_
    refine v_aload_n (i := 1) C dX12_place_52 rfl rfl ?_
    refine v_lload (i := 0) C dX12_place_53 rfl ?_
    refine v_callV (q := qX12_manyUpTo) (k := 44) (As := [vj y12]) (S := []) C co_yX12_manyUpTo ml_RX12_90 im_yX12_manyUpTo se_yX12_manyUpTo ini_RX12 rfl rfl hq_X12_manyUpTo (by decide) (Nat.le_of_ble_eq_true rfl) rfl dX12_place_55 (Con.mono g13 (fun rr M14 hr => ?_) (Nat.le_refl _))
    obtain ⟨y15, rfl, g16⟩ := hr
    show Aj E l z (55 + 3) [(6, vj y12), (0, vr 44), (1, vi x1), (2, vj x2), (4, vj x4)] [vj y15] M14
    refine v_iload_n (i := 2) C dX12_place_58 rfl rfl ?_
    refine v_i2l C g16.1 dX12_place_59 ?_
    refine v_lif_lt (tgt := 71) C g16.2.1 g16.2.2.1 dX12_place_60 dX12_place_61 (by decide) (fun c => ?_) (fun c => ?_)
    · have g17 := g16.2.2.2.1 c
      refine v_lload (i := 0) C dX12_place_71 rfl ?_
      refine v_lstore_n (L' := [(2, vj y12), (6, vj y12), (0, vr 44), (1, vi x1), (4, vj x4)]) C dX12_place_73 rfl (by decide) rfl ?_
      exact v_sub [2, 3, 0, 4] rfl (SX12_place_74 C r hJ33 g17)
    · have g18 := g16.2.2.2.2 c
      refine v_lload (i := 0) C dX12_place_64 rfl ?_
      refine v_lstore (L' := [(4, vj y12), (6, vj y12), (0, vr 44), (1, vi x1), (2, vj x2)]) C dX12_place_66 (by decide) rfl ?_
      refine v_goto C dX12_place_68 (tgt := 74) (by decide) ?_
      exact v_sub [2, 3, 4, 0] rfl (SX12_place_74 C r hJ33 g18)
theorem RX12_place {E : FX} {l : Launch} {D : Nat} {post : Option AV → MM → Prop} (I33 : MM → Int → Int → Int → Prop) (m33 : MM → Int → Int → Int → Nat) {M : MM} {x1 : Int} (h0 : VX12_place_0 E l D post I33 M x1) (h33I : ∀ (M : MM) (x1 : Int) (x2 : Int) (x4 : Int), I33 M x1 x2 x4 → VX12_place_33 E l D post (fun M' x1' x2' x4' => I33 M' x1' x2' x4' ∧ m33 M' x1' x2' x4' < m33 M x1 x2 x4) M x1 x2 x4) : Con E l (D + 1) qX12_place [vr 44, vi x1] M post := by
  refine con_of (by decide +kernel) (Nat.le_of_ble_eq_true rfl) (fun z C r => ?_)
  have all : ∀ n : Nat, (∀ (M : MM) (x1 : Int) (x2 : Int) (x4 : Int), I33 M x1 x2 x4 → m33 M x1 x2 x4 < n → Aj E l z 33 [(0, vr 44), (1, vi x1), (2, vj x2), (4, vj x4)] [] M) := by
    intro n
    induction n with
    | zero => exact fun _ _ _ _ _ hm => absurd hm (Nat.not_lt_zero _)
    | succ n ih => exact fun M x1 x2 x4 hi hm => SX12_place_33 C r (fun M' x1' x2' x4' hj => ih M' x1' x2' x4' hj.1 (by omega)) (h33I M x1 x2 x4 hi)
  exact v_sub [0, 1] rfl (SX12_place_0 C r (fun M' x1' x2' x4' hj => (all _) M' x1' x2' x4' hj (Nat.lt_succ_self _)) h0)
def VX12_places_0 (E : FX) (l : Launch) (D : Nat) (post : Option AV → MM → Prop) (M : MM) (x1 : Int) : Prop :=
  Con E l D qX12_in [vj x1, vj 0, vj 1000000000000000] M (fun r M1 => ∃ y2 : Int, r = some (vi y2) ∧ (R32 y2 ∧ ((¬ y2 = 0 → Con E l D qX12_layNow [vr 44] M1 (fun r M6 => r = none ∧ (Con E l D qX12_manyUpTo [vr 44, vj x1] M6 (fun r M8 => ∃ y9 : Int, r = some (vj y9) ∧ (post (some (vj y9)) M8))))) ∧ (y2 = 0 → post (some (vj (-1))) M1))))
set_option maxRecDepth 20000 in
theorem SX12_places_0 {E : FX} {l : Launch} {D : Nat} {post : Option AV → MM → Prop} {z : RT} (C : Cx E z D RX12 cX12_places 3) (r : Rt E z (some .long) post) {M : MM} {x1 : Int} (h : VX12_places_0 E l D post M x1) : Aj E l z 0 [(0, vr 44), (1, vj x1)] [] M := by
  unfold VX12_places_0 at h
  refine v_lload_n (i := 1) C dX12_places_0 rfl rfl ?_
  refine v_lconst (x := 0) C dX12_places_1 (by decide) ?_
  refine v_ldc2 (x := 1000000000000000) C cs_RX12_94 (by decide) dX12_places_2 ?_
  refine v_callS (q := qX12_in) (As := [vj x1, vj 0, vj 1000000000000000]) (S := []) C co_yX12_in ml_RX12_71 st_yX12_in ini_RX12 hq_X12_in (by decide) (Nat.le_of_ble_eq_true rfl) rfl dX12_places_5 (Con.mono h (fun rr M1 hr => ?_) (Nat.le_refl _))
  obtain ⟨y2, rfl, g3⟩ := hr
  show Aj E l z (5 + 3) [(0, vr 44), (1, vj x1)] [vi y2] M1
  refine v_if_ne (tgt := 15) C g3.1 dX12_places_8 (by decide) (fun c => ?_) (fun c => ?_)
  · have g4 := g3.2.1 c
    refine v_aload_n (i := 0) C dX12_places_15 rfl rfl ?_
    refine v_callV (q := qX12_layNow) (k := 44) (As := []) (S := []) C co_yX12_layNow ml_RX12_87 im_yX12_layNow se_yX12_layNow ini_RX12 rfl rfl hq_X12_layNow (by decide) (Nat.le_of_ble_eq_true rfl) rfl dX12_places_16 (Con.mono g4 (fun rr M6 hr => ?_) (Nat.le_refl _))
    obtain ⟨rfl, g7⟩ := hr
    show Aj E l z (16 + 3) [(0, vr 44), (1, vj x1)] [] M6
    refine v_aload_n (i := 0) C dX12_places_19 rfl rfl ?_
    refine v_lload_n (i := 1) C dX12_places_20 rfl rfl ?_
    refine v_callV (q := qX12_manyUpTo) (k := 44) (As := [vj x1]) (S := []) C co_yX12_manyUpTo ml_RX12_90 im_yX12_manyUpTo se_yX12_manyUpTo ini_RX12 rfl rfl hq_X12_manyUpTo (by decide) (Nat.le_of_ble_eq_true rfl) rfl dX12_places_21 (Con.mono g7 (fun rr M8 hr => ?_) (Nat.le_refl _))
    obtain ⟨y9, rfl, g10⟩ := hr
    show Aj E l z (21 + 3) [(0, vr 44), (1, vj x1)] [vj y9] M8
    exact v_lret C r dX12_places_24 g10
  · have g5 := g3.2.2 c
    refine v_ldc2 (x := -1) C cs_RX12_85 (by decide) dX12_places_11 ?_
    exact v_lret C r dX12_places_14 g5
theorem RX12_places {E : FX} {l : Launch} {D : Nat} {post : Option AV → MM → Prop} {M : MM} {x1 : Int} (h0 : VX12_places_0 E l D post M x1) : Con E l (D + 1) qX12_places [vr 44, vj x1] M post := by
  refine con_of (by decide +kernel) (Nat.le_of_ble_eq_true rfl) (fun z C r => ?_)
  exact v_sub [0, 1] rfl (SX12_places_0 C r h0)
def VX12_isBolt_0 (E : FX) (l : Launch) (D : Nat) (post : Option AV → MM → Prop) (M : MM) (x1 : Int) : Prop :=
  R32 x1 ∧ (R32 ((M 45 6) - 1) ∧ (Con E l D qX12_in [vj x1, vj 0, vj ((M 45 6) - 1)] M (fun r M1 => ∃ y2 : Int, r = some (vi y2) ∧ ((y2 = 0 ∨ y2 = 1) ∧ (post (some (vi y2)) M1)))))
set_option maxRecDepth 20000 in
theorem SX12_isBolt_0 {E : FX} {l : Launch} {D : Nat} {post : Option AV → MM → Prop} {z : RT} (C : Cx E z D RX12 cX12_isBolt 2) (r : Rt E z (some .boolean) post) {M : MM} {x1 : Int} (h : VX12_isBolt_0 E l D post M x1) : Aj E l z 0 [(0, vr 44), (1, vi x1)] [] M := by
  unfold VX12_isBolt_0 at h
  refine v_iload_n (i := 1) C dX12_isBolt_0 rfl rfl ?_
  refine v_i2l C h.1 dX12_isBolt_1 ?_
  refine v_lconst (x := 0) C dX12_isBolt_2 (by decide) ?_
  refine v_aload_n (i := 0) C dX12_isBolt_3 rfl rfl ?_
  refine v_getf (k := 44) C fl_RX12_7 rfl rfl dX12_isBolt_4 ?_
  show Aj E l z (4 + 3) [(0, vr 44), (1, vi x1)] [vr 45, vj 0, vj x1] M
  refine v_bipush C dX12_isBolt_7 (by decide) ?_
  refine v_iald (k := 45) C rfl (by decide) (by decide) dX12_isBolt_9 ?_
  show Aj E l z (9 + 1) [(0, vr 44), (1, vi x1)] [vi (M 45 6), vj 0, vj x1] M
  refine v_iconst C dX12_isBolt_10 ?_
  refine v_isub C dX12_isBolt_11 ?_
  refine v_i2l C h.2.1 dX12_isBolt_12 ?_
  refine v_callS (q := qX12_in) (As := [vj x1, vj 0, vj ((M 45 6) - 1)]) (S := []) C co_yX12_in ml_RX12_71 st_yX12_in ini_RX12 hq_X12_in (by decide) (Nat.le_of_ble_eq_true rfl) rfl dX12_isBolt_13 (Con.mono h.2.2 (fun rr M1 hr => ?_) (Nat.le_refl _))
  obtain ⟨y2, rfl, g3⟩ := hr
  show Aj E l z (13 + 3) [(0, vr 44), (1, vi x1)] [vi y2] M1
  exact v_zret C r g3.1 dX12_isBolt_16 g3.2
theorem RX12_isBolt {E : FX} {l : Launch} {D : Nat} {post : Option AV → MM → Prop} {M : MM} {x1 : Int} (h0 : VX12_isBolt_0 E l D post M x1) : Con E l (D + 1) qX12_isBolt [vr 44, vi x1] M post := by
  refine con_of (by decide +kernel) (Nat.le_of_ble_eq_true rfl) (fun z C r => ?_)
  exact v_sub [0, 1] rfl (SX12_isBolt_0 C r h0)
def VX12_bolt_24 (E : FX) (l : Launch) (D : Nat) (post : Option AV → MM → Prop) (M : MM) : Prop :=
  post (some (vi (-1))) M
set_option maxRecDepth 20000 in
theorem SX12_bolt_24 {E : FX} {l : Launch} {D : Nat} {post : Option AV → MM → Prop} {z : RT} (C : Cx E z D RX12 cX12_bolt 4) (r : Rt E z (some .int) post) {M : MM} (h : VX12_bolt_24 E l D post M) : Aj E l z 24 [] [] M := by
  unfold VX12_bolt_24 at h
  refine v_iconst C dX12_bolt_24 ?_
  exact v_iret C r dX12_bolt_25 h
def VX12_bolt_0 (E : FX) (l : Launch) (D : Nat) (post : Option AV → MM → Prop) (M : MM) (x1 : Int) (x2 : Int) : Prop :=
  R32 x1 ∧ (Con E l D qX12_in [vj x1, vj 0, vj 3] M (fun r M1 => ∃ y2 : Int, r = some (vi y2) ∧ (R32 y2 ∧ ((y2 = 0 → post (some (vi (-1))) M1) ∧ (¬ y2 = 0 → R32 x2 ∧ (Con E l D qX12_in [vj x2, vj 1, vj 99999] M1 (fun r M6 => ∃ y7 : Int, r = some (vi y7) ∧ (R32 y7 ∧ ((¬ y7 = 0 → ∀ y11 : Int, y11 = M6 45 6 → (R32 y11 ∧ ((¬ y11 = 8 → 0 ≤ 7 + y11 ∧ (7 + y11 < 140 ∧ (∀ M15 : MM, M15 = up M6 45 (7 + y11).toNat x1 → (0 ≤ 15 + y11 ∧ (15 + y11 < 140 ∧ (∀ M17 : MM, M17 = up M15 45 (15 + y11).toNat x2 → (∀ M19 : MM, M19 = up M17 45 6 ((M17 45 6) + 1) → (post (some (vi y11)) M19)))))))) ∧ (y11 = 8 → post (some (vi (-3))) M6)))) ∧ (y7 = 0 → post (some (vi (-1))) M6))))))))))
set_option maxRecDepth 20000 in
theorem SX12_bolt_0 {E : FX} {l : Launch} {D : Nat} {post : Option AV → MM → Prop} {z : RT} (C : Cx E z D RX12 cX12_bolt 4) (r : Rt E z (some .int) post) {M : MM} {x1 : Int} {x2 : Int} (h : VX12_bolt_0 E l D post M x1 x2) : Aj E l z 0 [(0, vr 44), (1, vi x1), (2, vi x2)] [] M := by
  unfold VX12_bolt_0 at h
  refine v_iload_n (i := 1) C dX12_bolt_0 rfl rfl ?_
  refine v_i2l C h.1 dX12_bolt_1 ?_
  refine v_lconst (x := 0) C dX12_bolt_2 (by decide) ?_
  refine v_ldc2 (x := 3) C cs_RX12_96 (by decide) dX12_bolt_3 ?_
  refine v_callS (q := qX12_in) (As := [vj x1, vj 0, vj 3]) (S := []) C co_yX12_in ml_RX12_71 st_yX12_in ini_RX12 hq_X12_in (by decide) (Nat.le_of_ble_eq_true rfl) rfl dX12_bolt_6 (Con.mono h.2 (fun rr M1 hr => ?_) (Nat.le_refl _))
  obtain ⟨y2, rfl, g3⟩ := hr
  show Aj E l z (6 + 3) [(0, vr 44), (1, vi x1), (2, vi x2)] [vi y2] M1
  refine v_if_eq (tgt := 24) C g3.1 dX12_bolt_9 (by decide) (fun c => ?_) (fun c => ?_)
  · have g4 := g3.2.1 c
    refine v_iconst C dX12_bolt_24 ?_
    exact v_iret C r dX12_bolt_25 g4
  · have g5 := g3.2.2 c
    refine v_iload_n (i := 2) C dX12_bolt_12 rfl rfl ?_
    refine v_i2l C g5.1 dX12_bolt_13 ?_
    refine v_lconst (x := 1) C dX12_bolt_14 (by decide) ?_
    refine v_ldc2 (x := 99999) C cs_RX12_98 (by decide) dX12_bolt_15 ?_
    refine v_callS (q := qX12_in) (As := [vj x2, vj 1, vj 99999]) (S := []) C co_yX12_in ml_RX12_71 st_yX12_in ini_RX12 hq_X12_in (by decide) (Nat.le_of_ble_eq_true rfl) rfl dX12_bolt_18 (Con.mono g5.2 (fun rr M6 hr => ?_) (Nat.le_refl _))
    obtain ⟨y7, rfl, g8⟩ := hr
    show Aj E l z (18 + 3) [(0, vr 44), (1, vi x1), (2, vi x2)] [vi y7] M6
    refine v_if_ne (tgt := 26) C g8.1 dX12_bolt_21 (by decide) (fun c => ?_) (fun c => ?_)
    · have g9 := g8.2.1 c
      refine v_aload_n (i := 0) C dX12_bolt_26 rfl rfl ?_
      refine v_getf (k := 44) C fl_RX12_7 rfl rfl dX12_bolt_27 ?_
      show Aj E l z (27 + 3) [(0, vr 44), (1, vi x1), (2, vi x2)] [vr 45] M6
      refine v_bipush C dX12_bolt_30 (by decide) ?_
      refine v_iald (k := 45) C rfl (by decide) (by decide) dX12_bolt_32 ?_
      show Aj E l z (32 + 1) [(0, vr 44), (1, vi x1), (2, vi x2)] [vi (M6 45 6)] M6
      obtain ⟨y11, hy11⟩ : ∃ y : Int, y = M6 45 6 := ⟨_, rfl⟩
      have g12 := g9 y11 hy11
      refine v_eqi hy11 ?_
      refine v_istore_n (L' := [(3, vi y11), (0, vr 44), (1, vi x1), (2, vi x2)]) C dX12_bolt_33 rfl (by decide) rfl ?_
      refine v_iload_n (i := 0) C dX12_bolt_34 rfl rfl ?_
      refine v_bipush C dX12_bolt_35 (by decide) ?_
      refine v_icmp_ne (tgt := 43) C g12.1 (by decide) dX12_bolt_37 (by decide) (fun c => ?_) (fun c => ?_)
      · have g13 := g12.2.1 c
        refine v_aload_n (i := 1) C dX12_bolt_43 rfl rfl ?_
        refine v_getf (k := 44) C fl_RX12_7 rfl rfl dX12_bolt_44 ?_
        show Aj E l z (44 + 3) [(3, vi y11), (0, vr 44), (1, vi x1), (2, vi x2)] [vr 45] M6
        refine v_bipush C dX12_bolt_47 (by decide) ?_
        refine v_iload_n (i := 0) C dX12_bolt_49 rfl rfl ?_
        refine v_iadd C dX12_bolt_50 ?_
        refine v_iload_n (i := 2) C dX12_bolt_51 rfl rfl ?_
        refine v_iast (k := 45) C rfl g13.1 g13.2.1 dX12_bolt_52 ?_
        obtain ⟨M15, hM15⟩ : ∃ X : MM, X = up M6 45 (7 + y11).toNat x1 := ⟨_, rfl⟩
        refine v_eqM hM15 ?_
        have g16 := g13.2.2 M15 hM15
        refine v_aload_n (i := 1) C dX12_bolt_53 rfl rfl ?_
        refine v_getf (k := 44) C fl_RX12_7 rfl rfl dX12_bolt_54 ?_
        show Aj E l z (54 + 3) [(3, vi y11), (0, vr 44), (1, vi x1), (2, vi x2)] [vr 45] M15
        refine v_bipush C dX12_bolt_57 (by decide) ?_
        refine v_iload_n (i := 0) C dX12_bolt_59 rfl rfl ?_
        refine v_iadd C dX12_bolt_60 ?_
        refine v_iload_n (i := 3) C dX12_bolt_61 rfl rfl ?_
        refine v_iast (k := 45) C rfl g16.1 g16.2.1 dX12_bolt_62 ?_
        obtain ⟨M17, hM17⟩ : ∃ X : MM, X = up M15 45 (15 + y11).toNat x2 := ⟨_, rfl⟩
        refine v_eqM hM17 ?_
        have g18 := g16.2.2 M17 hM17
        refine v_aload_n (i := 1) C dX12_bolt_63 rfl rfl ?_
        refine v_getf (k := 44) C fl_RX12_7 rfl rfl dX12_bolt_64 ?_
        show Aj E l z (64 + 3) [(3, vi y11), (0, vr 44), (1, vi x1), (2, vi x2)] [vr 45] M17
        refine v_bipush C dX12_bolt_67 (by decide) ?_
        refine v_dup2 C rfl rfl dX12_bolt_69 ?_
        refine v_iald (k := 45) C rfl (by decide) (by decide) dX12_bolt_70 ?_
        show Aj E l z (70 + 1) [(3, vi y11), (0, vr 44), (1, vi x1), (2, vi x2)] [vi (M17 45 6), vi 6, vr 45] M17
        refine v_iconst C dX12_bolt_71 ?_
        refine v_iadd C dX12_bolt_72 ?_
        refine v_iast (k := 45) C rfl (by decide) (by decide) dX12_bolt_73 ?_
        show Aj E l z (73 + 1) [(3, vi y11), (0, vr 44), (1, vi x1), (2, vi x2)] [] (up M17 45 6 ((M17 45 6) + 1))
        obtain ⟨M19, hM19⟩ : ∃ X : MM, X = up M17 45 6 ((M17 45 6) + 1) := ⟨_, rfl⟩
        refine v_eqM hM19 ?_
        have g20 := g18 M19 hM19
        refine v_iload_n (i := 0) C dX12_bolt_74 rfl rfl ?_
        exact v_iret C r dX12_bolt_75 g20
      · have g14 := g12.2.2 c
        refine v_bipush C dX12_bolt_40 (by decide) ?_
        exact v_iret C r dX12_bolt_42 g14
    · have g10 := g8.2.2 c
      refine v_iconst C dX12_bolt_24 ?_
      exact v_iret C r dX12_bolt_25 g10
theorem RX12_bolt {E : FX} {l : Launch} {D : Nat} {post : Option AV → MM → Prop} {M : MM} {x1 : Int} {x2 : Int} (h0 : VX12_bolt_0 E l D post M x1 x2) : Con E l (D + 1) qX12_bolt [vr 44, vi x1, vi x2] M post := by
  refine con_of (by decide +kernel) (Nat.le_of_ble_eq_true rfl) (fun z C r => ?_)
  exact v_sub [0, 1, 2] rfl (SX12_bolt_0 C r h0)
def VX12_told_74 (E : FX) (l : Launch) (D : Nat) (post : Option AV → MM → Prop) (M : MM) (s0 : Int) : Prop :=
  post (some (vi s0)) M
set_option maxRecDepth 20000 in
theorem SX12_told_74 {E : FX} {l : Launch} {D : Nat} {post : Option AV → MM → Prop} {z : RT} (C : Cx E z D RX12 cX12_told 3) (r : Rt E z (some .int) post) {M : MM} {s0 : Int} (h : VX12_told_74 E l D post M s0) : Aj E l z 74 [] [vi s0] M := by
  unfold VX12_told_74 at h
  exact v_iret C r dX12_told_74 h
def VX12_told_20 (E : FX) (l : Launch) (D : Nat) (post : Option AV → MM → Prop) (M : MM) : Prop :=
  post (some (vi (-1))) M
set_option maxRecDepth 20000 in
theorem SX12_told_20 {E : FX} {l : Launch} {D : Nat} {post : Option AV → MM → Prop} {z : RT} (C : Cx E z D RX12 cX12_told 3) (r : Rt E z (some .int) post) {M : MM} (h : VX12_told_20 E l D post M) : Aj E l z 20 [] [] M := by
  unfold VX12_told_20 at h
  refine v_iconst C dX12_told_20 ?_
  exact v_iret C r dX12_told_21 h
def VX12_told_0 (E : FX) (l : Launch) (D : Nat) (post : Option AV → MM → Prop) (M : MM) (x1 : Int) (x2 : Int) : Prop :=
  Con E l D qX12_isBolt [vr 44, vi x1] M (fun r M1 => ∃ y2 : Int, r = some (vi y2) ∧ (R32 y2 ∧ ((y2 = 0 → post (some (vi (-1))) M1) ∧ (¬ y2 = 0 → R32 x2 ∧ (Con E l D qX12_in [vj x2, vj 0, vj 2] M1 (fun r M6 => ∃ y7 : Int, r = some (vi y7) ∧ (R32 y7 ∧ ((¬ y7 = 0 → Con E l D qX12_layNow [vr 44] M6 (fun r M11 => r = none ∧ (R32 x2 ∧ ((¬ x2 = 0 → R32 x2 ∧ ((¬ x2 = 1 → 0 ≤ 15 + x1 ∧ (15 + x1 < 140 ∧ (R32 (M11 45 (15 + x1).toNat) ∧ (Con E l D qX12_below [vr 44, vj (M11 45 (15 + x1).toNat)] M11 (fun r M17 => ∃ y18 : Int, r = some (vj y18) ∧ (VX12_told_74 E l D post M17 (w32 y18))))))) ∧ (x2 = 1 → 0 ≤ 15 + x1 ∧ (15 + x1 < 140 ∧ (VX12_told_74 E l D post M11 (M11 45 (15 + x1).toNat)))))) ∧ (x2 = 0 → 0 ≤ 7 + x1 ∧ (7 + x1 < 140 ∧ (VX12_told_74 E l D post M11 (M11 45 (7 + x1).toNat)))))))) ∧ (y7 = 0 → post (some (vi (-1))) M6)))))))))
set_option maxRecDepth 20000 in
theorem SX12_told_0 {E : FX} {l : Launch} {D : Nat} {post : Option AV → MM → Prop} {z : RT} (C : Cx E z D RX12 cX12_told 3) (r : Rt E z (some .int) post) {M : MM} {x1 : Int} {x2 : Int} (h : VX12_told_0 E l D post M x1 x2) : Aj E l z 0 [(0, vr 44), (1, vi x1), (2, vi x2)] [] M := by
  unfold VX12_told_0 at h
  refine v_aload_n (i := 0) C dX12_told_0 rfl rfl ?_
  refine v_iload_n (i := 1) C dX12_told_1 rfl rfl ?_
  refine v_callV (q := qX12_isBolt) (k := 44) (As := [vi x1]) (S := []) C co_yX12_isBolt ml_RX12_100 im_yX12_isBolt se_yX12_isBolt ini_RX12 rfl rfl hq_X12_isBolt (by decide) (Nat.le_of_ble_eq_true rfl) rfl dX12_told_2 (Con.mono h (fun rr M1 hr => ?_) (Nat.le_refl _))
  obtain ⟨y2, rfl, g3⟩ := hr
  show Aj E l z (2 + 3) [(0, vr 44), (1, vi x1), (2, vi x2)] [vi y2] M1
  refine v_if_eq (tgt := 20) C g3.1 dX12_told_5 (by decide) (fun c => ?_) (fun c => ?_)
  · have g4 := g3.2.1 c
    refine v_iconst C dX12_told_20 ?_
    exact v_iret C r dX12_told_21 g4
  · have g5 := g3.2.2 c
    refine v_iload_n (i := 2) C dX12_told_8 rfl rfl ?_
    refine v_i2l C g5.1 dX12_told_9 ?_
    refine v_lconst (x := 0) C dX12_told_10 (by decide) ?_
    refine v_ldc2 (x := 2) C cs_RX12_69 (by decide) dX12_told_11 ?_
    refine v_callS (q := qX12_in) (As := [vj x2, vj 0, vj 2]) (S := []) C co_yX12_in ml_RX12_71 st_yX12_in ini_RX12 hq_X12_in (by decide) (Nat.le_of_ble_eq_true rfl) rfl dX12_told_14 (Con.mono g5.2 (fun rr M6 hr => ?_) (Nat.le_refl _))
    obtain ⟨y7, rfl, g8⟩ := hr
    show Aj E l z (14 + 3) [(0, vr 44), (1, vi x1), (2, vi x2)] [vi y7] M6
    refine v_if_ne (tgt := 22) C g8.1 dX12_told_17 (by decide) (fun c => ?_) (fun c => ?_)
    · have g9 := g8.2.1 c
      refine v_aload_n (i := 0) C dX12_told_22 rfl rfl ?_
      refine v_callV (q := qX12_layNow) (k := 44) (As := []) (S := []) C co_yX12_layNow ml_RX12_87 im_yX12_layNow se_yX12_layNow ini_RX12 rfl rfl hq_X12_layNow (by decide) (Nat.le_of_ble_eq_true rfl) rfl dX12_told_23 (Con.mono g9 (fun rr M11 hr => ?_) (Nat.le_refl _))
      obtain ⟨rfl, g12⟩ := hr
      show Aj E l z (23 + 3) [(0, vr 44), (1, vi x1), (2, vi x2)] [] M11
      refine v_iload_n (i := 2) C dX12_told_26 rfl rfl ?_
      refine v_if_ne (tgt := 42) C g12.1 dX12_told_27 (by decide) (fun c => ?_) (fun c => ?_)
      · have g13 := g12.2.1 c
        refine v_iload_n (i := 2) C dX12_told_42 rfl rfl ?_
        refine v_iconst C dX12_told_43 ?_
        refine v_icmp_ne (tgt := 59) C g13.1 (by decide) dX12_told_44 (by decide) (fun c => ?_) (fun c => ?_)
        · have g15 := g13.2.1 c
          refine v_aload_n (i := 0) C dX12_told_59 rfl rfl ?_
          refine v_aload_n (i := 0) C dX12_told_60 rfl rfl ?_
          refine v_getf (k := 44) C fl_RX12_7 rfl rfl dX12_told_61 ?_
          show Aj E l z (61 + 3) [(0, vr 44), (1, vi x1), (2, vi x2)] [vr 45, vr 44] M11
          refine v_bipush C dX12_told_64 (by decide) ?_
          refine v_iload_n (i := 1) C dX12_told_66 rfl rfl ?_
          refine v_iadd C dX12_told_67 ?_
          refine v_iald (k := 45) C rfl g15.1 g15.2.1 dX12_told_68 ?_
          show Aj E l z (68 + 1) [(0, vr 44), (1, vi x1), (2, vi x2)] [vi (M11 45 (15 + x1).toNat), vr 44] M11
          refine v_i2l C g15.2.2.1 dX12_told_69 ?_
          refine v_callV (q := qX12_below) (k := 44) (As := [vj (M11 45 (15 + x1).toNat)]) (S := []) C co_yX12_below ml_RX12_104 im_yX12_below se_yX12_below ini_RX12 rfl rfl hq_X12_below (by decide) (Nat.le_of_ble_eq_true rfl) rfl dX12_told_70 (Con.mono g15.2.2.2 (fun rr M17 hr => ?_) (Nat.le_refl _))
          obtain ⟨y18, rfl, g19⟩ := hr
          show Aj E l z (70 + 3) [(0, vr 44), (1, vi x1), (2, vi x2)] [vj y18] M17
          refine v_l2i C dX12_told_73 ?_
          exact v_sub [] rfl (SX12_told_74 C r g19)
        · have g16 := g13.2.2 c
          refine v_aload_n (i := 0) C dX12_told_47 rfl rfl ?_
          refine v_getf (k := 44) C fl_RX12_7 rfl rfl dX12_told_48 ?_
          show Aj E l z (48 + 3) [(0, vr 44), (1, vi x1), (2, vi x2)] [vr 45] M11
          refine v_bipush C dX12_told_51 (by decide) ?_
          refine v_iload_n (i := 1) C dX12_told_53 rfl rfl ?_
          refine v_iadd C dX12_told_54 ?_
          refine v_iald (k := 45) C rfl g16.1 g16.2.1 dX12_told_55 ?_
          show Aj E l z (55 + 1) [(0, vr 44), (1, vi x1), (2, vi x2)] [vi (M11 45 (15 + x1).toNat)] M11
          refine v_goto C dX12_told_56 (tgt := 74) (by decide) ?_
          exact v_sub [] rfl (SX12_told_74 C r g16.2.2)
      · have g14 := g12.2.2 c
        refine v_aload_n (i := 0) C dX12_told_30 rfl rfl ?_
        refine v_getf (k := 44) C fl_RX12_7 rfl rfl dX12_told_31 ?_
        show Aj E l z (31 + 3) [(0, vr 44), (1, vi x1), (2, vi x2)] [vr 45] M11
        refine v_bipush C dX12_told_34 (by decide) ?_
        refine v_iload_n (i := 1) C dX12_told_36 rfl rfl ?_
        refine v_iadd C dX12_told_37 ?_
        refine v_iald (k := 45) C rfl g14.1 g14.2.1 dX12_told_38 ?_
        show Aj E l z (38 + 1) [(0, vr 44), (1, vi x1), (2, vi x2)] [vi (M11 45 (7 + x1).toNat)] M11
        refine v_goto C dX12_told_39 (tgt := 74) (by decide) ?_
        exact v_sub [] rfl (SX12_told_74 C r g14.2.2)
    · have g10 := g8.2.2 c
      refine v_iconst C dX12_told_20 ?_
      exact v_iret C r dX12_told_21 g10
theorem RX12_told {E : FX} {l : Launch} {D : Nat} {post : Option AV → MM → Prop} {M : MM} {x1 : Int} {x2 : Int} (h0 : VX12_told_0 E l D post M x1 x2) : Con E l (D + 1) qX12_told [vr 44, vi x1, vi x2] M post := by
  refine con_of (by decide +kernel) (Nat.le_of_ble_eq_true rfl) (fun z C r => ?_)
  exact v_sub [0, 1, 2] rfl (SX12_told_0 C r h0)
def VX12_cut_116 (E : FX) (l : Launch) (D : Nat) (post : Option AV → MM → Prop) (M : MM) (x1 : Int) (x2 : Int) (s1 : Int) (s2 : Int) : Prop :=
  0 ≤ s1 ∧ (s1 < 140 ∧ (∀ M1 : MM, M1 = up M 45 (s1).toNat s2 → (∀ M3 : MM, M3 = up M1 45 23 ((M1 45 23) + x2) → (0 ≤ 15 + x1 ∧ (15 + x1 < 140 ∧ (post (some (vi (M3 45 (15 + x1).toNat))) M3))))))
set_option maxRecDepth 20000 in
theorem SX12_cut_116 {E : FX} {l : Launch} {D : Nat} {post : Option AV → MM → Prop} {z : RT} (C : Cx E z D RX12 cX12_cut 5) (r : Rt E z (some .int) post) {M : MM} {x1 : Int} {x2 : Int} {s1 : Int} {s2 : Int} (h : VX12_cut_116 E l D post M x1 x2 s1 s2) : Aj E l z 116 [(0, vr 44), (1, vi x1), (2, vi x2)] [vi s2, vi s1, vr 45] M := by
  unfold VX12_cut_116 at h
  refine v_iast (k := 45) C rfl h.1 h.2.1 dX12_cut_116 ?_
  obtain ⟨M1, hM1⟩ : ∃ X : MM, X = up M 45 (s1).toNat s2 := ⟨_, rfl⟩
  refine v_eqM hM1 ?_
  have g2 := h.2.2 M1 hM1
  refine v_aload_n (i := 0) C dX12_cut_117 rfl rfl ?_
  refine v_getf (k := 44) C fl_RX12_7 rfl rfl dX12_cut_118 ?_
  show Aj E l z (118 + 3) [(0, vr 44), (1, vi x1), (2, vi x2)] [vr 45] M1
  refine v_bipush C dX12_cut_121 (by decide) ?_
  refine v_dup2 C rfl rfl dX12_cut_123 ?_
  refine v_iald (k := 45) C rfl (by decide) (by decide) dX12_cut_124 ?_
  show Aj E l z (124 + 1) [(0, vr 44), (1, vi x1), (2, vi x2)] [vi (M1 45 23), vi 23, vr 45] M1
  refine v_iload_n (i := 2) C dX12_cut_125 rfl rfl ?_
  refine v_iadd C dX12_cut_126 ?_
  refine v_iast (k := 45) C rfl (by decide) (by decide) dX12_cut_127 ?_
  show Aj E l z (127 + 1) [(0, vr 44), (1, vi x1), (2, vi x2)] [] (up M1 45 23 ((M1 45 23) + x2))
  obtain ⟨M3, hM3⟩ : ∃ X : MM, X = up M1 45 23 ((M1 45 23) + x2) := ⟨_, rfl⟩
  refine v_eqM hM3 ?_
  have g4 := g2 M3 hM3
  refine v_aload_n (i := 0) C dX12_cut_128 rfl rfl ?_
  refine v_getf (k := 44) C fl_RX12_7 rfl rfl dX12_cut_129 ?_
  show Aj E l z (129 + 3) [(0, vr 44), (1, vi x1), (2, vi x2)] [vr 45] M3
  refine v_bipush C dX12_cut_132 (by decide) ?_
  refine v_iload_n (i := 1) C dX12_cut_134 rfl rfl ?_
  refine v_iadd C dX12_cut_135 ?_
  refine v_iald (k := 45) C rfl g4.1 g4.2.1 dX12_cut_136 ?_
  show Aj E l z (136 + 1) [(0, vr 44), (1, vi x1), (2, vi x2)] [vi (M3 45 (15 + x1).toNat)] M3
  exact v_iret C r dX12_cut_137 g4.2.2
def VX12_cut_115 (E : FX) (l : Launch) (D : Nat) (post : Option AV → MM → Prop) (M : MM) (x1 : Int) (x2 : Int) (x3 : Int) (s1 : Int) : Prop :=
  VX12_cut_116 E l D post M x1 x2 s1 x3
set_option maxRecDepth 20000 in
theorem SX12_cut_115 {E : FX} {l : Launch} {D : Nat} {post : Option AV → MM → Prop} {z : RT} (C : Cx E z D RX12 cX12_cut 5) (r : Rt E z (some .int) post) {M : MM} {x1 : Int} {x2 : Int} {x3 : Int} {s1 : Int} (h : VX12_cut_115 E l D post M x1 x2 x3 s1) : Aj E l z 115 [(0, vr 44), (1, vi x1), (2, vi x2), (3, vi x3)] [vi s1, vr 45] M := by
  unfold VX12_cut_115 at h
  refine v_iload_n (i := 3) C dX12_cut_115 rfl rfl ?_
  exact v_sub [0, 1, 2] rfl (SX12_cut_116 C r h)
def VX12_cut_90 (E : FX) (l : Launch) (D : Nat) (post : Option AV → MM → Prop) (M : MM) (x1 : Int) (x2 : Int) (x3 : Int) (s0 : Int) : Prop :=
  R32 s0 ∧ ((s0 = 0 → VX12_cut_116 E l D post M x1 x2 (15 + x1) x3) ∧ (¬ s0 = 0 → R32 x3 ∧ ((x3 ≤ 0 → VX12_cut_116 E l D post M x1 x2 (15 + x1) x3) ∧ (¬ x3 ≤ 0 → VX12_cut_116 E l D post M x1 x2 (15 + x1) (x3 - 1)))))
set_option maxRecDepth 20000 in
theorem SX12_cut_90 {E : FX} {l : Launch} {D : Nat} {post : Option AV → MM → Prop} {z : RT} (C : Cx E z D RX12 cX12_cut 5) (r : Rt E z (some .int) post) {M : MM} {x1 : Int} {x2 : Int} {x3 : Int} {s0 : Int} (h : VX12_cut_90 E l D post M x1 x2 x3 s0) : Aj E l z 90 [(0, vr 44), (1, vi x1), (2, vi x2), (3, vi x3)] [vi s0] M := by
  unfold VX12_cut_90 at h
  refine v_istore (L' := [(4, vi s0), (0, vr 44), (1, vi x1), (2, vi x2), (3, vi x3)]) C dX12_cut_90 (by decide) rfl ?_
  refine v_aload_n (i := 1) C dX12_cut_92 rfl rfl ?_
  refine v_getf (k := 44) C fl_RX12_7 rfl rfl dX12_cut_93 ?_
  show Aj E l z (93 + 3) [(4, vi s0), (0, vr 44), (1, vi x1), (2, vi x2), (3, vi x3)] [vr 45] M
  refine v_bipush C dX12_cut_96 (by decide) ?_
  refine v_iload_n (i := 2) C dX12_cut_98 rfl rfl ?_
  refine v_iadd C dX12_cut_99 ?_
  refine v_iload (i := 0) C dX12_cut_100 rfl ?_
  refine v_if_eq (tgt := 115) C h.1 dX12_cut_102 (by decide) (fun c => ?_) (fun c => ?_)
  · have g5 := h.2.1 c
    refine v_iload_n (i := 4) C dX12_cut_115 rfl rfl ?_
    exact v_sub [1, 2, 3] rfl (SX12_cut_116 C r g5)
  · have g6 := h.2.2 c
    refine v_iload_n (i := 4) C dX12_cut_105 rfl rfl ?_
    refine v_if_le (tgt := 115) C g6.1 dX12_cut_106 (by decide) (fun c => ?_) (fun c => ?_)
    · have g7 := g6.2.1 c
      refine v_iload_n (i := 4) C dX12_cut_115 rfl rfl ?_
      exact v_sub [1, 2, 3] rfl (SX12_cut_116 C r g7)
    · have g8 := g6.2.2 c
      refine v_iload_n (i := 4) C dX12_cut_109 rfl rfl ?_
      refine v_iconst C dX12_cut_110 ?_
      refine v_isub C dX12_cut_111 ?_
      refine v_goto C dX12_cut_112 (tgt := 116) (by decide) ?_
      exact v_sub [1, 2, 3] rfl (SX12_cut_116 C r g8)
def VX12_cut_44 (E : FX) (l : Launch) (D : Nat) (post : Option AV → MM → Prop) (M : MM) : Prop :=
  post (some (vi (-2))) M
set_option maxRecDepth 20000 in
theorem SX12_cut_44 {E : FX} {l : Launch} {D : Nat} {post : Option AV → MM → Prop} {z : RT} (C : Cx E z D RX12 cX12_cut 5) (r : Rt E z (some .int) post) {M : MM} (h : VX12_cut_44 E l D post M) : Aj E l z 44 [] [] M := by
  unfold VX12_cut_44 at h
  refine v_bipush C dX12_cut_44 (by decide) ?_
  exact v_iret C r dX12_cut_46 h
def VX12_cut_85 (E : FX) (l : Launch) (D : Nat) (post : Option AV → MM → Prop) (M : MM) (x1 : Int) (x2 : Int) (x3 : Int) : Prop :=
  VX12_cut_90 E l D post M x1 x2 x3 1
set_option maxRecDepth 20000 in
theorem SX12_cut_85 {E : FX} {l : Launch} {D : Nat} {post : Option AV → MM → Prop} {z : RT} (C : Cx E z D RX12 cX12_cut 5) (r : Rt E z (some .int) post) {M : MM} {x1 : Int} {x2 : Int} {x3 : Int} (h : VX12_cut_85 E l D post M x1 x2 x3) : Aj E l z 85 [(0, vr 44), (1, vi x1), (2, vi x2), (3, vi x3)] [] M := by
  unfold VX12_cut_85 at h
  refine v_iconst C dX12_cut_85 ?_
  refine v_goto C dX12_cut_86 (tgt := 90) (by decide) ?_
  exact v_sub [0, 1, 2, 3] rfl (SX12_cut_90 C r h)
def VX12_cut_0 (E : FX) (l : Launch) (D : Nat) (post : Option AV → MM → Prop) (M : MM) (x1 : Int) (x2 : Int) : Prop :=
  Con E l D qX12_isBolt [vr 44, vi x1] M (fun r M9 => ∃ y10 : Int, r = some (vi y10) ∧ (R32 y10 ∧ ((¬ y10 = 0 → Con E l D qX12_layNow [vr 44] M9 (fun r M14 => r = none ∧ (R32 x2 ∧ ((x2 < 1 → post (some (vi (-2))) M14) ∧ (¬ x2 < 1 → 0 ≤ 15 + x1 ∧ (15 + x1 < 140 ∧ (R32 x2 ∧ (R32 (M14 45 (15 + x1).toNat) ∧ ((M14 45 (15 + x1).toNat < x2 → post (some (vi (-2))) M14) ∧ (¬ M14 45 (15 + x1).toNat < x2 → R32 x2 ∧ (Con E l D qX12_below [vr 44, vj x2] M14 (fun r M20 => ∃ y21 : Int, r = some (vj y21) ∧ (R32 x2 ∧ (R64 y21 ∧ (R64 x2 ∧ ((y21 = x2 → 0 ≤ 15 + x1 ∧ (15 + x1 < 140 ∧ (∀ y25 : Int, y25 = (M20 45 (15 + x1).toNat) - x2 → (0 ≤ 7 + x1 ∧ (7 + x1 < 140 ∧ (R32 (M20 45 (7 + x1).toNat) ∧ ((M20 45 (7 + x1).toNat = 1 → VX12_cut_90 E l D post M20 x1 x2 y25 1) ∧ (¬ M20 45 (7 + x1).toNat = 1 → 0 ≤ 7 + x1 ∧ (7 + x1 < 140 ∧ (R32 (M20 45 (7 + x1).toNat) ∧ ((¬ M20 45 (7 + x1).toNat = 3 → VX12_cut_90 E l D post M20 x1 x2 y25 0) ∧ (M20 45 (7 + x1).toNat = 3 → VX12_cut_90 E l D post M20 x1 x2 y25 1)))))))))))) ∧ (¬ y21 = x2 → post (some (vi (-2))) M20))))))))))))))))) ∧ (y10 = 0 → post (some (vi (-1))) M9))))
set_option maxRecDepth 20000 in
theorem SX12_cut_0 {E : FX} {l : Launch} {D : Nat} {post : Option AV → MM → Prop} {z : RT} (C : Cx E z D RX12 cX12_cut 5) (r : Rt E z (some .int) post) {M : MM} {x1 : Int} {x2 : Int} (h : VX12_cut_0 E l D post M x1 x2) : Aj E l z 0 [(0, vr 44), (1, vi x1), (2, vi x2)] [] M := by
  unfold VX12_cut_0 at h
  refine v_aload_n (i := 0) C dX12_cut_0 rfl rfl ?_
  refine v_iload_n (i := 1) C dX12_cut_1 rfl rfl ?_
  refine v_callV (q := qX12_isBolt) (k := 44) (As := [vi x1]) (S := []) C co_yX12_isBolt ml_RX12_100 im_yX12_isBolt se_yX12_isBolt ini_RX12 rfl rfl hq_X12_isBolt (by decide) (Nat.le_of_ble_eq_true rfl) rfl dX12_cut_2 (Con.mono h (fun rr M9 hr => ?_) (Nat.le_refl _))
  obtain ⟨y10, rfl, g11⟩ := hr
  show Aj E l z (2 + 3) [(0, vr 44), (1, vi x1), (2, vi x2)] [vi y10] M9
  refine v_if_ne (tgt := 10) C g11.1 dX12_cut_5 (by decide) (fun c => ?_) (fun c => ?_)
  · have g12 := g11.2.1 c
    refine v_aload_n (i := 0) C dX12_cut_10 rfl rfl ?_
    refine v_callV (q := qX12_layNow) (k := 44) (As := []) (S := []) C co_yX12_layNow ml_RX12_87 im_yX12_layNow se_yX12_layNow ini_RX12 rfl rfl hq_X12_layNow (by decide) (Nat.le_of_ble_eq_true rfl) rfl dX12_cut_11 (Con.mono g12 (fun rr M14 hr => ?_) (Nat.le_refl _))
    obtain ⟨rfl, g15⟩ := hr
    show Aj E l z (11 + 3) [(0, vr 44), (1, vi x1), (2, vi x2)] [] M14
    refine v_iload_n (i := 2) C dX12_cut_14 rfl rfl ?_
    refine v_iconst C dX12_cut_15 ?_
    refine v_icmp_lt (tgt := 44) C g15.1 (by decide) dX12_cut_16 (by decide) (fun c => ?_) (fun c => ?_)
    · have g16 := g15.2.1 c
      refine v_bipush C dX12_cut_44 (by decide) ?_
      exact v_iret C r dX12_cut_46 g16
    · have g17 := g15.2.2 c
      refine v_iload_n (i := 2) C dX12_cut_19 rfl rfl ?_
      refine v_aload_n (i := 0) C dX12_cut_20 rfl rfl ?_
      refine v_getf (k := 44) C fl_RX12_7 rfl rfl dX12_cut_21 ?_
      show Aj E l z (21 + 3) [(0, vr 44), (1, vi x1), (2, vi x2)] [vr 45, vi x2] M14
      refine v_bipush C dX12_cut_24 (by decide) ?_
      refine v_iload_n (i := 1) C dX12_cut_26 rfl rfl ?_
      refine v_iadd C dX12_cut_27 ?_
      refine v_iald (k := 45) C rfl g17.1 g17.2.1 dX12_cut_28 ?_
      show Aj E l z (28 + 1) [(0, vr 44), (1, vi x1), (2, vi x2)] [vi (M14 45 (15 + x1).toNat), vi x2] M14
      refine v_icmp_gt (tgt := 44) C g17.2.2.1 g17.2.2.2.1 dX12_cut_29 (by decide) (fun c => ?_) (fun c => ?_)
      · have g18 := g17.2.2.2.2.1 c
        refine v_bipush C dX12_cut_44 (by decide) ?_
        exact v_iret C r dX12_cut_46 g18
      · have g19 := g17.2.2.2.2.2 c
        refine v_aload_n (i := 0) C dX12_cut_32 rfl rfl ?_
        refine v_iload_n (i := 2) C dX12_cut_33 rfl rfl ?_
        refine v_i2l C g19.1 dX12_cut_34 ?_
        refine v_callV (q := qX12_below) (k := 44) (As := [vj x2]) (S := []) C co_yX12_below ml_RX12_104 im_yX12_below se_yX12_below ini_RX12 rfl rfl hq_X12_below (by decide) (Nat.le_of_ble_eq_true rfl) rfl dX12_cut_35 (Con.mono g19.2 (fun rr M20 hr => ?_) (Nat.le_refl _))
        obtain ⟨y21, rfl, g22⟩ := hr
        show Aj E l z (35 + 3) [(0, vr 44), (1, vi x1), (2, vi x2)] [vj y21] M20
        refine v_iload_n (i := 2) C dX12_cut_38 rfl rfl ?_
        refine v_i2l C g22.1 dX12_cut_39 ?_
        refine v_lif_eq (tgt := 47) C g22.2.1 g22.2.2.1 dX12_cut_40 dX12_cut_41 (by decide) (fun c => ?_) (fun c => ?_)
        · have g23 := g22.2.2.2.1 c
          refine v_aload_n (i := 0) C dX12_cut_47 rfl rfl ?_
          refine v_getf (k := 44) C fl_RX12_7 rfl rfl dX12_cut_48 ?_
          show Aj E l z (48 + 3) [(0, vr 44), (1, vi x1), (2, vi x2)] [vr 45] M20
          refine v_bipush C dX12_cut_51 (by decide) ?_
          refine v_iload_n (i := 1) C dX12_cut_53 rfl rfl ?_
          refine v_iadd C dX12_cut_54 ?_
          refine v_iald (k := 45) C rfl g23.1 g23.2.1 dX12_cut_55 ?_
          show Aj E l z (55 + 1) [(0, vr 44), (1, vi x1), (2, vi x2)] [vi (M20 45 (15 + x1).toNat)] M20
          refine v_iload_n (i := 2) C dX12_cut_56 rfl rfl ?_
          refine v_isub C dX12_cut_57 ?_
          obtain ⟨y25, hy25⟩ : ∃ y : Int, y = (M20 45 (15 + x1).toNat) - x2 := ⟨_, rfl⟩
          have g26 := g23.2.2 y25 hy25
          refine v_eqi hy25 ?_
          refine v_istore_n (L' := [(3, vi y25), (0, vr 44), (1, vi x1), (2, vi x2)]) C dX12_cut_58 rfl (by decide) rfl ?_
          refine v_aload_n (i := 1) C dX12_cut_59 rfl rfl ?_
          refine v_getf (k := 44) C fl_RX12_7 rfl rfl dX12_cut_60 ?_
          show Aj E l z (60 + 3) [(3, vi y25), (0, vr 44), (1, vi x1), (2, vi x2)] [vr 45] M20
          refine v_bipush C dX12_cut_63 (by decide) ?_
          refine v_iload_n (i := 2) C dX12_cut_65 rfl rfl ?_
          refine v_iadd C dX12_cut_66 ?_
          refine v_iald (k := 45) C rfl g26.1 g26.2.1 dX12_cut_67 ?_
          show Aj E l z (67 + 1) [(3, vi y25), (0, vr 44), (1, vi x1), (2, vi x2)] [vi (M20 45 (7 + x1).toNat)] M20
          refine v_iconst C dX12_cut_68 ?_
          refine v_icmp_eq (tgt := 85) C g26.2.2.1 (by decide) dX12_cut_69 (by decide) (fun c => ?_) (fun c => ?_)
          · have g27 := g26.2.2.2.1 c
            refine v_iconst C dX12_cut_85 ?_
            refine v_goto C dX12_cut_86 (tgt := 90) (by decide) ?_
            exact v_sub [1, 2, 3, 0] rfl (SX12_cut_90 C r g27)
          · have g28 := g26.2.2.2.2 c
            refine v_aload_n (i := 1) C dX12_cut_72 rfl rfl ?_
            refine v_getf (k := 44) C fl_RX12_7 rfl rfl dX12_cut_73 ?_
            show Aj E l z (73 + 3) [(3, vi y25), (0, vr 44), (1, vi x1), (2, vi x2)] [vr 45] M20
            refine v_bipush C dX12_cut_76 (by decide) ?_
            refine v_iload_n (i := 2) C dX12_cut_78 rfl rfl ?_
            refine v_iadd C dX12_cut_79 ?_
            refine v_iald (k := 45) C rfl g28.1 g28.2.1 dX12_cut_80 ?_
            show Aj E l z (80 + 1) [(3, vi y25), (0, vr 44), (1, vi x1), (2, vi x2)] [vi (M20 45 (7 + x1).toNat)] M20
            refine v_iconst C dX12_cut_81 ?_
            refine v_icmp_ne (tgt := 89) C g28.2.2.1 (by decide) dX12_cut_82 (by decide) (fun c => ?_) (fun c => ?_)
            · have g29 := g28.2.2.2.1 c
              refine v_iconst C dX12_cut_89 ?_
              exact v_sub [1, 2, 3, 0] rfl (SX12_cut_90 C r g29)
            · have g30 := g28.2.2.2.2 c
              refine v_iconst C dX12_cut_85 ?_
              refine v_goto C dX12_cut_86 (tgt := 90) (by decide) ?_
              exact v_sub [1, 2, 3, 0] rfl (SX12_cut_90 C r g30)
        · have g24 := g22.2.2.2.2 c
          refine v_bipush C dX12_cut_44 (by decide) ?_
          exact v_iret C r dX12_cut_46 g24
  · have g13 := g11.2.2 c
    refine v_iconst C dX12_cut_8 ?_
    exact v_iret C r dX12_cut_9 g13
theorem RX12_cut {E : FX} {l : Launch} {D : Nat} {post : Option AV → MM → Prop} {M : MM} {x1 : Int} {x2 : Int} (h0 : VX12_cut_0 E l D post M x1 x2) : Con E l (D + 1) qX12_cut [vr 44, vi x1, vi x2] M post := by
  refine con_of (by decide +kernel) (Nat.le_of_ble_eq_true rfl) (fun z C r => ?_)
  exact v_sub [0, 1, 2] rfl (SX12_cut_0 C r h0)
def VX12_seamOf_15 (E : FX) (l : Launch) (D : Nat) (post : Option AV → MM → Prop) (M : MM) (s0 : Int) : Prop :=
  post (some (vi s0)) M
set_option maxRecDepth 20000 in
theorem SX12_seamOf_15 {E : FX} {l : Launch} {D : Nat} {post : Option AV → MM → Prop} {z : RT} (C : Cx E z D RX12 cX12_seamOf 2) (r : Rt E z (some .int) post) {M : MM} {s0 : Int} (h : VX12_seamOf_15 E l D post M s0) : Aj E l z 15 [] [vi s0] M := by
  unfold VX12_seamOf_15 at h
  exact v_iret C r dX12_seamOf_15 h
def VX12_seamOf_0 (E : FX) (l : Launch) (D : Nat) (post : Option AV → MM → Prop) (M : MM) (x1 : Int) : Prop :=
  R32 x1 ∧ ((2 ≤ x1 → VX12_seamOf_15 E l D post M 0) ∧ (¬ 2 ≤ x1 → VX12_seamOf_15 E l D post M (M 45 5)))
set_option maxRecDepth 20000 in
theorem SX12_seamOf_0 {E : FX} {l : Launch} {D : Nat} {post : Option AV → MM → Prop} {z : RT} (C : Cx E z D RX12 cX12_seamOf 2) (r : Rt E z (some .int) post) {M : MM} {x1 : Int} (h : VX12_seamOf_0 E l D post M x1) : Aj E l z 0 [(0, vr 44), (1, vi x1)] [] M := by
  unfold VX12_seamOf_0 at h
  refine v_iload_n (i := 1) C dX12_seamOf_0 rfl rfl ?_
  refine v_iconst C dX12_seamOf_1 ?_
  refine v_icmp_ge (tgt := 14) C h.1 (by decide) dX12_seamOf_2 (by decide) (fun c => ?_) (fun c => ?_)
  · have g1 := h.2.1 c
    refine v_iconst C dX12_seamOf_14 ?_
    exact v_sub [] rfl (SX12_seamOf_15 C r g1)
  · have g2 := h.2.2 c
    refine v_aload_n (i := 0) C dX12_seamOf_5 rfl rfl ?_
    refine v_getf (k := 44) C fl_RX12_7 rfl rfl dX12_seamOf_6 ?_
    show Aj E l z (6 + 3) [(0, vr 44), (1, vi x1)] [vr 45] M
    refine v_iconst C dX12_seamOf_9 ?_
    refine v_iald (k := 45) C rfl (by decide) (by decide) dX12_seamOf_10 ?_
    show Aj E l z (10 + 1) [(0, vr 44), (1, vi x1)] [vi (M 45 5)] M
    refine v_goto C dX12_seamOf_11 (tgt := 15) (by decide) ?_
    exact v_sub [] rfl (SX12_seamOf_15 C r g2)
theorem RX12_seamOf {E : FX} {l : Launch} {D : Nat} {post : Option AV → MM → Prop} {M : MM} {x1 : Int} (h0 : VX12_seamOf_0 E l D post M x1) : Con E l (D + 1) qX12_seamOf [vr 44, vi x1] M post := by
  refine con_of (by decide +kernel) (Nat.le_of_ble_eq_true rfl) (fun z C r => ?_)
  exact v_sub [0, 1] rfl (SX12_seamOf_0 C r h0)
def VX12_join_74 (E : FX) (l : Launch) (D : Nat) (post : Option AV → MM → Prop) (M : MM) : Prop :=
  post (some (vi (-2))) M
set_option maxRecDepth 20000 in
theorem SX12_join_74 {E : FX} {l : Launch} {D : Nat} {post : Option AV → MM → Prop} {z : RT} (C : Cx E z D RX12 cX12_join 6) (r : Rt E z (some .int) post) {M : MM} (h : VX12_join_74 E l D post M) : Aj E l z 74 [] [] M := by
  unfold VX12_join_74 at h
  refine v_bipush C dX12_join_74 (by decide) ?_
  exact v_iret C r dX12_join_76 h
def VX12_join_21 (E : FX) (l : Launch) (D : Nat) (post : Option AV → MM → Prop) (M : MM) : Prop :=
  post (some (vi (-1))) M
set_option maxRecDepth 20000 in
theorem SX12_join_21 {E : FX} {l : Launch} {D : Nat} {post : Option AV → MM → Prop} {z : RT} (C : Cx E z D RX12 cX12_join 6) (r : Rt E z (some .int) post) {M : MM} (h : VX12_join_21 E l D post M) : Aj E l z 21 [] [] M := by
  unfold VX12_join_21 at h
  refine v_iconst C dX12_join_21 ?_
  exact v_iret C r dX12_join_22 h
def VX12_join_0 (E : FX) (l : Launch) (D : Nat) (post : Option AV → MM → Prop) (M : MM) (x1 : Int) (x2 : Int) : Prop :=
  Con E l D qX12_isBolt [vr 44, vi x1] M (fun r M1 => ∃ y2 : Int, r = some (vi y2) ∧ (R32 y2 ∧ ((y2 = 0 → post (some (vi (-1))) M1) ∧ (¬ y2 = 0 → Con E l D qX12_isBolt [vr 44, vi x2] M1 (fun r M6 => ∃ y7 : Int, r = some (vi y7) ∧ (R32 y7 ∧ ((y7 = 0 → post (some (vi (-1))) M6) ∧ (¬ y7 = 0 → R32 x1 ∧ (R32 x2 ∧ ((¬ x1 = x2 → 0 ≤ 15 + x1 ∧ (15 + x1 < 140 ∧ (∀ y13 : Int, y13 = M6 45 (15 + x1).toNat → (0 ≤ 15 + x2 ∧ (15 + x2 < 140 ∧ (∀ y15 : Int, y15 = M6 45 (15 + x2).toNat → (0 ≤ 7 + x1 ∧ (7 + x1 < 140 ∧ (0 ≤ 7 + x2 ∧ (7 + x2 < 140 ∧ (R32 (M6 45 (7 + x1).toNat) ∧ (R32 (M6 45 (7 + x2).toNat) ∧ ((¬ M6 45 (7 + x1).toNat = M6 45 (7 + x2).toNat → post (some (vi (-2))) M6) ∧ (M6 45 (7 + x1).toNat = M6 45 (7 + x2).toNat → R32 y13 ∧ ((y13 = 0 → post (some (vi (-2))) M6) ∧ (¬ y13 = 0 → R32 y15 ∧ ((¬ y15 = 0 → 0 ≤ 7 + x1 ∧ (7 + x1 < 140 ∧ (Con E l D qX12_seamOf [vr 44, vi (M6 45 (7 + x1).toNat)] M6 (fun r M23 => ∃ y24 : Int, r = some (vi y24) ∧ (R32 ((y13 + y15) - y24) ∧ (Con E l D qX12_greater [vj 0, vj ((y13 + y15) - y24)] M23 (fun r M26 => ∃ y27 : Int, r = some (vj y27) ∧ (∀ y29 : Int, y29 = w32 y27 → (R32 y29 ∧ ((y29 ≤ 99999 → 0 ≤ 15 + x1 ∧ (15 + x1 < 140 ∧ (∀ M33 : MM, M33 = up M26 45 (15 + x1).toNat y29 → (0 ≤ 15 + x2 ∧ (15 + x2 < 140 ∧ (∀ M35 : MM, M35 = up M33 45 (15 + x2).toNat 0 → (post (some (vi y29)) M35))))))) ∧ (¬ y29 ≤ 99999 → post (some (vi (-3))) M26))))))))))) ∧ (y15 = 0 → post (some (vi (-2))) M6)))))))))))))))))) ∧ (x1 = x2 → post (some (vi (-1))) M6)))))))))))
set_option maxRecDepth 20000 in
theorem SX12_join_0 {E : FX} {l : Launch} {D : Nat} {post : Option AV → MM → Prop} {z : RT} (C : Cx E z D RX12 cX12_join 6) (r : Rt E z (some .int) post) {M : MM} {x1 : Int} {x2 : Int} (h : VX12_join_0 E l D post M x1 x2) : Aj E l z 0 [(0, vr 44), (1, vi x1), (2, vi x2)] [] M := by
  unfold VX12_join_0 at h
  refine v_aload_n (i := 0) C dX12_join_0 rfl rfl ?_
  refine v_iload_n (i := 1) C dX12_join_1 rfl rfl ?_
  refine v_callV (q := qX12_isBolt) (k := 44) (As := [vi x1]) (S := []) C co_yX12_isBolt ml_RX12_100 im_yX12_isBolt se_yX12_isBolt ini_RX12 rfl rfl hq_X12_isBolt (by decide) (Nat.le_of_ble_eq_true rfl) rfl dX12_join_2 (Con.mono h (fun rr M1 hr => ?_) (Nat.le_refl _))
  obtain ⟨y2, rfl, g3⟩ := hr
  show Aj E l z (2 + 3) [(0, vr 44), (1, vi x1), (2, vi x2)] [vi y2] M1
  refine v_if_eq (tgt := 21) C g3.1 dX12_join_5 (by decide) (fun c => ?_) (fun c => ?_)
  · have g4 := g3.2.1 c
    refine v_iconst C dX12_join_21 ?_
    exact v_iret C r dX12_join_22 g4
  · have g5 := g3.2.2 c
    refine v_aload_n (i := 0) C dX12_join_8 rfl rfl ?_
    refine v_iload_n (i := 2) C dX12_join_9 rfl rfl ?_
    refine v_callV (q := qX12_isBolt) (k := 44) (As := [vi x2]) (S := []) C co_yX12_isBolt ml_RX12_100 im_yX12_isBolt se_yX12_isBolt ini_RX12 rfl rfl hq_X12_isBolt (by decide) (Nat.le_of_ble_eq_true rfl) rfl dX12_join_10 (Con.mono g5 (fun rr M6 hr => ?_) (Nat.le_refl _))
    obtain ⟨y7, rfl, g8⟩ := hr
    show Aj E l z (10 + 3) [(0, vr 44), (1, vi x1), (2, vi x2)] [vi y7] M6
    refine v_if_eq (tgt := 21) C g8.1 dX12_join_13 (by decide) (fun c => ?_) (fun c => ?_)
    · have g9 := g8.2.1 c
      refine v_iconst C dX12_join_21 ?_
      exact v_iret C r dX12_join_22 g9
    · have g10 := g8.2.2 c
      refine v_iload_n (i := 1) C dX12_join_16 rfl rfl ?_
      refine v_iload_n (i := 2) C dX12_join_17 rfl rfl ?_
      refine v_icmp_ne (tgt := 23) C g10.1 g10.2.1 dX12_join_18 (by decide) (fun c => ?_) (fun c => ?_)
      · have g11 := g10.2.2.1 c
        refine v_aload_n (i := 0) C dX12_join_23 rfl rfl ?_
        refine v_getf (k := 44) C fl_RX12_7 rfl rfl dX12_join_24 ?_
        show Aj E l z (24 + 3) [(0, vr 44), (1, vi x1), (2, vi x2)] [vr 45] M6
        refine v_bipush C dX12_join_27 (by decide) ?_
        refine v_iload_n (i := 1) C dX12_join_29 rfl rfl ?_
        refine v_iadd C dX12_join_30 ?_
        refine v_iald (k := 45) C rfl g11.1 g11.2.1 dX12_join_31 ?_
        show Aj E l z (31 + 1) [(0, vr 44), (1, vi x1), (2, vi x2)] [vi (M6 45 (15 + x1).toNat)] M6
        obtain ⟨y13, hy13⟩ : ∃ y : Int, y = M6 45 (15 + x1).toNat := ⟨_, rfl⟩
        have g14 := g11.2.2 y13 hy13
        refine v_eqi hy13 ?_
        refine v_istore_n (L' := [(3, vi y13), (0, vr 44), (1, vi x1), (2, vi x2)]) C dX12_join_32 rfl (by decide) rfl ?_
        refine v_aload_n (i := 1) C dX12_join_33 rfl rfl ?_
        refine v_getf (k := 44) C fl_RX12_7 rfl rfl dX12_join_34 ?_
        show Aj E l z (34 + 3) [(3, vi y13), (0, vr 44), (1, vi x1), (2, vi x2)] [vr 45] M6
        refine v_bipush C dX12_join_37 (by decide) ?_
        refine v_iload_n (i := 3) C dX12_join_39 rfl rfl ?_
        refine v_iadd C dX12_join_40 ?_
        refine v_iald (k := 45) C rfl g14.1 g14.2.1 dX12_join_41 ?_
        show Aj E l z (41 + 1) [(3, vi y13), (0, vr 44), (1, vi x1), (2, vi x2)] [vi (M6 45 (15 + x2).toNat)] M6
        obtain ⟨y15, hy15⟩ : ∃ y : Int, y = M6 45 (15 + x2).toNat := ⟨_, rfl⟩
        have g16 := g14.2.2 y15 hy15
        refine v_eqi hy15 ?_
        refine v_istore (L' := [(4, vi y15), (3, vi y13), (0, vr 44), (1, vi x1), (2, vi x2)]) C dX12_join_42 (by decide) rfl ?_
        refine v_aload_n (i := 2) C dX12_join_44 rfl rfl ?_
        refine v_getf (k := 44) C fl_RX12_7 rfl rfl dX12_join_45 ?_
        show Aj E l z (45 + 3) [(4, vi y15), (3, vi y13), (0, vr 44), (1, vi x1), (2, vi x2)] [vr 45] M6
        refine v_bipush C dX12_join_48 (by decide) ?_
        refine v_iload_n (i := 3) C dX12_join_50 rfl rfl ?_
        refine v_iadd C dX12_join_51 ?_
        refine v_iald (k := 45) C rfl g16.1 g16.2.1 dX12_join_52 ?_
        show Aj E l z (52 + 1) [(4, vi y15), (3, vi y13), (0, vr 44), (1, vi x1), (2, vi x2)] [vi (M6 45 (7 + x1).toNat)] M6
        refine v_aload_n (i := 2) C dX12_join_53 rfl rfl ?_
        refine v_getf (k := 44) C fl_RX12_7 rfl rfl dX12_join_54 ?_
        show Aj E l z (54 + 3) [(4, vi y15), (3, vi y13), (0, vr 44), (1, vi x1), (2, vi x2)] [vr 45, vi (M6 45 (7 + x1).toNat)] M6
        refine v_bipush C dX12_join_57 (by decide) ?_
        refine v_iload_n (i := 4) C dX12_join_59 rfl rfl ?_
        refine v_iadd C dX12_join_60 ?_
        refine v_iald (k := 45) C rfl g16.2.2.1 g16.2.2.2.1 dX12_join_61 ?_
        show Aj E l z (61 + 1) [(4, vi y15), (3, vi y13), (0, vr 44), (1, vi x1), (2, vi x2)] [vi (M6 45 (7 + x2).toNat), vi (M6 45 (7 + x1).toNat)] M6
        refine v_icmp_ne (tgt := 74) C g16.2.2.2.2.1 g16.2.2.2.2.2.1 dX12_join_62 (by decide) (fun c => ?_) (fun c => ?_)
        · have g17 := g16.2.2.2.2.2.2.1 c
          refine v_bipush C dX12_join_74 (by decide) ?_
          exact v_iret C r dX12_join_76 g17
        · have g18 := g16.2.2.2.2.2.2.2 c
          refine v_iload_n (i := 1) C dX12_join_65 rfl rfl ?_
          refine v_if_eq (tgt := 74) C g18.1 dX12_join_66 (by decide) (fun c => ?_) (fun c => ?_)
          · have g19 := g18.2.1 c
            refine v_bipush C dX12_join_74 (by decide) ?_
            exact v_iret C r dX12_join_76 g19
          · have g20 := g18.2.2 c
            refine v_iload (i := 0) C dX12_join_69 rfl ?_
            refine v_if_ne (tgt := 77) C g20.1 dX12_join_71 (by decide) (fun c => ?_) (fun c => ?_)
            · have g21 := g20.2.1 c
              refine v_lconst (x := 0) C dX12_join_77 (by decide) ?_
              refine v_iload_n (i := 1) C dX12_join_78 rfl rfl ?_
              refine v_iload (i := 0) C dX12_join_79 rfl ?_
              refine v_iadd C dX12_join_81 ?_
              refine v_aload_n (i := 2) C dX12_join_82 rfl rfl ?_
              refine v_aload_n (i := 2) C dX12_join_83 rfl rfl ?_
              refine v_getf (k := 44) C fl_RX12_7 rfl rfl dX12_join_84 ?_
              show Aj E l z (84 + 3) [(4, vi y15), (3, vi y13), (0, vr 44), (1, vi x1), (2, vi x2)] [vr 45, vr 44, vi (y13 + y15), vj 0] M6
              refine v_bipush C dX12_join_87 (by decide) ?_
              refine v_iload_n (i := 3) C dX12_join_89 rfl rfl ?_
              refine v_iadd C dX12_join_90 ?_
              refine v_iald (k := 45) C rfl g21.1 g21.2.1 dX12_join_91 ?_
              show Aj E l z (91 + 1) [(4, vi y15), (3, vi y13), (0, vr 44), (1, vi x1), (2, vi x2)] [vi (M6 45 (7 + x1).toNat), vr 44, vi (y13 + y15), vj 0] M6
              refine v_callV (q := qX12_seamOf) (k := 44) (As := [vi (M6 45 (7 + x1).toNat)]) (S := [vi (y13 + y15), vj 0]) C co_yX12_seamOf ml_RX12_107 im_yX12_seamOf se_yX12_seamOf ini_RX12 rfl rfl hq_X12_seamOf (by decide) (Nat.le_of_ble_eq_true rfl) rfl dX12_join_92 (Con.mono g21.2.2 (fun rr M23 hr => ?_) (Nat.le_refl _))
              obtain ⟨y24, rfl, g25⟩ := hr
              show Aj E l z (92 + 3) [(4, vi y15), (3, vi y13), (0, vr 44), (1, vi x1), (2, vi x2)] [vi y24, vi (y13 + y15), vj 0] M23
              refine v_isub C dX12_join_95 ?_
              refine v_i2l C g25.1 dX12_join_96 ?_
              refine v_callS (q := qX12_greater) (As := [vj 0, vj ((y13 + y15) - y24)]) (S := []) C co_yX12_greater ml_RX12_63 st_yX12_greater ini_RX12 hq_X12_greater (by decide) (Nat.le_of_ble_eq_true rfl) rfl dX12_join_97 (Con.mono g25.2 (fun rr M26 hr => ?_) (Nat.le_refl _))
              obtain ⟨y27, rfl, g28⟩ := hr
              show Aj E l z (97 + 3) [(4, vi y15), (3, vi y13), (0, vr 44), (1, vi x1), (2, vi x2)] [vj y27] M26
              refine v_l2i C dX12_join_100 ?_
              obtain ⟨y29, hy29⟩ : ∃ y : Int, y = w32 y27 := ⟨_, rfl⟩
              have g30 := g28 y29 hy29
              refine v_eqi hy29 ?_
              refine v_istore (L' := [(5, vi y29), (4, vi y15), (3, vi y13), (0, vr 44), (1, vi x1), (2, vi x2)]) C dX12_join_101 (by decide) rfl ?_
              refine v_iload (i := 0) C dX12_join_103 rfl ?_
              refine v_ldc (x := 99999) C cs_RX12_111 (by decide) dX12_join_105 ?_
              refine v_icmp_le (tgt := 113) C g30.1 (by decide) dX12_join_107 (by decide) (fun c => ?_) (fun c => ?_)
              · have g31 := g30.2.1 c
                refine v_aload_n (i := 3) C dX12_join_113 rfl rfl ?_
                refine v_getf (k := 44) C fl_RX12_7 rfl rfl dX12_join_114 ?_
                show Aj E l z (114 + 3) [(5, vi y29), (4, vi y15), (3, vi y13), (0, vr 44), (1, vi x1), (2, vi x2)] [vr 45] M26
                refine v_bipush C dX12_join_117 (by decide) ?_
                refine v_iload_n (i := 4) C dX12_join_119 rfl rfl ?_
                refine v_iadd C dX12_join_120 ?_
                refine v_iload (i := 0) C dX12_join_121 rfl ?_
                refine v_iast (k := 45) C rfl g31.1 g31.2.1 dX12_join_123 ?_
                obtain ⟨M33, hM33⟩ : ∃ X : MM, X = up M26 45 (15 + x1).toNat y29 := ⟨_, rfl⟩
                refine v_eqM hM33 ?_
                have g34 := g31.2.2 M33 hM33
                refine v_aload_n (i := 3) C dX12_join_124 rfl rfl ?_
                refine v_getf (k := 44) C fl_RX12_7 rfl rfl dX12_join_125 ?_
                show Aj E l z (125 + 3) [(5, vi y29), (4, vi y15), (3, vi y13), (0, vr 44), (1, vi x1), (2, vi x2)] [vr 45] M33
                refine v_bipush C dX12_join_128 (by decide) ?_
                refine v_iload_n (i := 5) C dX12_join_130 rfl rfl ?_
                refine v_iadd C dX12_join_131 ?_
                refine v_iconst C dX12_join_132 ?_
                refine v_iast (k := 45) C rfl g34.1 g34.2.1 dX12_join_133 ?_
                obtain ⟨M35, hM35⟩ : ∃ X : MM, X = up M33 45 (15 + x2).toNat 0 := ⟨_, rfl⟩
                refine v_eqM hM35 ?_
                have g36 := g34.2.2 M35 hM35
                refine v_iload (i := 0) C dX12_join_134 rfl ?_
                exact v_iret C r dX12_join_136 g36
              · have g32 := g30.2.2 c
                refine v_bipush C dX12_join_110 (by decide) ?_
                exact v_iret C r dX12_join_112 g32
            · have g22 := g20.2.2 c
              refine v_bipush C dX12_join_74 (by decide) ?_
              exact v_iret C r dX12_join_76 g22
      · have g12 := g10.2.2.2 c
        refine v_iconst C dX12_join_21 ?_
        exact v_iret C r dX12_join_22 g12
theorem RX12_join {E : FX} {l : Launch} {D : Nat} {post : Option AV → MM → Prop} {M : MM} {x1 : Int} {x2 : Int} (h0 : VX12_join_0 E l D post M x1 x2) : Con E l (D + 1) qX12_join [vr 44, vi x1, vi x2] M post := by
  refine con_of (by decide +kernel) (Nat.le_of_ble_eq_true rfl) (fun z C r => ?_)
  exact v_sub [0, 1, 2] rfl (SX12_join_0 C r h0)
def VX12_type_0 (E : FX) (l : Launch) (D : Nat) (post : Option AV → MM → Prop) (J17 : MM → Int → Int → Int → Prop) (J73 : MM → Int → Int → Prop) (M : MM) (x1 : Int) (x3 : Int) : Prop :=
  R32 x3 ∧ (Con E l D qX12_in [vj x3, vj 1, vj 8] M (fun r M1 => ∃ y2 : Int, r = some (vi y2) ∧ (R32 y2 ∧ ((¬ y2 = 0 → J17 M1 x1 x3 0) ∧ (y2 = 0 → post (some (vi (-1))) M1)))))
set_option maxRecDepth 20000 in
theorem SX12_type_0 {E : FX} {l : Launch} {D : Nat} {post : Option AV → MM → Prop} {z : RT} {J17 : MM → Int → Int → Int → Prop} {J73 : MM → Int → Int → Prop} (C : Cx E z D RX12 cX12_type 5) (r : Rt E z (some .int) post) (hJ17 : ∀ (M : MM) (x1 : Int) (x3 : Int) (x4 : Int), J17 M x1 x3 x4 → Aj E l z 17 [(0, vr 44), (1, vj x1), (3, vi x3), (4, vi x4)] [] M) (hJ73 : ∀ (M : MM) (x1 : Int) (x4 : Int), J73 M x1 x4 → Aj E l z 73 [(0, vr 44), (1, vj x1), (4, vi x4)] [] M) {M : MM} {x1 : Int} {x3 : Int} (h : VX12_type_0 E l D post J17 J73 M x1 x3) : Aj E l z 0 [(0, vr 44), (1, vj x1), (3, vi x3)] [] M := by
  unfold VX12_type_0 at h
  refine v_iload_n (i := 2) C dX12_type_0 rfl rfl ?_
  refine v_i2l C h.1 dX12_type_1 ?_
  refine v_lconst (x := 1) C dX12_type_2 (by decide) ?_
  refine v_ldc2 (x := 8) C cs_RX12_112 (by decide) dX12_type_3 ?_
  refine v_callS (q := qX12_in) (As := [vj x3, vj 1, vj 8]) (S := []) C co_yX12_in ml_RX12_71 st_yX12_in ini_RX12 hq_X12_in (by decide) (Nat.le_of_ble_eq_true rfl) rfl dX12_type_6 (Con.mono h.2 (fun rr M1 hr => ?_) (Nat.le_refl _))
  obtain ⟨y2, rfl, g3⟩ := hr
  show Aj E l z (6 + 3) [(0, vr 44), (1, vj x1), (3, vi x3)] [vi y2] M1
  refine v_if_ne (tgt := 14) C g3.1 dX12_type_9 (by decide) (fun c => ?_) (fun c => ?_)
  · have g4 := g3.2.1 c
    refine v_iconst C dX12_type_14 ?_
    refine v_istore (L' := [(4, vi 0), (0, vr 44), (1, vj x1), (3, vi x3)]) C dX12_type_15 (by decide) rfl ?_
    exact v_sub [1, 2, 3, 0] rfl (hJ17 _ _ _ _ g4)
  · have g5 := g3.2.2 c
    refine v_iconst C dX12_type_12 ?_
    exact v_iret C r dX12_type_13 g5
def VX12_type_17 (E : FX) (l : Launch) (D : Nat) (post : Option AV → MM → Prop) (J17 : MM → Int → Int → Int → Prop) (J73 : MM → Int → Int → Prop) (M : MM) (x1 : Int) (x3 : Int) (x4 : Int) : Prop :=
  R32 x4 ∧ (R32 x3 ∧ ((x3 ≤ x4 → R32 ((M 44 3) + x3) ∧ (((M 44 3) + x3 ≤ 40 → ∀ y10 : Int, y10 = x3 - 1 → (J73 M x1 y10)) ∧ (¬ (M 44 3) + x3 ≤ 40 → post (some (vi (-3))) M))) ∧ (¬ x3 ≤ x4 → Con E l D qX12_in [vj (jand (jshr x1 (8 * x4)) 255), vj 32, vj 126] M (fun r M12 => ∃ y13 : Int, r = some (vi y13) ∧ (R32 y13 ∧ ((¬ y13 = 0 → ∀ y17 : Int, y17 = x4 + 1 → (J17 M12 x1 x3 y17)) ∧ (y13 = 0 → post (some (vi (-1))) M12)))))))
set_option maxRecDepth 20000 in
theorem SX12_type_17 {E : FX} {l : Launch} {D : Nat} {post : Option AV → MM → Prop} {z : RT} {J17 : MM → Int → Int → Int → Prop} {J73 : MM → Int → Int → Prop} (C : Cx E z D RX12 cX12_type 5) (r : Rt E z (some .int) post) (hJ17 : ∀ (M : MM) (x1 : Int) (x3 : Int) (x4 : Int), J17 M x1 x3 x4 → Aj E l z 17 [(0, vr 44), (1, vj x1), (3, vi x3), (4, vi x4)] [] M) (hJ73 : ∀ (M : MM) (x1 : Int) (x4 : Int), J73 M x1 x4 → Aj E l z 73 [(0, vr 44), (1, vj x1), (4, vi x4)] [] M) {M : MM} {x1 : Int} {x3 : Int} {x4 : Int} (h : VX12_type_17 E l D post J17 J73 M x1 x3 x4) : Aj E l z 17 [(0, vr 44), (1, vj x1), (3, vi x3), (4, vi x4)] [] M := by
  unfold VX12_type_17 at h
  refine v_iload (i := 3) C dX12_type_17 rfl ?_
  refine v_iload_n (i := 2) C dX12_type_19 rfl rfl ?_
  refine v_icmp_ge (tgt := 54) C h.1 h.2.1 dX12_type_20 (by decide) (fun c => ?_) (fun c => ?_)
  · have g6 := h.2.2.1 c
    refine v_aload_n (i := 0) C dX12_type_54 rfl rfl ?_
    refine v_getf (k := 44) C fl_RX12_120 rfl rfl dX12_type_55 ?_
    show Aj E l z (55 + 3) [(0, vr 44), (1, vj x1), (3, vi x3), (4, vi x4)] [vi (M 44 3)] M
    refine v_iload_n (i := 2) C dX12_type_58 rfl rfl ?_
    refine v_iadd C dX12_type_59 ?_
    refine v_bipush C dX12_type_60 (by decide) ?_
    refine v_icmp_le (tgt := 68) C g6.1 (by decide) dX12_type_62 (by decide) (fun c => ?_) (fun c => ?_)
    · have g8 := g6.2.1 c
      refine v_iload_n (i := 2) C dX12_type_68 rfl rfl ?_
      refine v_iconst C dX12_type_69 ?_
      refine v_isub C dX12_type_70 ?_
      obtain ⟨y10, hy10⟩ : ∃ y : Int, y = x3 - 1 := ⟨_, rfl⟩
      have g11 := g8 y10 hy10
      refine v_eqi hy10 ?_
      refine v_istore (L' := [(4, vi y10), (0, vr 44), (1, vj x1), (3, vi x3)]) C dX12_type_71 (by decide) rfl ?_
      exact v_sub [1, 2, 0] rfl (hJ73 _ _ _ g11)
    · have g9 := g6.2.2 c
      refine v_bipush C dX12_type_65 (by decide) ?_
      exact v_iret C r dX12_type_67 g9
  · have g7 := h.2.2.2 c
    refine v_lload_n (i := 1) C dX12_type_23 rfl rfl ?_
    refine v_bipush C dX12_type_24 (by decide) ?_
    refine v_iload (i := 3) C dX12_type_26 rfl ?_
    refine v_imul C dX12_type_28 ?_
    refine v_lshr C dX12_type_29 ?_
    refine v_ldc2 (x := 255) C cs_RX12_114 (by decide) dX12_type_30 ?_
    refine v_land C dX12_type_33 ?_
    refine v_ldc2 (x := 32) C cs_RX12_116 (by decide) dX12_type_34 ?_
    refine v_ldc2 (x := 126) C cs_RX12_118 (by decide) dX12_type_37 ?_
    refine v_callS (q := qX12_in) (As := [vj (jand (jshr x1 (8 * x4)) 255), vj 32, vj 126]) (S := []) C co_yX12_in ml_RX12_71 st_yX12_in ini_RX12 hq_X12_in (by decide) (Nat.le_of_ble_eq_true rfl) rfl dX12_type_40 (Con.mono g7 (fun rr M12 hr => ?_) (Nat.le_refl _))
    obtain ⟨y13, rfl, g14⟩ := hr
    show Aj E l z (40 + 3) [(0, vr 44), (1, vj x1), (3, vi x3), (4, vi x4)] [vi y13] M12
    refine v_if_ne (tgt := 48) C g14.1 dX12_type_43 (by decide) (fun c => ?_) (fun c => ?_)
    · have g15 := g14.2.1 c
      obtain ⟨y17, hy17⟩ : ∃ y : Int, y = x4 + 1 := ⟨_, rfl⟩
      have g18 := g15 y17 hy17
      refine v_iinc (i := 3) (L' := [(4, vi y17), (0, vr 44), (1, vj x1), (3, vi x3)]) C dX12_type_48 rfl (by decide) hy17 rfl ?_
      refine v_goto C dX12_type_51 (tgt := 17) (by decide) ?_
      exact v_sub [1, 2, 3, 0] rfl (hJ17 _ _ _ _ g18)
    · have g16 := g14.2.2 c
      refine v_iconst C dX12_type_46 ?_
      exact v_iret C r dX12_type_47 g16
def VX12_type_73 (E : FX) (l : Launch) (D : Nat) (post : Option AV → MM → Prop) (J17 : MM → Int → Int → Int → Prop) (J73 : MM → Int → Int → Prop) (M : MM) (x1 : Int) (x4 : Int) : Prop :=
  R32 x4 ∧ ((x4 < 0 → post (some (vi (M 44 3))) M) ∧ (¬ x4 < 0 → 0 ≤ M 44 3 ∧ (M 44 3 < 40 ∧ (∀ M21 : MM, M21 = up M 46 (M 44 3).toNat (w32 (jand (jshr x1 (8 * x4)) 255)) → (∀ M23 : MM, M23 = up M21 44 3 ((M21 44 3) + 1) → (∀ y25 : Int, y25 = x4 + (-1) → (J73 M23 x1 y25)))))))
set_option maxRecDepth 20000 in
theorem SX12_type_73 {E : FX} {l : Launch} {D : Nat} {post : Option AV → MM → Prop} {z : RT} {J17 : MM → Int → Int → Int → Prop} {J73 : MM → Int → Int → Prop} (C : Cx E z D RX12 cX12_type 5) (r : Rt E z (some .int) post) (hJ17 : ∀ (M : MM) (x1 : Int) (x3 : Int) (x4 : Int), J17 M x1 x3 x4 → Aj E l z 17 [(0, vr 44), (1, vj x1), (3, vi x3), (4, vi x4)] [] M) (hJ73 : ∀ (M : MM) (x1 : Int) (x4 : Int), J73 M x1 x4 → Aj E l z 73 [(0, vr 44), (1, vj x1), (4, vi x4)] [] M) {M : MM} {x1 : Int} {x4 : Int} (h : VX12_type_73 E l D post J17 J73 M x1 x4) : Aj E l z 73 [(0, vr 44), (1, vj x1), (4, vi x4)] [] M := by
  unfold VX12_type_73 at h
  refine v_iload (i := 2) C dX12_type_73 rfl ?_
  refine v_if_lt (tgt := 115) C h.1 dX12_type_75 (by decide) (fun c => ?_) (fun c => ?_)
  · have g19 := h.2.1 c
    refine v_aload_n (i := 0) C dX12_type_115 rfl rfl ?_
    refine v_getf (k := 44) C fl_RX12_120 rfl rfl dX12_type_116 ?_
    show Aj E l z (116 + 3) [(0, vr 44), (1, vj x1), (4, vi x4)] [vi (M 44 3)] M
    exact v_iret C r dX12_type_119 g19
  · have g20 := h.2.2 c
    refine v_aload_n (i := 0) C dX12_type_78 rfl rfl ?_
    refine v_getf (k := 44) C fl_RX12_13 rfl rfl dX12_type_79 ?_
    show Aj E l z (79 + 3) [(0, vr 44), (1, vj x1), (4, vi x4)] [vr 46] M
    refine v_aload_n (i := 0) C dX12_type_82 rfl rfl ?_
    refine v_getf (k := 44) C fl_RX12_120 rfl rfl dX12_type_83 ?_
    show Aj E l z (83 + 3) [(0, vr 44), (1, vj x1), (4, vi x4)] [vi (M 44 3), vr 46] M
    refine v_lload_n (i := 1) C dX12_type_86 rfl rfl ?_
    refine v_bipush C dX12_type_87 (by decide) ?_
    refine v_iload (i := 2) C dX12_type_89 rfl ?_
    refine v_imul C dX12_type_91 ?_
    refine v_lshr C dX12_type_92 ?_
    refine v_ldc2 (x := 255) C cs_RX12_114 (by decide) dX12_type_93 ?_
    refine v_land C dX12_type_96 ?_
    refine v_l2i C dX12_type_97 ?_
    refine v_iast (k := 46) C rfl g20.1 g20.2.1 dX12_type_98 ?_
    obtain ⟨M21, hM21⟩ : ∃ X : MM, X = up M 46 (M 44 3).toNat (w32 (jand (jshr x1 (8 * x4)) 255)) := ⟨_, rfl⟩
    refine v_eqM hM21 ?_
    have g22 := g20.2.2 M21 hM21
    refine v_aload_n (i := 0) C dX12_type_99 rfl rfl ?_
    refine v_dup C rfl dX12_type_100 ?_
    refine v_getf (k := 44) C fl_RX12_120 rfl rfl dX12_type_101 ?_
    show Aj E l z (101 + 3) [(0, vr 44), (1, vj x1), (4, vi x4)] [vi (M21 44 3), vr 44] M21
    refine v_iconst C dX12_type_104 ?_
    refine v_iadd C dX12_type_105 ?_
    refine v_putf (k := 44) (x := (M21 44 3) + 1) (t := 0) C fp_RX12_120 rfl rfl (by decide) (by simp [fv, up]) rfl rfl dX12_type_106 ?_
    obtain ⟨M23, hM23⟩ : ∃ X : MM, X = up M21 44 3 ((M21 44 3) + 1) := ⟨_, rfl⟩
    refine v_eqM hM23 ?_
    have g24 := g22 M23 hM23
    obtain ⟨y25, hy25⟩ : ∃ y : Int, y = x4 + (-1) := ⟨_, rfl⟩
    have g26 := g24 y25 hy25
    refine v_iinc (i := 2) (L' := [(4, vi y25), (0, vr 44), (1, vj x1)]) C dX12_type_109 rfl (by decide) hy25 rfl ?_
    refine v_goto C dX12_type_112 (tgt := 73) (by decide) ?_
    exact v_sub [1, 2, 0] rfl (hJ73 _ _ _ g26)
theorem RX12_type {E : FX} {l : Launch} {D : Nat} {post : Option AV → MM → Prop} (I17 : MM → Int → Int → Int → Prop) (m17 : MM → Int → Int → Int → Nat) (I73 : MM → Int → Int → Prop) (m73 : MM → Int → Int → Nat) {M : MM} {x1 : Int} {x3 : Int} (h0 : VX12_type_0 E l D post I17 I73 M x1 x3) (h17I : ∀ (M : MM) (x1 : Int) (x3 : Int) (x4 : Int), I17 M x1 x3 x4 → VX12_type_17 E l D post (fun M' x1' x3' x4' => I17 M' x1' x3' x4' ∧ m17 M' x1' x3' x4' < m17 M x1 x3 x4) (fun M' x1' x4' => I73 M' x1' x4' ∧ m73 M' x1' x4' < m17 M x1 x3 x4) M x1 x3 x4) (h73I : ∀ (M : MM) (x1 : Int) (x4 : Int), I73 M x1 x4 → VX12_type_73 E l D post (fun M' x1' x3' x4' => I17 M' x1' x3' x4' ∧ m17 M' x1' x3' x4' < m73 M x1 x4) (fun M' x1' x4' => I73 M' x1' x4' ∧ m73 M' x1' x4' < m73 M x1 x4) M x1 x4) : Con E l (D + 1) qX12_type [vr 44, vj x1, vi x3] M post := by
  refine con_of (by decide +kernel) (Nat.le_of_ble_eq_true rfl) (fun z C r => ?_)
  have all : ∀ n : Nat, (∀ (M : MM) (x1 : Int) (x3 : Int) (x4 : Int), I17 M x1 x3 x4 → m17 M x1 x3 x4 < n → Aj E l z 17 [(0, vr 44), (1, vj x1), (3, vi x3), (4, vi x4)] [] M) ∧ (∀ (M : MM) (x1 : Int) (x4 : Int), I73 M x1 x4 → m73 M x1 x4 < n → Aj E l z 73 [(0, vr 44), (1, vj x1), (4, vi x4)] [] M) := by
    intro n
    induction n with
    | zero => exact ⟨fun _ _ _ _ _ hm => absurd hm (Nat.not_lt_zero _), fun _ _ _ _ hm => absurd hm (Nat.not_lt_zero _)⟩
    | succ n ih => exact ⟨fun M x1 x3 x4 hi hm => SX12_type_17 C r (fun M' x1' x3' x4' hj => ih.1 M' x1' x3' x4' hj.1 (by omega)) (fun M' x1' x4' hj => ih.2 M' x1' x4' hj.1 (by omega)) (h17I M x1 x3 x4 hi), fun M x1 x4 hi hm => SX12_type_73 C r (fun M' x1' x3' x4' hj => ih.1 M' x1' x3' x4' hj.1 (by omega)) (fun M' x1' x4' hj => ih.2 M' x1' x4' hj.1 (by omega)) (h73I M x1 x4 hi)⟩
  exact v_sub [0, 1, 2] rfl (SX12_type_0 C r (fun M' x1' x3' x4' hj => (all _).1 M' x1' x3' x4' hj (Nat.lt_succ_self _)) (fun M' x1' x4' hj => (all _).2 M' x1' x4' hj (Nat.lt_succ_self _)) h0)
def VX12_ahead_62 (E : FX) (l : Launch) (D : Nat) (post : Option AV → MM → Prop) (J0 : MM → Prop) (M : MM) (s0 : Int) : Prop :=
  post (some (vi s0)) M
set_option maxRecDepth 20000 in
theorem SX12_ahead_62 {E : FX} {l : Launch} {D : Nat} {post : Option AV → MM → Prop} {z : RT} {J0 : MM → Prop} (C : Cx E z D RX12 cX12_ahead 1) (r : Rt E z (some .int) post) (hJ0 : ∀ (M : MM), J0 M → Aj E l z 0 [(0, vr 44)] [] M) {M : MM} {s0 : Int} (h : VX12_ahead_62 E l D post J0 M s0) : Aj E l z 62 [] [vi s0] M := by
  unfold VX12_ahead_62 at h
  exact v_iret C r dX12_ahead_62 h
def VX12_ahead_38 (E : FX) (l : Launch) (D : Nat) (post : Option AV → MM → Prop) (J0 : MM → Prop) (M : MM) : Prop :=
  R32 (M 44 7) ∧ (R32 (M 44 3) ∧ ((M 44 3 ≤ M 44 7 → VX12_ahead_62 E l D post J0 M (-1)) ∧ (¬ M 44 3 ≤ M 44 7 → 0 ≤ M 44 7 ∧ (M 44 7 < 40 ∧ (VX12_ahead_62 E l D post J0 M (M 46 (M 44 7).toNat))))))
set_option maxRecDepth 20000 in
theorem SX12_ahead_38 {E : FX} {l : Launch} {D : Nat} {post : Option AV → MM → Prop} {z : RT} {J0 : MM → Prop} (C : Cx E z D RX12 cX12_ahead 1) (r : Rt E z (some .int) post) (hJ0 : ∀ (M : MM), J0 M → Aj E l z 0 [(0, vr 44)] [] M) {M : MM} (h : VX12_ahead_38 E l D post J0 M) : Aj E l z 38 [(0, vr 44)] [] M := by
  unfold VX12_ahead_38 at h
  refine v_aload_n (i := 0) C dX12_ahead_38 rfl rfl ?_
  refine v_getf (k := 44) C fl_RX12_123 rfl rfl dX12_ahead_39 ?_
  show Aj E l z (39 + 3) [(0, vr 44)] [vi (M 44 7)] M
  refine v_aload_n (i := 0) C dX12_ahead_42 rfl rfl ?_
  refine v_getf (k := 44) C fl_RX12_120 rfl rfl dX12_ahead_43 ?_
  show Aj E l z (43 + 3) [(0, vr 44)] [vi (M 44 3), vi (M 44 7)] M
  refine v_icmp_ge (tgt := 61) C h.1 h.2.1 dX12_ahead_46 (by decide) (fun c => ?_) (fun c => ?_)
  · have g1 := h.2.2.1 c
    refine v_iconst C dX12_ahead_61 ?_
    exact v_sub [] rfl (SX12_ahead_62 C r hJ0 g1)
  · have g2 := h.2.2.2 c
    refine v_aload_n (i := 0) C dX12_ahead_49 rfl rfl ?_
    refine v_getf (k := 44) C fl_RX12_13 rfl rfl dX12_ahead_50 ?_
    show Aj E l z (50 + 3) [(0, vr 44)] [vr 46] M
    refine v_aload_n (i := 0) C dX12_ahead_53 rfl rfl ?_
    refine v_getf (k := 44) C fl_RX12_123 rfl rfl dX12_ahead_54 ?_
    show Aj E l z (54 + 3) [(0, vr 44)] [vi (M 44 7), vr 46] M
    refine v_iald (k := 46) C rfl g2.1 g2.2.1 dX12_ahead_57 ?_
    show Aj E l z (57 + 1) [(0, vr 44)] [vi (M 46 (M 44 7).toNat)] M
    refine v_goto C dX12_ahead_58 (tgt := 62) (by decide) ?_
    exact v_sub [] rfl (SX12_ahead_62 C r hJ0 g2.2.2)
def VX12_ahead_0 (E : FX) (l : Launch) (D : Nat) (post : Option AV → MM → Prop) (J0 : MM → Prop) (M : MM) : Prop :=
  R32 (M 44 7) ∧ (R32 (M 44 3) ∧ ((M 44 3 ≤ M 44 7 → R32 (M 44 7) ∧ (R32 (M 44 3) ∧ ((M 44 3 ≤ M 44 7 → VX12_ahead_62 E l D post J0 M (-1)) ∧ (¬ M 44 3 ≤ M 44 7 → 0 ≤ M 44 7 ∧ (M 44 7 < 40 ∧ (VX12_ahead_62 E l D post J0 M (M 46 (M 44 7).toNat))))))) ∧ (¬ M 44 3 ≤ M 44 7 → 0 ≤ M 44 7 ∧ (M 44 7 < 40 ∧ (R32 (M 46 (M 44 7).toNat) ∧ ((¬ M 46 (M 44 7).toNat = 32 → R32 (M 44 7) ∧ (R32 (M 44 3) ∧ ((M 44 3 ≤ M 44 7 → VX12_ahead_62 E l D post J0 M (-1)) ∧ (¬ M 44 3 ≤ M 44 7 → 0 ≤ M 44 7 ∧ (M 44 7 < 40 ∧ (VX12_ahead_62 E l D post J0 M (M 46 (M 44 7).toNat))))))) ∧ (M 46 (M 44 7).toNat = 32 → ∀ M11 : MM, M11 = up M 44 7 ((M 44 7) + 1) → (J0 M11 ))))))))
set_option maxRecDepth 20000 in
theorem SX12_ahead_0 {E : FX} {l : Launch} {D : Nat} {post : Option AV → MM → Prop} {z : RT} {J0 : MM → Prop} (C : Cx E z D RX12 cX12_ahead 1) (r : Rt E z (some .int) post) (hJ0 : ∀ (M : MM), J0 M → Aj E l z 0 [(0, vr 44)] [] M) {M : MM} (h : VX12_ahead_0 E l D post J0 M) : Aj E l z 0 [(0, vr 44)] [] M := by
  unfold VX12_ahead_0 at h
  refine v_aload_n (i := 0) C dX12_ahead_0 rfl rfl ?_
  refine v_getf (k := 44) C fl_RX12_123 rfl rfl dX12_ahead_1 ?_
  show Aj E l z (1 + 3) [(0, vr 44)] [vi (M 44 7)] M
  refine v_aload_n (i := 0) C dX12_ahead_4 rfl rfl ?_
  refine v_getf (k := 44) C fl_RX12_120 rfl rfl dX12_ahead_5 ?_
  show Aj E l z (5 + 3) [(0, vr 44)] [vi (M 44 3), vi (M 44 7)] M
  refine v_icmp_ge (tgt := 38) C h.1 h.2.1 dX12_ahead_8 (by decide) (fun c => ?_) (fun c => ?_)
  · have g3 := h.2.2.1 c
    refine v_aload_n (i := 0) C dX12_ahead_38 rfl rfl ?_
    refine v_getf (k := 44) C fl_RX12_123 rfl rfl dX12_ahead_39 ?_
    show Aj E l z (39 + 3) [(0, vr 44)] [vi (M 44 7)] M
    refine v_aload_n (i := 0) C dX12_ahead_42 rfl rfl ?_
    refine v_getf (k := 44) C fl_RX12_120 rfl rfl dX12_ahead_43 ?_
    show Aj E l z (43 + 3) [(0, vr 44)] [vi (M 44 3), vi (M 44 7)] M
    refine v_icmp_ge (tgt := 61) C g3.1 g3.2.1 dX12_ahead_46 (by decide) (fun c => ?_) (fun c => ?_)
    · have g5 := g3.2.2.1 c
      refine v_iconst C dX12_ahead_61 ?_
      exact v_sub [] rfl (SX12_ahead_62 C r hJ0 g5)
    · have g6 := g3.2.2.2 c
      refine v_aload_n (i := 0) C dX12_ahead_49 rfl rfl ?_
      refine v_getf (k := 44) C fl_RX12_13 rfl rfl dX12_ahead_50 ?_
      show Aj E l z (50 + 3) [(0, vr 44)] [vr 46] M
      refine v_aload_n (i := 0) C dX12_ahead_53 rfl rfl ?_
      refine v_getf (k := 44) C fl_RX12_123 rfl rfl dX12_ahead_54 ?_
      show Aj E l z (54 + 3) [(0, vr 44)] [vi (M 44 7), vr 46] M
      refine v_iald (k := 46) C rfl g6.1 g6.2.1 dX12_ahead_57 ?_
      show Aj E l z (57 + 1) [(0, vr 44)] [vi (M 46 (M 44 7).toNat)] M
      refine v_goto C dX12_ahead_58 (tgt := 62) (by decide) ?_
      exact v_sub [] rfl (SX12_ahead_62 C r hJ0 g6.2.2)
  · have g4 := h.2.2.2 c
    refine v_aload_n (i := 0) C dX12_ahead_11 rfl rfl ?_
    refine v_getf (k := 44) C fl_RX12_13 rfl rfl dX12_ahead_12 ?_
    show Aj E l z (12 + 3) [(0, vr 44)] [vr 46] M
    refine v_aload_n (i := 0) C dX12_ahead_15 rfl rfl ?_
    refine v_getf (k := 44) C fl_RX12_123 rfl rfl dX12_ahead_16 ?_
    show Aj E l z (16 + 3) [(0, vr 44)] [vi (M 44 7), vr 46] M
    refine v_iald (k := 46) C rfl g4.1 g4.2.1 dX12_ahead_19 ?_
    show Aj E l z (19 + 1) [(0, vr 44)] [vi (M 46 (M 44 7).toNat)] M
    refine v_bipush C dX12_ahead_20 (by decide) ?_
    refine v_icmp_ne (tgt := 38) C g4.2.2.1 (by decide) dX12_ahead_22 (by decide) (fun c => ?_) (fun c => ?_)
    · have g7 := g4.2.2.2.1 c
      refine v_aload_n (i := 0) C dX12_ahead_38 rfl rfl ?_
      refine v_getf (k := 44) C fl_RX12_123 rfl rfl dX12_ahead_39 ?_
      show Aj E l z (39 + 3) [(0, vr 44)] [vi (M 44 7)] M
      refine v_aload_n (i := 0) C dX12_ahead_42 rfl rfl ?_
      refine v_getf (k := 44) C fl_RX12_120 rfl rfl dX12_ahead_43 ?_
      show Aj E l z (43 + 3) [(0, vr 44)] [vi (M 44 3), vi (M 44 7)] M
      refine v_icmp_ge (tgt := 61) C g7.1 g7.2.1 dX12_ahead_46 (by decide) (fun c => ?_) (fun c => ?_)
      · have g9 := g7.2.2.1 c
        refine v_iconst C dX12_ahead_61 ?_
        exact v_sub [] rfl (SX12_ahead_62 C r hJ0 g9)
      · have g10 := g7.2.2.2 c
        refine v_aload_n (i := 0) C dX12_ahead_49 rfl rfl ?_
        refine v_getf (k := 44) C fl_RX12_13 rfl rfl dX12_ahead_50 ?_
        show Aj E l z (50 + 3) [(0, vr 44)] [vr 46] M
        refine v_aload_n (i := 0) C dX12_ahead_53 rfl rfl ?_
        refine v_getf (k := 44) C fl_RX12_123 rfl rfl dX12_ahead_54 ?_
        show Aj E l z (54 + 3) [(0, vr 44)] [vi (M 44 7), vr 46] M
        refine v_iald (k := 46) C rfl g10.1 g10.2.1 dX12_ahead_57 ?_
        show Aj E l z (57 + 1) [(0, vr 44)] [vi (M 46 (M 44 7).toNat)] M
        refine v_goto C dX12_ahead_58 (tgt := 62) (by decide) ?_
        exact v_sub [] rfl (SX12_ahead_62 C r hJ0 g10.2.2)
    · have g8 := g4.2.2.2.2 c
      refine v_aload_n (i := 0) C dX12_ahead_25 rfl rfl ?_
      refine v_dup C rfl dX12_ahead_26 ?_
      refine v_getf (k := 44) C fl_RX12_123 rfl rfl dX12_ahead_27 ?_
      show Aj E l z (27 + 3) [(0, vr 44)] [vi (M 44 7), vr 44] M
      refine v_iconst C dX12_ahead_30 ?_
      refine v_iadd C dX12_ahead_31 ?_
      refine v_putf (k := 44) (x := (M 44 7) + 1) (t := 0) C fp_RX12_123 rfl rfl (by decide) (by simp [fv, up]) rfl rfl dX12_ahead_32 ?_
      obtain ⟨M11, hM11⟩ : ∃ X : MM, X = up M 44 7 ((M 44 7) + 1) := ⟨_, rfl⟩
      refine v_eqM hM11 ?_
      have g12 := g8 M11 hM11
      refine v_goto C dX12_ahead_35 (tgt := 0) (by decide) ?_
      exact v_sub [0] rfl (hJ0 _ g12)
theorem RX12_ahead {E : FX} {l : Launch} {D : Nat} {post : Option AV → MM → Prop} (I0 : MM → Prop) (m0 : MM → Nat) {M : MM} (h0 : I0 M) (h0I : ∀ (M : MM), I0 M → VX12_ahead_0 E l D post (fun M' => I0 M' ∧ m0 M' < m0 M) M) : Con E l (D + 1) qX12_ahead [vr 44] M post := by
  refine con_of (by decide +kernel) (Nat.le_of_ble_eq_true rfl) (fun z C r => ?_)
  have all : ∀ n : Nat, (∀ (M : MM), I0 M → m0 M < n → Aj E l z 0 [(0, vr 44)] [] M) := by
    intro n
    induction n with
    | zero => exact fun _ _ hm => absurd hm (Nat.not_lt_zero _)
    | succ n ih => exact fun M hi hm => SX12_ahead_0 C r (fun M' hj => ih M' hj.1 (by omega)) (h0I M hi)
  exact v_sub [0] rfl ((all _) _ h0 (Nat.lt_succ_self _))
def VX12_faultOf_0 (E : FX) (l : Launch) (D : Nat) (post : Option AV → MM → Prop) (J17 : MM → Int → Prop) (J70 : MM → Int → Int → Int → Prop) (J191 : MM → Prop) (M : MM) : Prop :=
  ∀ M1 : MM, M1 = up M 44 7 0 → (∀ M3 : MM, M3 = up M1 44 9 0 → (∀ M5 : MM, M5 = up M3 44 10 0 → (J17 M5 0)))
set_option maxRecDepth 20000 in
theorem SX12_faultOf_0 {E : FX} {l : Launch} {D : Nat} {post : Option AV → MM → Prop} {z : RT} {J17 : MM → Int → Prop} {J70 : MM → Int → Int → Int → Prop} {J191 : MM → Prop} (C : Cx E z D RX12 cX12_faultOf 4) (r : Rt E z (some .int) post) (hJ17 : ∀ (M : MM) (x1 : Int), J17 M x1 → Aj E l z 17 [(0, vr 44), (1, vi x1)] [] M) (hJ70 : ∀ (M : MM) (x1 : Int) (x2 : Int) (x3 : Int), J70 M x1 x2 x3 → Aj E l z 70 [(0, vr 44), (1, vi x1), (2, vi x2), (3, vi x3)] [] M) (hJ191 : ∀ (M : MM), J191 M → Aj E l z 191 [(0, vr 44)] [] M) {M : MM} (h : VX12_faultOf_0 E l D post J17 J70 J191 M) : Aj E l z 0 [(0, vr 44)] [] M := by
  unfold VX12_faultOf_0 at h
  refine v_aload_n (i := 0) C dX12_faultOf_0 rfl rfl ?_
  refine v_iconst C dX12_faultOf_1 ?_
  refine v_putf (k := 44) (x := 0) (t := 0) C fp_RX12_123 rfl rfl (by decide) (by simp [fv, up]) rfl rfl dX12_faultOf_2 ?_
  obtain ⟨M1, hM1⟩ : ∃ X : MM, X = up M 44 7 0 := ⟨_, rfl⟩
  refine v_eqM hM1 ?_
  have g2 := h M1 hM1
  refine v_aload_n (i := 0) C dX12_faultOf_5 rfl rfl ?_
  refine v_iconst C dX12_faultOf_6 ?_
  refine v_putf (k := 44) (x := 0) (t := 0) C fp_RX12_126 rfl rfl (by decide) (by simp [fv, up]) rfl rfl dX12_faultOf_7 ?_
  obtain ⟨M3, hM3⟩ : ∃ X : MM, X = up M1 44 9 0 := ⟨_, rfl⟩
  refine v_eqM hM3 ?_
  have g4 := g2 M3 hM3
  refine v_aload_n (i := 0) C dX12_faultOf_10 rfl rfl ?_
  refine v_iconst C dX12_faultOf_11 ?_
  refine v_putf (k := 44) (x := 0) (t := 0) C fp_RX12_129 rfl rfl (by decide) (by simp [fv, up]) rfl rfl dX12_faultOf_12 ?_
  obtain ⟨M5, hM5⟩ : ∃ X : MM, X = up M3 44 10 0 := ⟨_, rfl⟩
  refine v_eqM hM5 ?_
  have g6 := g4 M5 hM5
  refine v_iconst C dX12_faultOf_15 ?_
  refine v_istore_n (L' := [(1, vi 0), (0, vr 44)]) C dX12_faultOf_16 rfl (by decide) rfl ?_
  exact v_sub [1, 0] rfl (hJ17 _ _ g6)
def VX12_faultOf_54 (E : FX) (l : Launch) (D : Nat) (post : Option AV → MM → Prop) (J17 : MM → Int → Prop) (J70 : MM → Int → Int → Int → Prop) (J191 : MM → Prop) (M : MM) (x1 : Int) (s1 : Int) (s2 : Int) : Prop :=
  ∀ M7 : MM, M7 = up M 44 7 (s1 + s2) → (Con E l D qX12_ahead [vr 44] M7 (fun r M9 => ∃ y10 : Int, r = some (vi y10) ∧ (∀ y12 : Int, y12 = M9 44 7 → (J70 M9 x1 y12 0))))
set_option maxRecDepth 20000 in
theorem SX12_faultOf_54 {E : FX} {l : Launch} {D : Nat} {post : Option AV → MM → Prop} {z : RT} {J17 : MM → Int → Prop} {J70 : MM → Int → Int → Int → Prop} {J191 : MM → Prop} (C : Cx E z D RX12 cX12_faultOf 4) (r : Rt E z (some .int) post) (hJ17 : ∀ (M : MM) (x1 : Int), J17 M x1 → Aj E l z 17 [(0, vr 44), (1, vi x1)] [] M) (hJ70 : ∀ (M : MM) (x1 : Int) (x2 : Int) (x3 : Int), J70 M x1 x2 x3 → Aj E l z 70 [(0, vr 44), (1, vi x1), (2, vi x2), (3, vi x3)] [] M) (hJ191 : ∀ (M : MM), J191 M → Aj E l z 191 [(0, vr 44)] [] M) {M : MM} {x1 : Int} {s1 : Int} {s2 : Int} (h : VX12_faultOf_54 E l D post J17 J70 J191 M x1 s1 s2) : Aj E l z 54 [(0, vr 44), (1, vi x1)] [vi s2, vi s1, vr 44] M := by
  unfold VX12_faultOf_54 at h
  refine v_iadd C dX12_faultOf_54 ?_
  refine v_putf (k := 44) (x := s1 + s2) (t := 0) C fp_RX12_123 rfl rfl (by decide) (by simp [fv, up]) rfl rfl dX12_faultOf_55 ?_
  obtain ⟨M7, hM7⟩ : ∃ X : MM, X = up M 44 7 (s1 + s2) := ⟨_, rfl⟩
  refine v_eqM hM7 ?_
  have g8 := h M7 hM7
  refine v_aload_n (i := 0) C dX12_faultOf_58 rfl rfl ?_
  refine v_callV (q := qX12_ahead) (k := 44) (As := []) (S := []) C co_yX12_ahead ml_RX12_132 im_yX12_ahead se_yX12_ahead ini_RX12 rfl rfl hq_X12_ahead (by decide) (Nat.le_of_ble_eq_true rfl) rfl dX12_faultOf_59 (Con.mono g8 (fun rr M9 hr => ?_) (Nat.le_refl _))
  obtain ⟨y10, rfl, g11⟩ := hr
  show Aj E l z (59 + 3) [(0, vr 44), (1, vi x1)] [vi y10] M9
  refine v_pop C rfl dX12_faultOf_62 ?_
  refine v_aload_n (i := 0) C dX12_faultOf_63 rfl rfl ?_
  refine v_getf (k := 44) C fl_RX12_123 rfl rfl dX12_faultOf_64 ?_
  show Aj E l z (64 + 3) [(0, vr 44), (1, vi x1)] [vi (M9 44 7)] M9
  obtain ⟨y12, hy12⟩ : ∃ y : Int, y = M9 44 7 := ⟨_, rfl⟩
  have g13 := g11 y12 hy12
  refine v_eqi hy12 ?_
  refine v_istore_n (L' := [(2, vi y12), (0, vr 44), (1, vi x1)]) C dX12_faultOf_67 rfl (by decide) rfl ?_
  refine v_iconst C dX12_faultOf_68 ?_
  refine v_istore_n (L' := [(3, vi 0), (2, vi y12), (0, vr 44), (1, vi x1)]) C dX12_faultOf_69 rfl (by decide) rfl ?_
  exact v_sub [2, 3, 1, 0] rfl (hJ70 _ _ _ _ g13)
def VX12_faultOf_40 (E : FX) (l : Launch) (D : Nat) (post : Option AV → MM → Prop) (J17 : MM → Int → Prop) (J70 : MM → Int → Int → Int → Prop) (J191 : MM → Prop) (M : MM) (x1 : Int) : Prop :=
  R32 x1 ∧ ((x1 ≤ 0 → VX12_faultOf_54 E l D post J17 J70 J191 M x1 (M 44 7) 0) ∧ (¬ x1 ≤ 0 → VX12_faultOf_54 E l D post J17 J70 J191 M x1 (M 44 7) 1))
set_option maxRecDepth 20000 in
theorem SX12_faultOf_40 {E : FX} {l : Launch} {D : Nat} {post : Option AV → MM → Prop} {z : RT} {J17 : MM → Int → Prop} {J70 : MM → Int → Int → Int → Prop} {J191 : MM → Prop} (C : Cx E z D RX12 cX12_faultOf 4) (r : Rt E z (some .int) post) (hJ17 : ∀ (M : MM) (x1 : Int), J17 M x1 → Aj E l z 17 [(0, vr 44), (1, vi x1)] [] M) (hJ70 : ∀ (M : MM) (x1 : Int) (x2 : Int) (x3 : Int), J70 M x1 x2 x3 → Aj E l z 70 [(0, vr 44), (1, vi x1), (2, vi x2), (3, vi x3)] [] M) (hJ191 : ∀ (M : MM), J191 M → Aj E l z 191 [(0, vr 44)] [] M) {M : MM} {x1 : Int} (h : VX12_faultOf_40 E l D post J17 J70 J191 M x1) : Aj E l z 40 [(0, vr 44), (1, vi x1)] [] M := by
  unfold VX12_faultOf_40 at h
  refine v_aload_n (i := 0) C dX12_faultOf_40 rfl rfl ?_
  refine v_dup C rfl dX12_faultOf_41 ?_
  refine v_getf (k := 44) C fl_RX12_123 rfl rfl dX12_faultOf_42 ?_
  show Aj E l z (42 + 3) [(0, vr 44), (1, vi x1)] [vi (M 44 7), vr 44] M
  refine v_iload_n (i := 1) C dX12_faultOf_45 rfl rfl ?_
  refine v_if_le (tgt := 53) C h.1 dX12_faultOf_46 (by decide) (fun c => ?_) (fun c => ?_)
  · have g14 := h.2.1 c
    refine v_iconst C dX12_faultOf_53 ?_
    exact v_sub [0, 1] rfl (SX12_faultOf_54 C r hJ17 hJ70 hJ191 g14)
  · have g15 := h.2.2 c
    refine v_iconst C dX12_faultOf_49 ?_
    refine v_goto C dX12_faultOf_50 (tgt := 54) (by decide) ?_
    exact v_sub [0, 1] rfl (SX12_faultOf_54 C r hJ17 hJ70 hJ191 g15)
def VX12_faultOf_330 (E : FX) (l : Launch) (D : Nat) (post : Option AV → MM → Prop) (J17 : MM → Int → Prop) (J70 : MM → Int → Int → Int → Prop) (J191 : MM → Prop) (M : MM) (s0 : Int) : Prop :=
  post (some (vi s0)) M
set_option maxRecDepth 20000 in
theorem SX12_faultOf_330 {E : FX} {l : Launch} {D : Nat} {post : Option AV → MM → Prop} {z : RT} {J17 : MM → Int → Prop} {J70 : MM → Int → Int → Int → Prop} {J191 : MM → Prop} (C : Cx E z D RX12 cX12_faultOf 4) (r : Rt E z (some .int) post) (hJ17 : ∀ (M : MM) (x1 : Int), J17 M x1 → Aj E l z 17 [(0, vr 44), (1, vi x1)] [] M) (hJ70 : ∀ (M : MM) (x1 : Int) (x2 : Int) (x3 : Int), J70 M x1 x2 x3 → Aj E l z 70 [(0, vr 44), (1, vi x1), (2, vi x2), (3, vi x3)] [] M) (hJ191 : ∀ (M : MM), J191 M → Aj E l z 191 [(0, vr 44)] [] M) {M : MM} {s0 : Int} (h : VX12_faultOf_330 E l D post J17 J70 J191 M s0) : Aj E l z 330 [] [vi s0] M := by
  unfold VX12_faultOf_330 at h
  exact v_iret C r dX12_faultOf_330 h
def VX12_faultOf_315 (E : FX) (l : Launch) (D : Nat) (post : Option AV → MM → Prop) (J17 : MM → Int → Prop) (J70 : MM → Int → Int → Int → Prop) (J191 : MM → Prop) (M : MM) : Prop :=
  Con E l D qX12_ahead [vr 44] M (fun r M16 => ∃ y17 : Int, r = some (vi y17) ∧ (R32 y17 ∧ ((0 ≤ y17 → VX12_faultOf_330 E l D post J17 J70 J191 M16 (M16 44 7)) ∧ (¬ 0 ≤ y17 → VX12_faultOf_330 E l D post J17 J70 J191 M16 (-1)))))
set_option maxRecDepth 20000 in
theorem SX12_faultOf_315 {E : FX} {l : Launch} {D : Nat} {post : Option AV → MM → Prop} {z : RT} {J17 : MM → Int → Prop} {J70 : MM → Int → Int → Int → Prop} {J191 : MM → Prop} (C : Cx E z D RX12 cX12_faultOf 4) (r : Rt E z (some .int) post) (hJ17 : ∀ (M : MM) (x1 : Int), J17 M x1 → Aj E l z 17 [(0, vr 44), (1, vi x1)] [] M) (hJ70 : ∀ (M : MM) (x1 : Int) (x2 : Int) (x3 : Int), J70 M x1 x2 x3 → Aj E l z 70 [(0, vr 44), (1, vi x1), (2, vi x2), (3, vi x3)] [] M) (hJ191 : ∀ (M : MM), J191 M → Aj E l z 191 [(0, vr 44)] [] M) {M : MM} (h : VX12_faultOf_315 E l D post J17 J70 J191 M) : Aj E l z 315 [(0, vr 44)] [] M := by
  unfold VX12_faultOf_315 at h
  refine v_aload_n (i := 0) C dX12_faultOf_315 rfl rfl ?_
  refine v_callV (q := qX12_ahead) (k := 44) (As := []) (S := []) C co_yX12_ahead ml_RX12_132 im_yX12_ahead se_yX12_ahead ini_RX12 rfl rfl hq_X12_ahead (by decide) (Nat.le_of_ble_eq_true rfl) rfl dX12_faultOf_316 (Con.mono h (fun rr M16 hr => ?_) (Nat.le_refl _))
  obtain ⟨y17, rfl, g18⟩ := hr
  show Aj E l z (316 + 3) [(0, vr 44)] [vi y17] M16
  refine v_if_ge (tgt := 326) C g18.1 dX12_faultOf_319 (by decide) (fun c => ?_) (fun c => ?_)
  · have g19 := g18.2.1 c
    refine v_aload_n (i := 0) C dX12_faultOf_326 rfl rfl ?_
    refine v_getf (k := 44) C fl_RX12_123 rfl rfl dX12_faultOf_327 ?_
    show Aj E l z (327 + 3) [(0, vr 44)] [vi (M16 44 7)] M16
    exact v_sub [] rfl (SX12_faultOf_330 C r hJ17 hJ70 hJ191 g19)
  · have g20 := g18.2.2 c
    refine v_iconst C dX12_faultOf_322 ?_
    refine v_goto C dX12_faultOf_323 (tgt := 330) (by decide) ?_
    exact v_sub [] rfl (SX12_faultOf_330 C r hJ17 hJ70 hJ191 g20)
def VX12_faultOf_288 (E : FX) (l : Launch) (D : Nat) (post : Option AV → MM → Prop) (J17 : MM → Int → Prop) (J70 : MM → Int → Int → Int → Prop) (J191 : MM → Prop) (M : MM) (s1 : Int) : Prop :=
  ∀ M21 : MM, M21 = up M 44 9 s1 → (Con E l D qX12_ahead [vr 44] M21 (fun r M23 => ∃ y24 : Int, r = some (vi y24) ∧ (R32 y24 ∧ ((¬ y24 = 116 → Con E l D qX12_ahead [vr 44] M23 (fun r M28 => ∃ y29 : Int, r = some (vi y29) ∧ (R32 y29 ∧ ((0 ≤ y29 → VX12_faultOf_330 E l D post J17 J70 J191 M28 (M28 44 7)) ∧ (¬ 0 ≤ y29 → VX12_faultOf_330 E l D post J17 J70 J191 M28 (-1)))))) ∧ (y24 = 116 → ∀ M33 : MM, M33 = up M23 44 10 1 → (∀ M35 : MM, M35 = up M33 44 7 ((M33 44 7) + 1) → (VX12_faultOf_315 E l D post J17 J70 J191 M35 )))))))
set_option maxRecDepth 20000 in
theorem SX12_faultOf_288 {E : FX} {l : Launch} {D : Nat} {post : Option AV → MM → Prop} {z : RT} {J17 : MM → Int → Prop} {J70 : MM → Int → Int → Int → Prop} {J191 : MM → Prop} (C : Cx E z D RX12 cX12_faultOf 4) (r : Rt E z (some .int) post) (hJ17 : ∀ (M : MM) (x1 : Int), J17 M x1 → Aj E l z 17 [(0, vr 44), (1, vi x1)] [] M) (hJ70 : ∀ (M : MM) (x1 : Int) (x2 : Int) (x3 : Int), J70 M x1 x2 x3 → Aj E l z 70 [(0, vr 44), (1, vi x1), (2, vi x2), (3, vi x3)] [] M) (hJ191 : ∀ (M : MM), J191 M → Aj E l z 191 [(0, vr 44)] [] M) {M : MM} {s1 : Int} (h : VX12_faultOf_288 E l D post J17 J70 J191 M s1) : Aj E l z 288 [(0, vr 44)] [vi s1, vr 44] M := by
  unfold VX12_faultOf_288 at h
  refine v_putf (k := 44) (x := s1) (t := 0) C fp_RX12_126 rfl rfl (by decide) (by simp [fv, up]) rfl rfl dX12_faultOf_288 ?_
  obtain ⟨M21, hM21⟩ : ∃ X : MM, X = up M 44 9 s1 := ⟨_, rfl⟩
  refine v_eqM hM21 ?_
  have g22 := h M21 hM21
  refine v_aload_n (i := 0) C dX12_faultOf_291 rfl rfl ?_
  refine v_callV (q := qX12_ahead) (k := 44) (As := []) (S := []) C co_yX12_ahead ml_RX12_132 im_yX12_ahead se_yX12_ahead ini_RX12 rfl rfl hq_X12_ahead (by decide) (Nat.le_of_ble_eq_true rfl) rfl dX12_faultOf_292 (Con.mono g22 (fun rr M23 hr => ?_) (Nat.le_refl _))
  obtain ⟨y24, rfl, g25⟩ := hr
  show Aj E l z (292 + 3) [(0, vr 44)] [vi y24] M23
  refine v_bipush C dX12_faultOf_295 (by decide) ?_
  refine v_icmp_ne (tgt := 315) C g25.1 (by decide) dX12_faultOf_297 (by decide) (fun c => ?_) (fun c => ?_)
  · have g26 := g25.2.1 c
    refine v_aload_n (i := 0) C dX12_faultOf_315 rfl rfl ?_
    refine v_callV (q := qX12_ahead) (k := 44) (As := []) (S := []) C co_yX12_ahead ml_RX12_132 im_yX12_ahead se_yX12_ahead ini_RX12 rfl rfl hq_X12_ahead (by decide) (Nat.le_of_ble_eq_true rfl) rfl dX12_faultOf_316 (Con.mono g26 (fun rr M28 hr => ?_) (Nat.le_refl _))
    obtain ⟨y29, rfl, g30⟩ := hr
    show Aj E l z (316 + 3) [(0, vr 44)] [vi y29] M28
    refine v_if_ge (tgt := 326) C g30.1 dX12_faultOf_319 (by decide) (fun c => ?_) (fun c => ?_)
    · have g31 := g30.2.1 c
      refine v_aload_n (i := 0) C dX12_faultOf_326 rfl rfl ?_
      refine v_getf (k := 44) C fl_RX12_123 rfl rfl dX12_faultOf_327 ?_
      show Aj E l z (327 + 3) [(0, vr 44)] [vi (M28 44 7)] M28
      exact v_sub [] rfl (SX12_faultOf_330 C r hJ17 hJ70 hJ191 g31)
    · have g32 := g30.2.2 c
      refine v_iconst C dX12_faultOf_322 ?_
      refine v_goto C dX12_faultOf_323 (tgt := 330) (by decide) ?_
      exact v_sub [] rfl (SX12_faultOf_330 C r hJ17 hJ70 hJ191 g32)
  · have g27 := g25.2.2 c
    refine v_aload_n (i := 0) C dX12_faultOf_300 rfl rfl ?_
    refine v_iconst C dX12_faultOf_301 ?_
    refine v_putf (k := 44) (x := 1) (t := 0) C fp_RX12_129 rfl rfl (by decide) (by simp [fv, up]) rfl rfl dX12_faultOf_302 ?_
    obtain ⟨M33, hM33⟩ : ∃ X : MM, X = up M23 44 10 1 := ⟨_, rfl⟩
    refine v_eqM hM33 ?_
    have g34 := g27 M33 hM33
    refine v_aload_n (i := 0) C dX12_faultOf_305 rfl rfl ?_
    refine v_dup C rfl dX12_faultOf_306 ?_
    refine v_getf (k := 44) C fl_RX12_123 rfl rfl dX12_faultOf_307 ?_
    show Aj E l z (307 + 3) [(0, vr 44)] [vi (M33 44 7), vr 44] M33
    refine v_iconst C dX12_faultOf_310 ?_
    refine v_iadd C dX12_faultOf_311 ?_
    refine v_putf (k := 44) (x := (M33 44 7) + 1) (t := 0) C fp_RX12_123 rfl rfl (by decide) (by simp [fv, up]) rfl rfl dX12_faultOf_312 ?_
    obtain ⟨M35, hM35⟩ : ∃ X : MM, X = up M33 44 7 ((M33 44 7) + 1) := ⟨_, rfl⟩
    refine v_eqM hM35 ?_
    have g36 := g34 M35 hM35
    exact v_sub [0] rfl (SX12_faultOf_315 C r hJ17 hJ70 hJ191 g36)
def VX12_faultOf_272 (E : FX) (l : Launch) (D : Nat) (post : Option AV → MM → Prop) (J17 : MM → Int → Prop) (J70 : MM → Int → Int → Int → Prop) (J191 : MM → Prop) (M : MM) : Prop :=
  R32 (M 44 9) ∧ ((¬ M 44 9 = 0 → VX12_faultOf_288 E l D post J17 J70 J191 M (M 44 9)) ∧ (M 44 9 = 0 → VX12_faultOf_288 E l D post J17 J70 J191 M 3))
set_option maxRecDepth 20000 in
theorem SX12_faultOf_272 {E : FX} {l : Launch} {D : Nat} {post : Option AV → MM → Prop} {z : RT} {J17 : MM → Int → Prop} {J70 : MM → Int → Int → Int → Prop} {J191 : MM → Prop} (C : Cx E z D RX12 cX12_faultOf 4) (r : Rt E z (some .int) post) (hJ17 : ∀ (M : MM) (x1 : Int), J17 M x1 → Aj E l z 17 [(0, vr 44), (1, vi x1)] [] M) (hJ70 : ∀ (M : MM) (x1 : Int) (x2 : Int) (x3 : Int), J70 M x1 x2 x3 → Aj E l z 70 [(0, vr 44), (1, vi x1), (2, vi x2), (3, vi x3)] [] M) (hJ191 : ∀ (M : MM), J191 M → Aj E l z 191 [(0, vr 44)] [] M) {M : MM} (h : VX12_faultOf_272 E l D post J17 J70 J191 M) : Aj E l z 272 [(0, vr 44)] [] M := by
  unfold VX12_faultOf_272 at h
  refine v_aload_n (i := 0) C dX12_faultOf_272 rfl rfl ?_
  refine v_aload_n (i := 0) C dX12_faultOf_273 rfl rfl ?_
  refine v_getf (k := 44) C fl_RX12_126 rfl rfl dX12_faultOf_274 ?_
  show Aj E l z (274 + 3) [(0, vr 44)] [vi (M 44 9), vr 44] M
  refine v_if_ne (tgt := 284) C h.1 dX12_faultOf_277 (by decide) (fun c => ?_) (fun c => ?_)
  · have g37 := h.2.1 c
    refine v_aload_n (i := 0) C dX12_faultOf_284 rfl rfl ?_
    refine v_getf (k := 44) C fl_RX12_126 rfl rfl dX12_faultOf_285 ?_
    show Aj E l z (285 + 3) [(0, vr 44)] [vi (M 44 9), vr 44] M
    exact v_sub [0] rfl (SX12_faultOf_288 C r hJ17 hJ70 hJ191 g37)
  · have g38 := h.2.2 c
    refine v_iconst C dX12_faultOf_280 ?_
    refine v_goto C dX12_faultOf_281 (tgt := 288) (by decide) ?_
    exact v_sub [0] rfl (SX12_faultOf_288 C r hJ17 hJ70 hJ191 g38)
def VX12_faultOf_17 (E : FX) (l : Launch) (D : Nat) (post : Option AV → MM → Prop) (J17 : MM → Int → Prop) (J70 : MM → Int → Int → Int → Prop) (J191 : MM → Prop) (M : MM) (x1 : Int) : Prop :=
  R32 x1 ∧ ((3 ≤ x1 → Con E l D qX12_ahead [vr 44] M (fun r M41 => ∃ y42 : Int, r = some (vi y42) ∧ (R32 y42 ∧ ((¬ y42 = 59 → R32 (M41 44 9) ∧ ((¬ M41 44 9 = 0 → VX12_faultOf_288 E l D post J17 J70 J191 M41 (M41 44 9)) ∧ (M41 44 9 = 0 → VX12_faultOf_288 E l D post J17 J70 J191 M41 3))) ∧ (y42 = 59 → ∀ M48 : MM, M48 = up M41 44 7 ((M41 44 7) + 1) → (J191 M48 )))))) ∧ (¬ 3 ≤ x1 → R32 x1 ∧ ((x1 ≤ 0 → R32 x1 ∧ ((x1 ≤ 0 → VX12_faultOf_54 E l D post J17 J70 J191 M x1 (M 44 7) 0) ∧ (¬ x1 ≤ 0 → VX12_faultOf_54 E l D post J17 J70 J191 M x1 (M 44 7) 1))) ∧ (¬ x1 ≤ 0 → Con E l D qX12_ahead [vr 44] M (fun r M54 => ∃ y55 : Int, r = some (vi y55) ∧ (R32 y55 ∧ ((y55 = 44 → R32 x1 ∧ ((x1 ≤ 0 → VX12_faultOf_54 E l D post J17 J70 J191 M54 x1 (M54 44 7) 0) ∧ (¬ x1 ≤ 0 → VX12_faultOf_54 E l D post J17 J70 J191 M54 x1 (M54 44 7) 1))) ∧ (¬ y55 = 44 → post (some (vi (M54 44 7))) M54))))))))
set_option maxRecDepth 20000 in
theorem SX12_faultOf_17 {E : FX} {l : Launch} {D : Nat} {post : Option AV → MM → Prop} {z : RT} {J17 : MM → Int → Prop} {J70 : MM → Int → Int → Int → Prop} {J191 : MM → Prop} (C : Cx E z D RX12 cX12_faultOf 4) (r : Rt E z (some .int) post) (hJ17 : ∀ (M : MM) (x1 : Int), J17 M x1 → Aj E l z 17 [(0, vr 44), (1, vi x1)] [] M) (hJ70 : ∀ (M : MM) (x1 : Int) (x2 : Int) (x3 : Int), J70 M x1 x2 x3 → Aj E l z 70 [(0, vr 44), (1, vi x1), (2, vi x2), (3, vi x3)] [] M) (hJ191 : ∀ (M : MM), J191 M → Aj E l z 191 [(0, vr 44)] [] M) {M : MM} {x1 : Int} (h : VX12_faultOf_17 E l D post J17 J70 J191 M x1) : Aj E l z 17 [(0, vr 44), (1, vi x1)] [] M := by
  unfold VX12_faultOf_17 at h
  refine v_iload_n (i := 1) C dX12_faultOf_17 rfl rfl ?_
  refine v_iconst C dX12_faultOf_18 ?_
  refine v_icmp_ge (tgt := 172) C h.1 (by decide) dX12_faultOf_19 (by decide) (fun c => ?_) (fun c => ?_)
  · have g39 := h.2.1 c
    refine v_aload_n (i := 0) C dX12_faultOf_172 rfl rfl ?_
    refine v_callV (q := qX12_ahead) (k := 44) (As := []) (S := []) C co_yX12_ahead ml_RX12_132 im_yX12_ahead se_yX12_ahead ini_RX12 rfl rfl hq_X12_ahead (by decide) (Nat.le_of_ble_eq_true rfl) rfl dX12_faultOf_173 (Con.mono g39 (fun rr M41 hr => ?_) (Nat.le_refl _))
    obtain ⟨y42, rfl, g43⟩ := hr
    show Aj E l z (173 + 3) [(0, vr 44), (1, vi x1)] [vi y42] M41
    refine v_bipush C dX12_faultOf_176 (by decide) ?_
    refine v_icmp_ne (tgt := 272) C g43.1 (by decide) dX12_faultOf_178 (by decide) (fun c => ?_) (fun c => ?_)
    · have g44 := g43.2.1 c
      refine v_aload_n (i := 0) C dX12_faultOf_272 rfl rfl ?_
      refine v_aload_n (i := 0) C dX12_faultOf_273 rfl rfl ?_
      refine v_getf (k := 44) C fl_RX12_126 rfl rfl dX12_faultOf_274 ?_
      show Aj E l z (274 + 3) [(0, vr 44), (1, vi x1)] [vi (M41 44 9), vr 44] M41
      refine v_if_ne (tgt := 284) C g44.1 dX12_faultOf_277 (by decide) (fun c => ?_) (fun c => ?_)
      · have g46 := g44.2.1 c
        refine v_aload_n (i := 0) C dX12_faultOf_284 rfl rfl ?_
        refine v_getf (k := 44) C fl_RX12_126 rfl rfl dX12_faultOf_285 ?_
        show Aj E l z (285 + 3) [(0, vr 44), (1, vi x1)] [vi (M41 44 9), vr 44] M41
        exact v_sub [0] rfl (SX12_faultOf_288 C r hJ17 hJ70 hJ191 g46)
      · have g47 := g44.2.2 c
        refine v_iconst C dX12_faultOf_280 ?_
        refine v_goto C dX12_faultOf_281 (tgt := 288) (by decide) ?_
        exact v_sub [0] rfl (SX12_faultOf_288 C r hJ17 hJ70 hJ191 g47)
    · have g45 := g43.2.2 c
      refine v_aload_n (i := 0) C dX12_faultOf_181 rfl rfl ?_
      refine v_dup C rfl dX12_faultOf_182 ?_
      refine v_getf (k := 44) C fl_RX12_123 rfl rfl dX12_faultOf_183 ?_
      show Aj E l z (183 + 3) [(0, vr 44), (1, vi x1)] [vi (M41 44 7), vr 44] M41
      refine v_iconst C dX12_faultOf_186 ?_
      refine v_iadd C dX12_faultOf_187 ?_
      refine v_putf (k := 44) (x := (M41 44 7) + 1) (t := 0) C fp_RX12_123 rfl rfl (by decide) (by simp [fv, up]) rfl rfl dX12_faultOf_188 ?_
      obtain ⟨M48, hM48⟩ : ∃ X : MM, X = up M41 44 7 ((M41 44 7) + 1) := ⟨_, rfl⟩
      refine v_eqM hM48 ?_
      have g49 := g45 M48 hM48
      exact v_sub [0] rfl (hJ191 _ g49)
  · have g40 := h.2.2 c
    refine v_iload_n (i := 1) C dX12_faultOf_22 rfl rfl ?_
    refine v_if_le (tgt := 40) C g40.1 dX12_faultOf_23 (by decide) (fun c => ?_) (fun c => ?_)
    · have g50 := g40.2.1 c
      refine v_aload_n (i := 0) C dX12_faultOf_40 rfl rfl ?_
      refine v_dup C rfl dX12_faultOf_41 ?_
      refine v_getf (k := 44) C fl_RX12_123 rfl rfl dX12_faultOf_42 ?_
      show Aj E l z (42 + 3) [(0, vr 44), (1, vi x1)] [vi (M 44 7), vr 44] M
      refine v_iload_n (i := 1) C dX12_faultOf_45 rfl rfl ?_
      refine v_if_le (tgt := 53) C g50.1 dX12_faultOf_46 (by decide) (fun c => ?_) (fun c => ?_)
      · have g52 := g50.2.1 c
        refine v_iconst C dX12_faultOf_53 ?_
        exact v_sub [0, 1] rfl (SX12_faultOf_54 C r hJ17 hJ70 hJ191 g52)
      · have g53 := g50.2.2 c
        refine v_iconst C dX12_faultOf_49 ?_
        refine v_goto C dX12_faultOf_50 (tgt := 54) (by decide) ?_
        exact v_sub [0, 1] rfl (SX12_faultOf_54 C r hJ17 hJ70 hJ191 g53)
    · have g51 := g40.2.2 c
      refine v_aload_n (i := 0) C dX12_faultOf_26 rfl rfl ?_
      refine v_callV (q := qX12_ahead) (k := 44) (As := []) (S := []) C co_yX12_ahead ml_RX12_132 im_yX12_ahead se_yX12_ahead ini_RX12 rfl rfl hq_X12_ahead (by decide) (Nat.le_of_ble_eq_true rfl) rfl dX12_faultOf_27 (Con.mono g51 (fun rr M54 hr => ?_) (Nat.le_refl _))
      obtain ⟨y55, rfl, g56⟩ := hr
      show Aj E l z (27 + 3) [(0, vr 44), (1, vi x1)] [vi y55] M54
      refine v_bipush C dX12_faultOf_30 (by decide) ?_
      refine v_icmp_eq (tgt := 40) C g56.1 (by decide) dX12_faultOf_32 (by decide) (fun c => ?_) (fun c => ?_)
      · have g57 := g56.2.1 c
        refine v_aload_n (i := 0) C dX12_faultOf_40 rfl rfl ?_
        refine v_dup C rfl dX12_faultOf_41 ?_
        refine v_getf (k := 44) C fl_RX12_123 rfl rfl dX12_faultOf_42 ?_
        show Aj E l z (42 + 3) [(0, vr 44), (1, vi x1)] [vi (M54 44 7), vr 44] M54
        refine v_iload_n (i := 1) C dX12_faultOf_45 rfl rfl ?_
        refine v_if_le (tgt := 53) C g57.1 dX12_faultOf_46 (by decide) (fun c => ?_) (fun c => ?_)
        · have g59 := g57.2.1 c
          refine v_iconst C dX12_faultOf_53 ?_
          exact v_sub [0, 1] rfl (SX12_faultOf_54 C r hJ17 hJ70 hJ191 g59)
        · have g60 := g57.2.2 c
          refine v_iconst C dX12_faultOf_49 ?_
          refine v_goto C dX12_faultOf_50 (tgt := 54) (by decide) ?_
          exact v_sub [0, 1] rfl (SX12_faultOf_54 C r hJ17 hJ70 hJ191 g60)
      · have g58 := g56.2.2 c
        refine v_aload_n (i := 0) C dX12_faultOf_35 rfl rfl ?_
        refine v_getf (k := 44) C fl_RX12_123 rfl rfl dX12_faultOf_36 ?_
        show Aj E l z (36 + 3) [(0, vr 44), (1, vi x1)] [vi (M54 44 7)] M54
        exact v_iret C r dX12_faultOf_39 g58
def VX12_faultOf_145 (E : FX) (l : Launch) (D : Nat) (post : Option AV → MM → Prop) (J17 : MM → Int → Prop) (J70 : MM → Int → Int → Int → Prop) (J191 : MM → Prop) (M : MM) (x1 : Int) (x2 : Int) (x3 : Int) : Prop :=
  R32 x3 ∧ (Con E l D qX12_in [vj x3, vj 1, vj 999] M (fun r M61 => ∃ y62 : Int, r = some (vi y62) ∧ (R32 y62 ∧ ((¬ y62 = 0 → 0 ≤ x1 ∧ (x1 < 3 ∧ (∀ M66 : MM, M66 = up M61 48 (x1).toNat x3 → (∀ y68 : Int, y68 = x1 + 1 → (J17 M66 y68))))) ∧ (y62 = 0 → post (some (vi x2)) M61)))))
set_option maxRecDepth 20000 in
theorem SX12_faultOf_145 {E : FX} {l : Launch} {D : Nat} {post : Option AV → MM → Prop} {z : RT} {J17 : MM → Int → Prop} {J70 : MM → Int → Int → Int → Prop} {J191 : MM → Prop} (C : Cx E z D RX12 cX12_faultOf 4) (r : Rt E z (some .int) post) (hJ17 : ∀ (M : MM) (x1 : Int), J17 M x1 → Aj E l z 17 [(0, vr 44), (1, vi x1)] [] M) (hJ70 : ∀ (M : MM) (x1 : Int) (x2 : Int) (x3 : Int), J70 M x1 x2 x3 → Aj E l z 70 [(0, vr 44), (1, vi x1), (2, vi x2), (3, vi x3)] [] M) (hJ191 : ∀ (M : MM), J191 M → Aj E l z 191 [(0, vr 44)] [] M) {M : MM} {x1 : Int} {x2 : Int} {x3 : Int} (h : VX12_faultOf_145 E l D post J17 J70 J191 M x1 x2 x3) : Aj E l z 145 [(0, vr 44), (1, vi x1), (2, vi x2), (3, vi x3)] [] M := by
  unfold VX12_faultOf_145 at h
  refine v_iload_n (i := 3) C dX12_faultOf_145 rfl rfl ?_
  refine v_i2l C h.1 dX12_faultOf_146 ?_
  refine v_lconst (x := 1) C dX12_faultOf_147 (by decide) ?_
  refine v_ldc2 (x := 999) C cs_RX12_75 (by decide) dX12_faultOf_148 ?_
  refine v_callS (q := qX12_in) (As := [vj x3, vj 1, vj 999]) (S := []) C co_yX12_in ml_RX12_71 st_yX12_in ini_RX12 hq_X12_in (by decide) (Nat.le_of_ble_eq_true rfl) rfl dX12_faultOf_151 (Con.mono h.2 (fun rr M61 hr => ?_) (Nat.le_refl _))
  obtain ⟨y62, rfl, g63⟩ := hr
  show Aj E l z (151 + 3) [(0, vr 44), (1, vi x1), (2, vi x2), (3, vi x3)] [vi y62] M61
  refine v_if_ne (tgt := 159) C g63.1 dX12_faultOf_154 (by decide) (fun c => ?_) (fun c => ?_)
  · have g64 := g63.2.1 c
    refine v_aload_n (i := 0) C dX12_faultOf_159 rfl rfl ?_
    refine v_getf (k := 44) C fl_RX12_20 rfl rfl dX12_faultOf_160 ?_
    show Aj E l z (160 + 3) [(0, vr 44), (1, vi x1), (2, vi x2), (3, vi x3)] [vr 48] M61
    refine v_iload_n (i := 1) C dX12_faultOf_163 rfl rfl ?_
    refine v_iload_n (i := 3) C dX12_faultOf_164 rfl rfl ?_
    refine v_iast (k := 48) C rfl g64.1 g64.2.1 dX12_faultOf_165 ?_
    obtain ⟨M66, hM66⟩ : ∃ X : MM, X = up M61 48 (x1).toNat x3 := ⟨_, rfl⟩
    refine v_eqM hM66 ?_
    have g67 := g64.2.2 M66 hM66
    obtain ⟨y68, hy68⟩ : ∃ y : Int, y = x1 + 1 := ⟨_, rfl⟩
    have g69 := g67 y68 hy68
    refine v_iinc (i := 1) (L' := [(1, vi y68), (0, vr 44), (2, vi x2), (3, vi x3)]) C dX12_faultOf_166 rfl (by decide) hy68 rfl ?_
    refine v_goto C dX12_faultOf_169 (tgt := 17) (by decide) ?_
    exact v_sub [1, 0] rfl (hJ17 _ _ g69)
  · have g65 := g63.2.2 c
    refine v_iload_n (i := 2) C dX12_faultOf_157 rfl rfl ?_
    exact v_iret C r dX12_faultOf_158 g65
def VX12_faultOf_70 (E : FX) (l : Launch) (D : Nat) (post : Option AV → MM → Prop) (J17 : MM → Int → Prop) (J70 : MM → Int → Int → Int → Prop) (J191 : MM → Prop) (M : MM) (x1 : Int) (x2 : Int) (x3 : Int) : Prop :=
  R32 (M 44 7) ∧ (R32 (M 44 3) ∧ ((M 44 3 ≤ M 44 7 → R32 x3 ∧ (Con E l D qX12_in [vj x3, vj 1, vj 999] M (fun r M72 => ∃ y73 : Int, r = some (vi y73) ∧ (R32 y73 ∧ ((¬ y73 = 0 → 0 ≤ x1 ∧ (x1 < 3 ∧ (∀ M77 : MM, M77 = up M72 48 (x1).toNat x3 → (∀ y79 : Int, y79 = x1 + 1 → (J17 M77 y79))))) ∧ (y73 = 0 → post (some (vi x2)) M72)))))) ∧ (¬ M 44 3 ≤ M 44 7 → 0 ≤ M 44 7 ∧ (M 44 7 < 40 ∧ (R32 (M 46 (M 44 7).toNat) ∧ (Con E l D qX12_in [vj (M 46 (M 44 7).toNat), vj 48, vj 57] M (fun r M81 => ∃ y82 : Int, r = some (vi y82) ∧ (R32 y82 ∧ ((y82 = 0 → R32 x3 ∧ (Con E l D qX12_in [vj x3, vj 1, vj 999] M81 (fun r M86 => ∃ y87 : Int, r = some (vi y87) ∧ (R32 y87 ∧ ((¬ y87 = 0 → 0 ≤ x1 ∧ (x1 < 3 ∧ (∀ M91 : MM, M91 = up M86 48 (x1).toNat x3 → (∀ y93 : Int, y93 = x1 + 1 → (J17 M91 y93))))) ∧ (y87 = 0 → post (some (vi x2)) M86)))))) ∧ (¬ y82 = 0 → R32 x3 ∧ (0 ≤ M81 44 7 ∧ (M81 44 7 < 40 ∧ (R32 (M81 46 (M81 44 7).toNat) ∧ (Con E l D qX12_lesser [vj (((10 * x3) + (M81 46 (M81 44 7).toNat)) - 48), vj 1000] M81 (fun r M95 => ∃ y96 : Int, r = some (vj y96) ∧ (∀ y98 : Int, y98 = w32 y96 → (∀ M100 : MM, M100 = up M95 44 7 ((M95 44 7) + 1) → (J70 M100 x1 x2 y98))))))))))))))))))
set_option maxRecDepth 20000 in
theorem SX12_faultOf_70 {E : FX} {l : Launch} {D : Nat} {post : Option AV → MM → Prop} {z : RT} {J17 : MM → Int → Prop} {J70 : MM → Int → Int → Int → Prop} {J191 : MM → Prop} (C : Cx E z D RX12 cX12_faultOf 4) (r : Rt E z (some .int) post) (hJ17 : ∀ (M : MM) (x1 : Int), J17 M x1 → Aj E l z 17 [(0, vr 44), (1, vi x1)] [] M) (hJ70 : ∀ (M : MM) (x1 : Int) (x2 : Int) (x3 : Int), J70 M x1 x2 x3 → Aj E l z 70 [(0, vr 44), (1, vi x1), (2, vi x2), (3, vi x3)] [] M) (hJ191 : ∀ (M : MM), J191 M → Aj E l z 191 [(0, vr 44)] [] M) {M : MM} {x1 : Int} {x2 : Int} {x3 : Int} (h : VX12_faultOf_70 E l D post J17 J70 J191 M x1 x2 x3) : Aj E l z 70 [(0, vr 44), (1, vi x1), (2, vi x2), (3, vi x3)] [] M := by
  unfold VX12_faultOf_70 at h
  refine v_aload_n (i := 0) C dX12_faultOf_70 rfl rfl ?_
  refine v_getf (k := 44) C fl_RX12_123 rfl rfl dX12_faultOf_71 ?_
  show Aj E l z (71 + 3) [(0, vr 44), (1, vi x1), (2, vi x2), (3, vi x3)] [vi (M 44 7)] M
  refine v_aload_n (i := 0) C dX12_faultOf_74 rfl rfl ?_
  refine v_getf (k := 44) C fl_RX12_120 rfl rfl dX12_faultOf_75 ?_
  show Aj E l z (75 + 3) [(0, vr 44), (1, vi x1), (2, vi x2), (3, vi x3)] [vi (M 44 3), vi (M 44 7)] M
  refine v_icmp_ge (tgt := 145) C h.1 h.2.1 dX12_faultOf_78 (by decide) (fun c => ?_) (fun c => ?_)
  · have g70 := h.2.2.1 c
    refine v_iload_n (i := 3) C dX12_faultOf_145 rfl rfl ?_
    refine v_i2l C g70.1 dX12_faultOf_146 ?_
    refine v_lconst (x := 1) C dX12_faultOf_147 (by decide) ?_
    refine v_ldc2 (x := 999) C cs_RX12_75 (by decide) dX12_faultOf_148 ?_
    refine v_callS (q := qX12_in) (As := [vj x3, vj 1, vj 999]) (S := []) C co_yX12_in ml_RX12_71 st_yX12_in ini_RX12 hq_X12_in (by decide) (Nat.le_of_ble_eq_true rfl) rfl dX12_faultOf_151 (Con.mono g70.2 (fun rr M72 hr => ?_) (Nat.le_refl _))
    obtain ⟨y73, rfl, g74⟩ := hr
    show Aj E l z (151 + 3) [(0, vr 44), (1, vi x1), (2, vi x2), (3, vi x3)] [vi y73] M72
    refine v_if_ne (tgt := 159) C g74.1 dX12_faultOf_154 (by decide) (fun c => ?_) (fun c => ?_)
    · have g75 := g74.2.1 c
      refine v_aload_n (i := 0) C dX12_faultOf_159 rfl rfl ?_
      refine v_getf (k := 44) C fl_RX12_20 rfl rfl dX12_faultOf_160 ?_
      show Aj E l z (160 + 3) [(0, vr 44), (1, vi x1), (2, vi x2), (3, vi x3)] [vr 48] M72
      refine v_iload_n (i := 1) C dX12_faultOf_163 rfl rfl ?_
      refine v_iload_n (i := 3) C dX12_faultOf_164 rfl rfl ?_
      refine v_iast (k := 48) C rfl g75.1 g75.2.1 dX12_faultOf_165 ?_
      obtain ⟨M77, hM77⟩ : ∃ X : MM, X = up M72 48 (x1).toNat x3 := ⟨_, rfl⟩
      refine v_eqM hM77 ?_
      have g78 := g75.2.2 M77 hM77
      obtain ⟨y79, hy79⟩ : ∃ y : Int, y = x1 + 1 := ⟨_, rfl⟩
      have g80 := g78 y79 hy79
      refine v_iinc (i := 1) (L' := [(1, vi y79), (0, vr 44), (2, vi x2), (3, vi x3)]) C dX12_faultOf_166 rfl (by decide) hy79 rfl ?_
      refine v_goto C dX12_faultOf_169 (tgt := 17) (by decide) ?_
      exact v_sub [1, 0] rfl (hJ17 _ _ g80)
    · have g76 := g74.2.2 c
      refine v_iload_n (i := 2) C dX12_faultOf_157 rfl rfl ?_
      exact v_iret C r dX12_faultOf_158 g76
  · have g71 := h.2.2.2 c
    refine v_aload_n (i := 0) C dX12_faultOf_81 rfl rfl ?_
    refine v_getf (k := 44) C fl_RX12_13 rfl rfl dX12_faultOf_82 ?_
    show Aj E l z (82 + 3) [(0, vr 44), (1, vi x1), (2, vi x2), (3, vi x3)] [vr 46] M
    refine v_aload_n (i := 0) C dX12_faultOf_85 rfl rfl ?_
    refine v_getf (k := 44) C fl_RX12_123 rfl rfl dX12_faultOf_86 ?_
    show Aj E l z (86 + 3) [(0, vr 44), (1, vi x1), (2, vi x2), (3, vi x3)] [vi (M 44 7), vr 46] M
    refine v_iald (k := 46) C rfl g71.1 g71.2.1 dX12_faultOf_89 ?_
    show Aj E l z (89 + 1) [(0, vr 44), (1, vi x1), (2, vi x2), (3, vi x3)] [vi (M 46 (M 44 7).toNat)] M
    refine v_i2l C g71.2.2.1 dX12_faultOf_90 ?_
    refine v_ldc2 (x := 48) C cs_RX12_136 (by decide) dX12_faultOf_91 ?_
    refine v_ldc2 (x := 57) C cs_RX12_138 (by decide) dX12_faultOf_94 ?_
    refine v_callS (q := qX12_in) (As := [vj (M 46 (M 44 7).toNat), vj 48, vj 57]) (S := []) C co_yX12_in ml_RX12_71 st_yX12_in ini_RX12 hq_X12_in (by decide) (Nat.le_of_ble_eq_true rfl) rfl dX12_faultOf_97 (Con.mono g71.2.2.2 (fun rr M81 hr => ?_) (Nat.le_refl _))
    obtain ⟨y82, rfl, g83⟩ := hr
    show Aj E l z (97 + 3) [(0, vr 44), (1, vi x1), (2, vi x2), (3, vi x3)] [vi y82] M81
    refine v_if_eq (tgt := 145) C g83.1 dX12_faultOf_100 (by decide) (fun c => ?_) (fun c => ?_)
    · have g84 := g83.2.1 c
      refine v_iload_n (i := 3) C dX12_faultOf_145 rfl rfl ?_
      refine v_i2l C g84.1 dX12_faultOf_146 ?_
      refine v_lconst (x := 1) C dX12_faultOf_147 (by decide) ?_
      refine v_ldc2 (x := 999) C cs_RX12_75 (by decide) dX12_faultOf_148 ?_
      refine v_callS (q := qX12_in) (As := [vj x3, vj 1, vj 999]) (S := []) C co_yX12_in ml_RX12_71 st_yX12_in ini_RX12 hq_X12_in (by decide) (Nat.le_of_ble_eq_true rfl) rfl dX12_faultOf_151 (Con.mono g84.2 (fun rr M86 hr => ?_) (Nat.le_refl _))
      obtain ⟨y87, rfl, g88⟩ := hr
      show Aj E l z (151 + 3) [(0, vr 44), (1, vi x1), (2, vi x2), (3, vi x3)] [vi y87] M86
      refine v_if_ne (tgt := 159) C g88.1 dX12_faultOf_154 (by decide) (fun c => ?_) (fun c => ?_)
      · have g89 := g88.2.1 c
        refine v_aload_n (i := 0) C dX12_faultOf_159 rfl rfl ?_
        refine v_getf (k := 44) C fl_RX12_20 rfl rfl dX12_faultOf_160 ?_
        show Aj E l z (160 + 3) [(0, vr 44), (1, vi x1), (2, vi x2), (3, vi x3)] [vr 48] M86
        refine v_iload_n (i := 1) C dX12_faultOf_163 rfl rfl ?_
        refine v_iload_n (i := 3) C dX12_faultOf_164 rfl rfl ?_
        refine v_iast (k := 48) C rfl g89.1 g89.2.1 dX12_faultOf_165 ?_
        obtain ⟨M91, hM91⟩ : ∃ X : MM, X = up M86 48 (x1).toNat x3 := ⟨_, rfl⟩
        refine v_eqM hM91 ?_
        have g92 := g89.2.2 M91 hM91
        obtain ⟨y93, hy93⟩ : ∃ y : Int, y = x1 + 1 := ⟨_, rfl⟩
        have g94 := g92 y93 hy93
        refine v_iinc (i := 1) (L' := [(1, vi y93), (0, vr 44), (2, vi x2), (3, vi x3)]) C dX12_faultOf_166 rfl (by decide) hy93 rfl ?_
        refine v_goto C dX12_faultOf_169 (tgt := 17) (by decide) ?_
        exact v_sub [1, 0] rfl (hJ17 _ _ g94)
      · have g90 := g88.2.2 c
        refine v_iload_n (i := 2) C dX12_faultOf_157 rfl rfl ?_
        exact v_iret C r dX12_faultOf_158 g90
    · have g85 := g83.2.2 c
      refine v_ldc2 (x := 10) C cs_RX12_140 (by decide) dX12_faultOf_103 ?_
      refine v_iload_n (i := 3) C dX12_faultOf_106 rfl rfl ?_
      refine v_i2l C g85.1 dX12_faultOf_107 ?_
      refine v_lmul C dX12_faultOf_108 ?_
      refine v_aload_n (i := 0) C dX12_faultOf_109 rfl rfl ?_
      refine v_getf (k := 44) C fl_RX12_13 rfl rfl dX12_faultOf_110 ?_
      show Aj E l z (110 + 3) [(0, vr 44), (1, vi x1), (2, vi x2), (3, vi x3)] [vr 46, vj (10 * x3)] M81
      refine v_aload_n (i := 0) C dX12_faultOf_113 rfl rfl ?_
      refine v_getf (k := 44) C fl_RX12_123 rfl rfl dX12_faultOf_114 ?_
      show Aj E l z (114 + 3) [(0, vr 44), (1, vi x1), (2, vi x2), (3, vi x3)] [vi (M81 44 7), vr 46, vj (10 * x3)] M81
      refine v_iald (k := 46) C rfl g85.2.1 g85.2.2.1 dX12_faultOf_117 ?_
      show Aj E l z (117 + 1) [(0, vr 44), (1, vi x1), (2, vi x2), (3, vi x3)] [vi (M81 46 (M81 44 7).toNat), vj (10 * x3)] M81
      refine v_i2l C g85.2.2.2.1 dX12_faultOf_118 ?_
      refine v_ladd C dX12_faultOf_119 ?_
      refine v_ldc2 (x := 48) C cs_RX12_136 (by decide) dX12_faultOf_120 ?_
      refine v_lsub C dX12_faultOf_123 ?_
      refine v_ldc2 (x := 1000) C cs_RX12_142 (by decide) dX12_faultOf_124 ?_
      refine v_callS (q := qX12_lesser) (As := [vj (((10 * x3) + (M81 46 (M81 44 7).toNat)) - 48), vj 1000]) (S := []) C co_yX12_lesser ml_RX12_66 st_yX12_lesser ini_RX12 hq_X12_lesser (by decide) (Nat.le_of_ble_eq_true rfl) rfl dX12_faultOf_127 (Con.mono g85.2.2.2.2 (fun rr M95 hr => ?_) (Nat.le_refl _))
      obtain ⟨y96, rfl, g97⟩ := hr
      show Aj E l z (127 + 3) [(0, vr 44), (1, vi x1), (2, vi x2), (3, vi x3)] [vj y96] M95
      refine v_l2i C dX12_faultOf_130 ?_
      obtain ⟨y98, hy98⟩ : ∃ y : Int, y = w32 y96 := ⟨_, rfl⟩
      have g99 := g97 y98 hy98
      refine v_eqi hy98 ?_
      refine v_istore_n (L' := [(3, vi y98), (0, vr 44), (1, vi x1), (2, vi x2)]) C dX12_faultOf_131 rfl (by decide) rfl ?_
      refine v_aload_n (i := 1) C dX12_faultOf_132 rfl rfl ?_
      refine v_dup C rfl dX12_faultOf_133 ?_
      refine v_getf (k := 44) C fl_RX12_123 rfl rfl dX12_faultOf_134 ?_
      show Aj E l z (134 + 3) [(3, vi y98), (0, vr 44), (1, vi x1), (2, vi x2)] [vi (M95 44 7), vr 44] M95
      refine v_iconst C dX12_faultOf_137 ?_
      refine v_iadd C dX12_faultOf_138 ?_
      refine v_putf (k := 44) (x := (M95 44 7) + 1) (t := 0) C fp_RX12_123 rfl rfl (by decide) (by simp [fv, up]) rfl rfl dX12_faultOf_139 ?_
      obtain ⟨M100, hM100⟩ : ∃ X : MM, X = up M95 44 7 ((M95 44 7) + 1) := ⟨_, rfl⟩
      refine v_eqM hM100 ?_
      have g101 := g99 M100 hM100
      refine v_goto C dX12_faultOf_142 (tgt := 70) (by decide) ?_
      exact v_sub [1, 2, 3, 0] rfl (hJ70 _ _ _ _ g101)
def VX12_faultOf_256 (E : FX) (l : Launch) (D : Nat) (post : Option AV → MM → Prop) (J17 : MM → Int → Prop) (J70 : MM → Int → Int → Int → Prop) (J191 : MM → Prop) (M : MM) : Prop :=
  Con E l D qX12_ones [vi (M 44 9)] M (fun r M102 => ∃ y103 : Int, r = some (vi y103) ∧ (R32 y103 ∧ ((2 ≤ y103 → R32 (M102 44 9) ∧ ((¬ M102 44 9 = 0 → VX12_faultOf_288 E l D post J17 J70 J191 M102 (M102 44 9)) ∧ (M102 44 9 = 0 → VX12_faultOf_288 E l D post J17 J70 J191 M102 3))) ∧ (¬ 2 ≤ y103 → post (some (vi (M102 44 7))) M102))))
set_option maxRecDepth 20000 in
theorem SX12_faultOf_256 {E : FX} {l : Launch} {D : Nat} {post : Option AV → MM → Prop} {z : RT} {J17 : MM → Int → Prop} {J70 : MM → Int → Int → Int → Prop} {J191 : MM → Prop} (C : Cx E z D RX12 cX12_faultOf 4) (r : Rt E z (some .int) post) (hJ17 : ∀ (M : MM) (x1 : Int), J17 M x1 → Aj E l z 17 [(0, vr 44), (1, vi x1)] [] M) (hJ70 : ∀ (M : MM) (x1 : Int) (x2 : Int) (x3 : Int), J70 M x1 x2 x3 → Aj E l z 70 [(0, vr 44), (1, vi x1), (2, vi x2), (3, vi x3)] [] M) (hJ191 : ∀ (M : MM), J191 M → Aj E l z 191 [(0, vr 44)] [] M) {M : MM} (h : VX12_faultOf_256 E l D post J17 J70 J191 M) : Aj E l z 256 [(0, vr 44)] [] M := by
  unfold VX12_faultOf_256 at h
  refine v_aload_n (i := 0) C dX12_faultOf_256 rfl rfl ?_
  refine v_getf (k := 44) C fl_RX12_126 rfl rfl dX12_faultOf_257 ?_
  show Aj E l z (257 + 3) [(0, vr 44)] [vi (M 44 9)] M
  refine v_callS (q := qX12_ones) (As := [vi (M 44 9)]) (S := []) C co_yX12_ones ml_RX12_150 st_yX12_ones ini_RX12 hq_X12_ones (by decide) (Nat.le_of_ble_eq_true rfl) rfl dX12_faultOf_260 (Con.mono h (fun rr M102 hr => ?_) (Nat.le_refl _))
  obtain ⟨y103, rfl, g104⟩ := hr
  show Aj E l z (260 + 3) [(0, vr 44)] [vi y103] M102
  refine v_iconst C dX12_faultOf_263 ?_
  refine v_icmp_ge (tgt := 272) C g104.1 (by decide) dX12_faultOf_264 (by decide) (fun c => ?_) (fun c => ?_)
  · have g105 := g104.2.1 c
    refine v_aload_n (i := 0) C dX12_faultOf_272 rfl rfl ?_
    refine v_aload_n (i := 0) C dX12_faultOf_273 rfl rfl ?_
    refine v_getf (k := 44) C fl_RX12_126 rfl rfl dX12_faultOf_274 ?_
    show Aj E l z (274 + 3) [(0, vr 44)] [vi (M102 44 9), vr 44] M102
    refine v_if_ne (tgt := 284) C g105.1 dX12_faultOf_277 (by decide) (fun c => ?_) (fun c => ?_)
    · have g107 := g105.2.1 c
      refine v_aload_n (i := 0) C dX12_faultOf_284 rfl rfl ?_
      refine v_getf (k := 44) C fl_RX12_126 rfl rfl dX12_faultOf_285 ?_
      show Aj E l z (285 + 3) [(0, vr 44)] [vi (M102 44 9), vr 44] M102
      exact v_sub [0] rfl (SX12_faultOf_288 C r hJ17 hJ70 hJ191 g107)
    · have g108 := g105.2.2 c
      refine v_iconst C dX12_faultOf_280 ?_
      refine v_goto C dX12_faultOf_281 (tgt := 288) (by decide) ?_
      exact v_sub [0] rfl (SX12_faultOf_288 C r hJ17 hJ70 hJ191 g108)
  · have g106 := g104.2.2 c
    refine v_aload_n (i := 0) C dX12_faultOf_267 rfl rfl ?_
    refine v_getf (k := 44) C fl_RX12_123 rfl rfl dX12_faultOf_268 ?_
    show Aj E l z (268 + 3) [(0, vr 44)] [vi (M102 44 7)] M102
    exact v_iret C r dX12_faultOf_271 g106
def VX12_faultOf_191 (E : FX) (l : Launch) (D : Nat) (post : Option AV → MM → Prop) (J17 : MM → Int → Prop) (J70 : MM → Int → Int → Int → Prop) (J191 : MM → Prop) (M : MM) : Prop :=
  Con E l D qX12_ahead [vr 44] M (fun r M109 => ∃ y110 : Int, r = some (vi y110) ∧ (R32 y110 ∧ (Con E l D qX12_in [vj y110, vj 48, vj 50] M109 (fun r M112 => ∃ y113 : Int, r = some (vi y113) ∧ (R32 y113 ∧ ((y113 = 0 → Con E l D qX12_ones [vi (M112 44 9)] M112 (fun r M117 => ∃ y118 : Int, r = some (vi y118) ∧ (R32 y118 ∧ ((2 ≤ y118 → R32 (M117 44 9) ∧ ((¬ M117 44 9 = 0 → VX12_faultOf_288 E l D post J17 J70 J191 M117 (M117 44 9)) ∧ (M117 44 9 = 0 → VX12_faultOf_288 E l D post J17 J70 J191 M117 3))) ∧ (¬ 2 ≤ y118 → post (some (vi (M117 44 7))) M117))))) ∧ (¬ y113 = 0 → Con E l D qX12_ahead [vr 44] M112 (fun r M124 => ∃ y125 : Int, r = some (vi y125) ∧ (Con E l D qX12_has [vi (M112 44 9), vi (y125 - 48)] M124 (fun r M127 => ∃ y128 : Int, r = some (vi y128) ∧ (R32 y128 ∧ ((¬ y128 = 0 → Con E l D qX12_ones [vi (M127 44 9)] M127 (fun r M132 => ∃ y133 : Int, r = some (vi y133) ∧ (R32 y133 ∧ ((2 ≤ y133 → R32 (M132 44 9) ∧ ((¬ M132 44 9 = 0 → VX12_faultOf_288 E l D post J17 J70 J191 M132 (M132 44 9)) ∧ (M132 44 9 = 0 → VX12_faultOf_288 E l D post J17 J70 J191 M132 3))) ∧ (¬ 2 ≤ y133 → post (some (vi (M132 44 7))) M132))))) ∧ (y128 = 0 → Con E l D qX12_ahead [vr 44] M127 (fun r M139 => ∃ y140 : Int, r = some (vi y140) ∧ (∀ M142 : MM, M142 = up M139 44 9 (ior (M127 44 9) (ishl 1 (y140 - 48))) → (∀ M144 : MM, M144 = up M142 44 7 ((M142 44 7) + 1) → (J191 M144 )))))))))))))))))
set_option maxRecDepth 20000 in
theorem SX12_faultOf_191 {E : FX} {l : Launch} {D : Nat} {post : Option AV → MM → Prop} {z : RT} {J17 : MM → Int → Prop} {J70 : MM → Int → Int → Int → Prop} {J191 : MM → Prop} (C : Cx E z D RX12 cX12_faultOf 4) (r : Rt E z (some .int) post) (hJ17 : ∀ (M : MM) (x1 : Int), J17 M x1 → Aj E l z 17 [(0, vr 44), (1, vi x1)] [] M) (hJ70 : ∀ (M : MM) (x1 : Int) (x2 : Int) (x3 : Int), J70 M x1 x2 x3 → Aj E l z 70 [(0, vr 44), (1, vi x1), (2, vi x2), (3, vi x3)] [] M) (hJ191 : ∀ (M : MM), J191 M → Aj E l z 191 [(0, vr 44)] [] M) {M : MM} (h : VX12_faultOf_191 E l D post J17 J70 J191 M) : Aj E l z 191 [(0, vr 44)] [] M := by
  unfold VX12_faultOf_191 at h
  refine v_aload_n (i := 0) C dX12_faultOf_191 rfl rfl ?_
  refine v_callV (q := qX12_ahead) (k := 44) (As := []) (S := []) C co_yX12_ahead ml_RX12_132 im_yX12_ahead se_yX12_ahead ini_RX12 rfl rfl hq_X12_ahead (by decide) (Nat.le_of_ble_eq_true rfl) rfl dX12_faultOf_192 (Con.mono h (fun rr M109 hr => ?_) (Nat.le_refl _))
  obtain ⟨y110, rfl, g111⟩ := hr
  show Aj E l z (192 + 3) [(0, vr 44)] [vi y110] M109
  refine v_i2l C g111.1 dX12_faultOf_195 ?_
  refine v_ldc2 (x := 48) C cs_RX12_136 (by decide) dX12_faultOf_196 ?_
  refine v_ldc2 (x := 50) C cs_RX12_144 (by decide) dX12_faultOf_199 ?_
  refine v_callS (q := qX12_in) (As := [vj y110, vj 48, vj 50]) (S := []) C co_yX12_in ml_RX12_71 st_yX12_in ini_RX12 hq_X12_in (by decide) (Nat.le_of_ble_eq_true rfl) rfl dX12_faultOf_202 (Con.mono g111.2 (fun rr M112 hr => ?_) (Nat.le_refl _))
  obtain ⟨y113, rfl, g114⟩ := hr
  show Aj E l z (202 + 3) [(0, vr 44)] [vi y113] M112
  refine v_if_eq (tgt := 256) C g114.1 dX12_faultOf_205 (by decide) (fun c => ?_) (fun c => ?_)
  · have g115 := g114.2.1 c
    refine v_aload_n (i := 0) C dX12_faultOf_256 rfl rfl ?_
    refine v_getf (k := 44) C fl_RX12_126 rfl rfl dX12_faultOf_257 ?_
    show Aj E l z (257 + 3) [(0, vr 44)] [vi (M112 44 9)] M112
    refine v_callS (q := qX12_ones) (As := [vi (M112 44 9)]) (S := []) C co_yX12_ones ml_RX12_150 st_yX12_ones ini_RX12 hq_X12_ones (by decide) (Nat.le_of_ble_eq_true rfl) rfl dX12_faultOf_260 (Con.mono g115 (fun rr M117 hr => ?_) (Nat.le_refl _))
    obtain ⟨y118, rfl, g119⟩ := hr
    show Aj E l z (260 + 3) [(0, vr 44)] [vi y118] M117
    refine v_iconst C dX12_faultOf_263 ?_
    refine v_icmp_ge (tgt := 272) C g119.1 (by decide) dX12_faultOf_264 (by decide) (fun c => ?_) (fun c => ?_)
    · have g120 := g119.2.1 c
      refine v_aload_n (i := 0) C dX12_faultOf_272 rfl rfl ?_
      refine v_aload_n (i := 0) C dX12_faultOf_273 rfl rfl ?_
      refine v_getf (k := 44) C fl_RX12_126 rfl rfl dX12_faultOf_274 ?_
      show Aj E l z (274 + 3) [(0, vr 44)] [vi (M117 44 9), vr 44] M117
      refine v_if_ne (tgt := 284) C g120.1 dX12_faultOf_277 (by decide) (fun c => ?_) (fun c => ?_)
      · have g122 := g120.2.1 c
        refine v_aload_n (i := 0) C dX12_faultOf_284 rfl rfl ?_
        refine v_getf (k := 44) C fl_RX12_126 rfl rfl dX12_faultOf_285 ?_
        show Aj E l z (285 + 3) [(0, vr 44)] [vi (M117 44 9), vr 44] M117
        exact v_sub [0] rfl (SX12_faultOf_288 C r hJ17 hJ70 hJ191 g122)
      · have g123 := g120.2.2 c
        refine v_iconst C dX12_faultOf_280 ?_
        refine v_goto C dX12_faultOf_281 (tgt := 288) (by decide) ?_
        exact v_sub [0] rfl (SX12_faultOf_288 C r hJ17 hJ70 hJ191 g123)
    · have g121 := g119.2.2 c
      refine v_aload_n (i := 0) C dX12_faultOf_267 rfl rfl ?_
      refine v_getf (k := 44) C fl_RX12_123 rfl rfl dX12_faultOf_268 ?_
      show Aj E l z (268 + 3) [(0, vr 44)] [vi (M117 44 7)] M117
      exact v_iret C r dX12_faultOf_271 g121
  · have g116 := g114.2.2 c
    refine v_aload_n (i := 0) C dX12_faultOf_208 rfl rfl ?_
    refine v_getf (k := 44) C fl_RX12_126 rfl rfl dX12_faultOf_209 ?_
    show Aj E l z (209 + 3) [(0, vr 44)] [vi (M112 44 9)] M112
    refine v_aload_n (i := 0) C dX12_faultOf_212 rfl rfl ?_
    refine v_callV (q := qX12_ahead) (k := 44) (As := []) (S := [vi (M112 44 9)]) C co_yX12_ahead ml_RX12_132 im_yX12_ahead se_yX12_ahead ini_RX12 rfl rfl hq_X12_ahead (by decide) (Nat.le_of_ble_eq_true rfl) rfl dX12_faultOf_213 (Con.mono g116 (fun rr M124 hr => ?_) (Nat.le_refl _))
    obtain ⟨y125, rfl, g126⟩ := hr
    show Aj E l z (213 + 3) [(0, vr 44)] [vi y125, vi (M112 44 9)] M124
    refine v_bipush C dX12_faultOf_216 (by decide) ?_
    refine v_isub C dX12_faultOf_218 ?_
    refine v_callS (q := qX12_has) (As := [vi (M112 44 9), vi (y125 - 48)]) (S := []) C co_yX12_has ml_RX12_146 st_yX12_has ini_RX12 hq_X12_has (by decide) (Nat.le_of_ble_eq_true rfl) rfl dX12_faultOf_219 (Con.mono g126 (fun rr M127 hr => ?_) (Nat.le_refl _))
    obtain ⟨y128, rfl, g129⟩ := hr
    show Aj E l z (219 + 3) [(0, vr 44)] [vi y128] M127
    refine v_if_ne (tgt := 256) C g129.1 dX12_faultOf_222 (by decide) (fun c => ?_) (fun c => ?_)
    · have g130 := g129.2.1 c
      refine v_aload_n (i := 0) C dX12_faultOf_256 rfl rfl ?_
      refine v_getf (k := 44) C fl_RX12_126 rfl rfl dX12_faultOf_257 ?_
      show Aj E l z (257 + 3) [(0, vr 44)] [vi (M127 44 9)] M127
      refine v_callS (q := qX12_ones) (As := [vi (M127 44 9)]) (S := []) C co_yX12_ones ml_RX12_150 st_yX12_ones ini_RX12 hq_X12_ones (by decide) (Nat.le_of_ble_eq_true rfl) rfl dX12_faultOf_260 (Con.mono g130 (fun rr M132 hr => ?_) (Nat.le_refl _))
      obtain ⟨y133, rfl, g134⟩ := hr
      show Aj E l z (260 + 3) [(0, vr 44)] [vi y133] M132
      refine v_iconst C dX12_faultOf_263 ?_
      refine v_icmp_ge (tgt := 272) C g134.1 (by decide) dX12_faultOf_264 (by decide) (fun c => ?_) (fun c => ?_)
      · have g135 := g134.2.1 c
        refine v_aload_n (i := 0) C dX12_faultOf_272 rfl rfl ?_
        refine v_aload_n (i := 0) C dX12_faultOf_273 rfl rfl ?_
        refine v_getf (k := 44) C fl_RX12_126 rfl rfl dX12_faultOf_274 ?_
        show Aj E l z (274 + 3) [(0, vr 44)] [vi (M132 44 9), vr 44] M132
        refine v_if_ne (tgt := 284) C g135.1 dX12_faultOf_277 (by decide) (fun c => ?_) (fun c => ?_)
        · have g137 := g135.2.1 c
          refine v_aload_n (i := 0) C dX12_faultOf_284 rfl rfl ?_
          refine v_getf (k := 44) C fl_RX12_126 rfl rfl dX12_faultOf_285 ?_
          show Aj E l z (285 + 3) [(0, vr 44)] [vi (M132 44 9), vr 44] M132
          exact v_sub [0] rfl (SX12_faultOf_288 C r hJ17 hJ70 hJ191 g137)
        · have g138 := g135.2.2 c
          refine v_iconst C dX12_faultOf_280 ?_
          refine v_goto C dX12_faultOf_281 (tgt := 288) (by decide) ?_
          exact v_sub [0] rfl (SX12_faultOf_288 C r hJ17 hJ70 hJ191 g138)
      · have g136 := g134.2.2 c
        refine v_aload_n (i := 0) C dX12_faultOf_267 rfl rfl ?_
        refine v_getf (k := 44) C fl_RX12_123 rfl rfl dX12_faultOf_268 ?_
        show Aj E l z (268 + 3) [(0, vr 44)] [vi (M132 44 7)] M132
        exact v_iret C r dX12_faultOf_271 g136
    · have g131 := g129.2.2 c
      refine v_aload_n (i := 0) C dX12_faultOf_225 rfl rfl ?_
      refine v_dup C rfl dX12_faultOf_226 ?_
      refine v_getf (k := 44) C fl_RX12_126 rfl rfl dX12_faultOf_227 ?_
      show Aj E l z (227 + 3) [(0, vr 44)] [vi (M127 44 9), vr 44] M127
      refine v_iconst C dX12_faultOf_230 ?_
      refine v_aload_n (i := 0) C dX12_faultOf_231 rfl rfl ?_
      refine v_callV (q := qX12_ahead) (k := 44) (As := []) (S := [vi 1, vi (M127 44 9), vr 44]) C co_yX12_ahead ml_RX12_132 im_yX12_ahead se_yX12_ahead ini_RX12 rfl rfl hq_X12_ahead (by decide) (Nat.le_of_ble_eq_true rfl) rfl dX12_faultOf_232 (Con.mono g131 (fun rr M139 hr => ?_) (Nat.le_refl _))
      obtain ⟨y140, rfl, g141⟩ := hr
      show Aj E l z (232 + 3) [(0, vr 44)] [vi y140, vi 1, vi (M127 44 9), vr 44] M139
      refine v_bipush C dX12_faultOf_235 (by decide) ?_
      refine v_isub C dX12_faultOf_237 ?_
      refine v_ishl C dX12_faultOf_238 ?_
      refine v_ior C dX12_faultOf_239 ?_
      refine v_putf (k := 44) (x := ior (M127 44 9) (ishl 1 (y140 - 48))) (t := 0) C fp_RX12_126 rfl rfl (by decide) (by simp [fv, up]) rfl rfl dX12_faultOf_240 ?_
      obtain ⟨M142, hM142⟩ : ∃ X : MM, X = up M139 44 9 (ior (M127 44 9) (ishl 1 (y140 - 48))) := ⟨_, rfl⟩
      refine v_eqM hM142 ?_
      have g143 := g141 M142 hM142
      refine v_aload_n (i := 0) C dX12_faultOf_243 rfl rfl ?_
      refine v_dup C rfl dX12_faultOf_244 ?_
      refine v_getf (k := 44) C fl_RX12_123 rfl rfl dX12_faultOf_245 ?_
      show Aj E l z (245 + 3) [(0, vr 44)] [vi (M142 44 7), vr 44] M142
      refine v_iconst C dX12_faultOf_248 ?_
      refine v_iadd C dX12_faultOf_249 ?_
      refine v_putf (k := 44) (x := (M142 44 7) + 1) (t := 0) C fp_RX12_123 rfl rfl (by decide) (by simp [fv, up]) rfl rfl dX12_faultOf_250 ?_
      obtain ⟨M144, hM144⟩ : ∃ X : MM, X = up M142 44 7 ((M142 44 7) + 1) := ⟨_, rfl⟩
      refine v_eqM hM144 ?_
      have g145 := g143 M144 hM144
      refine v_goto C dX12_faultOf_253 (tgt := 191) (by decide) ?_
      exact v_sub [0] rfl (hJ191 _ g145)
theorem RX12_faultOf {E : FX} {l : Launch} {D : Nat} {post : Option AV → MM → Prop} (I17 : MM → Int → Prop) (m17 : MM → Int → Nat) (I70 : MM → Int → Int → Int → Prop) (m70 : MM → Int → Int → Int → Nat) (I191 : MM → Prop) (m191 : MM → Nat) {M : MM} (h0 : VX12_faultOf_0 E l D post I17 I70 I191 M) (h17I : ∀ (M : MM) (x1 : Int), I17 M x1 → VX12_faultOf_17 E l D post (fun M' x1' => I17 M' x1' ∧ m17 M' x1' < m17 M x1) (fun M' x1' x2' x3' => I70 M' x1' x2' x3' ∧ m70 M' x1' x2' x3' < m17 M x1) (fun M' => I191 M' ∧ m191 M' < m17 M x1) M x1) (h70I : ∀ (M : MM) (x1 : Int) (x2 : Int) (x3 : Int), I70 M x1 x2 x3 → VX12_faultOf_70 E l D post (fun M' x1' => I17 M' x1' ∧ m17 M' x1' < m70 M x1 x2 x3) (fun M' x1' x2' x3' => I70 M' x1' x2' x3' ∧ m70 M' x1' x2' x3' < m70 M x1 x2 x3) (fun M' => I191 M' ∧ m191 M' < m70 M x1 x2 x3) M x1 x2 x3) (h191I : ∀ (M : MM), I191 M → VX12_faultOf_191 E l D post (fun M' x1' => I17 M' x1' ∧ m17 M' x1' < m191 M) (fun M' x1' x2' x3' => I70 M' x1' x2' x3' ∧ m70 M' x1' x2' x3' < m191 M) (fun M' => I191 M' ∧ m191 M' < m191 M) M) : Con E l (D + 1) qX12_faultOf [vr 44] M post := by
  refine con_of (by decide +kernel) (Nat.le_of_ble_eq_true rfl) (fun z C r => ?_)
  have all : ∀ n : Nat, (∀ (M : MM) (x1 : Int), I17 M x1 → m17 M x1 < n → Aj E l z 17 [(0, vr 44), (1, vi x1)] [] M) ∧ (∀ (M : MM) (x1 : Int) (x2 : Int) (x3 : Int), I70 M x1 x2 x3 → m70 M x1 x2 x3 < n → Aj E l z 70 [(0, vr 44), (1, vi x1), (2, vi x2), (3, vi x3)] [] M) ∧ (∀ (M : MM), I191 M → m191 M < n → Aj E l z 191 [(0, vr 44)] [] M) := by
    intro n
    induction n with
    | zero => exact ⟨fun _ _ _ hm => absurd hm (Nat.not_lt_zero _), fun _ _ _ _ _ hm => absurd hm (Nat.not_lt_zero _), fun _ _ hm => absurd hm (Nat.not_lt_zero _)⟩
    | succ n ih => exact ⟨fun M x1 hi hm => SX12_faultOf_17 C r (fun M' x1' hj => ih.1 M' x1' hj.1 (by omega)) (fun M' x1' x2' x3' hj => ih.2.1 M' x1' x2' x3' hj.1 (by omega)) (fun M' hj => ih.2.2 M' hj.1 (by omega)) (h17I M x1 hi), fun M x1 x2 x3 hi hm => SX12_faultOf_70 C r (fun M' x1' hj => ih.1 M' x1' hj.1 (by omega)) (fun M' x1' x2' x3' hj => ih.2.1 M' x1' x2' x3' hj.1 (by omega)) (fun M' hj => ih.2.2 M' hj.1 (by omega)) (h70I M x1 x2 x3 hi), fun M hi hm => SX12_faultOf_191 C r (fun M' x1' hj => ih.1 M' x1' hj.1 (by omega)) (fun M' x1' x2' x3' hj => ih.2.1 M' x1' x2' x3' hj.1 (by omega)) (fun M' hj => ih.2.2 M' hj.1 (by omega)) (h191I M hi)⟩
  exact v_sub [0] rfl (SX12_faultOf_0 C r (fun M' x1' hj => (all _).1 M' x1' hj (Nat.lt_succ_self _)) (fun M' x1' x2' x3' hj => (all _).2.1 M' x1' x2' x3' hj (Nat.lt_succ_self _)) (fun M' hj => (all _).2.2 M' hj (Nat.lt_succ_self _)) h0)
def VX12_towns_0 (E : FX) (l : Launch) (D : Nat) (post : Option AV → MM → Prop) (J21 : MM → Int → Prop) (M : MM) : Prop :=
  Con E l D qX12_faultOf [vr 44] M (fun r M1 => ∃ y2 : Int, r = some (vi y2) ∧ (∀ M4 : MM, M4 = up M1 44 3 0 → (R32 y2 ∧ ((y2 < 0 → J21 M4 0) ∧ (¬ y2 < 0 → post (some (vi ((-20) - y2))) M4)))))
set_option maxRecDepth 20000 in
theorem SX12_towns_0 {E : FX} {l : Launch} {D : Nat} {post : Option AV → MM → Prop} {z : RT} {J21 : MM → Int → Prop} (C : Cx E z D RX12 cX12_towns 3) (r : Rt E z (some .int) post) (hJ21 : ∀ (M : MM) (x2 : Int), J21 M x2 → Aj E l z 21 [(0, vr 44), (2, vi x2)] [] M) {M : MM} (h : VX12_towns_0 E l D post J21 M) : Aj E l z 0 [(0, vr 44)] [] M := by
  unfold VX12_towns_0 at h
  refine v_aload_n (i := 0) C dX12_towns_0 rfl rfl ?_
  refine v_callV (q := qX12_faultOf) (k := 44) (As := []) (S := []) C co_yX12_faultOf ml_RX12_153 im_yX12_faultOf se_yX12_faultOf ini_RX12 rfl rfl hq_X12_faultOf (by decide) (Nat.le_of_ble_eq_true rfl) rfl dX12_towns_1 (Con.mono h (fun rr M1 hr => ?_) (Nat.le_refl _))
  obtain ⟨y2, rfl, g3⟩ := hr
  show Aj E l z (1 + 3) [(0, vr 44)] [vi y2] M1
  refine v_istore_n (L' := [(1, vi y2), (0, vr 44)]) C dX12_towns_4 rfl (by decide) rfl ?_
  refine v_aload_n (i := 1) C dX12_towns_5 rfl rfl ?_
  refine v_iconst C dX12_towns_6 ?_
  refine v_putf (k := 44) (x := 0) (t := 0) C fp_RX12_120 rfl rfl (by decide) (by simp [fv, up]) rfl rfl dX12_towns_7 ?_
  obtain ⟨M4, hM4⟩ : ∃ X : MM, X = up M1 44 3 0 := ⟨_, rfl⟩
  refine v_eqM hM4 ?_
  have g5 := g3 M4 hM4
  refine v_iload_n (i := 0) C dX12_towns_10 rfl rfl ?_
  refine v_if_lt (tgt := 19) C g5.1 dX12_towns_11 (by decide) (fun c => ?_) (fun c => ?_)
  · have g6 := g5.2.1 c
    refine v_iconst C dX12_towns_19 ?_
    refine v_istore_n (L' := [(2, vi 0), (1, vi y2), (0, vr 44)]) C dX12_towns_20 rfl (by decide) rfl ?_
    exact v_sub [2, 0] rfl (hJ21 _ _ g6)
  · have g7 := g5.2.2 c
    refine v_bipush C dX12_towns_14 (by decide) ?_
    refine v_iload_n (i := 0) C dX12_towns_16 rfl rfl ?_
    refine v_isub C dX12_towns_17 ?_
    exact v_iret C r dX12_towns_18 g7
def VX12_towns_21 (E : FX) (l : Launch) (D : Nat) (post : Option AV → MM → Prop) (J21 : MM → Int → Prop) (M : MM) (x2 : Int) : Prop :=
  R32 x2 ∧ ((3 ≤ x2 → ∀ M10 : MM, M10 = up M 45 3 (M 44 9) → (∀ M12 : MM, M12 = up M10 45 4 (M10 44 10) → (Con E l D qX12_ones [vi (M12 44 9)] M12 (fun r M14 => ∃ y15 : Int, r = some (vi y15) ∧ (post (some (vi y15)) M14))))) ∧ (¬ 3 ≤ x2 → 0 ≤ x2 ∧ (x2 < 3 ∧ (0 ≤ 0 + x2 ∧ (0 + x2 < 140 ∧ (∀ M17 : MM, M17 = up M 45 (0 + x2).toNat (M 48 (x2).toNat) → (∀ y19 : Int, y19 = x2 + 1 → (J21 M17 y19))))))))
set_option maxRecDepth 20000 in
theorem SX12_towns_21 {E : FX} {l : Launch} {D : Nat} {post : Option AV → MM → Prop} {z : RT} {J21 : MM → Int → Prop} (C : Cx E z D RX12 cX12_towns 3) (r : Rt E z (some .int) post) (hJ21 : ∀ (M : MM) (x2 : Int), J21 M x2 → Aj E l z 21 [(0, vr 44), (2, vi x2)] [] M) {M : MM} {x2 : Int} (h : VX12_towns_21 E l D post J21 M x2) : Aj E l z 21 [(0, vr 44), (2, vi x2)] [] M := by
  unfold VX12_towns_21 at h
  refine v_iload_n (i := 1) C dX12_towns_21 rfl rfl ?_
  refine v_iconst C dX12_towns_22 ?_
  refine v_icmp_ge (tgt := 46) C h.1 (by decide) dX12_towns_23 (by decide) (fun c => ?_) (fun c => ?_)
  · have g8 := h.2.1 c
    refine v_aload_n (i := 0) C dX12_towns_46 rfl rfl ?_
    refine v_getf (k := 44) C fl_RX12_7 rfl rfl dX12_towns_47 ?_
    show Aj E l z (47 + 3) [(0, vr 44), (2, vi x2)] [vr 45] M
    refine v_iconst C dX12_towns_50 ?_
    refine v_aload_n (i := 0) C dX12_towns_51 rfl rfl ?_
    refine v_getf (k := 44) C fl_RX12_126 rfl rfl dX12_towns_52 ?_
    show Aj E l z (52 + 3) [(0, vr 44), (2, vi x2)] [vi (M 44 9), vi 3, vr 45] M
    refine v_iast (k := 45) C rfl (by decide) (by decide) dX12_towns_55 ?_
    show Aj E l z (55 + 1) [(0, vr 44), (2, vi x2)] [] (up M 45 3 (M 44 9))
    obtain ⟨M10, hM10⟩ : ∃ X : MM, X = up M 45 3 (M 44 9) := ⟨_, rfl⟩
    refine v_eqM hM10 ?_
    have g11 := g8 M10 hM10
    refine v_aload_n (i := 0) C dX12_towns_56 rfl rfl ?_
    refine v_getf (k := 44) C fl_RX12_7 rfl rfl dX12_towns_57 ?_
    show Aj E l z (57 + 3) [(0, vr 44), (2, vi x2)] [vr 45] M10
    refine v_iconst C dX12_towns_60 ?_
    refine v_aload_n (i := 0) C dX12_towns_61 rfl rfl ?_
    refine v_getf (k := 44) C fl_RX12_129 rfl rfl dX12_towns_62 ?_
    show Aj E l z (62 + 3) [(0, vr 44), (2, vi x2)] [vi (M10 44 10), vi 4, vr 45] M10
    refine v_iast (k := 45) C rfl (by decide) (by decide) dX12_towns_65 ?_
    show Aj E l z (65 + 1) [(0, vr 44), (2, vi x2)] [] (up M10 45 4 (M10 44 10))
    obtain ⟨M12, hM12⟩ : ∃ X : MM, X = up M10 45 4 (M10 44 10) := ⟨_, rfl⟩
    refine v_eqM hM12 ?_
    have g13 := g11 M12 hM12
    refine v_aload_n (i := 0) C dX12_towns_66 rfl rfl ?_
    refine v_getf (k := 44) C fl_RX12_126 rfl rfl dX12_towns_67 ?_
    show Aj E l z (67 + 3) [(0, vr 44), (2, vi x2)] [vi (M12 44 9)] M12
    refine v_callS (q := qX12_ones) (As := [vi (M12 44 9)]) (S := []) C co_yX12_ones ml_RX12_150 st_yX12_ones ini_RX12 hq_X12_ones (by decide) (Nat.le_of_ble_eq_true rfl) rfl dX12_towns_70 (Con.mono g13 (fun rr M14 hr => ?_) (Nat.le_refl _))
    obtain ⟨y15, rfl, g16⟩ := hr
    show Aj E l z (70 + 3) [(0, vr 44), (2, vi x2)] [vi y15] M14
    exact v_iret C r dX12_towns_73 g16
  · have g9 := h.2.2 c
    refine v_aload_n (i := 0) C dX12_towns_26 rfl rfl ?_
    refine v_getf (k := 44) C fl_RX12_7 rfl rfl dX12_towns_27 ?_
    show Aj E l z (27 + 3) [(0, vr 44), (2, vi x2)] [vr 45] M
    refine v_iconst C dX12_towns_30 ?_
    refine v_iload_n (i := 1) C dX12_towns_31 rfl rfl ?_
    refine v_iadd C dX12_towns_32 ?_
    refine v_aload_n (i := 0) C dX12_towns_33 rfl rfl ?_
    refine v_getf (k := 44) C fl_RX12_20 rfl rfl dX12_towns_34 ?_
    show Aj E l z (34 + 3) [(0, vr 44), (2, vi x2)] [vr 48, vi (0 + x2), vr 45] M
    refine v_iload_n (i := 1) C dX12_towns_37 rfl rfl ?_
    refine v_iald (k := 48) C rfl g9.1 g9.2.1 dX12_towns_38 ?_
    show Aj E l z (38 + 1) [(0, vr 44), (2, vi x2)] [vi (M 48 (x2).toNat), vi (0 + x2), vr 45] M
    refine v_iast (k := 45) C rfl g9.2.2.1 g9.2.2.2.1 dX12_towns_39 ?_
    obtain ⟨M17, hM17⟩ : ∃ X : MM, X = up M 45 (0 + x2).toNat (M 48 (x2).toNat) := ⟨_, rfl⟩
    refine v_eqM hM17 ?_
    have g18 := g9.2.2.2.2 M17 hM17
    obtain ⟨y19, hy19⟩ : ∃ y : Int, y = x2 + 1 := ⟨_, rfl⟩
    have g20 := g18 y19 hy19
    refine v_iinc (i := 1) (L' := [(2, vi y19), (0, vr 44)]) C dX12_towns_40 rfl (by decide) hy19 rfl ?_
    refine v_goto C dX12_towns_43 (tgt := 21) (by decide) ?_
    exact v_sub [1, 0] rfl (hJ21 _ _ g20)
theorem RX12_towns {E : FX} {l : Launch} {D : Nat} {post : Option AV → MM → Prop} (I21 : MM → Int → Prop) (m21 : MM → Int → Nat) {M : MM} (h0 : VX12_towns_0 E l D post I21 M) (h21I : ∀ (M : MM) (x2 : Int), I21 M x2 → VX12_towns_21 E l D post (fun M' x2' => I21 M' x2' ∧ m21 M' x2' < m21 M x2) M x2) : Con E l (D + 1) qX12_towns [vr 44] M post := by
  refine con_of (by decide +kernel) (Nat.le_of_ble_eq_true rfl) (fun z C r => ?_)
  have all : ∀ n : Nat, (∀ (M : MM) (x2 : Int), I21 M x2 → m21 M x2 < n → Aj E l z 21 [(0, vr 44), (2, vi x2)] [] M) := by
    intro n
    induction n with
    | zero => exact fun _ _ _ hm => absurd hm (Nat.not_lt_zero _)
    | succ n ih => exact fun M x2 hi hm => SX12_towns_21 C r (fun M' x2' hj => ih M' x2' hj.1 (by omega)) (h21I M x2 hi)
  exact v_sub [0] rfl (SX12_towns_0 C r (fun M' x2' hj => (all _) M' x2' hj (Nat.lt_succ_self _)) h0)
def VX12_sumOf_0 (E : FX) (l : Launch) (D : Nat) (post : Option AV → MM → Prop) (J5 : MM → Int → Int → Int → Int → Prop) (M : MM) (x1 : Int) (x2 : Int) : Prop :=
  J5 M x1 x2 0 0
set_option maxRecDepth 20000 in
theorem SX12_sumOf_0 {E : FX} {l : Launch} {D : Nat} {post : Option AV → MM → Prop} {z : RT} {J5 : MM → Int → Int → Int → Int → Prop} (C : Cx E z D RX12 cX12_sumOf 5) (r : Rt E z (some .int) post) (hJ5 : ∀ (M : MM) (x1 : Int) (x2 : Int) (x3 : Int) (x4 : Int), J5 M x1 x2 x3 x4 → Aj E l z 5 [(0, vr 44), (1, vi x1), (2, vi x2), (3, vi x3), (4, vi x4)] [] M) {M : MM} {x1 : Int} {x2 : Int} (h : VX12_sumOf_0 E l D post J5 M x1 x2) : Aj E l z 0 [(0, vr 44), (1, vi x1), (2, vi x2)] [] M := by
  unfold VX12_sumOf_0 at h
  refine v_iconst C dX12_sumOf_0 ?_
  refine v_istore_n (L' := [(3, vi 0), (0, vr 44), (1, vi x1), (2, vi x2)]) C dX12_sumOf_1 rfl (by decide) rfl ?_
  refine v_iconst C dX12_sumOf_2 ?_
  refine v_istore (L' := [(4, vi 0), (3, vi 0), (0, vr 44), (1, vi x1), (2, vi x2)]) C dX12_sumOf_3 (by decide) rfl ?_
  exact v_sub [2, 3, 4, 1, 0] rfl (hJ5 _ _ _ _ _ h)
def VX12_sumOf_5 (E : FX) (l : Launch) (D : Nat) (post : Option AV → MM → Prop) (J5 : MM → Int → Int → Int → Int → Prop) (M : MM) (x1 : Int) (x2 : Int) (x3 : Int) (x4 : Int) : Prop :=
  R32 x4 ∧ (R32 x2 ∧ ((x2 ≤ x4 → post (some (vi x3)) M) ∧ (¬ x2 ≤ x4 → 0 ≤ x1 + x4 ∧ (x1 + x4 < 140 ∧ (∀ y3 : Int, y3 = x3 + (M 45 (x1 + x4).toNat) → (∀ y5 : Int, y5 = x4 + 1 → (J5 M x1 x2 y3 y5)))))))
set_option maxRecDepth 20000 in
theorem SX12_sumOf_5 {E : FX} {l : Launch} {D : Nat} {post : Option AV → MM → Prop} {z : RT} {J5 : MM → Int → Int → Int → Int → Prop} (C : Cx E z D RX12 cX12_sumOf 5) (r : Rt E z (some .int) post) (hJ5 : ∀ (M : MM) (x1 : Int) (x2 : Int) (x3 : Int) (x4 : Int), J5 M x1 x2 x3 x4 → Aj E l z 5 [(0, vr 44), (1, vi x1), (2, vi x2), (3, vi x3), (4, vi x4)] [] M) {M : MM} {x1 : Int} {x2 : Int} {x3 : Int} {x4 : Int} (h : VX12_sumOf_5 E l D post J5 M x1 x2 x3 x4) : Aj E l z 5 [(0, vr 44), (1, vi x1), (2, vi x2), (3, vi x3), (4, vi x4)] [] M := by
  unfold VX12_sumOf_5 at h
  refine v_iload (i := 4) C dX12_sumOf_5 rfl ?_
  refine v_iload_n (i := 2) C dX12_sumOf_7 rfl rfl ?_
  refine v_icmp_ge (tgt := 29) C h.1 h.2.1 dX12_sumOf_8 (by decide) (fun c => ?_) (fun c => ?_)
  · have g1 := h.2.2.1 c
    refine v_iload_n (i := 3) C dX12_sumOf_29 rfl rfl ?_
    exact v_iret C r dX12_sumOf_30 g1
  · have g2 := h.2.2.2 c
    refine v_iload_n (i := 3) C dX12_sumOf_11 rfl rfl ?_
    refine v_aload_n (i := 0) C dX12_sumOf_12 rfl rfl ?_
    refine v_getf (k := 44) C fl_RX12_7 rfl rfl dX12_sumOf_13 ?_
    show Aj E l z (13 + 3) [(0, vr 44), (1, vi x1), (2, vi x2), (3, vi x3), (4, vi x4)] [vr 45, vi x3] M
    refine v_iload_n (i := 1) C dX12_sumOf_16 rfl rfl ?_
    refine v_iload (i := 4) C dX12_sumOf_17 rfl ?_
    refine v_iadd C dX12_sumOf_19 ?_
    refine v_iald (k := 45) C rfl g2.1 g2.2.1 dX12_sumOf_20 ?_
    show Aj E l z (20 + 1) [(0, vr 44), (1, vi x1), (2, vi x2), (3, vi x3), (4, vi x4)] [vi (M 45 (x1 + x4).toNat), vi x3] M
    refine v_iadd C dX12_sumOf_21 ?_
    obtain ⟨y3, hy3⟩ : ∃ y : Int, y = x3 + (M 45 (x1 + x4).toNat) := ⟨_, rfl⟩
    have g4 := g2.2.2 y3 hy3
    refine v_eqi hy3 ?_
    refine v_istore_n (L' := [(3, vi y3), (0, vr 44), (1, vi x1), (2, vi x2), (4, vi x4)]) C dX12_sumOf_22 rfl (by decide) rfl ?_
    obtain ⟨y5, hy5⟩ : ∃ y : Int, y = x4 + 1 := ⟨_, rfl⟩
    have g6 := g4 y5 hy5
    refine v_iinc (i := 4) (L' := [(4, vi y5), (3, vi y3), (0, vr 44), (1, vi x1), (2, vi x2)]) C dX12_sumOf_23 rfl (by decide) hy5 rfl ?_
    refine v_goto C dX12_sumOf_26 (tgt := 5) (by decide) ?_
    exact v_sub [2, 3, 4, 1, 0] rfl (hJ5 _ _ _ _ _ g6)
theorem RX12_sumOf {E : FX} {l : Launch} {D : Nat} {post : Option AV → MM → Prop} (I5 : MM → Int → Int → Int → Int → Prop) (m5 : MM → Int → Int → Int → Int → Nat) {M : MM} {x1 : Int} {x2 : Int} (h0 : VX12_sumOf_0 E l D post I5 M x1 x2) (h5I : ∀ (M : MM) (x1 : Int) (x2 : Int) (x3 : Int) (x4 : Int), I5 M x1 x2 x3 x4 → VX12_sumOf_5 E l D post (fun M' x1' x2' x3' x4' => I5 M' x1' x2' x3' x4' ∧ m5 M' x1' x2' x3' x4' < m5 M x1 x2 x3 x4) M x1 x2 x3 x4) : Con E l (D + 1) qX12_sumOf [vr 44, vi x1, vi x2] M post := by
  refine con_of (by decide +kernel) (Nat.le_of_ble_eq_true rfl) (fun z C r => ?_)
  have all : ∀ n : Nat, (∀ (M : MM) (x1 : Int) (x2 : Int) (x3 : Int) (x4 : Int), I5 M x1 x2 x3 x4 → m5 M x1 x2 x3 x4 < n → Aj E l z 5 [(0, vr 44), (1, vi x1), (2, vi x2), (3, vi x3), (4, vi x4)] [] M) := by
    intro n
    induction n with
    | zero => exact fun _ _ _ _ _ _ hm => absurd hm (Nat.not_lt_zero _)
    | succ n ih => exact fun M x1 x2 x3 x4 hi hm => SX12_sumOf_5 C r (fun M' x1' x2' x3' x4' hj => ih M' x1' x2' x3' x4' hj.1 (by omega)) (h5I M x1 x2 x3 x4 hi)
  exact v_sub [0, 1, 2] rfl (SX12_sumOf_0 C r (fun M' x1' x2' x3' x4' hj => (all _) M' x1' x2' x3' x4' hj (Nat.lt_succ_self _)) h0)
def VX12_wasteOf_0 (E : FX) (l : Launch) (D : Nat) (post : Option AV → MM → Prop) (J4 : MM → Int → Int → Prop) (M : MM) : Prop :=
  J4 M 0 0
set_option maxRecDepth 20000 in
theorem SX12_wasteOf_0 {E : FX} {l : Launch} {D : Nat} {post : Option AV → MM → Prop} {z : RT} {J4 : MM → Int → Int → Prop} (C : Cx E z D RX12 cX12_wasteOf 3) (r : Rt E z (some .int) post) (hJ4 : ∀ (M : MM) (x1 : Int) (x2 : Int), J4 M x1 x2 → Aj E l z 4 [(0, vr 44), (1, vi x1), (2, vi x2)] [] M) {M : MM} (h : VX12_wasteOf_0 E l D post J4 M) : Aj E l z 0 [(0, vr 44)] [] M := by
  unfold VX12_wasteOf_0 at h
  refine v_iconst C dX12_wasteOf_0 ?_
  refine v_istore_n (L' := [(1, vi 0), (0, vr 44)]) C dX12_wasteOf_1 rfl (by decide) rfl ?_
  refine v_iconst C dX12_wasteOf_2 ?_
  refine v_istore_n (L' := [(2, vi 0), (1, vi 0), (0, vr 44)]) C dX12_wasteOf_3 rfl (by decide) rfl ?_
  exact v_sub [2, 1, 0] rfl (hJ4 _ _ _ h)
def VX12_wasteOf_4 (E : FX) (l : Launch) (D : Nat) (post : Option AV → MM → Prop) (J4 : MM → Int → Int → Prop) (M : MM) (x1 : Int) (x2 : Int) : Prop :=
  R32 x2 ∧ (R32 (M 45 6) ∧ ((M 45 6 ≤ x2 → post (some (vi x1)) M) ∧ (¬ M 45 6 ≤ x2 → 0 ≤ 15 + x2 ∧ (15 + x2 < 140 ∧ (0 ≤ 15 + x2 ∧ (15 + x2 < 140 ∧ (R32 (M 45 (15 + x2).toNat) ∧ (Con E l D qX12_below [vr 44, vj (M 45 (15 + x2).toNat)] M (fun r M3 => ∃ y4 : Int, r = some (vj y4) ∧ (∀ y6 : Int, y6 = x1 + ((M 45 (15 + x2).toNat) - (w32 y4)) → (∀ y8 : Int, y8 = x2 + 1 → (J4 M3 y6 y8))))))))))))
set_option maxRecDepth 20000 in
theorem SX12_wasteOf_4 {E : FX} {l : Launch} {D : Nat} {post : Option AV → MM → Prop} {z : RT} {J4 : MM → Int → Int → Prop} (C : Cx E z D RX12 cX12_wasteOf 3) (r : Rt E z (some .int) post) (hJ4 : ∀ (M : MM) (x1 : Int) (x2 : Int), J4 M x1 x2 → Aj E l z 4 [(0, vr 44), (1, vi x1), (2, vi x2)] [] M) {M : MM} {x1 : Int} {x2 : Int} (h : VX12_wasteOf_4 E l D post J4 M x1 x2) : Aj E l z 4 [(0, vr 44), (1, vi x1), (2, vi x2)] [] M := by
  unfold VX12_wasteOf_4 at h
  refine v_iload_n (i := 2) C dX12_wasteOf_4 rfl rfl ?_
  refine v_aload_n (i := 0) C dX12_wasteOf_5 rfl rfl ?_
  refine v_getf (k := 44) C fl_RX12_7 rfl rfl dX12_wasteOf_6 ?_
  show Aj E l z (6 + 3) [(0, vr 44), (1, vi x1), (2, vi x2)] [vr 45, vi x2] M
  refine v_bipush C dX12_wasteOf_9 (by decide) ?_
  refine v_iald (k := 45) C rfl (by decide) (by decide) dX12_wasteOf_11 ?_
  show Aj E l z (11 + 1) [(0, vr 44), (1, vi x1), (2, vi x2)] [vi (M 45 6), vi x2] M
  refine v_icmp_ge (tgt := 49) C h.1 h.2.1 dX12_wasteOf_12 (by decide) (fun c => ?_) (fun c => ?_)
  · have g1 := h.2.2.1 c
    refine v_iload_n (i := 1) C dX12_wasteOf_49 rfl rfl ?_
    exact v_iret C r dX12_wasteOf_50 g1
  · have g2 := h.2.2.2 c
    refine v_iload_n (i := 1) C dX12_wasteOf_15 rfl rfl ?_
    refine v_aload_n (i := 0) C dX12_wasteOf_16 rfl rfl ?_
    refine v_getf (k := 44) C fl_RX12_7 rfl rfl dX12_wasteOf_17 ?_
    show Aj E l z (17 + 3) [(0, vr 44), (1, vi x1), (2, vi x2)] [vr 45, vi x1] M
    refine v_bipush C dX12_wasteOf_20 (by decide) ?_
    refine v_iload_n (i := 2) C dX12_wasteOf_22 rfl rfl ?_
    refine v_iadd C dX12_wasteOf_23 ?_
    refine v_iald (k := 45) C rfl g2.1 g2.2.1 dX12_wasteOf_24 ?_
    show Aj E l z (24 + 1) [(0, vr 44), (1, vi x1), (2, vi x2)] [vi (M 45 (15 + x2).toNat), vi x1] M
    refine v_aload_n (i := 0) C dX12_wasteOf_25 rfl rfl ?_
    refine v_aload_n (i := 0) C dX12_wasteOf_26 rfl rfl ?_
    refine v_getf (k := 44) C fl_RX12_7 rfl rfl dX12_wasteOf_27 ?_
    show Aj E l z (27 + 3) [(0, vr 44), (1, vi x1), (2, vi x2)] [vr 45, vr 44, vi (M 45 (15 + x2).toNat), vi x1] M
    refine v_bipush C dX12_wasteOf_30 (by decide) ?_
    refine v_iload_n (i := 2) C dX12_wasteOf_32 rfl rfl ?_
    refine v_iadd C dX12_wasteOf_33 ?_
    refine v_iald (k := 45) C rfl g2.2.2.1 g2.2.2.2.1 dX12_wasteOf_34 ?_
    show Aj E l z (34 + 1) [(0, vr 44), (1, vi x1), (2, vi x2)] [vi (M 45 (15 + x2).toNat), vr 44, vi (M 45 (15 + x2).toNat), vi x1] M
    refine v_i2l C g2.2.2.2.2.1 dX12_wasteOf_35 ?_
    refine v_callV (q := qX12_below) (k := 44) (As := [vj (M 45 (15 + x2).toNat)]) (S := [vi (M 45 (15 + x2).toNat), vi x1]) C co_yX12_below ml_RX12_104 im_yX12_below se_yX12_below ini_RX12 rfl rfl hq_X12_below (by decide) (Nat.le_of_ble_eq_true rfl) rfl dX12_wasteOf_36 (Con.mono g2.2.2.2.2.2 (fun rr M3 hr => ?_) (Nat.le_refl _))
    obtain ⟨y4, rfl, g5⟩ := hr
    show Aj E l z (36 + 3) [(0, vr 44), (1, vi x1), (2, vi x2)] [vj y4, vi (M 45 (15 + x2).toNat), vi x1] M3
    refine v_l2i C dX12_wasteOf_39 ?_
    refine v_isub C dX12_wasteOf_40 ?_
    refine v_iadd C dX12_wasteOf_41 ?_
    obtain ⟨y6, hy6⟩ : ∃ y : Int, y = x1 + ((M 45 (15 + x2).toNat) - (w32 y4)) := ⟨_, rfl⟩
    have g7 := g5 y6 hy6
    refine v_eqi hy6 ?_
    refine v_istore_n (L' := [(1, vi y6), (0, vr 44), (2, vi x2)]) C dX12_wasteOf_42 rfl (by decide) rfl ?_
    obtain ⟨y8, hy8⟩ : ∃ y : Int, y = x2 + 1 := ⟨_, rfl⟩
    have g9 := g7 y8 hy8
    refine v_iinc (i := 2) (L' := [(2, vi y8), (1, vi y6), (0, vr 44)]) C dX12_wasteOf_43 rfl (by decide) hy8 rfl ?_
    refine v_goto C dX12_wasteOf_46 (tgt := 4) (by decide) ?_
    exact v_sub [2, 1, 0] rfl (hJ4 _ _ _ g9)
theorem RX12_wasteOf {E : FX} {l : Launch} {D : Nat} {post : Option AV → MM → Prop} (I4 : MM → Int → Int → Prop) (m4 : MM → Int → Int → Nat) {M : MM} (h0 : VX12_wasteOf_0 E l D post I4 M) (h4I : ∀ (M : MM) (x1 : Int) (x2 : Int), I4 M x1 x2 → VX12_wasteOf_4 E l D post (fun M' x1' x2' => I4 M' x1' x2' ∧ m4 M' x1' x2' < m4 M x1 x2) M x1 x2) : Con E l (D + 1) qX12_wasteOf [vr 44] M post := by
  refine con_of (by decide +kernel) (Nat.le_of_ble_eq_true rfl) (fun z C r => ?_)
  have all : ∀ n : Nat, (∀ (M : MM) (x1 : Int) (x2 : Int), I4 M x1 x2 → m4 M x1 x2 < n → Aj E l z 4 [(0, vr 44), (1, vi x1), (2, vi x2)] [] M) := by
    intro n
    induction n with
    | zero => exact fun _ _ _ _ hm => absurd hm (Nat.not_lt_zero _)
    | succ n ih => exact fun M x1 x2 hi hm => SX12_wasteOf_4 C r (fun M' x1' x2' hj => ih M' x1' x2' hj.1 (by omega)) (h4I M x1 x2 hi)
  exact v_sub [0] rfl (SX12_wasteOf_0 C r (fun M' x1' x2' hj => (all _) M' x1' x2' hj (Nat.lt_succ_self _)) h0)
def VX12_count_0 (E : FX) (l : Launch) (D : Nat) (post : Option AV → MM → Prop) (M : MM) (x1 : Int) : Prop :=
  R32 x1 ∧ ((x1 < 0 ∨ 5 < x1 → post (some (vi (-1))) M) ∧ (x1 = 0 → post (some (vi (M 45 6))) M) ∧ (x1 = 1 → Con E l D qX12_sumOf [vr 44, vi 15, vi (M 45 6)] M (fun r M4 => ∃ y5 : Int, r = some (vi y5) ∧ (post (some (vi y5)) M4))) ∧ (x1 = 2 → post (some (vi (M 45 23))) M) ∧ (x1 = 3 → post (some (vi (M 45 24))) M) ∧ (x1 = 4 → Con E l D qX12_sumOf [vr 44, vi 25, vi (M 45 24)] M (fun r M10 => ∃ y11 : Int, r = some (vi y11) ∧ (post (some (vi y11)) M10))) ∧ (x1 = 5 → Con E l D qX12_layNow [vr 44] M (fun r M14 => r = none ∧ (Con E l D qX12_wasteOf [vr 44] M14 (fun r M16 => ∃ y17 : Int, r = some (vi y17) ∧ (post (some (vi y17)) M16))))))
set_option maxRecDepth 20000 in
theorem SX12_count_0 {E : FX} {l : Launch} {D : Nat} {post : Option AV → MM → Prop} {z : RT} (C : Cx E z D RX12 cX12_count 2) (r : Rt E z (some .int) post) {M : MM} {x1 : Int} (h : VX12_count_0 E l D post M x1) : Aj E l z 0 [(0, vr 44), (1, vi x1)] [] M := by
  unfold VX12_count_0 at h
  refine v_iload_n (i := 1) C dX12_count_0 rfl rfl ?_
  by_cases cs : x1 < 0 ∨ 5 < x1
  · refine v_tswOut C h.1 dX12_count_1 cs (tgt := 101) (by decide) ?_
    have g1 := h.2.1 cs
    refine v_iconst C dX12_count_101 ?_
    exact v_iret C r dX12_count_102 g1
  by_cases c0 : x1 = 0
  · refine v_tswIn C h.1 dX12_count_1 (by omega) (by omega) (off := 39) (by rw [c0]; rfl) (tgt := 40) (by decide) ?_
    have g2 := h.2.2.1 c0
    refine v_aload_n (i := 0) C dX12_count_40 rfl rfl ?_
    refine v_getf (k := 44) C fl_RX12_7 rfl rfl dX12_count_41 ?_
    show Aj E l z (41 + 3) [(0, vr 44), (1, vi x1)] [vr 45] M
    refine v_bipush C dX12_count_44 (by decide) ?_
    refine v_iald (k := 45) C rfl (by decide) (by decide) dX12_count_46 ?_
    show Aj E l z (46 + 1) [(0, vr 44), (1, vi x1)] [vi (M 45 6)] M
    exact v_iret C r dX12_count_47 g2
  by_cases c1 : x1 = 1
  · refine v_tswIn C h.1 dX12_count_1 (by omega) (by omega) (off := 47) (by rw [c1]; rfl) (tgt := 48) (by decide) ?_
    have g3 := h.2.2.2.1 c1
    refine v_aload_n (i := 0) C dX12_count_48 rfl rfl ?_
    refine v_bipush C dX12_count_49 (by decide) ?_
    refine v_aload_n (i := 0) C dX12_count_51 rfl rfl ?_
    refine v_getf (k := 44) C fl_RX12_7 rfl rfl dX12_count_52 ?_
    show Aj E l z (52 + 3) [(0, vr 44), (1, vi x1)] [vr 45, vi 15, vr 44] M
    refine v_bipush C dX12_count_55 (by decide) ?_
    refine v_iald (k := 45) C rfl (by decide) (by decide) dX12_count_57 ?_
    show Aj E l z (57 + 1) [(0, vr 44), (1, vi x1)] [vi (M 45 6), vi 15, vr 44] M
    refine v_callV (q := qX12_sumOf) (k := 44) (As := [vi 15, vi (M 45 6)]) (S := []) C co_yX12_sumOf ml_RX12_156 im_yX12_sumOf se_yX12_sumOf ini_RX12 rfl rfl hq_X12_sumOf (by decide) (Nat.le_of_ble_eq_true rfl) rfl dX12_count_58 (Con.mono g3 (fun rr M4 hr => ?_) (Nat.le_refl _))
    obtain ⟨y5, rfl, g6⟩ := hr
    show Aj E l z (58 + 3) [(0, vr 44), (1, vi x1)] [vi y5] M4
    exact v_iret C r dX12_count_61 g6
  by_cases c2 : x1 = 2
  · refine v_tswIn C h.1 dX12_count_1 (by omega) (by omega) (off := 61) (by rw [c2]; rfl) (tgt := 62) (by decide) ?_
    have g7 := h.2.2.2.2.1 c2
    refine v_aload_n (i := 0) C dX12_count_62 rfl rfl ?_
    refine v_getf (k := 44) C fl_RX12_7 rfl rfl dX12_count_63 ?_
    show Aj E l z (63 + 3) [(0, vr 44), (1, vi x1)] [vr 45] M
    refine v_bipush C dX12_count_66 (by decide) ?_
    refine v_iald (k := 45) C rfl (by decide) (by decide) dX12_count_68 ?_
    show Aj E l z (68 + 1) [(0, vr 44), (1, vi x1)] [vi (M 45 23)] M
    exact v_iret C r dX12_count_69 g7
  by_cases c3 : x1 = 3
  · refine v_tswIn C h.1 dX12_count_1 (by omega) (by omega) (off := 69) (by rw [c3]; rfl) (tgt := 70) (by decide) ?_
    have g8 := h.2.2.2.2.2.1 c3
    refine v_aload_n (i := 0) C dX12_count_70 rfl rfl ?_
    refine v_getf (k := 44) C fl_RX12_7 rfl rfl dX12_count_71 ?_
    show Aj E l z (71 + 3) [(0, vr 44), (1, vi x1)] [vr 45] M
    refine v_bipush C dX12_count_74 (by decide) ?_
    refine v_iald (k := 45) C rfl (by decide) (by decide) dX12_count_76 ?_
    show Aj E l z (76 + 1) [(0, vr 44), (1, vi x1)] [vi (M 45 24)] M
    exact v_iret C r dX12_count_77 g8
  by_cases c4 : x1 = 4
  · refine v_tswIn C h.1 dX12_count_1 (by omega) (by omega) (off := 77) (by rw [c4]; rfl) (tgt := 78) (by decide) ?_
    have g9 := h.2.2.2.2.2.2.1 c4
    refine v_aload_n (i := 0) C dX12_count_78 rfl rfl ?_
    refine v_bipush C dX12_count_79 (by decide) ?_
    refine v_aload_n (i := 0) C dX12_count_81 rfl rfl ?_
    refine v_getf (k := 44) C fl_RX12_7 rfl rfl dX12_count_82 ?_
    show Aj E l z (82 + 3) [(0, vr 44), (1, vi x1)] [vr 45, vi 25, vr 44] M
    refine v_bipush C dX12_count_85 (by decide) ?_
    refine v_iald (k := 45) C rfl (by decide) (by decide) dX12_count_87 ?_
    show Aj E l z (87 + 1) [(0, vr 44), (1, vi x1)] [vi (M 45 24), vi 25, vr 44] M
    refine v_callV (q := qX12_sumOf) (k := 44) (As := [vi 25, vi (M 45 24)]) (S := []) C co_yX12_sumOf ml_RX12_156 im_yX12_sumOf se_yX12_sumOf ini_RX12 rfl rfl hq_X12_sumOf (by decide) (Nat.le_of_ble_eq_true rfl) rfl dX12_count_88 (Con.mono g9 (fun rr M10 hr => ?_) (Nat.le_refl _))
    obtain ⟨y11, rfl, g12⟩ := hr
    show Aj E l z (88 + 3) [(0, vr 44), (1, vi x1)] [vi y11] M10
    exact v_iret C r dX12_count_91 g12
  by_cases c5 : x1 = 5
  · refine v_tswIn C h.1 dX12_count_1 (by omega) (by omega) (off := 91) (by rw [c5]; rfl) (tgt := 92) (by decide) ?_
    have g13 := h.2.2.2.2.2.2.2 c5
    refine v_aload_n (i := 0) C dX12_count_92 rfl rfl ?_
    refine v_callV (q := qX12_layNow) (k := 44) (As := []) (S := []) C co_yX12_layNow ml_RX12_87 im_yX12_layNow se_yX12_layNow ini_RX12 rfl rfl hq_X12_layNow (by decide) (Nat.le_of_ble_eq_true rfl) rfl dX12_count_93 (Con.mono g13 (fun rr M14 hr => ?_) (Nat.le_refl _))
    obtain ⟨rfl, g15⟩ := hr
    show Aj E l z (93 + 3) [(0, vr 44), (1, vi x1)] [] M14
    refine v_aload_n (i := 0) C dX12_count_96 rfl rfl ?_
    refine v_callV (q := qX12_wasteOf) (k := 44) (As := []) (S := []) C co_yX12_wasteOf ml_RX12_160 im_yX12_wasteOf se_yX12_wasteOf ini_RX12 rfl rfl hq_X12_wasteOf (by decide) (Nat.le_of_ble_eq_true rfl) rfl dX12_count_97 (Con.mono g15 (fun rr M16 hr => ?_) (Nat.le_refl _))
    obtain ⟨y17, rfl, g18⟩ := hr
    show Aj E l z (97 + 3) [(0, vr 44), (1, vi x1)] [vi y17] M16
    exact v_iret C r dX12_count_100 g18
  omega
theorem RX12_count {E : FX} {l : Launch} {D : Nat} {post : Option AV → MM → Prop} {M : MM} {x1 : Int} (h0 : VX12_count_0 E l D post M x1) : Con E l (D + 1) qX12_count [vr 44, vi x1] M post := by
  refine con_of (by decide +kernel) (Nat.le_of_ble_eq_true rfl) (fun z C r => ?_)
  exact v_sub [0, 1] rfl (SX12_count_0 C r h0)
def VX12_goesOn_0 (E : FX) (l : Launch) (D : Nat) (post : Option AV → MM → Prop) (J4 : MM → Int → Int → Prop) (J13 : MM → Int → Int → Int → Int → Prop) (J73 : MM → Int → Int → Prop) (M : MM) (x1 : Int) : Prop :=
  ∀ y1 : Int, y1 = x1 - 1 → (J4 M x1 y1)
set_option maxRecDepth 20000 in
theorem SX12_goesOn_0 {E : FX} {l : Launch} {D : Nat} {post : Option AV → MM → Prop} {z : RT} {J4 : MM → Int → Int → Prop} {J13 : MM → Int → Int → Int → Int → Prop} {J73 : MM → Int → Int → Prop} (C : Cx E z D RX12 cX12_goesOn 5) (r : Rt E z (some .boolean) post) (hJ4 : ∀ (M : MM) (x1 : Int) (x2 : Int), J4 M x1 x2 → Aj E l z 4 [(0, vr 44), (1, vi x1), (2, vi x2)] [] M) (hJ13 : ∀ (M : MM) (x1 : Int) (x2 : Int) (x3 : Int) (x4 : Int), J13 M x1 x2 x3 x4 → Aj E l z 13 [(0, vr 44), (1, vi x1), (2, vi x2), (3, vi x3), (4, vi x4)] [] M) (hJ73 : ∀ (M : MM) (x1 : Int) (x4 : Int), J73 M x1 x4 → Aj E l z 73 [(0, vr 44), (1, vi x1), (4, vi x4)] [] M) {M : MM} {x1 : Int} (h : VX12_goesOn_0 E l D post J4 J13 J73 M x1) : Aj E l z 0 [(0, vr 44), (1, vi x1)] [] M := by
  unfold VX12_goesOn_0 at h
  refine v_iload_n (i := 1) C dX12_goesOn_0 rfl rfl ?_
  refine v_iconst C dX12_goesOn_1 ?_
  refine v_isub C dX12_goesOn_2 ?_
  obtain ⟨y1, hy1⟩ : ∃ y : Int, y = x1 - 1 := ⟨_, rfl⟩
  have g2 := h y1 hy1
  refine v_eqi hy1 ?_
  refine v_istore_n (L' := [(2, vi y1), (0, vr 44), (1, vi x1)]) C dX12_goesOn_3 rfl (by decide) rfl ?_
  exact v_sub [1, 2, 0] rfl (hJ4 _ _ _ g2)
def VX12_goesOn_4 (E : FX) (l : Launch) (D : Nat) (post : Option AV → MM → Prop) (J4 : MM → Int → Int → Prop) (J13 : MM → Int → Int → Int → Int → Prop) (J73 : MM → Int → Int → Prop) (M : MM) (x1 : Int) (x2 : Int) : Prop :=
  R32 x2 ∧ ((x2 ≤ 0 → post (some (vi 0)) M) ∧ (¬ x2 ≤ 0 → J13 M x1 x2 0 0))
set_option maxRecDepth 20000 in
theorem SX12_goesOn_4 {E : FX} {l : Launch} {D : Nat} {post : Option AV → MM → Prop} {z : RT} {J4 : MM → Int → Int → Prop} {J13 : MM → Int → Int → Int → Int → Prop} {J73 : MM → Int → Int → Prop} (C : Cx E z D RX12 cX12_goesOn 5) (r : Rt E z (some .boolean) post) (hJ4 : ∀ (M : MM) (x1 : Int) (x2 : Int), J4 M x1 x2 → Aj E l z 4 [(0, vr 44), (1, vi x1), (2, vi x2)] [] M) (hJ13 : ∀ (M : MM) (x1 : Int) (x2 : Int) (x3 : Int) (x4 : Int), J13 M x1 x2 x3 x4 → Aj E l z 13 [(0, vr 44), (1, vi x1), (2, vi x2), (3, vi x3), (4, vi x4)] [] M) (hJ73 : ∀ (M : MM) (x1 : Int) (x4 : Int), J73 M x1 x4 → Aj E l z 73 [(0, vr 44), (1, vi x1), (4, vi x4)] [] M) {M : MM} {x1 : Int} {x2 : Int} (h : VX12_goesOn_4 E l D post J4 J13 J73 M x1 x2) : Aj E l z 4 [(0, vr 44), (1, vi x1), (2, vi x2)] [] M := by
  unfold VX12_goesOn_4 at h
  refine v_iload_n (i := 2) C dX12_goesOn_4 rfl rfl ?_
  refine v_if_le (tgt := 101) C h.1 dX12_goesOn_5 (by decide) (fun c => ?_) (fun c => ?_)
  · have g3 := h.2.1 c
    refine v_iconst C dX12_goesOn_101 ?_
    exact v_zret C r (by decide) dX12_goesOn_102 g3
  · have g4 := h.2.2 c
    refine v_iconst C dX12_goesOn_8 ?_
    refine v_istore_n (L' := [(3, vi 0), (0, vr 44), (1, vi x1), (2, vi x2)]) C dX12_goesOn_9 rfl (by decide) rfl ?_
    refine v_iconst C dX12_goesOn_10 ?_
    refine v_istore (L' := [(4, vi 0), (3, vi 0), (0, vr 44), (1, vi x1), (2, vi x2)]) C dX12_goesOn_11 (by decide) rfl ?_
    exact v_sub [2, 3, 4, 1, 0] rfl (hJ13 _ _ _ _ _ g4)
def VX12_goesOn_41 (E : FX) (l : Launch) (D : Nat) (post : Option AV → MM → Prop) (J4 : MM → Int → Int → Prop) (J13 : MM → Int → Int → Int → Int → Prop) (J73 : MM → Int → Int → Prop) (M : MM) (x1 : Int) (x2 : Int) (x4 : Int) (s0 : Int) : Prop :=
  ∀ y5 : Int, y5 = x4 + 1 → (J13 M x1 x2 s0 y5)
set_option maxRecDepth 20000 in
theorem SX12_goesOn_41 {E : FX} {l : Launch} {D : Nat} {post : Option AV → MM → Prop} {z : RT} {J4 : MM → Int → Int → Prop} {J13 : MM → Int → Int → Int → Int → Prop} {J73 : MM → Int → Int → Prop} (C : Cx E z D RX12 cX12_goesOn 5) (r : Rt E z (some .boolean) post) (hJ4 : ∀ (M : MM) (x1 : Int) (x2 : Int), J4 M x1 x2 → Aj E l z 4 [(0, vr 44), (1, vi x1), (2, vi x2)] [] M) (hJ13 : ∀ (M : MM) (x1 : Int) (x2 : Int) (x3 : Int) (x4 : Int), J13 M x1 x2 x3 x4 → Aj E l z 13 [(0, vr 44), (1, vi x1), (2, vi x2), (3, vi x3), (4, vi x4)] [] M) (hJ73 : ∀ (M : MM) (x1 : Int) (x4 : Int), J73 M x1 x4 → Aj E l z 73 [(0, vr 44), (1, vi x1), (4, vi x4)] [] M) {M : MM} {x1 : Int} {x2 : Int} {x4 : Int} {s0 : Int} (h : VX12_goesOn_41 E l D post J4 J13 J73 M x1 x2 x4 s0) : Aj E l z 41 [(0, vr 44), (1, vi x1), (2, vi x2), (4, vi x4)] [vi s0] M := by
  unfold VX12_goesOn_41 at h
  refine v_istore_n (L' := [(3, vi s0), (0, vr 44), (1, vi x1), (2, vi x2), (4, vi x4)]) C dX12_goesOn_41 rfl (by decide) rfl ?_
  obtain ⟨y5, hy5⟩ : ∃ y : Int, y = x4 + 1 := ⟨_, rfl⟩
  have g6 := h y5 hy5
  refine v_iinc (i := 4) (L' := [(4, vi y5), (3, vi s0), (0, vr 44), (1, vi x1), (2, vi x2)]) C dX12_goesOn_42 rfl (by decide) hy5 rfl ?_
  refine v_goto C dX12_goesOn_45 (tgt := 13) (by decide) ?_
  exact v_sub [2, 3, 4, 1, 0] rfl (hJ13 _ _ _ _ _ g6)
def VX12_goesOn_13 (E : FX) (l : Launch) (D : Nat) (post : Option AV → MM → Prop) (J4 : MM → Int → Int → Prop) (J13 : MM → Int → Int → Int → Int → Prop) (J73 : MM → Int → Int → Prop) (M : MM) (x1 : Int) (x2 : Int) (x3 : Int) (x4 : Int) : Prop :=
  R32 x4 ∧ (R32 x2 ∧ ((x2 ≤ x4 → 0 ≤ x2 ∧ (x2 < 8 ∧ (R32 (M 49 (x2).toNat) ∧ (R32 x3 ∧ ((x3 < M 49 (x2).toNat → ∀ y11 : Int, y11 = x2 + (-1) → (J4 M x1 y11)) ∧ (¬ x3 < M 49 (x2).toNat → 0 ≤ x2 ∧ (x2 < 8 ∧ (0 ≤ x2 ∧ (x2 < 8 ∧ (∀ M13 : MM, M13 = up M 49 (x2).toNat ((M 49 (x2).toNat) + 1) → (∀ y15 : Int, y15 = x2 + 1 → (J73 M13 x1 y15)))))))))))) ∧ (¬ x2 ≤ x4 → 0 ≤ x4 ∧ (x4 < 8 ∧ (R32 (M 49 (x4).toNat) ∧ (R32 x3 ∧ ((M 49 (x4).toNat ≤ x3 → VX12_goesOn_41 E l D post J4 J13 J73 M x1 x2 x4 x3) ∧ (¬ M 49 (x4).toNat ≤ x3 → 0 ≤ x4 ∧ (x4 < 8 ∧ (VX12_goesOn_41 E l D post J4 J13 J73 M x1 x2 x4 (M 49 (x4).toNat)))))))))))
set_option maxRecDepth 20000 in
theorem SX12_goesOn_13 {E : FX} {l : Launch} {D : Nat} {post : Option AV → MM → Prop} {z : RT} {J4 : MM → Int → Int → Prop} {J13 : MM → Int → Int → Int → Int → Prop} {J73 : MM → Int → Int → Prop} (C : Cx E z D RX12 cX12_goesOn 5) (r : Rt E z (some .boolean) post) (hJ4 : ∀ (M : MM) (x1 : Int) (x2 : Int), J4 M x1 x2 → Aj E l z 4 [(0, vr 44), (1, vi x1), (2, vi x2)] [] M) (hJ13 : ∀ (M : MM) (x1 : Int) (x2 : Int) (x3 : Int) (x4 : Int), J13 M x1 x2 x3 x4 → Aj E l z 13 [(0, vr 44), (1, vi x1), (2, vi x2), (3, vi x3), (4, vi x4)] [] M) (hJ73 : ∀ (M : MM) (x1 : Int) (x4 : Int), J73 M x1 x4 → Aj E l z 73 [(0, vr 44), (1, vi x1), (4, vi x4)] [] M) {M : MM} {x1 : Int} {x2 : Int} {x3 : Int} {x4 : Int} (h : VX12_goesOn_13 E l D post J4 J13 J73 M x1 x2 x3 x4) : Aj E l z 13 [(0, vr 44), (1, vi x1), (2, vi x2), (3, vi x3), (4, vi x4)] [] M := by
  unfold VX12_goesOn_13 at h
  refine v_iload (i := 4) C dX12_goesOn_13 rfl ?_
  refine v_iload_n (i := 2) C dX12_goesOn_15 rfl rfl ?_
  refine v_icmp_ge (tgt := 48) C h.1 h.2.1 dX12_goesOn_16 (by decide) (fun c => ?_) (fun c => ?_)
  · have g7 := h.2.2.1 c
    refine v_aload_n (i := 0) C dX12_goesOn_48 rfl rfl ?_
    refine v_getf (k := 44) C fl_RX12_23 rfl rfl dX12_goesOn_49 ?_
    show Aj E l z (49 + 3) [(0, vr 44), (1, vi x1), (2, vi x2), (3, vi x3), (4, vi x4)] [vr 49] M
    refine v_iload_n (i := 2) C dX12_goesOn_52 rfl rfl ?_
    refine v_iald (k := 49) C rfl g7.1 g7.2.1 dX12_goesOn_53 ?_
    show Aj E l z (53 + 1) [(0, vr 44), (1, vi x1), (2, vi x2), (3, vi x3), (4, vi x4)] [vi (M 49 (x2).toNat)] M
    refine v_iload_n (i := 3) C dX12_goesOn_54 rfl rfl ?_
    refine v_icmp_gt (tgt := 95) C g7.2.2.1 g7.2.2.2.1 dX12_goesOn_55 (by decide) (fun c => ?_) (fun c => ?_)
    · have g9 := g7.2.2.2.2.1 c
      obtain ⟨y11, hy11⟩ : ∃ y : Int, y = x2 + (-1) := ⟨_, rfl⟩
      have g12 := g9 y11 hy11
      refine v_iinc (i := 2) (L' := [(2, vi y11), (0, vr 44), (1, vi x1), (3, vi x3), (4, vi x4)]) C dX12_goesOn_95 rfl (by decide) hy11 rfl ?_
      refine v_goto C dX12_goesOn_98 (tgt := 4) (by decide) ?_
      exact v_sub [1, 2, 0] rfl (hJ4 _ _ _ g12)
    · have g10 := g7.2.2.2.2.2 c
      refine v_aload_n (i := 0) C dX12_goesOn_58 rfl rfl ?_
      refine v_getf (k := 44) C fl_RX12_23 rfl rfl dX12_goesOn_59 ?_
      show Aj E l z (59 + 3) [(0, vr 44), (1, vi x1), (2, vi x2), (3, vi x3), (4, vi x4)] [vr 49] M
      refine v_iload_n (i := 2) C dX12_goesOn_62 rfl rfl ?_
      refine v_dup2 C rfl rfl dX12_goesOn_63 ?_
      refine v_iald (k := 49) C rfl g10.1 g10.2.1 dX12_goesOn_64 ?_
      show Aj E l z (64 + 1) [(0, vr 44), (1, vi x1), (2, vi x2), (3, vi x3), (4, vi x4)] [vi (M 49 (x2).toNat), vi x2, vr 49] M
      refine v_iconst C dX12_goesOn_65 ?_
      refine v_iadd C dX12_goesOn_66 ?_
      refine v_iast (k := 49) C rfl g10.2.2.1 g10.2.2.2.1 dX12_goesOn_67 ?_
      obtain ⟨M13, hM13⟩ : ∃ X : MM, X = up M 49 (x2).toNat ((M 49 (x2).toNat) + 1) := ⟨_, rfl⟩
      refine v_eqM hM13 ?_
      have g14 := g10.2.2.2.2 M13 hM13
      refine v_iload_n (i := 2) C dX12_goesOn_68 rfl rfl ?_
      refine v_iconst C dX12_goesOn_69 ?_
      refine v_iadd C dX12_goesOn_70 ?_
      obtain ⟨y15, hy15⟩ : ∃ y : Int, y = x2 + 1 := ⟨_, rfl⟩
      have g16 := g14 y15 hy15
      refine v_eqi hy15 ?_
      refine v_istore (L' := [(4, vi y15), (0, vr 44), (1, vi x1), (2, vi x2), (3, vi x3)]) C dX12_goesOn_71 (by decide) rfl ?_
      exact v_sub [1, 2, 0] rfl (hJ73 _ _ _ g16)
  · have g8 := h.2.2.2 c
    refine v_aload_n (i := 0) C dX12_goesOn_19 rfl rfl ?_
    refine v_getf (k := 44) C fl_RX12_23 rfl rfl dX12_goesOn_20 ?_
    show Aj E l z (20 + 3) [(0, vr 44), (1, vi x1), (2, vi x2), (3, vi x3), (4, vi x4)] [vr 49] M
    refine v_iload (i := 4) C dX12_goesOn_23 rfl ?_
    refine v_iald (k := 49) C rfl g8.1 g8.2.1 dX12_goesOn_25 ?_
    show Aj E l z (25 + 1) [(0, vr 44), (1, vi x1), (2, vi x2), (3, vi x3), (4, vi x4)] [vi (M 49 (x4).toNat)] M
    refine v_iload_n (i := 3) C dX12_goesOn_26 rfl rfl ?_
    refine v_icmp_le (tgt := 40) C g8.2.2.1 g8.2.2.2.1 dX12_goesOn_27 (by decide) (fun c => ?_) (fun c => ?_)
    · have g17 := g8.2.2.2.2.1 c
      refine v_iload_n (i := 3) C dX12_goesOn_40 rfl rfl ?_
      exact v_sub [0, 1, 2, 4] rfl (SX12_goesOn_41 C r hJ4 hJ13 hJ73 g17)
    · have g18 := g8.2.2.2.2.2 c
      refine v_aload_n (i := 0) C dX12_goesOn_30 rfl rfl ?_
      refine v_getf (k := 44) C fl_RX12_23 rfl rfl dX12_goesOn_31 ?_
      show Aj E l z (31 + 3) [(0, vr 44), (1, vi x1), (2, vi x2), (3, vi x3), (4, vi x4)] [vr 49] M
      refine v_iload (i := 4) C dX12_goesOn_34 rfl ?_
      refine v_iald (k := 49) C rfl g18.1 g18.2.1 dX12_goesOn_36 ?_
      show Aj E l z (36 + 1) [(0, vr 44), (1, vi x1), (2, vi x2), (3, vi x3), (4, vi x4)] [vi (M 49 (x4).toNat)] M
      refine v_goto C dX12_goesOn_37 (tgt := 41) (by decide) ?_
      exact v_sub [0, 1, 2, 4] rfl (SX12_goesOn_41 C r hJ4 hJ13 hJ73 g18.2.2)
def VX12_goesOn_73 (E : FX) (l : Launch) (D : Nat) (post : Option AV → MM → Prop) (J4 : MM → Int → Int → Prop) (J13 : MM → Int → Int → Int → Int → Prop) (J73 : MM → Int → Int → Prop) (M : MM) (x1 : Int) (x4 : Int) : Prop :=
  R32 x4 ∧ (R32 x1 ∧ ((x1 ≤ x4 → post (some (vi 1)) M) ∧ (¬ x1 ≤ x4 → 0 ≤ x4 ∧ (x4 < 8 ∧ (∀ M21 : MM, M21 = up M 49 (x4).toNat 0 → (∀ y23 : Int, y23 = x4 + 1 → (J73 M21 x1 y23)))))))
set_option maxRecDepth 20000 in
theorem SX12_goesOn_73 {E : FX} {l : Launch} {D : Nat} {post : Option AV → MM → Prop} {z : RT} {J4 : MM → Int → Int → Prop} {J13 : MM → Int → Int → Int → Int → Prop} {J73 : MM → Int → Int → Prop} (C : Cx E z D RX12 cX12_goesOn 5) (r : Rt E z (some .boolean) post) (hJ4 : ∀ (M : MM) (x1 : Int) (x2 : Int), J4 M x1 x2 → Aj E l z 4 [(0, vr 44), (1, vi x1), (2, vi x2)] [] M) (hJ13 : ∀ (M : MM) (x1 : Int) (x2 : Int) (x3 : Int) (x4 : Int), J13 M x1 x2 x3 x4 → Aj E l z 13 [(0, vr 44), (1, vi x1), (2, vi x2), (3, vi x3), (4, vi x4)] [] M) (hJ73 : ∀ (M : MM) (x1 : Int) (x4 : Int), J73 M x1 x4 → Aj E l z 73 [(0, vr 44), (1, vi x1), (4, vi x4)] [] M) {M : MM} {x1 : Int} {x4 : Int} (h : VX12_goesOn_73 E l D post J4 J13 J73 M x1 x4) : Aj E l z 73 [(0, vr 44), (1, vi x1), (4, vi x4)] [] M := by
  unfold VX12_goesOn_73 at h
  refine v_iload (i := 2) C dX12_goesOn_73 rfl ?_
  refine v_iload_n (i := 1) C dX12_goesOn_75 rfl rfl ?_
  refine v_icmp_ge (tgt := 93) C h.1 h.2.1 dX12_goesOn_76 (by decide) (fun c => ?_) (fun c => ?_)
  · have g19 := h.2.2.1 c
    refine v_iconst C dX12_goesOn_93 ?_
    exact v_zret C r (by decide) dX12_goesOn_94 g19
  · have g20 := h.2.2.2 c
    refine v_aload_n (i := 0) C dX12_goesOn_79 rfl rfl ?_
    refine v_getf (k := 44) C fl_RX12_23 rfl rfl dX12_goesOn_80 ?_
    show Aj E l z (80 + 3) [(0, vr 44), (1, vi x1), (4, vi x4)] [vr 49] M
    refine v_iload (i := 2) C dX12_goesOn_83 rfl ?_
    refine v_iconst C dX12_goesOn_85 ?_
    refine v_iast (k := 49) C rfl g20.1 g20.2.1 dX12_goesOn_86 ?_
    obtain ⟨M21, hM21⟩ : ∃ X : MM, X = up M 49 (x4).toNat 0 := ⟨_, rfl⟩
    refine v_eqM hM21 ?_
    have g22 := g20.2.2 M21 hM21
    obtain ⟨y23, hy23⟩ : ∃ y : Int, y = x4 + 1 := ⟨_, rfl⟩
    have g24 := g22 y23 hy23
    refine v_iinc (i := 2) (L' := [(4, vi y23), (0, vr 44), (1, vi x1)]) C dX12_goesOn_87 rfl (by decide) hy23 rfl ?_
    refine v_goto C dX12_goesOn_90 (tgt := 73) (by decide) ?_
    exact v_sub [1, 2, 0] rfl (hJ73 _ _ _ g24)
theorem RX12_goesOn {E : FX} {l : Launch} {D : Nat} {post : Option AV → MM → Prop} (I4 : MM → Int → Int → Prop) (m4 : MM → Int → Int → Nat) (I13 : MM → Int → Int → Int → Int → Prop) (m13 : MM → Int → Int → Int → Int → Nat) (I73 : MM → Int → Int → Prop) (m73 : MM → Int → Int → Nat) {M : MM} {x1 : Int} (h0 : VX12_goesOn_0 E l D post I4 I13 I73 M x1) (h4I : ∀ (M : MM) (x1 : Int) (x2 : Int), I4 M x1 x2 → VX12_goesOn_4 E l D post (fun M' x1' x2' => I4 M' x1' x2' ∧ m4 M' x1' x2' < m4 M x1 x2) (fun M' x1' x2' x3' x4' => I13 M' x1' x2' x3' x4' ∧ m13 M' x1' x2' x3' x4' < m4 M x1 x2) (fun M' x1' x4' => I73 M' x1' x4' ∧ m73 M' x1' x4' < m4 M x1 x2) M x1 x2) (h13I : ∀ (M : MM) (x1 : Int) (x2 : Int) (x3 : Int) (x4 : Int), I13 M x1 x2 x3 x4 → VX12_goesOn_13 E l D post (fun M' x1' x2' => I4 M' x1' x2' ∧ m4 M' x1' x2' < m13 M x1 x2 x3 x4) (fun M' x1' x2' x3' x4' => I13 M' x1' x2' x3' x4' ∧ m13 M' x1' x2' x3' x4' < m13 M x1 x2 x3 x4) (fun M' x1' x4' => I73 M' x1' x4' ∧ m73 M' x1' x4' < m13 M x1 x2 x3 x4) M x1 x2 x3 x4) (h73I : ∀ (M : MM) (x1 : Int) (x4 : Int), I73 M x1 x4 → VX12_goesOn_73 E l D post (fun M' x1' x2' => I4 M' x1' x2' ∧ m4 M' x1' x2' < m73 M x1 x4) (fun M' x1' x2' x3' x4' => I13 M' x1' x2' x3' x4' ∧ m13 M' x1' x2' x3' x4' < m73 M x1 x4) (fun M' x1' x4' => I73 M' x1' x4' ∧ m73 M' x1' x4' < m73 M x1 x4) M x1 x4) : Con E l (D + 1) qX12_goesOn [vr 44, vi x1] M post := by
  refine con_of (by decide +kernel) (Nat.le_of_ble_eq_true rfl) (fun z C r => ?_)
  have all : ∀ n : Nat, (∀ (M : MM) (x1 : Int) (x2 : Int), I4 M x1 x2 → m4 M x1 x2 < n → Aj E l z 4 [(0, vr 44), (1, vi x1), (2, vi x2)] [] M) ∧ (∀ (M : MM) (x1 : Int) (x2 : Int) (x3 : Int) (x4 : Int), I13 M x1 x2 x3 x4 → m13 M x1 x2 x3 x4 < n → Aj E l z 13 [(0, vr 44), (1, vi x1), (2, vi x2), (3, vi x3), (4, vi x4)] [] M) ∧ (∀ (M : MM) (x1 : Int) (x4 : Int), I73 M x1 x4 → m73 M x1 x4 < n → Aj E l z 73 [(0, vr 44), (1, vi x1), (4, vi x4)] [] M) := by
    intro n
    induction n with
    | zero => exact ⟨fun _ _ _ _ hm => absurd hm (Nat.not_lt_zero _), fun _ _ _ _ _ _ hm => absurd hm (Nat.not_lt_zero _), fun _ _ _ _ hm => absurd hm (Nat.not_lt_zero _)⟩
    | succ n ih => exact ⟨fun M x1 x2 hi hm => SX12_goesOn_4 C r (fun M' x1' x2' hj => ih.1 M' x1' x2' hj.1 (by omega)) (fun M' x1' x2' x3' x4' hj => ih.2.1 M' x1' x2' x3' x4' hj.1 (by omega)) (fun M' x1' x4' hj => ih.2.2 M' x1' x4' hj.1 (by omega)) (h4I M x1 x2 hi), fun M x1 x2 x3 x4 hi hm => SX12_goesOn_13 C r (fun M' x1' x2' hj => ih.1 M' x1' x2' hj.1 (by omega)) (fun M' x1' x2' x3' x4' hj => ih.2.1 M' x1' x2' x3' x4' hj.1 (by omega)) (fun M' x1' x4' hj => ih.2.2 M' x1' x4' hj.1 (by omega)) (h13I M x1 x2 x3 x4 hi), fun M x1 x4 hi hm => SX12_goesOn_73 C r (fun M' x1' x2' hj => ih.1 M' x1' x2' hj.1 (by omega)) (fun M' x1' x2' x3' x4' hj => ih.2.1 M' x1' x2' x3' x4' hj.1 (by omega)) (fun M' x1' x4' hj => ih.2.2 M' x1' x4' hj.1 (by omega)) (h73I M x1 x4 hi)⟩
  exact v_sub [0, 1] rfl (SX12_goesOn_0 C r (fun M' x1' x2' hj => (all _).1 M' x1' x2' hj (Nat.lt_succ_self _)) (fun M' x1' x2' x3' x4' hj => (all _).2.1 M' x1' x2' x3' x4' hj (Nat.lt_succ_self _)) (fun M' x1' x4' hj => (all _).2.2 M' x1' x4' hj (Nat.lt_succ_self _)) h0)
def VX12_begin_0 (E : FX) (l : Launch) (D : Nat) (post : Option AV → MM → Prop) (J2 : MM → Int → Prop) (M : MM) : Prop :=
  J2 M 0
set_option maxRecDepth 20000 in
theorem SX12_begin_0 {E : FX} {l : Launch} {D : Nat} {post : Option AV → MM → Prop} {z : RT} {J2 : MM → Int → Prop} (C : Cx E z D RX12 cX12_begin 2) (r : Rt E z none post) (hJ2 : ∀ (M : MM) (x1 : Int), J2 M x1 → Aj E l z 2 [(0, vr 44), (1, vi x1)] [] M) {M : MM} (h : VX12_begin_0 E l D post J2 M) : Aj E l z 0 [(0, vr 44)] [] M := by
  unfold VX12_begin_0 at h
  refine v_iconst C dX12_begin_0 ?_
  refine v_istore_n (L' := [(1, vi 0), (0, vr 44)]) C dX12_begin_1 rfl (by decide) rfl ?_
  exact v_sub [1, 0] rfl (hJ2 _ _ h)
def VX12_begin_2 (E : FX) (l : Launch) (D : Nat) (post : Option AV → MM → Prop) (J2 : MM → Int → Prop) (M : MM) (x1 : Int) : Prop :=
  R32 x1 ∧ ((8 ≤ x1 → post none M) ∧ (¬ 8 ≤ x1 → 0 ≤ x1 ∧ (x1 < 8 ∧ (∀ M3 : MM, M3 = up M 49 (x1).toNat 0 → (∀ y5 : Int, y5 = x1 + 1 → (J2 M3 y5))))))
set_option maxRecDepth 20000 in
theorem SX12_begin_2 {E : FX} {l : Launch} {D : Nat} {post : Option AV → MM → Prop} {z : RT} {J2 : MM → Int → Prop} (C : Cx E z D RX12 cX12_begin 2) (r : Rt E z none post) (hJ2 : ∀ (M : MM) (x1 : Int), J2 M x1 → Aj E l z 2 [(0, vr 44), (1, vi x1)] [] M) {M : MM} {x1 : Int} (h : VX12_begin_2 E l D post J2 M x1) : Aj E l z 2 [(0, vr 44), (1, vi x1)] [] M := by
  unfold VX12_begin_2 at h
  refine v_iload_n (i := 1) C dX12_begin_2 rfl rfl ?_
  refine v_bipush C dX12_begin_3 (by decide) ?_
  refine v_icmp_ge (tgt := 21) C h.1 (by decide) dX12_begin_5 (by decide) (fun c => ?_) (fun c => ?_)
  · have g1 := h.2.1 c
    exact v_vret C r dX12_begin_21 g1
  · have g2 := h.2.2 c
    refine v_aload_n (i := 0) C dX12_begin_8 rfl rfl ?_
    refine v_getf (k := 44) C fl_RX12_23 rfl rfl dX12_begin_9 ?_
    show Aj E l z (9 + 3) [(0, vr 44), (1, vi x1)] [vr 49] M
    refine v_iload_n (i := 1) C dX12_begin_12 rfl rfl ?_
    refine v_iconst C dX12_begin_13 ?_
    refine v_iast (k := 49) C rfl g2.1 g2.2.1 dX12_begin_14 ?_
    obtain ⟨M3, hM3⟩ : ∃ X : MM, X = up M 49 (x1).toNat 0 := ⟨_, rfl⟩
    refine v_eqM hM3 ?_
    have g4 := g2.2.2 M3 hM3
    obtain ⟨y5, hy5⟩ : ∃ y : Int, y = x1 + 1 := ⟨_, rfl⟩
    have g6 := g4 y5 hy5
    refine v_iinc (i := 1) (L' := [(1, vi y5), (0, vr 44)]) C dX12_begin_15 rfl (by decide) hy5 rfl ?_
    refine v_goto C dX12_begin_18 (tgt := 2) (by decide) ?_
    exact v_sub [1, 0] rfl (hJ2 _ _ g6)
theorem RX12_begin {E : FX} {l : Launch} {D : Nat} {post : Option AV → MM → Prop} (I2 : MM → Int → Prop) (m2 : MM → Int → Nat) {M : MM} (h0 : VX12_begin_0 E l D post I2 M) (h2I : ∀ (M : MM) (x1 : Int), I2 M x1 → VX12_begin_2 E l D post (fun M' x1' => I2 M' x1' ∧ m2 M' x1' < m2 M x1) M x1) : Con E l (D + 1) qX12_begin [vr 44] M post := by
  refine con_of (by decide +kernel) (Nat.le_of_ble_eq_true rfl) (fun z C r => ?_)
  have all : ∀ n : Nat, (∀ (M : MM) (x1 : Int), I2 M x1 → m2 M x1 < n → Aj E l z 2 [(0, vr 44), (1, vi x1)] [] M) := by
    intro n
    induction n with
    | zero => exact fun _ _ _ hm => absurd hm (Nat.not_lt_zero _)
    | succ n ih => exact fun M x1 hi hm => SX12_begin_2 C r (fun M' x1' hj => ih M' x1' hj.1 (by omega)) (h2I M x1 hi)
  exact v_sub [0] rfl (SX12_begin_0 C r (fun M' x1' hj => (all _) M' x1' hj (Nat.lt_succ_self _)) h0)
def VX12_groupsOf_0 (E : FX) (l : Launch) (D : Nat) (post : Option AV → MM → Prop) (J4 : MM → Int → Int → Int → Prop) (M : MM) (x1 : Int) : Prop :=
  J4 M x1 0 0
set_option maxRecDepth 20000 in
theorem SX12_groupsOf_0 {E : FX} {l : Launch} {D : Nat} {post : Option AV → MM → Prop} {z : RT} {J4 : MM → Int → Int → Int → Prop} (C : Cx E z D RX12 cX12_groupsOf 4) (r : Rt E z (some .int) post) (hJ4 : ∀ (M : MM) (x1 : Int) (x2 : Int) (x3 : Int), J4 M x1 x2 x3 → Aj E l z 4 [(0, vr 44), (1, vi x1), (2, vi x2), (3, vi x3)] [] M) {M : MM} {x1 : Int} (h : VX12_groupsOf_0 E l D post J4 M x1) : Aj E l z 0 [(0, vr 44), (1, vi x1)] [] M := by
  unfold VX12_groupsOf_0 at h
  refine v_iconst C dX12_groupsOf_0 ?_
  refine v_istore_n (L' := [(2, vi 0), (0, vr 44), (1, vi x1)]) C dX12_groupsOf_1 rfl (by decide) rfl ?_
  refine v_iconst C dX12_groupsOf_2 ?_
  refine v_istore_n (L' := [(3, vi 0), (2, vi 0), (0, vr 44), (1, vi x1)]) C dX12_groupsOf_3 rfl (by decide) rfl ?_
  exact v_sub [2, 3, 1, 0] rfl (hJ4 _ _ _ _ h)
def VX12_groupsOf_31 (E : FX) (l : Launch) (D : Nat) (post : Option AV → MM → Prop) (J4 : MM → Int → Int → Int → Prop) (M : MM) (x1 : Int) (x3 : Int) (s0 : Int) : Prop :=
  ∀ y1 : Int, y1 = x3 + 1 → (J4 M x1 s0 y1)
set_option maxRecDepth 20000 in
theorem SX12_groupsOf_31 {E : FX} {l : Launch} {D : Nat} {post : Option AV → MM → Prop} {z : RT} {J4 : MM → Int → Int → Int → Prop} (C : Cx E z D RX12 cX12_groupsOf 4) (r : Rt E z (some .int) post) (hJ4 : ∀ (M : MM) (x1 : Int) (x2 : Int) (x3 : Int), J4 M x1 x2 x3 → Aj E l z 4 [(0, vr 44), (1, vi x1), (2, vi x2), (3, vi x3)] [] M) {M : MM} {x1 : Int} {x3 : Int} {s0 : Int} (h : VX12_groupsOf_31 E l D post J4 M x1 x3 s0) : Aj E l z 31 [(0, vr 44), (1, vi x1), (3, vi x3)] [vi s0] M := by
  unfold VX12_groupsOf_31 at h
  refine v_istore_n (L' := [(2, vi s0), (0, vr 44), (1, vi x1), (3, vi x3)]) C dX12_groupsOf_31 rfl (by decide) rfl ?_
  obtain ⟨y1, hy1⟩ : ∃ y : Int, y = x3 + 1 := ⟨_, rfl⟩
  have g2 := h y1 hy1
  refine v_iinc (i := 3) (L' := [(3, vi y1), (2, vi s0), (0, vr 44), (1, vi x1)]) C dX12_groupsOf_32 rfl (by decide) hy1 rfl ?_
  refine v_goto C dX12_groupsOf_35 (tgt := 4) (by decide) ?_
  exact v_sub [2, 3, 1, 0] rfl (hJ4 _ _ _ _ g2)
def VX12_groupsOf_4 (E : FX) (l : Launch) (D : Nat) (post : Option AV → MM → Prop) (J4 : MM → Int → Int → Int → Prop) (M : MM) (x1 : Int) (x2 : Int) (x3 : Int) : Prop :=
  R32 x3 ∧ (R32 x1 ∧ ((x1 ≤ x3 → post (some (vi x2)) M) ∧ (¬ x1 ≤ x3 → 0 ≤ x3 ∧ (x3 < 8 ∧ (R32 (M 49 (x3).toNat) ∧ (R32 x2 ∧ ((M 49 (x3).toNat < x2 → VX12_groupsOf_31 E l D post J4 M x1 x3 x2) ∧ (¬ M 49 (x3).toNat < x2 → 0 ≤ x3 ∧ (x3 < 8 ∧ (VX12_groupsOf_31 E l D post J4 M x1 x3 ((M 49 (x3).toNat) + 1)))))))))))
set_option maxRecDepth 20000 in
theorem SX12_groupsOf_4 {E : FX} {l : Launch} {D : Nat} {post : Option AV → MM → Prop} {z : RT} {J4 : MM → Int → Int → Int → Prop} (C : Cx E z D RX12 cX12_groupsOf 4) (r : Rt E z (some .int) post) (hJ4 : ∀ (M : MM) (x1 : Int) (x2 : Int) (x3 : Int), J4 M x1 x2 x3 → Aj E l z 4 [(0, vr 44), (1, vi x1), (2, vi x2), (3, vi x3)] [] M) {M : MM} {x1 : Int} {x2 : Int} {x3 : Int} (h : VX12_groupsOf_4 E l D post J4 M x1 x2 x3) : Aj E l z 4 [(0, vr 44), (1, vi x1), (2, vi x2), (3, vi x3)] [] M := by
  unfold VX12_groupsOf_4 at h
  refine v_iload_n (i := 3) C dX12_groupsOf_4 rfl rfl ?_
  refine v_iload_n (i := 1) C dX12_groupsOf_5 rfl rfl ?_
  refine v_icmp_ge (tgt := 38) C h.1 h.2.1 dX12_groupsOf_6 (by decide) (fun c => ?_) (fun c => ?_)
  · have g3 := h.2.2.1 c
    refine v_iload_n (i := 2) C dX12_groupsOf_38 rfl rfl ?_
    exact v_iret C r dX12_groupsOf_39 g3
  · have g4 := h.2.2.2 c
    refine v_aload_n (i := 0) C dX12_groupsOf_9 rfl rfl ?_
    refine v_getf (k := 44) C fl_RX12_23 rfl rfl dX12_groupsOf_10 ?_
    show Aj E l z (10 + 3) [(0, vr 44), (1, vi x1), (2, vi x2), (3, vi x3)] [vr 49] M
    refine v_iload_n (i := 3) C dX12_groupsOf_13 rfl rfl ?_
    refine v_iald (k := 49) C rfl g4.1 g4.2.1 dX12_groupsOf_14 ?_
    show Aj E l z (14 + 1) [(0, vr 44), (1, vi x1), (2, vi x2), (3, vi x3)] [vi (M 49 (x3).toNat)] M
    refine v_iload_n (i := 2) C dX12_groupsOf_15 rfl rfl ?_
    refine v_icmp_lt (tgt := 30) C g4.2.2.1 g4.2.2.2.1 dX12_groupsOf_16 (by decide) (fun c => ?_) (fun c => ?_)
    · have g5 := g4.2.2.2.2.1 c
      refine v_iload_n (i := 2) C dX12_groupsOf_30 rfl rfl ?_
      exact v_sub [0, 1, 3] rfl (SX12_groupsOf_31 C r hJ4 g5)
    · have g6 := g4.2.2.2.2.2 c
      refine v_aload_n (i := 0) C dX12_groupsOf_19 rfl rfl ?_
      refine v_getf (k := 44) C fl_RX12_23 rfl rfl dX12_groupsOf_20 ?_
      show Aj E l z (20 + 3) [(0, vr 44), (1, vi x1), (2, vi x2), (3, vi x3)] [vr 49] M
      refine v_iload_n (i := 3) C dX12_groupsOf_23 rfl rfl ?_
      refine v_iald (k := 49) C rfl g6.1 g6.2.1 dX12_groupsOf_24 ?_
      show Aj E l z (24 + 1) [(0, vr 44), (1, vi x1), (2, vi x2), (3, vi x3)] [vi (M 49 (x3).toNat)] M
      refine v_iconst C dX12_groupsOf_25 ?_
      refine v_iadd C dX12_groupsOf_26 ?_
      refine v_goto C dX12_groupsOf_27 (tgt := 31) (by decide) ?_
      exact v_sub [0, 1, 3] rfl (SX12_groupsOf_31 C r hJ4 g6.2.2)
theorem RX12_groupsOf {E : FX} {l : Launch} {D : Nat} {post : Option AV → MM → Prop} (I4 : MM → Int → Int → Int → Prop) (m4 : MM → Int → Int → Int → Nat) {M : MM} {x1 : Int} (h0 : VX12_groupsOf_0 E l D post I4 M x1) (h4I : ∀ (M : MM) (x1 : Int) (x2 : Int) (x3 : Int), I4 M x1 x2 x3 → VX12_groupsOf_4 E l D post (fun M' x1' x2' x3' => I4 M' x1' x2' x3' ∧ m4 M' x1' x2' x3' < m4 M x1 x2 x3) M x1 x2 x3) : Con E l (D + 1) qX12_groupsOf [vr 44, vi x1] M post := by
  refine con_of (by decide +kernel) (Nat.le_of_ble_eq_true rfl) (fun z C r => ?_)
  have all : ∀ n : Nat, (∀ (M : MM) (x1 : Int) (x2 : Int) (x3 : Int), I4 M x1 x2 x3 → m4 M x1 x2 x3 < n → Aj E l z 4 [(0, vr 44), (1, vi x1), (2, vi x2), (3, vi x3)] [] M) := by
    intro n
    induction n with
    | zero => exact fun _ _ _ _ _ hm => absurd hm (Nat.not_lt_zero _)
    | succ n ih => exact fun M x1 x2 x3 hi hm => SX12_groupsOf_4 C r (fun M' x1' x2' x3' hj => ih M' x1' x2' x3' hj.1 (by omega)) (h4I M x1 x2 x3 hi)
  exact v_sub [0, 1] rfl (SX12_groupsOf_0 C r (fun M' x1' x2' x3' hj => (all _) M' x1' x2' x3' hj (Nat.lt_succ_self _)) h0)
def VX12_take_0 (E : FX) (l : Launch) (D : Nat) (post : Option AV → MM → Prop) (J7 : MM → Int → Int → Prop) (M : MM) (x1 : Int) (x2 : Int) : Prop :=
  ∀ M1 : MM, M1 = up M 44 13 x2 → (J7 M1 x1 0)
set_option maxRecDepth 20000 in
theorem SX12_take_0 {E : FX} {l : Launch} {D : Nat} {post : Option AV → MM → Prop} {z : RT} {J7 : MM → Int → Int → Prop} (C : Cx E z D RX12 cX12_take 4) (r : Rt E z none post) (hJ7 : ∀ (M : MM) (x1 : Int) (x3 : Int), J7 M x1 x3 → Aj E l z 7 [(0, vr 44), (1, vi x1), (3, vi x3)] [] M) {M : MM} {x1 : Int} {x2 : Int} (h : VX12_take_0 E l D post J7 M x1 x2) : Aj E l z 0 [(0, vr 44), (1, vi x1), (2, vi x2)] [] M := by
  unfold VX12_take_0 at h
  refine v_aload_n (i := 0) C dX12_take_0 rfl rfl ?_
  refine v_iload_n (i := 2) C dX12_take_1 rfl rfl ?_
  refine v_putf (k := 44) (x := x2) (t := 0) C fp_RX12_163 rfl rfl (by decide) (by simp [fv, up]) rfl rfl dX12_take_2 ?_
  obtain ⟨M1, hM1⟩ : ∃ X : MM, X = up M 44 13 x2 := ⟨_, rfl⟩
  refine v_eqM hM1 ?_
  have g2 := h M1 hM1
  refine v_iconst C dX12_take_5 ?_
  refine v_istore_n (L' := [(3, vi 0), (0, vr 44), (1, vi x1), (2, vi x2)]) C dX12_take_6 rfl (by decide) rfl ?_
  exact v_sub [1, 2, 0] rfl (hJ7 _ _ _ g2)
def VX12_take_7 (E : FX) (l : Launch) (D : Nat) (post : Option AV → MM → Prop) (J7 : MM → Int → Int → Prop) (M : MM) (x1 : Int) (x3 : Int) : Prop :=
  R32 x3 ∧ (R32 x1 ∧ ((x1 ≤ x3 → post none M) ∧ (¬ x1 ≤ x3 → 0 ≤ x3 ∧ (x3 < 8 ∧ (0 ≤ x3 ∧ (x3 < 8 ∧ (∀ M5 : MM, M5 = up M 50 (x3).toNat (M 49 (x3).toNat) → (∀ y7 : Int, y7 = x3 + 1 → (J7 M5 x1 y7)))))))))
set_option maxRecDepth 20000 in
theorem SX12_take_7 {E : FX} {l : Launch} {D : Nat} {post : Option AV → MM → Prop} {z : RT} {J7 : MM → Int → Int → Prop} (C : Cx E z D RX12 cX12_take 4) (r : Rt E z none post) (hJ7 : ∀ (M : MM) (x1 : Int) (x3 : Int), J7 M x1 x3 → Aj E l z 7 [(0, vr 44), (1, vi x1), (3, vi x3)] [] M) {M : MM} {x1 : Int} {x3 : Int} (h : VX12_take_7 E l D post J7 M x1 x3) : Aj E l z 7 [(0, vr 44), (1, vi x1), (3, vi x3)] [] M := by
  unfold VX12_take_7 at h
  refine v_iload_n (i := 2) C dX12_take_7 rfl rfl ?_
  refine v_iload_n (i := 1) C dX12_take_8 rfl rfl ?_
  refine v_icmp_ge (tgt := 30) C h.1 h.2.1 dX12_take_9 (by decide) (fun c => ?_) (fun c => ?_)
  · have g3 := h.2.2.1 c
    exact v_vret C r dX12_take_30 g3
  · have g4 := h.2.2.2 c
    refine v_aload_n (i := 0) C dX12_take_12 rfl rfl ?_
    refine v_getf (k := 44) C fl_RX12_26 rfl rfl dX12_take_13 ?_
    show Aj E l z (13 + 3) [(0, vr 44), (1, vi x1), (3, vi x3)] [vr 50] M
    refine v_iload_n (i := 2) C dX12_take_16 rfl rfl ?_
    refine v_aload_n (i := 0) C dX12_take_17 rfl rfl ?_
    refine v_getf (k := 44) C fl_RX12_23 rfl rfl dX12_take_18 ?_
    show Aj E l z (18 + 3) [(0, vr 44), (1, vi x1), (3, vi x3)] [vr 49, vi x3, vr 50] M
    refine v_iload_n (i := 2) C dX12_take_21 rfl rfl ?_
    refine v_iald (k := 49) C rfl g4.1 g4.2.1 dX12_take_22 ?_
    show Aj E l z (22 + 1) [(0, vr 44), (1, vi x1), (3, vi x3)] [vi (M 49 (x3).toNat), vi x3, vr 50] M
    refine v_iast (k := 50) C rfl g4.2.2.1 g4.2.2.2.1 dX12_take_23 ?_
    obtain ⟨M5, hM5⟩ : ∃ X : MM, X = up M 50 (x3).toNat (M 49 (x3).toNat) := ⟨_, rfl⟩
    refine v_eqM hM5 ?_
    have g6 := g4.2.2.2.2 M5 hM5
    obtain ⟨y7, hy7⟩ : ∃ y : Int, y = x3 + 1 := ⟨_, rfl⟩
    have g8 := g6 y7 hy7
    refine v_iinc (i := 2) (L' := [(3, vi y7), (0, vr 44), (1, vi x1)]) C dX12_take_24 rfl (by decide) hy7 rfl ?_
    refine v_goto C dX12_take_27 (tgt := 7) (by decide) ?_
    exact v_sub [1, 2, 0] rfl (hJ7 _ _ _ g8)
theorem RX12_take {E : FX} {l : Launch} {D : Nat} {post : Option AV → MM → Prop} (I7 : MM → Int → Int → Prop) (m7 : MM → Int → Int → Nat) {M : MM} {x1 : Int} {x2 : Int} (h0 : VX12_take_0 E l D post I7 M x1 x2) (h7I : ∀ (M : MM) (x1 : Int) (x3 : Int), I7 M x1 x3 → VX12_take_7 E l D post (fun M' x1' x3' => I7 M' x1' x3' ∧ m7 M' x1' x3' < m7 M x1 x3) M x1 x3) : Con E l (D + 1) qX12_take [vr 44, vi x1, vi x2] M post := by
  refine con_of (by decide +kernel) (Nat.le_of_ble_eq_true rfl) (fun z C r => ?_)
  have all : ∀ n : Nat, (∀ (M : MM) (x1 : Int) (x3 : Int), I7 M x1 x3 → m7 M x1 x3 < n → Aj E l z 7 [(0, vr 44), (1, vi x1), (3, vi x3)] [] M) := by
    intro n
    induction n with
    | zero => exact fun _ _ _ _ hm => absurd hm (Nat.not_lt_zero _)
    | succ n ih => exact fun M x1 x3 hi hm => SX12_take_7 C r (fun M' x1' x3' hj => ih M' x1' x3' hj.1 (by omega)) (h7I M x1 x3 hi)
  exact v_sub [0, 1, 2] rfl (SX12_take_0 C r (fun M' x1' x3' hj => (all _) M' x1' x3' hj (Nat.lt_succ_self _)) h0)
def VX12_most_26 (E : FX) (l : Launch) (D : Nat) (post : Option AV → MM → Prop) (J37 : MM → Int → Int → Int → Int → Prop) (J113 : MM → Int → Int → Int → Int → Int → Prop) (J131 : MM → Int → Int → Int → Int → Int → Int → Int → Prop) (J149 : MM → Int → Int → Int → Int → Int → Int → Int → Int → Int → Prop) (M : MM) : Prop :=
  post (some (vi (-1))) M
set_option maxRecDepth 20000 in
theorem SX12_most_26 {E : FX} {l : Launch} {D : Nat} {post : Option AV → MM → Prop} {z : RT} {J37 : MM → Int → Int → Int → Int → Prop} {J113 : MM → Int → Int → Int → Int → Int → Prop} {J131 : MM → Int → Int → Int → Int → Int → Int → Int → Prop} {J149 : MM → Int → Int → Int → Int → Int → Int → Int → Int → Int → Prop} (C : Cx E z D RX12 cX12_most 14) (r : Rt E z (some .int) post) (hJ37 : ∀ (M : MM) (x1 : Int) (x2 : Int) (x3 : Int) (x4 : Int), J37 M x1 x2 x3 x4 → Aj E l z 37 [(0, vr 44), (1, vi x1), (2, vi x2), (3, vi x3), (4, vi x4)] [] M) (hJ113 : ∀ (M : MM) (x1 : Int) (x2 : Int) (x3 : Int) (x4 : Int) (x6 : Int), J113 M x1 x2 x3 x4 x6 → Aj E l z 113 [(0, vr 44), (1, vi x1), (2, vi x2), (3, vi x3), (4, vj x4), (6, vi x6)] [] M) (hJ131 : ∀ (M : MM) (x1 : Int) (x2 : Int) (x3 : Int) (x4 : Int) (x7 : Int) (x8 : Int) (x10 : Int), J131 M x1 x2 x3 x4 x7 x8 x10 → Aj E l z 131 [(0, vr 44), (1, vi x1), (2, vi x2), (3, vi x3), (4, vj x4), (7, vi x7), (8, vj x8), (10, vi x10)] [] M) (hJ149 : ∀ (M : MM) (x1 : Int) (x2 : Int) (x3 : Int) (x4 : Int) (x7 : Int) (x8 : Int) (x10 : Int) (x11 : Int) (x13 : Int), J149 M x1 x2 x3 x4 x7 x8 x10 x11 x13 → Aj E l z 149 [(0, vr 44), (1, vi x1), (2, vi x2), (3, vi x3), (4, vj x4), (7, vi x7), (8, vj x8), (10, vi x10), (11, vj x11), (13, vi x13)] [] M) {M : MM} (h : VX12_most_26 E l D post J37 J113 J131 J149 M) : Aj E l z 26 [] [] M := by
  unfold VX12_most_26 at h
  refine v_iconst C dX12_most_26 ?_
  exact v_iret C r dX12_most_27 h
def VX12_most_0 (E : FX) (l : Launch) (D : Nat) (post : Option AV → MM → Prop) (J37 : MM → Int → Int → Int → Int → Prop) (J113 : MM → Int → Int → Int → Int → Int → Prop) (J131 : MM → Int → Int → Int → Int → Int → Int → Int → Prop) (J149 : MM → Int → Int → Int → Int → Int → Int → Int → Int → Int → Prop) (M : MM) (x1 : Int) (x2 : Int) : Prop :=
  R32 x1 ∧ (Con E l D qX12_in [vj x1, vj 0, vj 3] M (fun r M1 => ∃ y2 : Int, r = some (vi y2) ∧ (R32 y2 ∧ ((y2 = 0 → post (some (vi (-1))) M1) ∧ (¬ y2 = 0 → R32 x2 ∧ (Con E l D qX12_in [vj x2, vj (-1), vj 7] M1 (fun r M6 => ∃ y7 : Int, r = some (vi y7) ∧ (R32 y7 ∧ ((¬ y7 = 0 → Con E l D qX12_layNow [vr 44] M6 (fun r M11 => r = none ∧ (J37 M11 x1 x2 0 0))) ∧ (y7 = 0 → post (some (vi (-1))) M6))))))))))
set_option maxRecDepth 20000 in
theorem SX12_most_0 {E : FX} {l : Launch} {D : Nat} {post : Option AV → MM → Prop} {z : RT} {J37 : MM → Int → Int → Int → Int → Prop} {J113 : MM → Int → Int → Int → Int → Int → Prop} {J131 : MM → Int → Int → Int → Int → Int → Int → Int → Prop} {J149 : MM → Int → Int → Int → Int → Int → Int → Int → Int → Int → Prop} (C : Cx E z D RX12 cX12_most 14) (r : Rt E z (some .int) post) (hJ37 : ∀ (M : MM) (x1 : Int) (x2 : Int) (x3 : Int) (x4 : Int), J37 M x1 x2 x3 x4 → Aj E l z 37 [(0, vr 44), (1, vi x1), (2, vi x2), (3, vi x3), (4, vi x4)] [] M) (hJ113 : ∀ (M : MM) (x1 : Int) (x2 : Int) (x3 : Int) (x4 : Int) (x6 : Int), J113 M x1 x2 x3 x4 x6 → Aj E l z 113 [(0, vr 44), (1, vi x1), (2, vi x2), (3, vi x3), (4, vj x4), (6, vi x6)] [] M) (hJ131 : ∀ (M : MM) (x1 : Int) (x2 : Int) (x3 : Int) (x4 : Int) (x7 : Int) (x8 : Int) (x10 : Int), J131 M x1 x2 x3 x4 x7 x8 x10 → Aj E l z 131 [(0, vr 44), (1, vi x1), (2, vi x2), (3, vi x3), (4, vj x4), (7, vi x7), (8, vj x8), (10, vi x10)] [] M) (hJ149 : ∀ (M : MM) (x1 : Int) (x2 : Int) (x3 : Int) (x4 : Int) (x7 : Int) (x8 : Int) (x10 : Int) (x11 : Int) (x13 : Int), J149 M x1 x2 x3 x4 x7 x8 x10 x11 x13 → Aj E l z 149 [(0, vr 44), (1, vi x1), (2, vi x2), (3, vi x3), (4, vj x4), (7, vi x7), (8, vj x8), (10, vi x10), (11, vj x11), (13, vi x13)] [] M) {M : MM} {x1 : Int} {x2 : Int} (h : VX12_most_0 E l D post J37 J113 J131 J149 M x1 x2) : Aj E l z 0 [(0, vr 44), (1, vi x1), (2, vi x2)] [] M := by
  unfold VX12_most_0 at h
  refine v_iload_n (i := 1) C dX12_most_0 rfl rfl ?_
  refine v_i2l C h.1 dX12_most_1 ?_
  refine v_lconst (x := 0) C dX12_most_2 (by decide) ?_
  refine v_ldc2 (x := 3) C cs_RX12_96 (by decide) dX12_most_3 ?_
  refine v_callS (q := qX12_in) (As := [vj x1, vj 0, vj 3]) (S := []) C co_yX12_in ml_RX12_71 st_yX12_in ini_RX12 hq_X12_in (by decide) (Nat.le_of_ble_eq_true rfl) rfl dX12_most_6 (Con.mono h.2 (fun rr M1 hr => ?_) (Nat.le_refl _))
  obtain ⟨y2, rfl, g3⟩ := hr
  show Aj E l z (6 + 3) [(0, vr 44), (1, vi x1), (2, vi x2)] [vi y2] M1
  refine v_if_eq (tgt := 26) C g3.1 dX12_most_9 (by decide) (fun c => ?_) (fun c => ?_)
  · have g4 := g3.2.1 c
    refine v_iconst C dX12_most_26 ?_
    exact v_iret C r dX12_most_27 g4
  · have g5 := g3.2.2 c
    refine v_iload_n (i := 2) C dX12_most_12 rfl rfl ?_
    refine v_i2l C g5.1 dX12_most_13 ?_
    refine v_ldc2 (x := -1) C cs_RX12_85 (by decide) dX12_most_14 ?_
    refine v_ldc2 (x := 7) C cs_RX12_79 (by decide) dX12_most_17 ?_
    refine v_callS (q := qX12_in) (As := [vj x2, vj (-1), vj 7]) (S := []) C co_yX12_in ml_RX12_71 st_yX12_in ini_RX12 hq_X12_in (by decide) (Nat.le_of_ble_eq_true rfl) rfl dX12_most_20 (Con.mono g5.2 (fun rr M6 hr => ?_) (Nat.le_refl _))
    obtain ⟨y7, rfl, g8⟩ := hr
    show Aj E l z (20 + 3) [(0, vr 44), (1, vi x1), (2, vi x2)] [vi y7] M6
    refine v_if_ne (tgt := 28) C g8.1 dX12_most_23 (by decide) (fun c => ?_) (fun c => ?_)
    · have g9 := g8.2.1 c
      refine v_aload_n (i := 0) C dX12_most_28 rfl rfl ?_
      refine v_callV (q := qX12_layNow) (k := 44) (As := []) (S := []) C co_yX12_layNow ml_RX12_87 im_yX12_layNow se_yX12_layNow ini_RX12 rfl rfl hq_X12_layNow (by decide) (Nat.le_of_ble_eq_true rfl) rfl dX12_most_29 (Con.mono g9 (fun rr M11 hr => ?_) (Nat.le_refl _))
      obtain ⟨rfl, g12⟩ := hr
      show Aj E l z (29 + 3) [(0, vr 44), (1, vi x1), (2, vi x2)] [] M11
      refine v_iconst C dX12_most_32 ?_
      refine v_istore_n (L' := [(3, vi 0), (0, vr 44), (1, vi x1), (2, vi x2)]) C dX12_most_33 rfl (by decide) rfl ?_
      refine v_iconst C dX12_most_34 ?_
      refine v_istore (L' := [(4, vi 0), (3, vi 0), (0, vr 44), (1, vi x1), (2, vi x2)]) C dX12_most_35 (by decide) rfl ?_
      exact v_sub [2, 3, 4, 1, 0] rfl (hJ37 _ _ _ _ _ g12)
    · have g10 := g8.2.2 c
      refine v_iconst C dX12_most_26 ?_
      exact v_iret C r dX12_most_27 g10
def VX12_most_95 (E : FX) (l : Launch) (D : Nat) (post : Option AV → MM → Prop) (J37 : MM → Int → Int → Int → Int → Prop) (J113 : MM → Int → Int → Int → Int → Int → Prop) (J131 : MM → Int → Int → Int → Int → Int → Int → Int → Prop) (J149 : MM → Int → Int → Int → Int → Int → Int → Int → Int → Int → Prop) (M : MM) (x1 : Int) (x2 : Int) (x3 : Int) (x4 : Int) : Prop :=
  ∀ y13 : Int, y13 = x4 + 1 → (J37 M x1 x2 x3 y13)
set_option maxRecDepth 20000 in
theorem SX12_most_95 {E : FX} {l : Launch} {D : Nat} {post : Option AV → MM → Prop} {z : RT} {J37 : MM → Int → Int → Int → Int → Prop} {J113 : MM → Int → Int → Int → Int → Int → Prop} {J131 : MM → Int → Int → Int → Int → Int → Int → Int → Prop} {J149 : MM → Int → Int → Int → Int → Int → Int → Int → Int → Int → Prop} (C : Cx E z D RX12 cX12_most 14) (r : Rt E z (some .int) post) (hJ37 : ∀ (M : MM) (x1 : Int) (x2 : Int) (x3 : Int) (x4 : Int), J37 M x1 x2 x3 x4 → Aj E l z 37 [(0, vr 44), (1, vi x1), (2, vi x2), (3, vi x3), (4, vi x4)] [] M) (hJ113 : ∀ (M : MM) (x1 : Int) (x2 : Int) (x3 : Int) (x4 : Int) (x6 : Int), J113 M x1 x2 x3 x4 x6 → Aj E l z 113 [(0, vr 44), (1, vi x1), (2, vi x2), (3, vi x3), (4, vj x4), (6, vi x6)] [] M) (hJ131 : ∀ (M : MM) (x1 : Int) (x2 : Int) (x3 : Int) (x4 : Int) (x7 : Int) (x8 : Int) (x10 : Int), J131 M x1 x2 x3 x4 x7 x8 x10 → Aj E l z 131 [(0, vr 44), (1, vi x1), (2, vi x2), (3, vi x3), (4, vj x4), (7, vi x7), (8, vj x8), (10, vi x10)] [] M) (hJ149 : ∀ (M : MM) (x1 : Int) (x2 : Int) (x3 : Int) (x4 : Int) (x7 : Int) (x8 : Int) (x10 : Int) (x11 : Int) (x13 : Int), J149 M x1 x2 x3 x4 x7 x8 x10 x11 x13 → Aj E l z 149 [(0, vr 44), (1, vi x1), (2, vi x2), (3, vi x3), (4, vj x4), (7, vi x7), (8, vj x8), (10, vi x10), (11, vj x11), (13, vi x13)] [] M) {M : MM} {x1 : Int} {x2 : Int} {x3 : Int} {x4 : Int} (h : VX12_most_95 E l D post J37 J113 J131 J149 M x1 x2 x3 x4) : Aj E l z 95 [(0, vr 44), (1, vi x1), (2, vi x2), (3, vi x3), (4, vi x4)] [] M := by
  unfold VX12_most_95 at h
  obtain ⟨y13, hy13⟩ : ∃ y : Int, y = x4 + 1 := ⟨_, rfl⟩
  have g14 := h y13 hy13
  refine v_iinc (i := 4) (L' := [(4, vi y13), (0, vr 44), (1, vi x1), (2, vi x2), (3, vi x3)]) C dX12_most_95 rfl (by decide) hy13 rfl ?_
  refine v_goto C dX12_most_98 (tgt := 37) (by decide) ?_
  exact v_sub [1, 2, 3, 4, 0] rfl (hJ37 _ _ _ _ _ g14)
def VX12_most_37 (E : FX) (l : Launch) (D : Nat) (post : Option AV → MM → Prop) (J37 : MM → Int → Int → Int → Int → Prop) (J113 : MM → Int → Int → Int → Int → Int → Prop) (J131 : MM → Int → Int → Int → Int → Int → Int → Int → Prop) (J149 : MM → Int → Int → Int → Int → Int → Int → Int → Int → Int → Prop) (M : MM) (x1 : Int) (x2 : Int) (x3 : Int) (x4 : Int) : Prop :=
  R32 x4 ∧ (R32 (M 45 6) ∧ ((M 45 6 ≤ x4 → Con E l D qX12_begin [vr 44] M (fun r M17 => r = none ∧ (J113 M17 x1 x2 x3 (-1) 1))) ∧ (¬ M 45 6 ≤ x4 → 0 ≤ 7 + x4 ∧ (7 + x4 < 140 ∧ (R32 (M 45 (7 + x4).toNat) ∧ (R32 x1 ∧ ((¬ M 45 (7 + x4).toNat = x1 → ∀ y21 : Int, y21 = x4 + 1 → (J37 M x1 x2 x3 y21)) ∧ (M 45 (7 + x4).toNat = x1 → 0 ≤ 15 + x4 ∧ (15 + x4 < 140 ∧ (R32 (M 45 (15 + x4).toNat) ∧ ((M 45 (15 + x4).toNat ≤ 0 → ∀ y25 : Int, y25 = x4 + 1 → (J37 M x1 x2 x3 y25)) ∧ (¬ M 45 (15 + x4).toNat ≤ 0 → 0 ≤ 15 + x4 ∧ (15 + x4 < 140 ∧ (0 ≤ x3 ∧ (x3 < 8 ∧ (∀ M27 : MM, M27 = up M 51 (x3).toNat (M 45 (15 + x4).toNat) → (∀ y29 : Int, y29 = x3 + 1 → (VX12_most_95 E l D post J37 J113 J131 J149 M27 x1 x2 y29 x4))))))))))))))))))
set_option maxRecDepth 20000 in
theorem SX12_most_37 {E : FX} {l : Launch} {D : Nat} {post : Option AV → MM → Prop} {z : RT} {J37 : MM → Int → Int → Int → Int → Prop} {J113 : MM → Int → Int → Int → Int → Int → Prop} {J131 : MM → Int → Int → Int → Int → Int → Int → Int → Prop} {J149 : MM → Int → Int → Int → Int → Int → Int → Int → Int → Int → Prop} (C : Cx E z D RX12 cX12_most 14) (r : Rt E z (some .int) post) (hJ37 : ∀ (M : MM) (x1 : Int) (x2 : Int) (x3 : Int) (x4 : Int), J37 M x1 x2 x3 x4 → Aj E l z 37 [(0, vr 44), (1, vi x1), (2, vi x2), (3, vi x3), (4, vi x4)] [] M) (hJ113 : ∀ (M : MM) (x1 : Int) (x2 : Int) (x3 : Int) (x4 : Int) (x6 : Int), J113 M x1 x2 x3 x4 x6 → Aj E l z 113 [(0, vr 44), (1, vi x1), (2, vi x2), (3, vi x3), (4, vj x4), (6, vi x6)] [] M) (hJ131 : ∀ (M : MM) (x1 : Int) (x2 : Int) (x3 : Int) (x4 : Int) (x7 : Int) (x8 : Int) (x10 : Int), J131 M x1 x2 x3 x4 x7 x8 x10 → Aj E l z 131 [(0, vr 44), (1, vi x1), (2, vi x2), (3, vi x3), (4, vj x4), (7, vi x7), (8, vj x8), (10, vi x10)] [] M) (hJ149 : ∀ (M : MM) (x1 : Int) (x2 : Int) (x3 : Int) (x4 : Int) (x7 : Int) (x8 : Int) (x10 : Int) (x11 : Int) (x13 : Int), J149 M x1 x2 x3 x4 x7 x8 x10 x11 x13 → Aj E l z 149 [(0, vr 44), (1, vi x1), (2, vi x2), (3, vi x3), (4, vj x4), (7, vi x7), (8, vj x8), (10, vi x10), (11, vj x11), (13, vi x13)] [] M) {M : MM} {x1 : Int} {x2 : Int} {x3 : Int} {x4 : Int} (h : VX12_most_37 E l D post J37 J113 J131 J149 M x1 x2 x3 x4) : Aj E l z 37 [(0, vr 44), (1, vi x1), (2, vi x2), (3, vi x3), (4, vi x4)] [] M := by
  unfold VX12_most_37 at h
  refine v_iload (i := 4) C dX12_most_37 rfl ?_
  refine v_aload_n (i := 0) C dX12_most_39 rfl rfl ?_
  refine v_getf (k := 44) C fl_RX12_7 rfl rfl dX12_most_40 ?_
  show Aj E l z (40 + 3) [(0, vr 44), (1, vi x1), (2, vi x2), (3, vi x3), (4, vi x4)] [vr 45, vi x4] M
  refine v_bipush C dX12_most_43 (by decide) ?_
  refine v_iald (k := 45) C rfl (by decide) (by decide) dX12_most_45 ?_
  show Aj E l z (45 + 1) [(0, vr 44), (1, vi x1), (2, vi x2), (3, vi x3), (4, vi x4)] [vi (M 45 6), vi x4] M
  refine v_icmp_ge (tgt := 101) C h.1 h.2.1 dX12_most_46 (by decide) (fun c => ?_) (fun c => ?_)
  · have g15 := h.2.2.1 c
    refine v_aload_n (i := 0) C dX12_most_101 rfl rfl ?_
    refine v_callV (q := qX12_begin) (k := 44) (As := []) (S := []) C co_yX12_begin ml_RX12_166 im_yX12_begin se_yX12_begin ini_RX12 rfl rfl hq_X12_begin (by decide) (Nat.le_of_ble_eq_true rfl) rfl dX12_most_102 (Con.mono g15 (fun rr M17 hr => ?_) (Nat.le_refl _))
    obtain ⟨rfl, g18⟩ := hr
    show Aj E l z (102 + 3) [(0, vr 44), (1, vi x1), (2, vi x2), (3, vi x3), (4, vi x4)] [] M17
    refine v_ldc2 (x := -1) C cs_RX12_85 (by decide) dX12_most_105 ?_
    refine v_lstore (L' := [(4, vj (-1)), (0, vr 44), (1, vi x1), (2, vi x2), (3, vi x3)]) C dX12_most_108 (by decide) rfl ?_
    refine v_iconst C dX12_most_110 ?_
    refine v_istore (L' := [(6, vi 1), (4, vj (-1)), (0, vr 44), (1, vi x1), (2, vi x2), (3, vi x3)]) C dX12_most_111 (by decide) rfl ?_
    exact v_sub [2, 3, 4, 5, 1, 0] rfl (hJ113 _ _ _ _ _ _ g18)
  · have g16 := h.2.2.2 c
    refine v_aload_n (i := 0) C dX12_most_49 rfl rfl ?_
    refine v_getf (k := 44) C fl_RX12_7 rfl rfl dX12_most_50 ?_
    show Aj E l z (50 + 3) [(0, vr 44), (1, vi x1), (2, vi x2), (3, vi x3), (4, vi x4)] [vr 45] M
    refine v_bipush C dX12_most_53 (by decide) ?_
    refine v_iload (i := 4) C dX12_most_55 rfl ?_
    refine v_iadd C dX12_most_57 ?_
    refine v_iald (k := 45) C rfl g16.1 g16.2.1 dX12_most_58 ?_
    show Aj E l z (58 + 1) [(0, vr 44), (1, vi x1), (2, vi x2), (3, vi x3), (4, vi x4)] [vi (M 45 (7 + x4).toNat)] M
    refine v_iload_n (i := 1) C dX12_most_59 rfl rfl ?_
    refine v_icmp_ne (tgt := 95) C g16.2.2.1 g16.2.2.2.1 dX12_most_60 (by decide) (fun c => ?_) (fun c => ?_)
    · have g19 := g16.2.2.2.2.1 c
      obtain ⟨y21, hy21⟩ : ∃ y : Int, y = x4 + 1 := ⟨_, rfl⟩
      have g22 := g19 y21 hy21
      refine v_iinc (i := 4) (L' := [(4, vi y21), (0, vr 44), (1, vi x1), (2, vi x2), (3, vi x3)]) C dX12_most_95 rfl (by decide) hy21 rfl ?_
      refine v_goto C dX12_most_98 (tgt := 37) (by decide) ?_
      exact v_sub [1, 2, 3, 4, 0] rfl (hJ37 _ _ _ _ _ g22)
    · have g20 := g16.2.2.2.2.2 c
      refine v_aload_n (i := 0) C dX12_most_63 rfl rfl ?_
      refine v_getf (k := 44) C fl_RX12_7 rfl rfl dX12_most_64 ?_
      show Aj E l z (64 + 3) [(0, vr 44), (1, vi x1), (2, vi x2), (3, vi x3), (4, vi x4)] [vr 45] M
      refine v_bipush C dX12_most_67 (by decide) ?_
      refine v_iload (i := 4) C dX12_most_69 rfl ?_
      refine v_iadd C dX12_most_71 ?_
      refine v_iald (k := 45) C rfl g20.1 g20.2.1 dX12_most_72 ?_
      show Aj E l z (72 + 1) [(0, vr 44), (1, vi x1), (2, vi x2), (3, vi x3), (4, vi x4)] [vi (M 45 (15 + x4).toNat)] M
      refine v_if_le (tgt := 95) C g20.2.2.1 dX12_most_73 (by decide) (fun c => ?_) (fun c => ?_)
      · have g23 := g20.2.2.2.1 c
        obtain ⟨y25, hy25⟩ : ∃ y : Int, y = x4 + 1 := ⟨_, rfl⟩
        have g26 := g23 y25 hy25
        refine v_iinc (i := 4) (L' := [(4, vi y25), (0, vr 44), (1, vi x1), (2, vi x2), (3, vi x3)]) C dX12_most_95 rfl (by decide) hy25 rfl ?_
        refine v_goto C dX12_most_98 (tgt := 37) (by decide) ?_
        exact v_sub [1, 2, 3, 4, 0] rfl (hJ37 _ _ _ _ _ g26)
      · have g24 := g20.2.2.2.2 c
        refine v_aload_n (i := 0) C dX12_most_76 rfl rfl ?_
        refine v_getf (k := 44) C fl_RX12_29 rfl rfl dX12_most_77 ?_
        show Aj E l z (77 + 3) [(0, vr 44), (1, vi x1), (2, vi x2), (3, vi x3), (4, vi x4)] [vr 51] M
        refine v_iload_n (i := 3) C dX12_most_80 rfl rfl ?_
        refine v_aload_n (i := 0) C dX12_most_81 rfl rfl ?_
        refine v_getf (k := 44) C fl_RX12_7 rfl rfl dX12_most_82 ?_
        show Aj E l z (82 + 3) [(0, vr 44), (1, vi x1), (2, vi x2), (3, vi x3), (4, vi x4)] [vr 45, vi x3, vr 51] M
        refine v_bipush C dX12_most_85 (by decide) ?_
        refine v_iload (i := 4) C dX12_most_87 rfl ?_
        refine v_iadd C dX12_most_89 ?_
        refine v_iald (k := 45) C rfl g24.1 g24.2.1 dX12_most_90 ?_
        show Aj E l z (90 + 1) [(0, vr 44), (1, vi x1), (2, vi x2), (3, vi x3), (4, vi x4)] [vi (M 45 (15 + x4).toNat), vi x3, vr 51] M
        refine v_iast (k := 51) C rfl g24.2.2.1 g24.2.2.2.1 dX12_most_91 ?_
        obtain ⟨M27, hM27⟩ : ∃ X : MM, X = up M 51 (x3).toNat (M 45 (15 + x4).toNat) := ⟨_, rfl⟩
        refine v_eqM hM27 ?_
        have g28 := g24.2.2.2.2 M27 hM27
        obtain ⟨y29, hy29⟩ : ∃ y : Int, y = x3 + 1 := ⟨_, rfl⟩
        have g30 := g28 y29 hy29
        refine v_iinc (i := 3) (L' := [(3, vi y29), (0, vr 44), (1, vi x1), (2, vi x2), (4, vi x4)]) C dX12_most_92 rfl (by decide) hy29 rfl ?_
        exact v_sub [1, 2, 3, 0, 4] rfl (SX12_most_95 C r hJ37 hJ113 hJ131 hJ149 g30)
def VX12_most_296 (E : FX) (l : Launch) (D : Nat) (post : Option AV → MM → Prop) (J37 : MM → Int → Int → Int → Int → Prop) (J113 : MM → Int → Int → Int → Int → Int → Prop) (J131 : MM → Int → Int → Int → Int → Int → Int → Int → Prop) (J149 : MM → Int → Int → Int → Int → Int → Int → Int → Int → Int → Prop) (M : MM) (s0 : Int) : Prop :=
  post (some (vi s0)) M
set_option maxRecDepth 20000 in
theorem SX12_most_296 {E : FX} {l : Launch} {D : Nat} {post : Option AV → MM → Prop} {z : RT} {J37 : MM → Int → Int → Int → Int → Prop} {J113 : MM → Int → Int → Int → Int → Int → Prop} {J131 : MM → Int → Int → Int → Int → Int → Int → Int → Prop} {J149 : MM → Int → Int → Int → Int → Int → Int → Int → Int → Int → Prop} (C : Cx E z D RX12 cX12_most 14) (r : Rt E z (some .int) post) (hJ37 : ∀ (M : MM) (x1 : Int) (x2 : Int) (x3 : Int) (x4 : Int), J37 M x1 x2 x3 x4 → Aj E l z 37 [(0, vr 44), (1, vi x1), (2, vi x2), (3, vi x3), (4, vi x4)] [] M) (hJ113 : ∀ (M : MM) (x1 : Int) (x2 : Int) (x3 : Int) (x4 : Int) (x6 : Int), J113 M x1 x2 x3 x4 x6 → Aj E l z 113 [(0, vr 44), (1, vi x1), (2, vi x2), (3, vi x3), (4, vj x4), (6, vi x6)] [] M) (hJ131 : ∀ (M : MM) (x1 : Int) (x2 : Int) (x3 : Int) (x4 : Int) (x7 : Int) (x8 : Int) (x10 : Int), J131 M x1 x2 x3 x4 x7 x8 x10 → Aj E l z 131 [(0, vr 44), (1, vi x1), (2, vi x2), (3, vi x3), (4, vj x4), (7, vi x7), (8, vj x8), (10, vi x10)] [] M) (hJ149 : ∀ (M : MM) (x1 : Int) (x2 : Int) (x3 : Int) (x4 : Int) (x7 : Int) (x8 : Int) (x10 : Int) (x11 : Int) (x13 : Int), J149 M x1 x2 x3 x4 x7 x8 x10 x11 x13 → Aj E l z 149 [(0, vr 44), (1, vi x1), (2, vi x2), (3, vi x3), (4, vj x4), (7, vi x7), (8, vj x8), (10, vi x10), (11, vj x11), (13, vi x13)] [] M) {M : MM} {s0 : Int} (h : VX12_most_296 E l D post J37 J113 J131 J149 M s0) : Aj E l z 296 [] [vi s0] M := by
  unfold VX12_most_296 at h
  exact v_iret C r dX12_most_296 h
def VX12_most_113 (E : FX) (l : Launch) (D : Nat) (post : Option AV → MM → Prop) (J37 : MM → Int → Int → Int → Int → Prop) (J113 : MM → Int → Int → Int → Int → Int → Prop) (J131 : MM → Int → Int → Int → Int → Int → Int → Int → Prop) (J149 : MM → Int → Int → Int → Int → Int → Int → Int → Int → Int → Prop) (M : MM) (x1 : Int) (x2 : Int) (x3 : Int) (x4 : Int) (x6 : Int) : Prop :=
  R32 x6 ∧ ((x6 = 0 → R32 x2 ∧ ((0 ≤ x2 → R32 x2 ∧ (R32 x3 ∧ ((x3 ≤ x2 → VX12_most_296 E l D post J37 J113 J131 J149 M (-4)) ∧ (¬ x3 ≤ x2 → 0 ≤ x2 ∧ (x2 < 8 ∧ (VX12_most_296 E l D post J37 J113 J131 J149 M (M 50 (x2).toNat))))))) ∧ (¬ 0 ≤ x2 → VX12_most_296 E l D post J37 J113 J131 J149 M (w32 x4)))) ∧ (¬ x6 = 0 → Con E l D qX12_groupsOf [vr 44, vi x3] M (fun r M37 => ∃ y38 : Int, r = some (vi y38) ∧ (J131 M37 x1 x2 x3 x4 y38 0 0))))
set_option maxRecDepth 20000 in
theorem SX12_most_113 {E : FX} {l : Launch} {D : Nat} {post : Option AV → MM → Prop} {z : RT} {J37 : MM → Int → Int → Int → Int → Prop} {J113 : MM → Int → Int → Int → Int → Int → Prop} {J131 : MM → Int → Int → Int → Int → Int → Int → Int → Prop} {J149 : MM → Int → Int → Int → Int → Int → Int → Int → Int → Int → Prop} (C : Cx E z D RX12 cX12_most 14) (r : Rt E z (some .int) post) (hJ37 : ∀ (M : MM) (x1 : Int) (x2 : Int) (x3 : Int) (x4 : Int), J37 M x1 x2 x3 x4 → Aj E l z 37 [(0, vr 44), (1, vi x1), (2, vi x2), (3, vi x3), (4, vi x4)] [] M) (hJ113 : ∀ (M : MM) (x1 : Int) (x2 : Int) (x3 : Int) (x4 : Int) (x6 : Int), J113 M x1 x2 x3 x4 x6 → Aj E l z 113 [(0, vr 44), (1, vi x1), (2, vi x2), (3, vi x3), (4, vj x4), (6, vi x6)] [] M) (hJ131 : ∀ (M : MM) (x1 : Int) (x2 : Int) (x3 : Int) (x4 : Int) (x7 : Int) (x8 : Int) (x10 : Int), J131 M x1 x2 x3 x4 x7 x8 x10 → Aj E l z 131 [(0, vr 44), (1, vi x1), (2, vi x2), (3, vi x3), (4, vj x4), (7, vi x7), (8, vj x8), (10, vi x10)] [] M) (hJ149 : ∀ (M : MM) (x1 : Int) (x2 : Int) (x3 : Int) (x4 : Int) (x7 : Int) (x8 : Int) (x10 : Int) (x11 : Int) (x13 : Int), J149 M x1 x2 x3 x4 x7 x8 x10 x11 x13 → Aj E l z 149 [(0, vr 44), (1, vi x1), (2, vi x2), (3, vi x3), (4, vj x4), (7, vi x7), (8, vj x8), (10, vi x10), (11, vj x11), (13, vi x13)] [] M) {M : MM} {x1 : Int} {x2 : Int} {x3 : Int} {x4 : Int} {x6 : Int} (h : VX12_most_113 E l D post J37 J113 J131 J149 M x1 x2 x3 x4 x6) : Aj E l z 113 [(0, vr 44), (1, vi x1), (2, vi x2), (3, vi x3), (4, vj x4), (6, vi x6)] [] M := by
  unfold VX12_most_113 at h
  refine v_iload (i := 5) C dX12_most_113 rfl ?_
  refine v_if_eq (tgt := 270) C h.1 dX12_most_115 (by decide) (fun c => ?_) (fun c => ?_)
  · have g31 := h.2.1 c
    refine v_iload_n (i := 2) C dX12_most_270 rfl rfl ?_
    refine v_if_ge (tgt := 280) C g31.1 dX12_most_271 (by decide) (fun c => ?_) (fun c => ?_)
    · have g33 := g31.2.1 c
      refine v_iload_n (i := 2) C dX12_most_280 rfl rfl ?_
      refine v_iload_n (i := 3) C dX12_most_281 rfl rfl ?_
      refine v_icmp_ge (tgt := 294) C g33.1 g33.2.1 dX12_most_282 (by decide) (fun c => ?_) (fun c => ?_)
      · have g35 := g33.2.2.1 c
        refine v_bipush C dX12_most_294 (by decide) ?_
        exact v_sub [] rfl (SX12_most_296 C r hJ37 hJ113 hJ131 hJ149 g35)
      · have g36 := g33.2.2.2 c
        refine v_aload_n (i := 0) C dX12_most_285 rfl rfl ?_
        refine v_getf (k := 44) C fl_RX12_26 rfl rfl dX12_most_286 ?_
        show Aj E l z (286 + 3) [(0, vr 44), (1, vi x1), (2, vi x2), (3, vi x3), (4, vj x4), (6, vi x6)] [vr 50] M
        refine v_iload_n (i := 2) C dX12_most_289 rfl rfl ?_
        refine v_iald (k := 50) C rfl g36.1 g36.2.1 dX12_most_290 ?_
        show Aj E l z (290 + 1) [(0, vr 44), (1, vi x1), (2, vi x2), (3, vi x3), (4, vj x4), (6, vi x6)] [vi (M 50 (x2).toNat)] M
        refine v_goto C dX12_most_291 (tgt := 296) (by decide) ?_
        exact v_sub [] rfl (SX12_most_296 C r hJ37 hJ113 hJ131 hJ149 g36.2.2)
    · have g34 := g31.2.2 c
      refine v_lload (i := 4) C dX12_most_274 rfl ?_
      refine v_l2i C dX12_most_276 ?_
      refine v_goto C dX12_most_277 (tgt := 296) (by decide) ?_
      exact v_sub [] rfl (SX12_most_296 C r hJ37 hJ113 hJ131 hJ149 g34)
  · have g32 := h.2.2 c
    refine v_aload_n (i := 0) C dX12_most_118 rfl rfl ?_
    refine v_iload_n (i := 3) C dX12_most_119 rfl rfl ?_
    refine v_callV (q := qX12_groupsOf) (k := 44) (As := [vi x3]) (S := []) C co_yX12_groupsOf ml_RX12_169 im_yX12_groupsOf se_yX12_groupsOf ini_RX12 rfl rfl hq_X12_groupsOf (by decide) (Nat.le_of_ble_eq_true rfl) rfl dX12_most_120 (Con.mono g32 (fun rr M37 hr => ?_) (Nat.le_refl _))
    obtain ⟨y38, rfl, g39⟩ := hr
    show Aj E l z (120 + 3) [(0, vr 44), (1, vi x1), (2, vi x2), (3, vi x3), (4, vj x4), (6, vi x6)] [vi y38] M37
    refine v_istore (L' := [(7, vi y38), (0, vr 44), (1, vi x1), (2, vi x2), (3, vi x3), (4, vj x4), (6, vi x6)]) C dX12_most_123 (by decide) rfl ?_
    refine v_lconst (x := 0) C dX12_most_125 (by decide) ?_
    refine v_lstore (L' := [(8, vj 0), (7, vi y38), (0, vr 44), (1, vi x1), (2, vi x2), (3, vi x3), (4, vj x4), (6, vi x6)]) C dX12_most_126 (by decide) rfl ?_
    refine v_iconst C dX12_most_128 ?_
    refine v_istore (L' := [(10, vi 0), (8, vj 0), (7, vi y38), (0, vr 44), (1, vi x1), (2, vi x2), (3, vi x3), (4, vj x4), (6, vi x6)]) C dX12_most_129 (by decide) rfl ?_
    exact v_sub [3, 4, 5, 6, 7, 2, 1, 0] rfl (hJ131 _ _ _ _ _ _ _ _ g39)
def VX12_most_260 (E : FX) (l : Launch) (D : Nat) (post : Option AV → MM → Prop) (J37 : MM → Int → Int → Int → Int → Prop) (J113 : MM → Int → Int → Int → Int → Int → Prop) (J131 : MM → Int → Int → Int → Int → Int → Int → Int → Prop) (J149 : MM → Int → Int → Int → Int → Int → Int → Int → Int → Int → Prop) (M : MM) (x1 : Int) (x2 : Int) (x3 : Int) (x4 : Int) : Prop :=
  Con E l D qX12_goesOn [vr 44, vi x3] M (fun r M40 => ∃ y41 : Int, r = some (vi y41) ∧ (J113 M40 x1 x2 x3 x4 y41))
set_option maxRecDepth 20000 in
theorem SX12_most_260 {E : FX} {l : Launch} {D : Nat} {post : Option AV → MM → Prop} {z : RT} {J37 : MM → Int → Int → Int → Int → Prop} {J113 : MM → Int → Int → Int → Int → Int → Prop} {J131 : MM → Int → Int → Int → Int → Int → Int → Int → Prop} {J149 : MM → Int → Int → Int → Int → Int → Int → Int → Int → Int → Prop} (C : Cx E z D RX12 cX12_most 14) (r : Rt E z (some .int) post) (hJ37 : ∀ (M : MM) (x1 : Int) (x2 : Int) (x3 : Int) (x4 : Int), J37 M x1 x2 x3 x4 → Aj E l z 37 [(0, vr 44), (1, vi x1), (2, vi x2), (3, vi x3), (4, vi x4)] [] M) (hJ113 : ∀ (M : MM) (x1 : Int) (x2 : Int) (x3 : Int) (x4 : Int) (x6 : Int), J113 M x1 x2 x3 x4 x6 → Aj E l z 113 [(0, vr 44), (1, vi x1), (2, vi x2), (3, vi x3), (4, vj x4), (6, vi x6)] [] M) (hJ131 : ∀ (M : MM) (x1 : Int) (x2 : Int) (x3 : Int) (x4 : Int) (x7 : Int) (x8 : Int) (x10 : Int), J131 M x1 x2 x3 x4 x7 x8 x10 → Aj E l z 131 [(0, vr 44), (1, vi x1), (2, vi x2), (3, vi x3), (4, vj x4), (7, vi x7), (8, vj x8), (10, vi x10)] [] M) (hJ149 : ∀ (M : MM) (x1 : Int) (x2 : Int) (x3 : Int) (x4 : Int) (x7 : Int) (x8 : Int) (x10 : Int) (x11 : Int) (x13 : Int), J149 M x1 x2 x3 x4 x7 x8 x10 x11 x13 → Aj E l z 149 [(0, vr 44), (1, vi x1), (2, vi x2), (3, vi x3), (4, vj x4), (7, vi x7), (8, vj x8), (10, vi x10), (11, vj x11), (13, vi x13)] [] M) {M : MM} {x1 : Int} {x2 : Int} {x3 : Int} {x4 : Int} (h : VX12_most_260 E l D post J37 J113 J131 J149 M x1 x2 x3 x4) : Aj E l z 260 [(0, vr 44), (1, vi x1), (2, vi x2), (3, vi x3), (4, vj x4)] [] M := by
  unfold VX12_most_260 at h
  refine v_aload_n (i := 0) C dX12_most_260 rfl rfl ?_
  refine v_iload_n (i := 3) C dX12_most_261 rfl rfl ?_
  refine v_callV (q := qX12_goesOn) (k := 44) (As := [vi x3]) (S := []) C co_yX12_goesOn ml_RX12_176 im_yX12_goesOn se_yX12_goesOn ini_RX12 rfl rfl hq_X12_goesOn (by decide) (Nat.le_of_ble_eq_true rfl) rfl dX12_most_262 (Con.mono h (fun rr M40 hr => ?_) (Nat.le_refl _))
  obtain ⟨y41, rfl, g42⟩ := hr
  show Aj E l z (262 + 3) [(0, vr 44), (1, vi x1), (2, vi x2), (3, vi x3), (4, vj x4)] [vi y41] M40
  refine v_istore (L' := [(6, vi y41), (0, vr 44), (1, vi x1), (2, vi x2), (3, vi x3), (4, vj x4)]) C dX12_most_265 (by decide) rfl ?_
  refine v_goto C dX12_most_267 (tgt := 113) (by decide) ?_
  exact v_sub [1, 2, 3, 4, 5, 0] rfl (hJ113 _ _ _ _ _ _ g42)
def VX12_most_249 (E : FX) (l : Launch) (D : Nat) (post : Option AV → MM → Prop) (J37 : MM → Int → Int → Int → Int → Prop) (J113 : MM → Int → Int → Int → Int → Int → Prop) (J131 : MM → Int → Int → Int → Int → Int → Int → Int → Prop) (J149 : MM → Int → Int → Int → Int → Int → Int → Int → Int → Int → Prop) (M : MM) (x1 : Int) (x2 : Int) (x3 : Int) (x7 : Int) (x8 : Int) : Prop :=
  Con E l D qX12_take [vr 44, vi x3, vi x7] M (fun r M43 => r = none ∧ (VX12_most_260 E l D post J37 J113 J131 J149 M43 x1 x2 x3 x8))
set_option maxRecDepth 20000 in
theorem SX12_most_249 {E : FX} {l : Launch} {D : Nat} {post : Option AV → MM → Prop} {z : RT} {J37 : MM → Int → Int → Int → Int → Prop} {J113 : MM → Int → Int → Int → Int → Int → Prop} {J131 : MM → Int → Int → Int → Int → Int → Int → Int → Prop} {J149 : MM → Int → Int → Int → Int → Int → Int → Int → Int → Int → Prop} (C : Cx E z D RX12 cX12_most 14) (r : Rt E z (some .int) post) (hJ37 : ∀ (M : MM) (x1 : Int) (x2 : Int) (x3 : Int) (x4 : Int), J37 M x1 x2 x3 x4 → Aj E l z 37 [(0, vr 44), (1, vi x1), (2, vi x2), (3, vi x3), (4, vi x4)] [] M) (hJ113 : ∀ (M : MM) (x1 : Int) (x2 : Int) (x3 : Int) (x4 : Int) (x6 : Int), J113 M x1 x2 x3 x4 x6 → Aj E l z 113 [(0, vr 44), (1, vi x1), (2, vi x2), (3, vi x3), (4, vj x4), (6, vi x6)] [] M) (hJ131 : ∀ (M : MM) (x1 : Int) (x2 : Int) (x3 : Int) (x4 : Int) (x7 : Int) (x8 : Int) (x10 : Int), J131 M x1 x2 x3 x4 x7 x8 x10 → Aj E l z 131 [(0, vr 44), (1, vi x1), (2, vi x2), (3, vi x3), (4, vj x4), (7, vi x7), (8, vj x8), (10, vi x10)] [] M) (hJ149 : ∀ (M : MM) (x1 : Int) (x2 : Int) (x3 : Int) (x4 : Int) (x7 : Int) (x8 : Int) (x10 : Int) (x11 : Int) (x13 : Int), J149 M x1 x2 x3 x4 x7 x8 x10 x11 x13 → Aj E l z 149 [(0, vr 44), (1, vi x1), (2, vi x2), (3, vi x3), (4, vj x4), (7, vi x7), (8, vj x8), (10, vi x10), (11, vj x11), (13, vi x13)] [] M) {M : MM} {x1 : Int} {x2 : Int} {x3 : Int} {x7 : Int} {x8 : Int} (h : VX12_most_249 E l D post J37 J113 J131 J149 M x1 x2 x3 x7 x8) : Aj E l z 249 [(0, vr 44), (1, vi x1), (2, vi x2), (3, vi x3), (7, vi x7), (8, vj x8)] [] M := by
  unfold VX12_most_249 at h
  refine v_lload (i := 5) C dX12_most_249 rfl ?_
  refine v_lstore (L' := [(4, vj x8), (0, vr 44), (1, vi x1), (2, vi x2), (3, vi x3), (7, vi x7), (8, vj x8)]) C dX12_most_251 (by decide) rfl ?_
  refine v_aload_n (i := 1) C dX12_most_253 rfl rfl ?_
  refine v_iload_n (i := 4) C dX12_most_254 rfl rfl ?_
  refine v_iload (i := 5) C dX12_most_255 rfl ?_
  refine v_callV (q := qX12_take) (k := 44) (As := [vi x3, vi x7]) (S := []) C co_yX12_take ml_RX12_172 im_yX12_take se_yX12_take ini_RX12 rfl rfl hq_X12_take (by decide) (Nat.le_of_ble_eq_true rfl) rfl dX12_most_257 (Con.mono h (fun rr M43 hr => ?_) (Nat.le_refl _))
  obtain ⟨rfl, g44⟩ := hr
  show Aj E l z (257 + 3) [(4, vj x8), (0, vr 44), (1, vi x1), (2, vi x2), (3, vi x3), (7, vi x7), (8, vj x8)] [] M43
  exact v_sub [1, 2, 3, 4, 0] rfl (SX12_most_260 C r hJ37 hJ113 hJ131 hJ149 g44)
def VX12_most_131 (E : FX) (l : Launch) (D : Nat) (post : Option AV → MM → Prop) (J37 : MM → Int → Int → Int → Int → Prop) (J113 : MM → Int → Int → Int → Int → Int → Prop) (J131 : MM → Int → Int → Int → Int → Int → Int → Int → Prop) (J149 : MM → Int → Int → Int → Int → Int → Int → Int → Int → Int → Prop) (M : MM) (x1 : Int) (x2 : Int) (x3 : Int) (x4 : Int) (x7 : Int) (x8 : Int) (x10 : Int) : Prop :=
  R32 x10 ∧ (R32 x7 ∧ ((x7 ≤ x10 → R64 x8 ∧ (R64 x4 ∧ ((x4 < x8 → Con E l D qX12_take [vr 44, vi x3, vi x7] M (fun r M49 => r = none ∧ (VX12_most_260 E l D post J37 J113 J131 J149 M49 x1 x2 x3 x8))) ∧ (¬ x4 < x8 → R64 x8 ∧ (R64 x4 ∧ ((¬ x8 = x4 → Con E l D qX12_goesOn [vr 44, vi x3] M (fun r M53 => ∃ y54 : Int, r = some (vi y54) ∧ (J113 M53 x1 x2 x3 x4 y54))) ∧ (x8 = x4 → R32 x7 ∧ (R32 (M 44 13) ∧ ((x7 ≤ M 44 13 → Con E l D qX12_goesOn [vr 44, vi x3] M (fun r M58 => ∃ y59 : Int, r = some (vi y59) ∧ (J113 M58 x1 x2 x3 x4 y59))) ∧ (¬ x7 ≤ M 44 13 → Con E l D qX12_take [vr 44, vi x3, vi x7] M (fun r M61 => r = none ∧ (VX12_most_260 E l D post J37 J113 J131 J149 M61 x1 x2 x3 x8)))))))))))) ∧ (¬ x7 ≤ x10 → Con E l D qX12_seamOf [vr 44, vi x1] M (fun r M63 => ∃ y64 : Int, r = some (vi y64) ∧ (R32 y64 ∧ (J149 M63 x1 x2 x3 x4 x7 x8 x10 y64 0))))))
set_option maxRecDepth 20000 in
theorem SX12_most_131 {E : FX} {l : Launch} {D : Nat} {post : Option AV → MM → Prop} {z : RT} {J37 : MM → Int → Int → Int → Int → Prop} {J113 : MM → Int → Int → Int → Int → Int → Prop} {J131 : MM → Int → Int → Int → Int → Int → Int → Int → Prop} {J149 : MM → Int → Int → Int → Int → Int → Int → Int → Int → Int → Prop} (C : Cx E z D RX12 cX12_most 14) (r : Rt E z (some .int) post) (hJ37 : ∀ (M : MM) (x1 : Int) (x2 : Int) (x3 : Int) (x4 : Int), J37 M x1 x2 x3 x4 → Aj E l z 37 [(0, vr 44), (1, vi x1), (2, vi x2), (3, vi x3), (4, vi x4)] [] M) (hJ113 : ∀ (M : MM) (x1 : Int) (x2 : Int) (x3 : Int) (x4 : Int) (x6 : Int), J113 M x1 x2 x3 x4 x6 → Aj E l z 113 [(0, vr 44), (1, vi x1), (2, vi x2), (3, vi x3), (4, vj x4), (6, vi x6)] [] M) (hJ131 : ∀ (M : MM) (x1 : Int) (x2 : Int) (x3 : Int) (x4 : Int) (x7 : Int) (x8 : Int) (x10 : Int), J131 M x1 x2 x3 x4 x7 x8 x10 → Aj E l z 131 [(0, vr 44), (1, vi x1), (2, vi x2), (3, vi x3), (4, vj x4), (7, vi x7), (8, vj x8), (10, vi x10)] [] M) (hJ149 : ∀ (M : MM) (x1 : Int) (x2 : Int) (x3 : Int) (x4 : Int) (x7 : Int) (x8 : Int) (x10 : Int) (x11 : Int) (x13 : Int), J149 M x1 x2 x3 x4 x7 x8 x10 x11 x13 → Aj E l z 149 [(0, vr 44), (1, vi x1), (2, vi x2), (3, vi x3), (4, vj x4), (7, vi x7), (8, vj x8), (10, vi x10), (11, vj x11), (13, vi x13)] [] M) {M : MM} {x1 : Int} {x2 : Int} {x3 : Int} {x4 : Int} {x7 : Int} {x8 : Int} {x10 : Int} (h : VX12_most_131 E l D post J37 J113 J131 J149 M x1 x2 x3 x4 x7 x8 x10) : Aj E l z 131 [(0, vr 44), (1, vi x1), (2, vi x2), (3, vi x3), (4, vj x4), (7, vi x7), (8, vj x8), (10, vi x10)] [] M := by
  unfold VX12_most_131 at h
  refine v_iload (i := 7) C dX12_most_131 rfl ?_
  refine v_iload (i := 5) C dX12_most_133 rfl ?_
  refine v_icmp_ge (tgt := 224) C h.1 h.2.1 dX12_most_135 (by decide) (fun c => ?_) (fun c => ?_)
  · have g45 := h.2.2.1 c
    refine v_lload (i := 6) C dX12_most_224 rfl ?_
    refine v_lload (i := 4) C dX12_most_226 rfl ?_
    refine v_lif_gt (tgt := 249) C g45.1 g45.2.1 dX12_most_228 dX12_most_229 (by decide) (fun c => ?_) (fun c => ?_)
    · have g47 := g45.2.2.1 c
      refine v_lload (i := 6) C dX12_most_249 rfl ?_
      refine v_lstore (L' := [(4, vj x8), (0, vr 44), (1, vi x1), (2, vi x2), (3, vi x3), (7, vi x7), (8, vj x8), (10, vi x10)]) C dX12_most_251 (by decide) rfl ?_
      refine v_aload_n (i := 1) C dX12_most_253 rfl rfl ?_
      refine v_iload_n (i := 4) C dX12_most_254 rfl rfl ?_
      refine v_iload (i := 5) C dX12_most_255 rfl ?_
      refine v_callV (q := qX12_take) (k := 44) (As := [vi x3, vi x7]) (S := []) C co_yX12_take ml_RX12_172 im_yX12_take se_yX12_take ini_RX12 rfl rfl hq_X12_take (by decide) (Nat.le_of_ble_eq_true rfl) rfl dX12_most_257 (Con.mono g47 (fun rr M49 hr => ?_) (Nat.le_refl _))
      obtain ⟨rfl, g50⟩ := hr
      show Aj E l z (257 + 3) [(4, vj x8), (0, vr 44), (1, vi x1), (2, vi x2), (3, vi x3), (7, vi x7), (8, vj x8), (10, vi x10)] [] M49
      exact v_sub [1, 2, 3, 4, 0] rfl (SX12_most_260 C r hJ37 hJ113 hJ131 hJ149 g50)
    · have g48 := g45.2.2.2 c
      refine v_lload (i := 6) C dX12_most_232 rfl ?_
      refine v_lload (i := 4) C dX12_most_234 rfl ?_
      refine v_lif_ne (tgt := 260) C g48.1 g48.2.1 dX12_most_236 dX12_most_237 (by decide) (fun c => ?_) (fun c => ?_)
      · have g51 := g48.2.2.1 c
        refine v_aload_n (i := 0) C dX12_most_260 rfl rfl ?_
        refine v_iload_n (i := 3) C dX12_most_261 rfl rfl ?_
        refine v_callV (q := qX12_goesOn) (k := 44) (As := [vi x3]) (S := []) C co_yX12_goesOn ml_RX12_176 im_yX12_goesOn se_yX12_goesOn ini_RX12 rfl rfl hq_X12_goesOn (by decide) (Nat.le_of_ble_eq_true rfl) rfl dX12_most_262 (Con.mono g51 (fun rr M53 hr => ?_) (Nat.le_refl _))
        obtain ⟨y54, rfl, g55⟩ := hr
        show Aj E l z (262 + 3) [(0, vr 44), (1, vi x1), (2, vi x2), (3, vi x3), (4, vj x4), (7, vi x7), (8, vj x8), (10, vi x10)] [vi y54] M53
        refine v_istore (L' := [(6, vi y54), (0, vr 44), (1, vi x1), (2, vi x2), (3, vi x3), (4, vj x4), (7, vi x7), (8, vj x8), (10, vi x10)]) C dX12_most_265 (by decide) rfl ?_
        refine v_goto C dX12_most_267 (tgt := 113) (by decide) ?_
        exact v_sub [1, 2, 3, 4, 5, 0] rfl (hJ113 _ _ _ _ _ _ g55)
      · have g52 := g48.2.2.2 c
        refine v_iload (i := 5) C dX12_most_240 rfl ?_
        refine v_aload_n (i := 0) C dX12_most_242 rfl rfl ?_
        refine v_getf (k := 44) C fl_RX12_163 rfl rfl dX12_most_243 ?_
        show Aj E l z (243 + 3) [(0, vr 44), (1, vi x1), (2, vi x2), (3, vi x3), (4, vj x4), (7, vi x7), (8, vj x8), (10, vi x10)] [vi (M 44 13), vi x7] M
        refine v_icmp_le (tgt := 260) C g52.1 g52.2.1 dX12_most_246 (by decide) (fun c => ?_) (fun c => ?_)
        · have g56 := g52.2.2.1 c
          refine v_aload_n (i := 0) C dX12_most_260 rfl rfl ?_
          refine v_iload_n (i := 3) C dX12_most_261 rfl rfl ?_
          refine v_callV (q := qX12_goesOn) (k := 44) (As := [vi x3]) (S := []) C co_yX12_goesOn ml_RX12_176 im_yX12_goesOn se_yX12_goesOn ini_RX12 rfl rfl hq_X12_goesOn (by decide) (Nat.le_of_ble_eq_true rfl) rfl dX12_most_262 (Con.mono g56 (fun rr M58 hr => ?_) (Nat.le_refl _))
          obtain ⟨y59, rfl, g60⟩ := hr
          show Aj E l z (262 + 3) [(0, vr 44), (1, vi x1), (2, vi x2), (3, vi x3), (4, vj x4), (7, vi x7), (8, vj x8), (10, vi x10)] [vi y59] M58
          refine v_istore (L' := [(6, vi y59), (0, vr 44), (1, vi x1), (2, vi x2), (3, vi x3), (4, vj x4), (7, vi x7), (8, vj x8), (10, vi x10)]) C dX12_most_265 (by decide) rfl ?_
          refine v_goto C dX12_most_267 (tgt := 113) (by decide) ?_
          exact v_sub [1, 2, 3, 4, 5, 0] rfl (hJ113 _ _ _ _ _ _ g60)
        · have g57 := g52.2.2.2 c
          refine v_lload (i := 6) C dX12_most_249 rfl ?_
          refine v_lstore (L' := [(4, vj x8), (0, vr 44), (1, vi x1), (2, vi x2), (3, vi x3), (7, vi x7), (8, vj x8), (10, vi x10)]) C dX12_most_251 (by decide) rfl ?_
          refine v_aload_n (i := 1) C dX12_most_253 rfl rfl ?_
          refine v_iload_n (i := 4) C dX12_most_254 rfl rfl ?_
          refine v_iload (i := 5) C dX12_most_255 rfl ?_
          refine v_callV (q := qX12_take) (k := 44) (As := [vi x3, vi x7]) (S := []) C co_yX12_take ml_RX12_172 im_yX12_take se_yX12_take ini_RX12 rfl rfl hq_X12_take (by decide) (Nat.le_of_ble_eq_true rfl) rfl dX12_most_257 (Con.mono g57 (fun rr M61 hr => ?_) (Nat.le_refl _))
          obtain ⟨rfl, g62⟩ := hr
          show Aj E l z (257 + 3) [(4, vj x8), (0, vr 44), (1, vi x1), (2, vi x2), (3, vi x3), (7, vi x7), (8, vj x8), (10, vi x10)] [] M61
          exact v_sub [1, 2, 3, 4, 0] rfl (SX12_most_260 C r hJ37 hJ113 hJ131 hJ149 g62)
  · have g46 := h.2.2.2 c
    refine v_aload_n (i := 0) C dX12_most_138 rfl rfl ?_
    refine v_iload_n (i := 1) C dX12_most_139 rfl rfl ?_
    refine v_callV (q := qX12_seamOf) (k := 44) (As := [vi x1]) (S := []) C co_yX12_seamOf ml_RX12_107 im_yX12_seamOf se_yX12_seamOf ini_RX12 rfl rfl hq_X12_seamOf (by decide) (Nat.le_of_ble_eq_true rfl) rfl dX12_most_140 (Con.mono g46 (fun rr M63 hr => ?_) (Nat.le_refl _))
    obtain ⟨y64, rfl, g65⟩ := hr
    show Aj E l z (140 + 3) [(0, vr 44), (1, vi x1), (2, vi x2), (3, vi x3), (4, vj x4), (7, vi x7), (8, vj x8), (10, vi x10)] [vi y64] M63
    refine v_i2l C g65.1 dX12_most_143 ?_
    refine v_lstore (L' := [(11, vj y64), (0, vr 44), (1, vi x1), (2, vi x2), (3, vi x3), (4, vj x4), (7, vi x7), (8, vj x8), (10, vi x10)]) C dX12_most_144 (by decide) rfl ?_
    refine v_iconst C dX12_most_146 ?_
    refine v_istore (L' := [(13, vi 0), (11, vj y64), (0, vr 44), (1, vi x1), (2, vi x2), (3, vi x3), (4, vj x4), (7, vi x7), (8, vj x8), (10, vi x10)]) C dX12_most_147 (by decide) rfl ?_
    exact v_sub [2, 3, 4, 5, 6, 7, 8, 9, 1, 0] rfl (hJ149 _ _ _ _ _ _ _ _ _ _ g65.2)
def VX12_most_187 (E : FX) (l : Launch) (D : Nat) (post : Option AV → MM → Prop) (J37 : MM → Int → Int → Int → Int → Prop) (J113 : MM → Int → Int → Int → Int → Int → Prop) (J131 : MM → Int → Int → Int → Int → Int → Int → Int → Prop) (J149 : MM → Int → Int → Int → Int → Int → Int → Int → Int → Int → Prop) (M : MM) (x1 : Int) (x2 : Int) (x3 : Int) (x4 : Int) (x7 : Int) (x8 : Int) (x10 : Int) (x13 : Int) (s0 : Int) (s1 : Int) : Prop :=
  ∀ y66 : Int, y66 = s0 + s1 → (∀ y68 : Int, y68 = x13 + 1 → (J149 M x1 x2 x3 x4 x7 x8 x10 y66 y68))
set_option maxRecDepth 20000 in
theorem SX12_most_187 {E : FX} {l : Launch} {D : Nat} {post : Option AV → MM → Prop} {z : RT} {J37 : MM → Int → Int → Int → Int → Prop} {J113 : MM → Int → Int → Int → Int → Int → Prop} {J131 : MM → Int → Int → Int → Int → Int → Int → Int → Prop} {J149 : MM → Int → Int → Int → Int → Int → Int → Int → Int → Int → Prop} (C : Cx E z D RX12 cX12_most 14) (r : Rt E z (some .int) post) (hJ37 : ∀ (M : MM) (x1 : Int) (x2 : Int) (x3 : Int) (x4 : Int), J37 M x1 x2 x3 x4 → Aj E l z 37 [(0, vr 44), (1, vi x1), (2, vi x2), (3, vi x3), (4, vi x4)] [] M) (hJ113 : ∀ (M : MM) (x1 : Int) (x2 : Int) (x3 : Int) (x4 : Int) (x6 : Int), J113 M x1 x2 x3 x4 x6 → Aj E l z 113 [(0, vr 44), (1, vi x1), (2, vi x2), (3, vi x3), (4, vj x4), (6, vi x6)] [] M) (hJ131 : ∀ (M : MM) (x1 : Int) (x2 : Int) (x3 : Int) (x4 : Int) (x7 : Int) (x8 : Int) (x10 : Int), J131 M x1 x2 x3 x4 x7 x8 x10 → Aj E l z 131 [(0, vr 44), (1, vi x1), (2, vi x2), (3, vi x3), (4, vj x4), (7, vi x7), (8, vj x8), (10, vi x10)] [] M) (hJ149 : ∀ (M : MM) (x1 : Int) (x2 : Int) (x3 : Int) (x4 : Int) (x7 : Int) (x8 : Int) (x10 : Int) (x11 : Int) (x13 : Int), J149 M x1 x2 x3 x4 x7 x8 x10 x11 x13 → Aj E l z 149 [(0, vr 44), (1, vi x1), (2, vi x2), (3, vi x3), (4, vj x4), (7, vi x7), (8, vj x8), (10, vi x10), (11, vj x11), (13, vi x13)] [] M) {M : MM} {x1 : Int} {x2 : Int} {x3 : Int} {x4 : Int} {x7 : Int} {x8 : Int} {x10 : Int} {x13 : Int} {s0 : Int} {s1 : Int} (h : VX12_most_187 E l D post J37 J113 J131 J149 M x1 x2 x3 x4 x7 x8 x10 x13 s0 s1) : Aj E l z 187 [(0, vr 44), (1, vi x1), (2, vi x2), (3, vi x3), (4, vj x4), (7, vi x7), (8, vj x8), (10, vi x10), (13, vi x13)] [vj s1, vj s0] M := by
  unfold VX12_most_187 at h
  refine v_ladd C dX12_most_187 ?_
  obtain ⟨y66, hy66⟩ : ∃ y : Int, y = s0 + s1 := ⟨_, rfl⟩
  have g67 := h y66 hy66
  refine v_eqj hy66 ?_
  refine v_lstore (L' := [(11, vj y66), (0, vr 44), (1, vi x1), (2, vi x2), (3, vi x3), (4, vj x4), (7, vi x7), (8, vj x8), (10, vi x10), (13, vi x13)]) C dX12_most_188 (by decide) rfl ?_
  obtain ⟨y68, hy68⟩ : ∃ y : Int, y = x13 + 1 := ⟨_, rfl⟩
  have g69 := g67 y68 hy68
  refine v_iinc (i := 9) (L' := [(13, vi y68), (11, vj y66), (0, vr 44), (1, vi x1), (2, vi x2), (3, vi x3), (4, vj x4), (7, vi x7), (8, vj x8), (10, vi x10)]) C dX12_most_190 rfl (by decide) hy68 rfl ?_
  refine v_goto C dX12_most_193 (tgt := 149) (by decide) ?_
  exact v_sub [2, 3, 4, 5, 6, 7, 8, 9, 1, 0] rfl (hJ149 _ _ _ _ _ _ _ _ _ _ g69)
def VX12_most_215 (E : FX) (l : Launch) (D : Nat) (post : Option AV → MM → Prop) (J37 : MM → Int → Int → Int → Int → Prop) (J113 : MM → Int → Int → Int → Int → Int → Prop) (J131 : MM → Int → Int → Int → Int → Int → Int → Int → Prop) (J149 : MM → Int → Int → Int → Int → Int → Int → Int → Int → Int → Prop) (M : MM) (x1 : Int) (x2 : Int) (x3 : Int) (x4 : Int) (x7 : Int) (x10 : Int) (s0 : Int) (s1 : Int) : Prop :=
  ∀ y70 : Int, y70 = s0 + s1 → (∀ y72 : Int, y72 = x10 + 1 → (J131 M x1 x2 x3 x4 x7 y70 y72))
set_option maxRecDepth 20000 in
theorem SX12_most_215 {E : FX} {l : Launch} {D : Nat} {post : Option AV → MM → Prop} {z : RT} {J37 : MM → Int → Int → Int → Int → Prop} {J113 : MM → Int → Int → Int → Int → Int → Prop} {J131 : MM → Int → Int → Int → Int → Int → Int → Int → Prop} {J149 : MM → Int → Int → Int → Int → Int → Int → Int → Int → Int → Prop} (C : Cx E z D RX12 cX12_most 14) (r : Rt E z (some .int) post) (hJ37 : ∀ (M : MM) (x1 : Int) (x2 : Int) (x3 : Int) (x4 : Int), J37 M x1 x2 x3 x4 → Aj E l z 37 [(0, vr 44), (1, vi x1), (2, vi x2), (3, vi x3), (4, vi x4)] [] M) (hJ113 : ∀ (M : MM) (x1 : Int) (x2 : Int) (x3 : Int) (x4 : Int) (x6 : Int), J113 M x1 x2 x3 x4 x6 → Aj E l z 113 [(0, vr 44), (1, vi x1), (2, vi x2), (3, vi x3), (4, vj x4), (6, vi x6)] [] M) (hJ131 : ∀ (M : MM) (x1 : Int) (x2 : Int) (x3 : Int) (x4 : Int) (x7 : Int) (x8 : Int) (x10 : Int), J131 M x1 x2 x3 x4 x7 x8 x10 → Aj E l z 131 [(0, vr 44), (1, vi x1), (2, vi x2), (3, vi x3), (4, vj x4), (7, vi x7), (8, vj x8), (10, vi x10)] [] M) (hJ149 : ∀ (M : MM) (x1 : Int) (x2 : Int) (x3 : Int) (x4 : Int) (x7 : Int) (x8 : Int) (x10 : Int) (x11 : Int) (x13 : Int), J149 M x1 x2 x3 x4 x7 x8 x10 x11 x13 → Aj E l z 149 [(0, vr 44), (1, vi x1), (2, vi x2), (3, vi x3), (4, vj x4), (7, vi x7), (8, vj x8), (10, vi x10), (11, vj x11), (13, vi x13)] [] M) {M : MM} {x1 : Int} {x2 : Int} {x3 : Int} {x4 : Int} {x7 : Int} {x10 : Int} {s0 : Int} {s1 : Int} (h : VX12_most_215 E l D post J37 J113 J131 J149 M x1 x2 x3 x4 x7 x10 s0 s1) : Aj E l z 215 [(0, vr 44), (1, vi x1), (2, vi x2), (3, vi x3), (4, vj x4), (7, vi x7), (10, vi x10)] [vj s1, vj s0] M := by
  unfold VX12_most_215 at h
  refine v_ladd C dX12_most_215 ?_
  obtain ⟨y70, hy70⟩ : ∃ y : Int, y = s0 + s1 := ⟨_, rfl⟩
  have g71 := h y70 hy70
  refine v_eqj hy70 ?_
  refine v_lstore (L' := [(8, vj y70), (0, vr 44), (1, vi x1), (2, vi x2), (3, vi x3), (4, vj x4), (7, vi x7), (10, vi x10)]) C dX12_most_216 (by decide) rfl ?_
  obtain ⟨y72, hy72⟩ : ∃ y : Int, y = x10 + 1 := ⟨_, rfl⟩
  have g73 := g71 y72 hy72
  refine v_iinc (i := 7) (L' := [(10, vi y72), (8, vj y70), (0, vr 44), (1, vi x1), (2, vi x2), (3, vi x3), (4, vj x4), (7, vi x7)]) C dX12_most_218 rfl (by decide) hy72 rfl ?_
  refine v_goto C dX12_most_221 (tgt := 131) (by decide) ?_
  exact v_sub [2, 3, 4, 5, 6, 7, 1, 0] rfl (hJ131 _ _ _ _ _ _ _ _ g73)
def VX12_most_149 (E : FX) (l : Launch) (D : Nat) (post : Option AV → MM → Prop) (J37 : MM → Int → Int → Int → Int → Prop) (J113 : MM → Int → Int → Int → Int → Int → Prop) (J131 : MM → Int → Int → Int → Int → Int → Int → Int → Prop) (J149 : MM → Int → Int → Int → Int → Int → Int → Int → Int → Int → Prop) (M : MM) (x1 : Int) (x2 : Int) (x3 : Int) (x4 : Int) (x7 : Int) (x8 : Int) (x10 : Int) (x11 : Int) (x13 : Int) : Prop :=
  R32 x13 ∧ (R32 x3 ∧ ((x3 ≤ x13 → R64 x11 ∧ ((x11 ≤ 0 → VX12_most_215 E l D post J37 J113 J131 J149 M x1 x2 x3 x4 x7 x10 x8 0) ∧ (¬ x11 ≤ 0 → Con E l D qX12_below [vr 44, vj x11] M (fun r M78 => ∃ y79 : Int, r = some (vj y79) ∧ (VX12_most_215 E l D post J37 J113 J131 J149 M78 x1 x2 x3 x4 x7 x10 x8 y79))))) ∧ (¬ x3 ≤ x13 → 0 ≤ x13 ∧ (x13 < 8 ∧ (R32 (M 49 (x13).toNat) ∧ (R32 x10 ∧ ((¬ M 49 (x13).toNat = x10 → VX12_most_187 E l D post J37 J113 J131 J149 M x1 x2 x3 x4 x7 x8 x10 x13 x11 0) ∧ (M 49 (x13).toNat = x10 → 0 ≤ x13 ∧ (x13 < 8 ∧ (Con E l D qX12_seamOf [vr 44, vi x1] M (fun r M83 => ∃ y84 : Int, r = some (vi y84) ∧ (R32 ((M 51 (x13).toNat) - y84) ∧ (VX12_most_187 E l D post J37 J113 J131 J149 M83 x1 x2 x3 x4 x7 x8 x10 x13 x11 ((M 51 (x13).toNat) - y84))))))))))))))
set_option maxRecDepth 20000 in
theorem SX12_most_149 {E : FX} {l : Launch} {D : Nat} {post : Option AV → MM → Prop} {z : RT} {J37 : MM → Int → Int → Int → Int → Prop} {J113 : MM → Int → Int → Int → Int → Int → Prop} {J131 : MM → Int → Int → Int → Int → Int → Int → Int → Prop} {J149 : MM → Int → Int → Int → Int → Int → Int → Int → Int → Int → Prop} (C : Cx E z D RX12 cX12_most 14) (r : Rt E z (some .int) post) (hJ37 : ∀ (M : MM) (x1 : Int) (x2 : Int) (x3 : Int) (x4 : Int), J37 M x1 x2 x3 x4 → Aj E l z 37 [(0, vr 44), (1, vi x1), (2, vi x2), (3, vi x3), (4, vi x4)] [] M) (hJ113 : ∀ (M : MM) (x1 : Int) (x2 : Int) (x3 : Int) (x4 : Int) (x6 : Int), J113 M x1 x2 x3 x4 x6 → Aj E l z 113 [(0, vr 44), (1, vi x1), (2, vi x2), (3, vi x3), (4, vj x4), (6, vi x6)] [] M) (hJ131 : ∀ (M : MM) (x1 : Int) (x2 : Int) (x3 : Int) (x4 : Int) (x7 : Int) (x8 : Int) (x10 : Int), J131 M x1 x2 x3 x4 x7 x8 x10 → Aj E l z 131 [(0, vr 44), (1, vi x1), (2, vi x2), (3, vi x3), (4, vj x4), (7, vi x7), (8, vj x8), (10, vi x10)] [] M) (hJ149 : ∀ (M : MM) (x1 : Int) (x2 : Int) (x3 : Int) (x4 : Int) (x7 : Int) (x8 : Int) (x10 : Int) (x11 : Int) (x13 : Int), J149 M x1 x2 x3 x4 x7 x8 x10 x11 x13 → Aj E l z 149 [(0, vr 44), (1, vi x1), (2, vi x2), (3, vi x3), (4, vj x4), (7, vi x7), (8, vj x8), (10, vi x10), (11, vj x11), (13, vi x13)] [] M) {M : MM} {x1 : Int} {x2 : Int} {x3 : Int} {x4 : Int} {x7 : Int} {x8 : Int} {x10 : Int} {x11 : Int} {x13 : Int} (h : VX12_most_149 E l D post J37 J113 J131 J149 M x1 x2 x3 x4 x7 x8 x10 x11 x13) : Aj E l z 149 [(0, vr 44), (1, vi x1), (2, vi x2), (3, vi x3), (4, vj x4), (7, vi x7), (8, vj x8), (10, vi x10), (11, vj x11), (13, vi x13)] [] M := by
  unfold VX12_most_149 at h
  refine v_iload (i := 9) C dX12_most_149 rfl ?_
  refine v_iload_n (i := 3) C dX12_most_151 rfl rfl ?_
  refine v_icmp_ge (tgt := 196) C h.1 h.2.1 dX12_most_152 (by decide) (fun c => ?_) (fun c => ?_)
  · have g74 := h.2.2.1 c
    refine v_lload (i := 6) C dX12_most_196 rfl ?_
    refine v_lload (i := 8) C dX12_most_198 rfl ?_
    refine v_lconst (x := 0) C dX12_most_200 (by decide) ?_
    refine v_lif_le (tgt := 214) C g74.1 (by decide) dX12_most_201 dX12_most_202 (by decide) (fun c => ?_) (fun c => ?_)
    · have g76 := g74.2.1 c
      refine v_lconst (x := 0) C dX12_most_214 (by decide) ?_
      exact v_sub [0, 1, 2, 3, 4, 5, 7] rfl (SX12_most_215 C r hJ37 hJ113 hJ131 hJ149 g76)
    · have g77 := g74.2.2 c
      refine v_aload_n (i := 0) C dX12_most_205 rfl rfl ?_
      refine v_lload (i := 8) C dX12_most_206 rfl ?_
      refine v_callV (q := qX12_below) (k := 44) (As := [vj x11]) (S := [vj x8]) C co_yX12_below ml_RX12_104 im_yX12_below se_yX12_below ini_RX12 rfl rfl hq_X12_below (by decide) (Nat.le_of_ble_eq_true rfl) rfl dX12_most_208 (Con.mono g77 (fun rr M78 hr => ?_) (Nat.le_refl _))
      obtain ⟨y79, rfl, g80⟩ := hr
      show Aj E l z (208 + 3) [(0, vr 44), (1, vi x1), (2, vi x2), (3, vi x3), (4, vj x4), (7, vi x7), (8, vj x8), (10, vi x10), (11, vj x11), (13, vi x13)] [vj y79, vj x8] M78
      refine v_goto C dX12_most_211 (tgt := 215) (by decide) ?_
      exact v_sub [0, 1, 2, 3, 4, 5, 7] rfl (SX12_most_215 C r hJ37 hJ113 hJ131 hJ149 g80)
  · have g75 := h.2.2.2 c
    refine v_lload (i := 8) C dX12_most_155 rfl ?_
    refine v_aload_n (i := 0) C dX12_most_157 rfl rfl ?_
    refine v_getf (k := 44) C fl_RX12_23 rfl rfl dX12_most_158 ?_
    show Aj E l z (158 + 3) [(0, vr 44), (1, vi x1), (2, vi x2), (3, vi x3), (4, vj x4), (7, vi x7), (8, vj x8), (10, vi x10), (11, vj x11), (13, vi x13)] [vr 49, vj x11] M
    refine v_iload (i := 9) C dX12_most_161 rfl ?_
    refine v_iald (k := 49) C rfl g75.1 g75.2.1 dX12_most_163 ?_
    show Aj E l z (163 + 1) [(0, vr 44), (1, vi x1), (2, vi x2), (3, vi x3), (4, vj x4), (7, vi x7), (8, vj x8), (10, vi x10), (11, vj x11), (13, vi x13)] [vi (M 49 (x13).toNat), vj x11] M
    refine v_iload (i := 7) C dX12_most_164 rfl ?_
    refine v_icmp_ne (tgt := 186) C g75.2.2.1 g75.2.2.2.1 dX12_most_166 (by decide) (fun c => ?_) (fun c => ?_)
    · have g81 := g75.2.2.2.2.1 c
      refine v_lconst (x := 0) C dX12_most_186 (by decide) ?_
      exact v_sub [0, 1, 2, 3, 4, 5, 6, 7, 9] rfl (SX12_most_187 C r hJ37 hJ113 hJ131 hJ149 g81)
    · have g82 := g75.2.2.2.2.2 c
      refine v_aload_n (i := 0) C dX12_most_169 rfl rfl ?_
      refine v_getf (k := 44) C fl_RX12_29 rfl rfl dX12_most_170 ?_
      show Aj E l z (170 + 3) [(0, vr 44), (1, vi x1), (2, vi x2), (3, vi x3), (4, vj x4), (7, vi x7), (8, vj x8), (10, vi x10), (11, vj x11), (13, vi x13)] [vr 51, vj x11] M
      refine v_iload (i := 9) C dX12_most_173 rfl ?_
      refine v_iald (k := 51) C rfl g82.1 g82.2.1 dX12_most_175 ?_
      show Aj E l z (175 + 1) [(0, vr 44), (1, vi x1), (2, vi x2), (3, vi x3), (4, vj x4), (7, vi x7), (8, vj x8), (10, vi x10), (11, vj x11), (13, vi x13)] [vi (M 51 (x13).toNat), vj x11] M
      refine v_aload_n (i := 0) C dX12_most_176 rfl rfl ?_
      refine v_iload_n (i := 1) C dX12_most_177 rfl rfl ?_
      refine v_callV (q := qX12_seamOf) (k := 44) (As := [vi x1]) (S := [vi (M 51 (x13).toNat), vj x11]) C co_yX12_seamOf ml_RX12_107 im_yX12_seamOf se_yX12_seamOf ini_RX12 rfl rfl hq_X12_seamOf (by decide) (Nat.le_of_ble_eq_true rfl) rfl dX12_most_178 (Con.mono g82.2.2 (fun rr M83 hr => ?_) (Nat.le_refl _))
      obtain ⟨y84, rfl, g85⟩ := hr
      show Aj E l z (178 + 3) [(0, vr 44), (1, vi x1), (2, vi x2), (3, vi x3), (4, vj x4), (7, vi x7), (8, vj x8), (10, vi x10), (11, vj x11), (13, vi x13)] [vi y84, vi (M 51 (x13).toNat), vj x11] M83
      refine v_isub C dX12_most_181 ?_
      refine v_i2l C g85.1 dX12_most_182 ?_
      refine v_goto C dX12_most_183 (tgt := 187) (by decide) ?_
      exact v_sub [0, 1, 2, 3, 4, 5, 6, 7, 9] rfl (SX12_most_187 C r hJ37 hJ113 hJ131 hJ149 g85.2)
theorem RX12_most {E : FX} {l : Launch} {D : Nat} {post : Option AV → MM → Prop} (I37 : MM → Int → Int → Int → Int → Prop) (m37 : MM → Int → Int → Int → Int → Nat) (I113 : MM → Int → Int → Int → Int → Int → Prop) (m113 : MM → Int → Int → Int → Int → Int → Nat) (I131 : MM → Int → Int → Int → Int → Int → Int → Int → Prop) (m131 : MM → Int → Int → Int → Int → Int → Int → Int → Nat) (I149 : MM → Int → Int → Int → Int → Int → Int → Int → Int → Int → Prop) (m149 : MM → Int → Int → Int → Int → Int → Int → Int → Int → Int → Nat) {M : MM} {x1 : Int} {x2 : Int} (h0 : VX12_most_0 E l D post I37 I113 I131 I149 M x1 x2) (h37I : ∀ (M : MM) (x1 : Int) (x2 : Int) (x3 : Int) (x4 : Int), I37 M x1 x2 x3 x4 → VX12_most_37 E l D post (fun M' x1' x2' x3' x4' => I37 M' x1' x2' x3' x4' ∧ m37 M' x1' x2' x3' x4' < m37 M x1 x2 x3 x4) (fun M' x1' x2' x3' x4' x6' => I113 M' x1' x2' x3' x4' x6' ∧ m113 M' x1' x2' x3' x4' x6' < m37 M x1 x2 x3 x4) (fun M' x1' x2' x3' x4' x7' x8' x10' => I131 M' x1' x2' x3' x4' x7' x8' x10' ∧ m131 M' x1' x2' x3' x4' x7' x8' x10' < m37 M x1 x2 x3 x4) (fun M' x1' x2' x3' x4' x7' x8' x10' x11' x13' => I149 M' x1' x2' x3' x4' x7' x8' x10' x11' x13' ∧ m149 M' x1' x2' x3' x4' x7' x8' x10' x11' x13' < m37 M x1 x2 x3 x4) M x1 x2 x3 x4) (h113I : ∀ (M : MM) (x1 : Int) (x2 : Int) (x3 : Int) (x4 : Int) (x6 : Int), I113 M x1 x2 x3 x4 x6 → VX12_most_113 E l D post (fun M' x1' x2' x3' x4' => I37 M' x1' x2' x3' x4' ∧ m37 M' x1' x2' x3' x4' < m113 M x1 x2 x3 x4 x6) (fun M' x1' x2' x3' x4' x6' => I113 M' x1' x2' x3' x4' x6' ∧ m113 M' x1' x2' x3' x4' x6' < m113 M x1 x2 x3 x4 x6) (fun M' x1' x2' x3' x4' x7' x8' x10' => I131 M' x1' x2' x3' x4' x7' x8' x10' ∧ m131 M' x1' x2' x3' x4' x7' x8' x10' < m113 M x1 x2 x3 x4 x6) (fun M' x1' x2' x3' x4' x7' x8' x10' x11' x13' => I149 M' x1' x2' x3' x4' x7' x8' x10' x11' x13' ∧ m149 M' x1' x2' x3' x4' x7' x8' x10' x11' x13' < m113 M x1 x2 x3 x4 x6) M x1 x2 x3 x4 x6) (h131I : ∀ (M : MM) (x1 : Int) (x2 : Int) (x3 : Int) (x4 : Int) (x7 : Int) (x8 : Int) (x10 : Int), I131 M x1 x2 x3 x4 x7 x8 x10 → VX12_most_131 E l D post (fun M' x1' x2' x3' x4' => I37 M' x1' x2' x3' x4' ∧ m37 M' x1' x2' x3' x4' < m131 M x1 x2 x3 x4 x7 x8 x10) (fun M' x1' x2' x3' x4' x6' => I113 M' x1' x2' x3' x4' x6' ∧ m113 M' x1' x2' x3' x4' x6' < m131 M x1 x2 x3 x4 x7 x8 x10) (fun M' x1' x2' x3' x4' x7' x8' x10' => I131 M' x1' x2' x3' x4' x7' x8' x10' ∧ m131 M' x1' x2' x3' x4' x7' x8' x10' < m131 M x1 x2 x3 x4 x7 x8 x10) (fun M' x1' x2' x3' x4' x7' x8' x10' x11' x13' => I149 M' x1' x2' x3' x4' x7' x8' x10' x11' x13' ∧ m149 M' x1' x2' x3' x4' x7' x8' x10' x11' x13' < m131 M x1 x2 x3 x4 x7 x8 x10) M x1 x2 x3 x4 x7 x8 x10) (h149I : ∀ (M : MM) (x1 : Int) (x2 : Int) (x3 : Int) (x4 : Int) (x7 : Int) (x8 : Int) (x10 : Int) (x11 : Int) (x13 : Int), I149 M x1 x2 x3 x4 x7 x8 x10 x11 x13 → VX12_most_149 E l D post (fun M' x1' x2' x3' x4' => I37 M' x1' x2' x3' x4' ∧ m37 M' x1' x2' x3' x4' < m149 M x1 x2 x3 x4 x7 x8 x10 x11 x13) (fun M' x1' x2' x3' x4' x6' => I113 M' x1' x2' x3' x4' x6' ∧ m113 M' x1' x2' x3' x4' x6' < m149 M x1 x2 x3 x4 x7 x8 x10 x11 x13) (fun M' x1' x2' x3' x4' x7' x8' x10' => I131 M' x1' x2' x3' x4' x7' x8' x10' ∧ m131 M' x1' x2' x3' x4' x7' x8' x10' < m149 M x1 x2 x3 x4 x7 x8 x10 x11 x13) (fun M' x1' x2' x3' x4' x7' x8' x10' x11' x13' => I149 M' x1' x2' x3' x4' x7' x8' x10' x11' x13' ∧ m149 M' x1' x2' x3' x4' x7' x8' x10' x11' x13' < m149 M x1 x2 x3 x4 x7 x8 x10 x11 x13) M x1 x2 x3 x4 x7 x8 x10 x11 x13) : Con E l (D + 1) qX12_most [vr 44, vi x1, vi x2] M post := by
  refine con_of (by decide +kernel) (Nat.le_of_ble_eq_true rfl) (fun z C r => ?_)
  have all : ∀ n : Nat, (∀ (M : MM) (x1 : Int) (x2 : Int) (x3 : Int) (x4 : Int), I37 M x1 x2 x3 x4 → m37 M x1 x2 x3 x4 < n → Aj E l z 37 [(0, vr 44), (1, vi x1), (2, vi x2), (3, vi x3), (4, vi x4)] [] M) ∧ (∀ (M : MM) (x1 : Int) (x2 : Int) (x3 : Int) (x4 : Int) (x6 : Int), I113 M x1 x2 x3 x4 x6 → m113 M x1 x2 x3 x4 x6 < n → Aj E l z 113 [(0, vr 44), (1, vi x1), (2, vi x2), (3, vi x3), (4, vj x4), (6, vi x6)] [] M) ∧ (∀ (M : MM) (x1 : Int) (x2 : Int) (x3 : Int) (x4 : Int) (x7 : Int) (x8 : Int) (x10 : Int), I131 M x1 x2 x3 x4 x7 x8 x10 → m131 M x1 x2 x3 x4 x7 x8 x10 < n → Aj E l z 131 [(0, vr 44), (1, vi x1), (2, vi x2), (3, vi x3), (4, vj x4), (7, vi x7), (8, vj x8), (10, vi x10)] [] M) ∧ (∀ (M : MM) (x1 : Int) (x2 : Int) (x3 : Int) (x4 : Int) (x7 : Int) (x8 : Int) (x10 : Int) (x11 : Int) (x13 : Int), I149 M x1 x2 x3 x4 x7 x8 x10 x11 x13 → m149 M x1 x2 x3 x4 x7 x8 x10 x11 x13 < n → Aj E l z 149 [(0, vr 44), (1, vi x1), (2, vi x2), (3, vi x3), (4, vj x4), (7, vi x7), (8, vj x8), (10, vi x10), (11, vj x11), (13, vi x13)] [] M) := by
    intro n
    induction n with
    | zero => exact ⟨fun _ _ _ _ _ _ hm => absurd hm (Nat.not_lt_zero _), fun _ _ _ _ _ _ _ hm => absurd hm (Nat.not_lt_zero _), fun _ _ _ _ _ _ _ _ _ hm => absurd hm (Nat.not_lt_zero _), fun _ _ _ _ _ _ _ _ _ _ _ hm => absurd hm (Nat.not_lt_zero _)⟩
    | succ n ih => exact ⟨fun M x1 x2 x3 x4 hi hm => SX12_most_37 C r (fun M' x1' x2' x3' x4' hj => ih.1 M' x1' x2' x3' x4' hj.1 (by omega)) (fun M' x1' x2' x3' x4' x6' hj => ih.2.1 M' x1' x2' x3' x4' x6' hj.1 (by omega)) (fun M' x1' x2' x3' x4' x7' x8' x10' hj => ih.2.2.1 M' x1' x2' x3' x4' x7' x8' x10' hj.1 (by omega)) (fun M' x1' x2' x3' x4' x7' x8' x10' x11' x13' hj => ih.2.2.2 M' x1' x2' x3' x4' x7' x8' x10' x11' x13' hj.1 (by omega)) (h37I M x1 x2 x3 x4 hi), fun M x1 x2 x3 x4 x6 hi hm => SX12_most_113 C r (fun M' x1' x2' x3' x4' hj => ih.1 M' x1' x2' x3' x4' hj.1 (by omega)) (fun M' x1' x2' x3' x4' x6' hj => ih.2.1 M' x1' x2' x3' x4' x6' hj.1 (by omega)) (fun M' x1' x2' x3' x4' x7' x8' x10' hj => ih.2.2.1 M' x1' x2' x3' x4' x7' x8' x10' hj.1 (by omega)) (fun M' x1' x2' x3' x4' x7' x8' x10' x11' x13' hj => ih.2.2.2 M' x1' x2' x3' x4' x7' x8' x10' x11' x13' hj.1 (by omega)) (h113I M x1 x2 x3 x4 x6 hi), fun M x1 x2 x3 x4 x7 x8 x10 hi hm => SX12_most_131 C r (fun M' x1' x2' x3' x4' hj => ih.1 M' x1' x2' x3' x4' hj.1 (by omega)) (fun M' x1' x2' x3' x4' x6' hj => ih.2.1 M' x1' x2' x3' x4' x6' hj.1 (by omega)) (fun M' x1' x2' x3' x4' x7' x8' x10' hj => ih.2.2.1 M' x1' x2' x3' x4' x7' x8' x10' hj.1 (by omega)) (fun M' x1' x2' x3' x4' x7' x8' x10' x11' x13' hj => ih.2.2.2 M' x1' x2' x3' x4' x7' x8' x10' x11' x13' hj.1 (by omega)) (h131I M x1 x2 x3 x4 x7 x8 x10 hi), fun M x1 x2 x3 x4 x7 x8 x10 x11 x13 hi hm => SX12_most_149 C r (fun M' x1' x2' x3' x4' hj => ih.1 M' x1' x2' x3' x4' hj.1 (by omega)) (fun M' x1' x2' x3' x4' x6' hj => ih.2.1 M' x1' x2' x3' x4' x6' hj.1 (by omega)) (fun M' x1' x2' x3' x4' x7' x8' x10' hj => ih.2.2.1 M' x1' x2' x3' x4' x7' x8' x10' hj.1 (by omega)) (fun M' x1' x2' x3' x4' x7' x8' x10' x11' x13' hj => ih.2.2.2 M' x1' x2' x3' x4' x7' x8' x10' x11' x13' hj.1 (by omega)) (h149I M x1 x2 x3 x4 x7 x8 x10 x11 x13 hi)⟩
  exact v_sub [0, 1, 2] rfl (SX12_most_0 C r (fun M' x1' x2' x3' x4' hj => (all _).1 M' x1' x2' x3' x4' hj (Nat.lt_succ_self _)) (fun M' x1' x2' x3' x4' x6' hj => (all _).2.1 M' x1' x2' x3' x4' x6' hj (Nat.lt_succ_self _)) (fun M' x1' x2' x3' x4' x7' x8' x10' hj => (all _).2.2.1 M' x1' x2' x3' x4' x7' x8' x10' hj (Nat.lt_succ_self _)) (fun M' x1' x2' x3' x4' x7' x8' x10' x11' x13' hj => (all _).2.2.2 M' x1' x2' x3' x4' x7' x8' x10' x11' x13' hj (Nat.lt_succ_self _)) h0)
def VX12_buyer_0 (E : FX) (l : Launch) (D : Nat) (post : Option AV → MM → Prop) (M : MM) (x1 : Int) : Prop :=
  R32 x1 ∧ (Con E l D qX12_in [vj x1, vj 1, vj 9999] M (fun r M1 => ∃ y2 : Int, r = some (vi y2) ∧ (R32 y2 ∧ ((¬ y2 = 0 → ∀ y6 : Int, y6 = M1 45 24 → (R32 y6 ∧ ((¬ y6 = 6 → 0 ≤ 25 + y6 ∧ (25 + y6 < 140 ∧ (∀ M10 : MM, M10 = up M1 45 (25 + y6).toNat x1 → (∀ M12 : MM, M12 = up M10 45 24 ((M10 45 24) + 1) → (post (some (vi y6)) M12))))) ∧ (y6 = 6 → post (some (vi (-3))) M1)))) ∧ (y2 = 0 → post (some (vi (-1))) M1)))))
set_option maxRecDepth 20000 in
theorem SX12_buyer_0 {E : FX} {l : Launch} {D : Nat} {post : Option AV → MM → Prop} {z : RT} (C : Cx E z D RX12 cX12_buyer 3) (r : Rt E z (some .int) post) {M : MM} {x1 : Int} (h : VX12_buyer_0 E l D post M x1) : Aj E l z 0 [(0, vr 44), (1, vi x1)] [] M := by
  unfold VX12_buyer_0 at h
  refine v_iload_n (i := 1) C dX12_buyer_0 rfl rfl ?_
  refine v_i2l C h.1 dX12_buyer_1 ?_
  refine v_lconst (x := 1) C dX12_buyer_2 (by decide) ?_
  refine v_ldc2 (x := 9999) C cs_RX12_179 (by decide) dX12_buyer_3 ?_
  refine v_callS (q := qX12_in) (As := [vj x1, vj 1, vj 9999]) (S := []) C co_yX12_in ml_RX12_71 st_yX12_in ini_RX12 hq_X12_in (by decide) (Nat.le_of_ble_eq_true rfl) rfl dX12_buyer_6 (Con.mono h.2 (fun rr M1 hr => ?_) (Nat.le_refl _))
  obtain ⟨y2, rfl, g3⟩ := hr
  show Aj E l z (6 + 3) [(0, vr 44), (1, vi x1)] [vi y2] M1
  refine v_if_ne (tgt := 14) C g3.1 dX12_buyer_9 (by decide) (fun c => ?_) (fun c => ?_)
  · have g4 := g3.2.1 c
    refine v_aload_n (i := 0) C dX12_buyer_14 rfl rfl ?_
    refine v_getf (k := 44) C fl_RX12_7 rfl rfl dX12_buyer_15 ?_
    show Aj E l z (15 + 3) [(0, vr 44), (1, vi x1)] [vr 45] M1
    refine v_bipush C dX12_buyer_18 (by decide) ?_
    refine v_iald (k := 45) C rfl (by decide) (by decide) dX12_buyer_20 ?_
    show Aj E l z (20 + 1) [(0, vr 44), (1, vi x1)] [vi (M1 45 24)] M1
    obtain ⟨y6, hy6⟩ : ∃ y : Int, y = M1 45 24 := ⟨_, rfl⟩
    have g7 := g4 y6 hy6
    refine v_eqi hy6 ?_
    refine v_istore_n (L' := [(2, vi y6), (0, vr 44), (1, vi x1)]) C dX12_buyer_21 rfl (by decide) rfl ?_
    refine v_iload_n (i := 0) C dX12_buyer_22 rfl rfl ?_
    refine v_bipush C dX12_buyer_23 (by decide) ?_
    refine v_icmp_ne (tgt := 31) C g7.1 (by decide) dX12_buyer_25 (by decide) (fun c => ?_) (fun c => ?_)
    · have g8 := g7.2.1 c
      refine v_aload_n (i := 1) C dX12_buyer_31 rfl rfl ?_
      refine v_getf (k := 44) C fl_RX12_7 rfl rfl dX12_buyer_32 ?_
      show Aj E l z (32 + 3) [(2, vi y6), (0, vr 44), (1, vi x1)] [vr 45] M1
      refine v_bipush C dX12_buyer_35 (by decide) ?_
      refine v_iload_n (i := 0) C dX12_buyer_37 rfl rfl ?_
      refine v_iadd C dX12_buyer_38 ?_
      refine v_iload_n (i := 2) C dX12_buyer_39 rfl rfl ?_
      refine v_iast (k := 45) C rfl g8.1 g8.2.1 dX12_buyer_40 ?_
      obtain ⟨M10, hM10⟩ : ∃ X : MM, X = up M1 45 (25 + y6).toNat x1 := ⟨_, rfl⟩
      refine v_eqM hM10 ?_
      have g11 := g8.2.2 M10 hM10
      refine v_aload_n (i := 1) C dX12_buyer_41 rfl rfl ?_
      refine v_getf (k := 44) C fl_RX12_7 rfl rfl dX12_buyer_42 ?_
      show Aj E l z (42 + 3) [(2, vi y6), (0, vr 44), (1, vi x1)] [vr 45] M10
      refine v_bipush C dX12_buyer_45 (by decide) ?_
      refine v_dup2 C rfl rfl dX12_buyer_47 ?_
      refine v_iald (k := 45) C rfl (by decide) (by decide) dX12_buyer_48 ?_
      show Aj E l z (48 + 1) [(2, vi y6), (0, vr 44), (1, vi x1)] [vi (M10 45 24), vi 24, vr 45] M10
      refine v_iconst C dX12_buyer_49 ?_
      refine v_iadd C dX12_buyer_50 ?_
      refine v_iast (k := 45) C rfl (by decide) (by decide) dX12_buyer_51 ?_
      show Aj E l z (51 + 1) [(2, vi y6), (0, vr 44), (1, vi x1)] [] (up M10 45 24 ((M10 45 24) + 1))
      obtain ⟨M12, hM12⟩ : ∃ X : MM, X = up M10 45 24 ((M10 45 24) + 1) := ⟨_, rfl⟩
      refine v_eqM hM12 ?_
      have g13 := g11 M12 hM12
      refine v_iload_n (i := 0) C dX12_buyer_52 rfl rfl ?_
      exact v_iret C r dX12_buyer_53 g13
    · have g9 := g7.2.2 c
      refine v_bipush C dX12_buyer_28 (by decide) ?_
      exact v_iret C r dX12_buyer_30 g9
  · have g5 := g3.2.2 c
    refine v_iconst C dX12_buyer_12 ?_
    exact v_iret C r dX12_buyer_13 g5
theorem RX12_buyer {E : FX} {l : Launch} {D : Nat} {post : Option AV → MM → Prop} {M : MM} {x1 : Int} (h0 : VX12_buyer_0 E l D post M x1) : Con E l (D + 1) qX12_buyer [vr 44, vi x1] M post := by
  refine con_of (by decide +kernel) (Nat.le_of_ble_eq_true rfl) (fun z C r => ?_)
  exact v_sub [0, 1] rfl (SX12_buyer_0 C r h0)
def VX12_home_0 (E : FX) (l : Launch) (D : Nat) (post : Option AV → MM → Prop) (M : MM) : Prop :=
  ∀ y1 : Int, y1 = M 45 24 → (∀ M3 : MM, M3 = up M 45 24 0 → (post (some (vi y1)) M3))
set_option maxRecDepth 20000 in
theorem SX12_home_0 {E : FX} {l : Launch} {D : Nat} {post : Option AV → MM → Prop} {z : RT} (C : Cx E z D RX12 cX12_home 2) (r : Rt E z (some .int) post) {M : MM} (h : VX12_home_0 E l D post M) : Aj E l z 0 [(0, vr 44)] [] M := by
  unfold VX12_home_0 at h
  refine v_aload_n (i := 0) C dX12_home_0 rfl rfl ?_
  refine v_getf (k := 44) C fl_RX12_7 rfl rfl dX12_home_1 ?_
  show Aj E l z (1 + 3) [(0, vr 44)] [vr 45] M
  refine v_bipush C dX12_home_4 (by decide) ?_
  refine v_iald (k := 45) C rfl (by decide) (by decide) dX12_home_6 ?_
  show Aj E l z (6 + 1) [(0, vr 44)] [vi (M 45 24)] M
  obtain ⟨y1, hy1⟩ : ∃ y : Int, y = M 45 24 := ⟨_, rfl⟩
  have g2 := h y1 hy1
  refine v_eqi hy1 ?_
  refine v_istore_n (L' := [(1, vi y1), (0, vr 44)]) C dX12_home_7 rfl (by decide) rfl ?_
  refine v_aload_n (i := 1) C dX12_home_8 rfl rfl ?_
  refine v_getf (k := 44) C fl_RX12_7 rfl rfl dX12_home_9 ?_
  show Aj E l z (9 + 3) [(1, vi y1), (0, vr 44)] [vr 45] M
  refine v_bipush C dX12_home_12 (by decide) ?_
  refine v_iconst C dX12_home_14 ?_
  refine v_iast (k := 45) C rfl (by decide) (by decide) dX12_home_15 ?_
  show Aj E l z (15 + 1) [(1, vi y1), (0, vr 44)] [] (up M 45 24 0)
  obtain ⟨M3, hM3⟩ : ∃ X : MM, X = up M 45 24 0 := ⟨_, rfl⟩
  refine v_eqM hM3 ?_
  have g4 := g2 M3 hM3
  refine v_iload_n (i := 0) C dX12_home_16 rfl rfl ?_
  exact v_iret C r dX12_home_17 g4
theorem RX12_home {E : FX} {l : Launch} {D : Nat} {post : Option AV → MM → Prop} {M : MM} (h0 : VX12_home_0 E l D post M) : Con E l (D + 1) qX12_home [vr 44] M post := by
  refine con_of (by decide +kernel) (Nat.le_of_ble_eq_true rfl) (fun z C r => ?_)
  exact v_sub [0] rfl (SX12_home_0 C r h0)
def VX12_priceOf_0 (E : FX) (l : Launch) (D : Nat) (post : Option AV → MM → Prop) (J4 : MM → Int → Int → Int → Prop) (M : MM) (x1 : Int) : Prop :=
  J4 M x1 0 0
set_option maxRecDepth 20000 in
theorem SX12_priceOf_0 {E : FX} {l : Launch} {D : Nat} {post : Option AV → MM → Prop} {z : RT} {J4 : MM → Int → Int → Int → Prop} (C : Cx E z D RX12 cX12_priceOf 4) (r : Rt E z (some .long) post) (hJ4 : ∀ (M : MM) (x1 : Int) (x2 : Int) (x3 : Int), J4 M x1 x2 x3 → Aj E l z 4 [(0, vr 44), (1, vi x1), (2, vi x2), (3, vi x3)] [] M) {M : MM} {x1 : Int} (h : VX12_priceOf_0 E l D post J4 M x1) : Aj E l z 0 [(0, vr 44), (1, vi x1)] [] M := by
  unfold VX12_priceOf_0 at h
  refine v_iconst C dX12_priceOf_0 ?_
  refine v_istore_n (L' := [(2, vi 0), (0, vr 44), (1, vi x1)]) C dX12_priceOf_1 rfl (by decide) rfl ?_
  refine v_iconst C dX12_priceOf_2 ?_
  refine v_istore_n (L' := [(3, vi 0), (2, vi 0), (0, vr 44), (1, vi x1)]) C dX12_priceOf_3 rfl (by decide) rfl ?_
  exact v_sub [2, 3, 1, 0] rfl (hJ4 _ _ _ _ h)
def VX12_priceOf_37 (E : FX) (l : Launch) (D : Nat) (post : Option AV → MM → Prop) (J4 : MM → Int → Int → Int → Prop) (M : MM) (x1 : Int) (x3 : Int) (s0 : Int) (s1 : Int) : Prop :=
  ∀ y1 : Int, y1 = s0 + s1 → (∀ y3 : Int, y3 = x3 + 1 → (J4 M x1 y1 y3))
set_option maxRecDepth 20000 in
theorem SX12_priceOf_37 {E : FX} {l : Launch} {D : Nat} {post : Option AV → MM → Prop} {z : RT} {J4 : MM → Int → Int → Int → Prop} (C : Cx E z D RX12 cX12_priceOf 4) (r : Rt E z (some .long) post) (hJ4 : ∀ (M : MM) (x1 : Int) (x2 : Int) (x3 : Int), J4 M x1 x2 x3 → Aj E l z 4 [(0, vr 44), (1, vi x1), (2, vi x2), (3, vi x3)] [] M) {M : MM} {x1 : Int} {x3 : Int} {s0 : Int} {s1 : Int} (h : VX12_priceOf_37 E l D post J4 M x1 x3 s0 s1) : Aj E l z 37 [(0, vr 44), (1, vi x1), (3, vi x3)] [vi s1, vi s0] M := by
  unfold VX12_priceOf_37 at h
  refine v_iadd C dX12_priceOf_37 ?_
  obtain ⟨y1, hy1⟩ : ∃ y : Int, y = s0 + s1 := ⟨_, rfl⟩
  have g2 := h y1 hy1
  refine v_eqi hy1 ?_
  refine v_istore_n (L' := [(2, vi y1), (0, vr 44), (1, vi x1), (3, vi x3)]) C dX12_priceOf_38 rfl (by decide) rfl ?_
  obtain ⟨y3, hy3⟩ : ∃ y : Int, y = x3 + 1 := ⟨_, rfl⟩
  have g4 := g2 y3 hy3
  refine v_iinc (i := 3) (L' := [(3, vi y3), (2, vi y1), (0, vr 44), (1, vi x1)]) C dX12_priceOf_39 rfl (by decide) hy3 rfl ?_
  refine v_goto C dX12_priceOf_42 (tgt := 4) (by decide) ?_
  exact v_sub [2, 3, 1, 0] rfl (hJ4 _ _ _ _ g4)
def VX12_priceOf_4 (E : FX) (l : Launch) (D : Nat) (post : Option AV → MM → Prop) (J4 : MM → Int → Int → Int → Prop) (M : MM) (x1 : Int) (x2 : Int) (x3 : Int) : Prop :=
  R32 x3 ∧ (R32 (M 45 24) ∧ ((M 45 24 ≤ x3 → R32 x2 ∧ (Con E l D qX12_above [vr 44, vj x2] M (fun r M7 => ∃ y8 : Int, r = some (vj y8) ∧ (post (some (vj y8)) M7)))) ∧ (¬ M 45 24 ≤ x3 → Con E l D qX12_has [vi x1, vi x3] M (fun r M10 => ∃ y11 : Int, r = some (vi y11) ∧ (R32 y11 ∧ ((y11 = 0 → VX12_priceOf_37 E l D post J4 M10 x1 x3 x2 0) ∧ (¬ y11 = 0 → 0 ≤ 25 + x3 ∧ (25 + x3 < 140 ∧ (VX12_priceOf_37 E l D post J4 M10 x1 x3 x2 (M10 45 (25 + x3).toNat))))))))))
set_option maxRecDepth 20000 in
theorem SX12_priceOf_4 {E : FX} {l : Launch} {D : Nat} {post : Option AV → MM → Prop} {z : RT} {J4 : MM → Int → Int → Int → Prop} (C : Cx E z D RX12 cX12_priceOf 4) (r : Rt E z (some .long) post) (hJ4 : ∀ (M : MM) (x1 : Int) (x2 : Int) (x3 : Int), J4 M x1 x2 x3 → Aj E l z 4 [(0, vr 44), (1, vi x1), (2, vi x2), (3, vi x3)] [] M) {M : MM} {x1 : Int} {x2 : Int} {x3 : Int} (h : VX12_priceOf_4 E l D post J4 M x1 x2 x3) : Aj E l z 4 [(0, vr 44), (1, vi x1), (2, vi x2), (3, vi x3)] [] M := by
  unfold VX12_priceOf_4 at h
  refine v_iload_n (i := 3) C dX12_priceOf_4 rfl rfl ?_
  refine v_aload_n (i := 0) C dX12_priceOf_5 rfl rfl ?_
  refine v_getf (k := 44) C fl_RX12_7 rfl rfl dX12_priceOf_6 ?_
  show Aj E l z (6 + 3) [(0, vr 44), (1, vi x1), (2, vi x2), (3, vi x3)] [vr 45, vi x3] M
  refine v_bipush C dX12_priceOf_9 (by decide) ?_
  refine v_iald (k := 45) C rfl (by decide) (by decide) dX12_priceOf_11 ?_
  show Aj E l z (11 + 1) [(0, vr 44), (1, vi x1), (2, vi x2), (3, vi x3)] [vi (M 45 24), vi x3] M
  refine v_icmp_ge (tgt := 45) C h.1 h.2.1 dX12_priceOf_12 (by decide) (fun c => ?_) (fun c => ?_)
  · have g5 := h.2.2.1 c
    refine v_aload_n (i := 0) C dX12_priceOf_45 rfl rfl ?_
    refine v_iload_n (i := 2) C dX12_priceOf_46 rfl rfl ?_
    refine v_i2l C g5.1 dX12_priceOf_47 ?_
    refine v_callV (q := qX12_above) (k := 44) (As := [vj x2]) (S := []) C co_yX12_above ml_RX12_181 im_yX12_above se_yX12_above ini_RX12 rfl rfl hq_X12_above (by decide) (Nat.le_of_ble_eq_true rfl) rfl dX12_priceOf_48 (Con.mono g5.2 (fun rr M7 hr => ?_) (Nat.le_refl _))
    obtain ⟨y8, rfl, g9⟩ := hr
    show Aj E l z (48 + 3) [(0, vr 44), (1, vi x1), (2, vi x2), (3, vi x3)] [vj y8] M7
    exact v_lret C r dX12_priceOf_51 g9
  · have g6 := h.2.2.2 c
    refine v_iload_n (i := 2) C dX12_priceOf_15 rfl rfl ?_
    refine v_iload_n (i := 1) C dX12_priceOf_16 rfl rfl ?_
    refine v_iload_n (i := 3) C dX12_priceOf_17 rfl rfl ?_
    refine v_callS (q := qX12_has) (As := [vi x1, vi x3]) (S := [vi x2]) C co_yX12_has ml_RX12_146 st_yX12_has ini_RX12 hq_X12_has (by decide) (Nat.le_of_ble_eq_true rfl) rfl dX12_priceOf_18 (Con.mono g6 (fun rr M10 hr => ?_) (Nat.le_refl _))
    obtain ⟨y11, rfl, g12⟩ := hr
    show Aj E l z (18 + 3) [(0, vr 44), (1, vi x1), (2, vi x2), (3, vi x3)] [vi y11, vi x2] M10
    refine v_if_eq (tgt := 36) C g12.1 dX12_priceOf_21 (by decide) (fun c => ?_) (fun c => ?_)
    · have g13 := g12.2.1 c
      refine v_iconst C dX12_priceOf_36 ?_
      exact v_sub [0, 1, 3] rfl (SX12_priceOf_37 C r hJ4 g13)
    · have g14 := g12.2.2 c
      refine v_aload_n (i := 0) C dX12_priceOf_24 rfl rfl ?_
      refine v_getf (k := 44) C fl_RX12_7 rfl rfl dX12_priceOf_25 ?_
      show Aj E l z (25 + 3) [(0, vr 44), (1, vi x1), (2, vi x2), (3, vi x3)] [vr 45, vi x2] M10
      refine v_bipush C dX12_priceOf_28 (by decide) ?_
      refine v_iload_n (i := 3) C dX12_priceOf_30 rfl rfl ?_
      refine v_iadd C dX12_priceOf_31 ?_
      refine v_iald (k := 45) C rfl g14.1 g14.2.1 dX12_priceOf_32 ?_
      show Aj E l z (32 + 1) [(0, vr 44), (1, vi x1), (2, vi x2), (3, vi x3)] [vi (M10 45 (25 + x3).toNat), vi x2] M10
      refine v_goto C dX12_priceOf_33 (tgt := 37) (by decide) ?_
      exact v_sub [0, 1, 3] rfl (SX12_priceOf_37 C r hJ4 g14.2.2)
theorem RX12_priceOf {E : FX} {l : Launch} {D : Nat} {post : Option AV → MM → Prop} (I4 : MM → Int → Int → Int → Prop) (m4 : MM → Int → Int → Int → Nat) {M : MM} {x1 : Int} (h0 : VX12_priceOf_0 E l D post I4 M x1) (h4I : ∀ (M : MM) (x1 : Int) (x2 : Int) (x3 : Int), I4 M x1 x2 x3 → VX12_priceOf_4 E l D post (fun M' x1' x2' x3' => I4 M' x1' x2' x3' ∧ m4 M' x1' x2' x3' < m4 M x1 x2 x3) M x1 x2 x3) : Con E l (D + 1) qX12_priceOf [vr 44, vi x1] M post := by
  refine con_of (by decide +kernel) (Nat.le_of_ble_eq_true rfl) (fun z C r => ?_)
  have all : ∀ n : Nat, (∀ (M : MM) (x1 : Int) (x2 : Int) (x3 : Int), I4 M x1 x2 x3 → m4 M x1 x2 x3 < n → Aj E l z 4 [(0, vr 44), (1, vi x1), (2, vi x2), (3, vi x3)] [] M) := by
    intro n
    induction n with
    | zero => exact fun _ _ _ _ _ hm => absurd hm (Nat.not_lt_zero _)
    | succ n ih => exact fun M x1 x2 x3 hi hm => SX12_priceOf_4 C r (fun M' x1' x2' x3' hj => ih M' x1' x2' x3' hj.1 (by omega)) (h4I M x1 x2 x3 hi)
  exact v_sub [0, 1] rfl (SX12_priceOf_0 C r (fun M' x1' x2' x3' hj => (all _) M' x1' x2' x3' hj (Nat.lt_succ_self _)) h0)
def VX12_price_0 (E : FX) (l : Launch) (D : Nat) (post : Option AV → MM → Prop) (M : MM) (x1 : Int) : Prop :=
  R32 x1 ∧ (R32 ((ishl 1 (M 45 24)) - 1) ∧ (Con E l D qX12_in [vj x1, vj 1, vj ((ishl 1 (M 45 24)) - 1)] M (fun r M1 => ∃ y2 : Int, r = some (vi y2) ∧ (R32 y2 ∧ ((¬ y2 = 0 → Con E l D qX12_layNow [vr 44] M1 (fun r M6 => r = none ∧ (Con E l D qX12_priceOf [vr 44, vi x1] M6 (fun r M8 => ∃ y9 : Int, r = some (vj y9) ∧ (post (some (vj y9)) M8))))) ∧ (y2 = 0 → post (some (vj (-1))) M1))))))
set_option maxRecDepth 20000 in
theorem SX12_price_0 {E : FX} {l : Launch} {D : Nat} {post : Option AV → MM → Prop} {z : RT} (C : Cx E z D RX12 cX12_price 2) (r : Rt E z (some .long) post) {M : MM} {x1 : Int} (h : VX12_price_0 E l D post M x1) : Aj E l z 0 [(0, vr 44), (1, vi x1)] [] M := by
  unfold VX12_price_0 at h
  refine v_iload_n (i := 1) C dX12_price_0 rfl rfl ?_
  refine v_i2l C h.1 dX12_price_1 ?_
  refine v_lconst (x := 1) C dX12_price_2 (by decide) ?_
  refine v_iconst C dX12_price_3 ?_
  refine v_aload_n (i := 0) C dX12_price_4 rfl rfl ?_
  refine v_getf (k := 44) C fl_RX12_7 rfl rfl dX12_price_5 ?_
  show Aj E l z (5 + 3) [(0, vr 44), (1, vi x1)] [vr 45, vi 1, vj 1, vj x1] M
  refine v_bipush C dX12_price_8 (by decide) ?_
  refine v_iald (k := 45) C rfl (by decide) (by decide) dX12_price_10 ?_
  show Aj E l z (10 + 1) [(0, vr 44), (1, vi x1)] [vi (M 45 24), vi 1, vj 1, vj x1] M
  refine v_ishl C dX12_price_11 ?_
  refine v_iconst C dX12_price_12 ?_
  refine v_isub C dX12_price_13 ?_
  refine v_i2l C h.2.1 dX12_price_14 ?_
  refine v_callS (q := qX12_in) (As := [vj x1, vj 1, vj ((ishl 1 (M 45 24)) - 1)]) (S := []) C co_yX12_in ml_RX12_71 st_yX12_in ini_RX12 hq_X12_in (by decide) (Nat.le_of_ble_eq_true rfl) rfl dX12_price_15 (Con.mono h.2.2 (fun rr M1 hr => ?_) (Nat.le_refl _))
  obtain ⟨y2, rfl, g3⟩ := hr
  show Aj E l z (15 + 3) [(0, vr 44), (1, vi x1)] [vi y2] M1
  refine v_if_ne (tgt := 25) C g3.1 dX12_price_18 (by decide) (fun c => ?_) (fun c => ?_)
  · have g4 := g3.2.1 c
    refine v_aload_n (i := 0) C dX12_price_25 rfl rfl ?_
    refine v_callV (q := qX12_layNow) (k := 44) (As := []) (S := []) C co_yX12_layNow ml_RX12_87 im_yX12_layNow se_yX12_layNow ini_RX12 rfl rfl hq_X12_layNow (by decide) (Nat.le_of_ble_eq_true rfl) rfl dX12_price_26 (Con.mono g4 (fun rr M6 hr => ?_) (Nat.le_refl _))
    obtain ⟨rfl, g7⟩ := hr
    show Aj E l z (26 + 3) [(0, vr 44), (1, vi x1)] [] M6
    refine v_aload_n (i := 0) C dX12_price_29 rfl rfl ?_
    refine v_iload_n (i := 1) C dX12_price_30 rfl rfl ?_
    refine v_callV (q := qX12_priceOf) (k := 44) (As := [vi x1]) (S := []) C co_yX12_priceOf ml_RX12_184 im_yX12_priceOf se_yX12_priceOf ini_RX12 rfl rfl hq_X12_priceOf (by decide) (Nat.le_of_ble_eq_true rfl) rfl dX12_price_31 (Con.mono g7 (fun rr M8 hr => ?_) (Nat.le_refl _))
    obtain ⟨y9, rfl, g10⟩ := hr
    show Aj E l z (31 + 3) [(0, vr 44), (1, vi x1)] [vj y9] M8
    exact v_lret C r dX12_price_34 g10
  · have g5 := g3.2.2 c
    refine v_ldc2 (x := -1) C cs_RX12_85 (by decide) dX12_price_21 ?_
    exact v_lret C r dX12_price_24 g5
theorem RX12_price {E : FX} {l : Launch} {D : Nat} {post : Option AV → MM → Prop} {M : MM} {x1 : Int} (h0 : VX12_price_0 E l D post M x1) : Con E l (D + 1) qX12_price [vr 44, vi x1] M post := by
  refine con_of (by decide +kernel) (Nat.le_of_ble_eq_true rfl) (fun z C r => ?_)
  exact v_sub [0, 1] rfl (SX12_price_0 C r h0)
def VX12_parties_26 (E : FX) (l : Launch) (D : Nat) (post : Option AV → MM → Prop) (J67 : MM → Int → Int → Int → Int → Int → Prop) (J88 : MM → Int → Int → Int → Int → Int → Int → Int → Int → Prop) (J101 : MM → Int → Int → Int → Int → Int → Int → Int → Int → Int → Int → Prop) (M : MM) : Prop :=
  post (some (vj (-1))) M
set_option maxRecDepth 20000 in
theorem SX12_parties_26 {E : FX} {l : Launch} {D : Nat} {post : Option AV → MM → Prop} {z : RT} {J67 : MM → Int → Int → Int → Int → Int → Prop} {J88 : MM → Int → Int → Int → Int → Int → Int → Int → Int → Prop} {J101 : MM → Int → Int → Int → Int → Int → Int → Int → Int → Int → Int → Prop} (C : Cx E z D RX12 cX12_parties 14) (r : Rt E z (some .long) post) (hJ67 : ∀ (M : MM) (x1 : Int) (x2 : Int) (x3 : Int) (x4 : Int) (x6 : Int), J67 M x1 x2 x3 x4 x6 → Aj E l z 67 [(0, vr 44), (1, vi x1), (2, vi x2), (3, vi x3), (4, vj x4), (6, vi x6)] [] M) (hJ88 : ∀ (M : MM) (x1 : Int) (x2 : Int) (x3 : Int) (x4 : Int) (x7 : Int) (x8 : Int) (x10 : Int) (x11 : Int), J88 M x1 x2 x3 x4 x7 x8 x10 x11 → Aj E l z 88 [(0, vr 44), (1, vi x1), (2, vi x2), (3, vi x3), (4, vj x4), (7, vi x7), (8, vj x8), (10, vi x10), (11, vi x11)] [] M) (hJ101 : ∀ (M : MM) (x1 : Int) (x2 : Int) (x3 : Int) (x4 : Int) (x7 : Int) (x8 : Int) (x10 : Int) (x11 : Int) (x12 : Int) (x13 : Int), J101 M x1 x2 x3 x4 x7 x8 x10 x11 x12 x13 → Aj E l z 101 [(0, vr 44), (1, vi x1), (2, vi x2), (3, vi x3), (4, vj x4), (7, vi x7), (8, vj x8), (10, vi x10), (11, vi x11), (12, vi x12), (13, vi x13)] [] M) {M : MM} (h : VX12_parties_26 E l D post J67 J88 J101 M) : Aj E l z 26 [] [] M := by
  unfold VX12_parties_26 at h
  refine v_ldc2 (x := -1) C cs_RX12_85 (by decide) dX12_parties_26 ?_
  exact v_lret C r dX12_parties_29 h
def VX12_parties_47 (E : FX) (l : Launch) (D : Nat) (post : Option AV → MM → Prop) (J67 : MM → Int → Int → Int → Int → Int → Prop) (J88 : MM → Int → Int → Int → Int → Int → Int → Int → Int → Prop) (J101 : MM → Int → Int → Int → Int → Int → Int → Int → Int → Int → Int → Prop) (M : MM) : Prop :=
  post (some (vj (-4))) M
set_option maxRecDepth 20000 in
theorem SX12_parties_47 {E : FX} {l : Launch} {D : Nat} {post : Option AV → MM → Prop} {z : RT} {J67 : MM → Int → Int → Int → Int → Int → Prop} {J88 : MM → Int → Int → Int → Int → Int → Int → Int → Int → Prop} {J101 : MM → Int → Int → Int → Int → Int → Int → Int → Int → Int → Int → Prop} (C : Cx E z D RX12 cX12_parties 14) (r : Rt E z (some .long) post) (hJ67 : ∀ (M : MM) (x1 : Int) (x2 : Int) (x3 : Int) (x4 : Int) (x6 : Int), J67 M x1 x2 x3 x4 x6 → Aj E l z 67 [(0, vr 44), (1, vi x1), (2, vi x2), (3, vi x3), (4, vj x4), (6, vi x6)] [] M) (hJ88 : ∀ (M : MM) (x1 : Int) (x2 : Int) (x3 : Int) (x4 : Int) (x7 : Int) (x8 : Int) (x10 : Int) (x11 : Int), J88 M x1 x2 x3 x4 x7 x8 x10 x11 → Aj E l z 88 [(0, vr 44), (1, vi x1), (2, vi x2), (3, vi x3), (4, vj x4), (7, vi x7), (8, vj x8), (10, vi x10), (11, vi x11)] [] M) (hJ101 : ∀ (M : MM) (x1 : Int) (x2 : Int) (x3 : Int) (x4 : Int) (x7 : Int) (x8 : Int) (x10 : Int) (x11 : Int) (x12 : Int) (x13 : Int), J101 M x1 x2 x3 x4 x7 x8 x10 x11 x12 x13 → Aj E l z 101 [(0, vr 44), (1, vi x1), (2, vi x2), (3, vi x3), (4, vj x4), (7, vi x7), (8, vj x8), (10, vi x10), (11, vi x11), (12, vi x12), (13, vi x13)] [] M) {M : MM} (h : VX12_parties_47 E l D post J67 J88 J101 M) : Aj E l z 47 [] [] M := by
  unfold VX12_parties_47 at h
  refine v_ldc2 (x := -4) C cs_RX12_190 (by decide) dX12_parties_47 ?_
  exact v_lret C r dX12_parties_50 h
def VX12_parties_0 (E : FX) (l : Launch) (D : Nat) (post : Option AV → MM → Prop) (J67 : MM → Int → Int → Int → Int → Int → Prop) (J88 : MM → Int → Int → Int → Int → Int → Int → Int → Int → Prop) (J101 : MM → Int → Int → Int → Int → Int → Int → Int → Int → Int → Int → Prop) (M : MM) (x1 : Int) (x2 : Int) : Prop :=
  R32 x1 ∧ (Con E l D qX12_in [vj x1, vj 1, vj 6] M (fun r M1 => ∃ y2 : Int, r = some (vi y2) ∧ (R32 y2 ∧ ((y2 = 0 → post (some (vj (-1))) M1) ∧ (¬ y2 = 0 → R32 x2 ∧ (Con E l D qX12_in [vj x2, vj (-1), vj 5] M1 (fun r M6 => ∃ y7 : Int, r = some (vi y7) ∧ (R32 y7 ∧ ((¬ y7 = 0 → ∀ y11 : Int, y11 = M6 45 24 → (R32 y11 ∧ ((y11 = 0 → post (some (vj (-4))) M6) ∧ (¬ y11 = 0 → R32 x2 ∧ (R32 y11 ∧ ((x2 < y11 → Con E l D qX12_layNow [vr 44] M6 (fun r M17 => r = none ∧ (Con E l D qX12_begin [vr 44] M17 (fun r M19 => r = none ∧ (J67 M19 x1 x2 y11 (-1) 1))))) ∧ (¬ x2 < y11 → post (some (vj (-4))) M6))))))) ∧ (y7 = 0 → post (some (vj (-1))) M6))))))))))
set_option maxRecDepth 20000 in
theorem SX12_parties_0 {E : FX} {l : Launch} {D : Nat} {post : Option AV → MM → Prop} {z : RT} {J67 : MM → Int → Int → Int → Int → Int → Prop} {J88 : MM → Int → Int → Int → Int → Int → Int → Int → Int → Prop} {J101 : MM → Int → Int → Int → Int → Int → Int → Int → Int → Int → Int → Prop} (C : Cx E z D RX12 cX12_parties 14) (r : Rt E z (some .long) post) (hJ67 : ∀ (M : MM) (x1 : Int) (x2 : Int) (x3 : Int) (x4 : Int) (x6 : Int), J67 M x1 x2 x3 x4 x6 → Aj E l z 67 [(0, vr 44), (1, vi x1), (2, vi x2), (3, vi x3), (4, vj x4), (6, vi x6)] [] M) (hJ88 : ∀ (M : MM) (x1 : Int) (x2 : Int) (x3 : Int) (x4 : Int) (x7 : Int) (x8 : Int) (x10 : Int) (x11 : Int), J88 M x1 x2 x3 x4 x7 x8 x10 x11 → Aj E l z 88 [(0, vr 44), (1, vi x1), (2, vi x2), (3, vi x3), (4, vj x4), (7, vi x7), (8, vj x8), (10, vi x10), (11, vi x11)] [] M) (hJ101 : ∀ (M : MM) (x1 : Int) (x2 : Int) (x3 : Int) (x4 : Int) (x7 : Int) (x8 : Int) (x10 : Int) (x11 : Int) (x12 : Int) (x13 : Int), J101 M x1 x2 x3 x4 x7 x8 x10 x11 x12 x13 → Aj E l z 101 [(0, vr 44), (1, vi x1), (2, vi x2), (3, vi x3), (4, vj x4), (7, vi x7), (8, vj x8), (10, vi x10), (11, vi x11), (12, vi x12), (13, vi x13)] [] M) {M : MM} {x1 : Int} {x2 : Int} (h : VX12_parties_0 E l D post J67 J88 J101 M x1 x2) : Aj E l z 0 [(0, vr 44), (1, vi x1), (2, vi x2)] [] M := by
  unfold VX12_parties_0 at h
  refine v_iload_n (i := 1) C dX12_parties_0 rfl rfl ?_
  refine v_i2l C h.1 dX12_parties_1 ?_
  refine v_lconst (x := 1) C dX12_parties_2 (by decide) ?_
  refine v_ldc2 (x := 6) C cs_RX12_188 (by decide) dX12_parties_3 ?_
  refine v_callS (q := qX12_in) (As := [vj x1, vj 1, vj 6]) (S := []) C co_yX12_in ml_RX12_71 st_yX12_in ini_RX12 hq_X12_in (by decide) (Nat.le_of_ble_eq_true rfl) rfl dX12_parties_6 (Con.mono h.2 (fun rr M1 hr => ?_) (Nat.le_refl _))
  obtain ⟨y2, rfl, g3⟩ := hr
  show Aj E l z (6 + 3) [(0, vr 44), (1, vi x1), (2, vi x2)] [vi y2] M1
  refine v_if_eq (tgt := 26) C g3.1 dX12_parties_9 (by decide) (fun c => ?_) (fun c => ?_)
  · have g4 := g3.2.1 c
    refine v_ldc2 (x := -1) C cs_RX12_85 (by decide) dX12_parties_26 ?_
    exact v_lret C r dX12_parties_29 g4
  · have g5 := g3.2.2 c
    refine v_iload_n (i := 2) C dX12_parties_12 rfl rfl ?_
    refine v_i2l C g5.1 dX12_parties_13 ?_
    refine v_ldc2 (x := -1) C cs_RX12_85 (by decide) dX12_parties_14 ?_
    refine v_ldc2 (x := 5) C cs_RX12_77 (by decide) dX12_parties_17 ?_
    refine v_callS (q := qX12_in) (As := [vj x2, vj (-1), vj 5]) (S := []) C co_yX12_in ml_RX12_71 st_yX12_in ini_RX12 hq_X12_in (by decide) (Nat.le_of_ble_eq_true rfl) rfl dX12_parties_20 (Con.mono g5.2 (fun rr M6 hr => ?_) (Nat.le_refl _))
    obtain ⟨y7, rfl, g8⟩ := hr
    show Aj E l z (20 + 3) [(0, vr 44), (1, vi x1), (2, vi x2)] [vi y7] M6
    refine v_if_ne (tgt := 30) C g8.1 dX12_parties_23 (by decide) (fun c => ?_) (fun c => ?_)
    · have g9 := g8.2.1 c
      refine v_aload_n (i := 0) C dX12_parties_30 rfl rfl ?_
      refine v_getf (k := 44) C fl_RX12_7 rfl rfl dX12_parties_31 ?_
      show Aj E l z (31 + 3) [(0, vr 44), (1, vi x1), (2, vi x2)] [vr 45] M6
      refine v_bipush C dX12_parties_34 (by decide) ?_
      refine v_iald (k := 45) C rfl (by decide) (by decide) dX12_parties_36 ?_
      show Aj E l z (36 + 1) [(0, vr 44), (1, vi x1), (2, vi x2)] [vi (M6 45 24)] M6
      obtain ⟨y11, hy11⟩ : ∃ y : Int, y = M6 45 24 := ⟨_, rfl⟩
      have g12 := g9 y11 hy11
      refine v_eqi hy11 ?_
      refine v_istore_n (L' := [(3, vi y11), (0, vr 44), (1, vi x1), (2, vi x2)]) C dX12_parties_37 rfl (by decide) rfl ?_
      refine v_iload_n (i := 0) C dX12_parties_38 rfl rfl ?_
      refine v_if_eq (tgt := 47) C g12.1 dX12_parties_39 (by decide) (fun c => ?_) (fun c => ?_)
      · have g13 := g12.2.1 c
        refine v_ldc2 (x := -4) C cs_RX12_190 (by decide) dX12_parties_47 ?_
        exact v_lret C r dX12_parties_50 g13
      · have g14 := g12.2.2 c
        refine v_iload_n (i := 3) C dX12_parties_42 rfl rfl ?_
        refine v_iload_n (i := 0) C dX12_parties_43 rfl rfl ?_
        refine v_icmp_lt (tgt := 51) C g14.1 g14.2.1 dX12_parties_44 (by decide) (fun c => ?_) (fun c => ?_)
        · have g15 := g14.2.2.1 c
          refine v_aload_n (i := 1) C dX12_parties_51 rfl rfl ?_
          refine v_callV (q := qX12_layNow) (k := 44) (As := []) (S := []) C co_yX12_layNow ml_RX12_87 im_yX12_layNow se_yX12_layNow ini_RX12 rfl rfl hq_X12_layNow (by decide) (Nat.le_of_ble_eq_true rfl) rfl dX12_parties_52 (Con.mono g15 (fun rr M17 hr => ?_) (Nat.le_refl _))
          obtain ⟨rfl, g18⟩ := hr
          show Aj E l z (52 + 3) [(3, vi y11), (0, vr 44), (1, vi x1), (2, vi x2)] [] M17
          refine v_aload_n (i := 1) C dX12_parties_55 rfl rfl ?_
          refine v_callV (q := qX12_begin) (k := 44) (As := []) (S := []) C co_yX12_begin ml_RX12_166 im_yX12_begin se_yX12_begin ini_RX12 rfl rfl hq_X12_begin (by decide) (Nat.le_of_ble_eq_true rfl) rfl dX12_parties_56 (Con.mono g18 (fun rr M19 hr => ?_) (Nat.le_refl _))
          obtain ⟨rfl, g20⟩ := hr
          show Aj E l z (56 + 3) [(3, vi y11), (0, vr 44), (1, vi x1), (2, vi x2)] [] M19
          refine v_ldc2 (x := -1) C cs_RX12_85 (by decide) dX12_parties_59 ?_
          refine v_lstore (L' := [(4, vj (-1)), (3, vi y11), (0, vr 44), (1, vi x1), (2, vi x2)]) C dX12_parties_62 (by decide) rfl ?_
          refine v_iconst C dX12_parties_64 ?_
          refine v_istore (L' := [(6, vi 1), (4, vj (-1)), (3, vi y11), (0, vr 44), (1, vi x1), (2, vi x2)]) C dX12_parties_65 (by decide) rfl ?_
          exact v_sub [3, 4, 5, 2, 1, 0] rfl (hJ67 _ _ _ _ _ _ g20)
        · have g16 := g14.2.2.2 c
          refine v_ldc2 (x := -4) C cs_RX12_190 (by decide) dX12_parties_47 ?_
          exact v_lret C r dX12_parties_50 g16
    · have g10 := g8.2.2 c
      refine v_ldc2 (x := -1) C cs_RX12_85 (by decide) dX12_parties_26 ?_
      exact v_lret C r dX12_parties_29 g10
def VX12_parties_250 (E : FX) (l : Launch) (D : Nat) (post : Option AV → MM → Prop) (J67 : MM → Int → Int → Int → Int → Int → Prop) (J88 : MM → Int → Int → Int → Int → Int → Int → Int → Int → Prop) (J101 : MM → Int → Int → Int → Int → Int → Int → Int → Int → Int → Int → Prop) (M : MM) (s0 : Int) : Prop :=
  post (some (vj s0)) M
set_option maxRecDepth 20000 in
theorem SX12_parties_250 {E : FX} {l : Launch} {D : Nat} {post : Option AV → MM → Prop} {z : RT} {J67 : MM → Int → Int → Int → Int → Int → Prop} {J88 : MM → Int → Int → Int → Int → Int → Int → Int → Int → Prop} {J101 : MM → Int → Int → Int → Int → Int → Int → Int → Int → Int → Int → Prop} (C : Cx E z D RX12 cX12_parties 14) (r : Rt E z (some .long) post) (hJ67 : ∀ (M : MM) (x1 : Int) (x2 : Int) (x3 : Int) (x4 : Int) (x6 : Int), J67 M x1 x2 x3 x4 x6 → Aj E l z 67 [(0, vr 44), (1, vi x1), (2, vi x2), (3, vi x3), (4, vj x4), (6, vi x6)] [] M) (hJ88 : ∀ (M : MM) (x1 : Int) (x2 : Int) (x3 : Int) (x4 : Int) (x7 : Int) (x8 : Int) (x10 : Int) (x11 : Int), J88 M x1 x2 x3 x4 x7 x8 x10 x11 → Aj E l z 88 [(0, vr 44), (1, vi x1), (2, vi x2), (3, vi x3), (4, vj x4), (7, vi x7), (8, vj x8), (10, vi x10), (11, vi x11)] [] M) (hJ101 : ∀ (M : MM) (x1 : Int) (x2 : Int) (x3 : Int) (x4 : Int) (x7 : Int) (x8 : Int) (x10 : Int) (x11 : Int) (x12 : Int) (x13 : Int), J101 M x1 x2 x3 x4 x7 x8 x10 x11 x12 x13 → Aj E l z 101 [(0, vr 44), (1, vi x1), (2, vi x2), (3, vi x3), (4, vj x4), (7, vi x7), (8, vj x8), (10, vi x10), (11, vi x11), (12, vi x12), (13, vi x13)] [] M) {M : MM} {s0 : Int} (h : VX12_parties_250 E l D post J67 J88 J101 M s0) : Aj E l z 250 [] [vj s0] M := by
  unfold VX12_parties_250 at h
  exact v_lret C r dX12_parties_250 h
def VX12_parties_67 (E : FX) (l : Launch) (D : Nat) (post : Option AV → MM → Prop) (J67 : MM → Int → Int → Int → Int → Int → Prop) (J88 : MM → Int → Int → Int → Int → Int → Int → Int → Int → Prop) (J101 : MM → Int → Int → Int → Int → Int → Int → Int → Int → Int → Int → Prop) (M : MM) (x1 : Int) (x2 : Int) (x3 : Int) (x4 : Int) (x6 : Int) : Prop :=
  R32 x6 ∧ ((x6 = 0 → R32 x2 ∧ ((0 ≤ x2 → 0 ≤ x2 ∧ (x2 < 8 ∧ (R32 (M 50 (x2).toNat) ∧ (VX12_parties_250 E l D post J67 J88 J101 M (M 50 (x2).toNat))))) ∧ (¬ 0 ≤ x2 → VX12_parties_250 E l D post J67 J88 J101 M x4))) ∧ (¬ x6 = 0 → Con E l D qX12_groupsOf [vr 44, vi x3] M (fun r M25 => ∃ y26 : Int, r = some (vi y26) ∧ (J88 M25 x1 x2 x3 x4 y26 0 1 0))))
set_option maxRecDepth 20000 in
theorem SX12_parties_67 {E : FX} {l : Launch} {D : Nat} {post : Option AV → MM → Prop} {z : RT} {J67 : MM → Int → Int → Int → Int → Int → Prop} {J88 : MM → Int → Int → Int → Int → Int → Int → Int → Int → Prop} {J101 : MM → Int → Int → Int → Int → Int → Int → Int → Int → Int → Int → Prop} (C : Cx E z D RX12 cX12_parties 14) (r : Rt E z (some .long) post) (hJ67 : ∀ (M : MM) (x1 : Int) (x2 : Int) (x3 : Int) (x4 : Int) (x6 : Int), J67 M x1 x2 x3 x4 x6 → Aj E l z 67 [(0, vr 44), (1, vi x1), (2, vi x2), (3, vi x3), (4, vj x4), (6, vi x6)] [] M) (hJ88 : ∀ (M : MM) (x1 : Int) (x2 : Int) (x3 : Int) (x4 : Int) (x7 : Int) (x8 : Int) (x10 : Int) (x11 : Int), J88 M x1 x2 x3 x4 x7 x8 x10 x11 → Aj E l z 88 [(0, vr 44), (1, vi x1), (2, vi x2), (3, vi x3), (4, vj x4), (7, vi x7), (8, vj x8), (10, vi x10), (11, vi x11)] [] M) (hJ101 : ∀ (M : MM) (x1 : Int) (x2 : Int) (x3 : Int) (x4 : Int) (x7 : Int) (x8 : Int) (x10 : Int) (x11 : Int) (x12 : Int) (x13 : Int), J101 M x1 x2 x3 x4 x7 x8 x10 x11 x12 x13 → Aj E l z 101 [(0, vr 44), (1, vi x1), (2, vi x2), (3, vi x3), (4, vj x4), (7, vi x7), (8, vj x8), (10, vi x10), (11, vi x11), (12, vi x12), (13, vi x13)] [] M) {M : MM} {x1 : Int} {x2 : Int} {x3 : Int} {x4 : Int} {x6 : Int} (h : VX12_parties_67 E l D post J67 J88 J101 M x1 x2 x3 x4 x6) : Aj E l z 67 [(0, vr 44), (1, vi x1), (2, vi x2), (3, vi x3), (4, vj x4), (6, vi x6)] [] M := by
  unfold VX12_parties_67 at h
  refine v_iload (i := 5) C dX12_parties_67 rfl ?_
  refine v_if_eq (tgt := 234) C h.1 dX12_parties_69 (by decide) (fun c => ?_) (fun c => ?_)
  · have g21 := h.2.1 c
    refine v_iload_n (i := 2) C dX12_parties_234 rfl rfl ?_
    refine v_if_ge (tgt := 243) C g21.1 dX12_parties_235 (by decide) (fun c => ?_) (fun c => ?_)
    · have g23 := g21.2.1 c
      refine v_aload_n (i := 0) C dX12_parties_243 rfl rfl ?_
      refine v_getf (k := 44) C fl_RX12_26 rfl rfl dX12_parties_244 ?_
      show Aj E l z (244 + 3) [(0, vr 44), (1, vi x1), (2, vi x2), (3, vi x3), (4, vj x4), (6, vi x6)] [vr 50] M
      refine v_iload_n (i := 2) C dX12_parties_247 rfl rfl ?_
      refine v_iald (k := 50) C rfl g23.1 g23.2.1 dX12_parties_248 ?_
      show Aj E l z (248 + 1) [(0, vr 44), (1, vi x1), (2, vi x2), (3, vi x3), (4, vj x4), (6, vi x6)] [vi (M 50 (x2).toNat)] M
      refine v_i2l C g23.2.2.1 dX12_parties_249 ?_
      exact v_sub [] rfl (SX12_parties_250 C r hJ67 hJ88 hJ101 g23.2.2.2)
    · have g24 := g21.2.2 c
      refine v_lload (i := 4) C dX12_parties_238 rfl ?_
      refine v_goto C dX12_parties_240 (tgt := 250) (by decide) ?_
      exact v_sub [] rfl (SX12_parties_250 C r hJ67 hJ88 hJ101 g24)
  · have g22 := h.2.2 c
    refine v_aload_n (i := 0) C dX12_parties_72 rfl rfl ?_
    refine v_iload_n (i := 3) C dX12_parties_73 rfl rfl ?_
    refine v_callV (q := qX12_groupsOf) (k := 44) (As := [vi x3]) (S := []) C co_yX12_groupsOf ml_RX12_169 im_yX12_groupsOf se_yX12_groupsOf ini_RX12 rfl rfl hq_X12_groupsOf (by decide) (Nat.le_of_ble_eq_true rfl) rfl dX12_parties_74 (Con.mono g22 (fun rr M25 hr => ?_) (Nat.le_refl _))
    obtain ⟨y26, rfl, g27⟩ := hr
    show Aj E l z (74 + 3) [(0, vr 44), (1, vi x1), (2, vi x2), (3, vi x3), (4, vj x4), (6, vi x6)] [vi y26] M25
    refine v_istore (L' := [(7, vi y26), (0, vr 44), (1, vi x1), (2, vi x2), (3, vi x3), (4, vj x4), (6, vi x6)]) C dX12_parties_77 (by decide) rfl ?_
    refine v_lconst (x := 0) C dX12_parties_79 (by decide) ?_
    refine v_lstore (L' := [(8, vj 0), (7, vi y26), (0, vr 44), (1, vi x1), (2, vi x2), (3, vi x3), (4, vj x4), (6, vi x6)]) C dX12_parties_80 (by decide) rfl ?_
    refine v_iconst C dX12_parties_82 ?_
    refine v_istore (L' := [(10, vi 1), (8, vj 0), (7, vi y26), (0, vr 44), (1, vi x1), (2, vi x2), (3, vi x3), (4, vj x4), (6, vi x6)]) C dX12_parties_83 (by decide) rfl ?_
    refine v_iconst C dX12_parties_85 ?_
    refine v_istore (L' := [(11, vi 0), (10, vi 1), (8, vj 0), (7, vi y26), (0, vr 44), (1, vi x1), (2, vi x2), (3, vi x3), (4, vj x4), (6, vi x6)]) C dX12_parties_86 (by decide) rfl ?_
    exact v_sub [4, 5, 6, 7, 8, 3, 2, 1, 0] rfl (hJ88 _ _ _ _ _ _ _ _ _ g27)
def VX12_parties_224 (E : FX) (l : Launch) (D : Nat) (post : Option AV → MM → Prop) (J67 : MM → Int → Int → Int → Int → Int → Prop) (J88 : MM → Int → Int → Int → Int → Int → Int → Int → Int → Prop) (J101 : MM → Int → Int → Int → Int → Int → Int → Int → Int → Int → Int → Prop) (M : MM) (x1 : Int) (x2 : Int) (x3 : Int) (x4 : Int) : Prop :=
  Con E l D qX12_goesOn [vr 44, vi x3] M (fun r M28 => ∃ y29 : Int, r = some (vi y29) ∧ (J67 M28 x1 x2 x3 x4 y29))
set_option maxRecDepth 20000 in
theorem SX12_parties_224 {E : FX} {l : Launch} {D : Nat} {post : Option AV → MM → Prop} {z : RT} {J67 : MM → Int → Int → Int → Int → Int → Prop} {J88 : MM → Int → Int → Int → Int → Int → Int → Int → Int → Prop} {J101 : MM → Int → Int → Int → Int → Int → Int → Int → Int → Int → Int → Prop} (C : Cx E z D RX12 cX12_parties 14) (r : Rt E z (some .long) post) (hJ67 : ∀ (M : MM) (x1 : Int) (x2 : Int) (x3 : Int) (x4 : Int) (x6 : Int), J67 M x1 x2 x3 x4 x6 → Aj E l z 67 [(0, vr 44), (1, vi x1), (2, vi x2), (3, vi x3), (4, vj x4), (6, vi x6)] [] M) (hJ88 : ∀ (M : MM) (x1 : Int) (x2 : Int) (x3 : Int) (x4 : Int) (x7 : Int) (x8 : Int) (x10 : Int) (x11 : Int), J88 M x1 x2 x3 x4 x7 x8 x10 x11 → Aj E l z 88 [(0, vr 44), (1, vi x1), (2, vi x2), (3, vi x3), (4, vj x4), (7, vi x7), (8, vj x8), (10, vi x10), (11, vi x11)] [] M) (hJ101 : ∀ (M : MM) (x1 : Int) (x2 : Int) (x3 : Int) (x4 : Int) (x7 : Int) (x8 : Int) (x10 : Int) (x11 : Int) (x12 : Int) (x13 : Int), J101 M x1 x2 x3 x4 x7 x8 x10 x11 x12 x13 → Aj E l z 101 [(0, vr 44), (1, vi x1), (2, vi x2), (3, vi x3), (4, vj x4), (7, vi x7), (8, vj x8), (10, vi x10), (11, vi x11), (12, vi x12), (13, vi x13)] [] M) {M : MM} {x1 : Int} {x2 : Int} {x3 : Int} {x4 : Int} (h : VX12_parties_224 E l D post J67 J88 J101 M x1 x2 x3 x4) : Aj E l z 224 [(0, vr 44), (1, vi x1), (2, vi x2), (3, vi x3), (4, vj x4)] [] M := by
  unfold VX12_parties_224 at h
  refine v_aload_n (i := 0) C dX12_parties_224 rfl rfl ?_
  refine v_iload_n (i := 3) C dX12_parties_225 rfl rfl ?_
  refine v_callV (q := qX12_goesOn) (k := 44) (As := [vi x3]) (S := []) C co_yX12_goesOn ml_RX12_176 im_yX12_goesOn se_yX12_goesOn ini_RX12 rfl rfl hq_X12_goesOn (by decide) (Nat.le_of_ble_eq_true rfl) rfl dX12_parties_226 (Con.mono h (fun rr M28 hr => ?_) (Nat.le_refl _))
  obtain ⟨y29, rfl, g30⟩ := hr
  show Aj E l z (226 + 3) [(0, vr 44), (1, vi x1), (2, vi x2), (3, vi x3), (4, vj x4)] [vi y29] M28
  refine v_istore (L' := [(6, vi y29), (0, vr 44), (1, vi x1), (2, vi x2), (3, vi x3), (4, vj x4)]) C dX12_parties_229 (by decide) rfl ?_
  refine v_goto C dX12_parties_231 (tgt := 67) (by decide) ?_
  exact v_sub [1, 2, 3, 4, 5, 0] rfl (hJ67 _ _ _ _ _ _ g30)
def VX12_parties_213 (E : FX) (l : Launch) (D : Nat) (post : Option AV → MM → Prop) (J67 : MM → Int → Int → Int → Int → Int → Prop) (J88 : MM → Int → Int → Int → Int → Int → Int → Int → Int → Prop) (J101 : MM → Int → Int → Int → Int → Int → Int → Int → Int → Int → Int → Prop) (M : MM) (x1 : Int) (x2 : Int) (x3 : Int) (x7 : Int) (x8 : Int) : Prop :=
  Con E l D qX12_take [vr 44, vi x3, vi x7] M (fun r M31 => r = none ∧ (VX12_parties_224 E l D post J67 J88 J101 M31 x1 x2 x3 x8))
set_option maxRecDepth 20000 in
theorem SX12_parties_213 {E : FX} {l : Launch} {D : Nat} {post : Option AV → MM → Prop} {z : RT} {J67 : MM → Int → Int → Int → Int → Int → Prop} {J88 : MM → Int → Int → Int → Int → Int → Int → Int → Int → Prop} {J101 : MM → Int → Int → Int → Int → Int → Int → Int → Int → Int → Int → Prop} (C : Cx E z D RX12 cX12_parties 14) (r : Rt E z (some .long) post) (hJ67 : ∀ (M : MM) (x1 : Int) (x2 : Int) (x3 : Int) (x4 : Int) (x6 : Int), J67 M x1 x2 x3 x4 x6 → Aj E l z 67 [(0, vr 44), (1, vi x1), (2, vi x2), (3, vi x3), (4, vj x4), (6, vi x6)] [] M) (hJ88 : ∀ (M : MM) (x1 : Int) (x2 : Int) (x3 : Int) (x4 : Int) (x7 : Int) (x8 : Int) (x10 : Int) (x11 : Int), J88 M x1 x2 x3 x4 x7 x8 x10 x11 → Aj E l z 88 [(0, vr 44), (1, vi x1), (2, vi x2), (3, vi x3), (4, vj x4), (7, vi x7), (8, vj x8), (10, vi x10), (11, vi x11)] [] M) (hJ101 : ∀ (M : MM) (x1 : Int) (x2 : Int) (x3 : Int) (x4 : Int) (x7 : Int) (x8 : Int) (x10 : Int) (x11 : Int) (x12 : Int) (x13 : Int), J101 M x1 x2 x3 x4 x7 x8 x10 x11 x12 x13 → Aj E l z 101 [(0, vr 44), (1, vi x1), (2, vi x2), (3, vi x3), (4, vj x4), (7, vi x7), (8, vj x8), (10, vi x10), (11, vi x11), (12, vi x12), (13, vi x13)] [] M) {M : MM} {x1 : Int} {x2 : Int} {x3 : Int} {x7 : Int} {x8 : Int} (h : VX12_parties_213 E l D post J67 J88 J101 M x1 x2 x3 x7 x8) : Aj E l z 213 [(0, vr 44), (1, vi x1), (2, vi x2), (3, vi x3), (7, vi x7), (8, vj x8)] [] M := by
  unfold VX12_parties_213 at h
  refine v_lload (i := 5) C dX12_parties_213 rfl ?_
  refine v_lstore (L' := [(4, vj x8), (0, vr 44), (1, vi x1), (2, vi x2), (3, vi x3), (7, vi x7), (8, vj x8)]) C dX12_parties_215 (by decide) rfl ?_
  refine v_aload_n (i := 1) C dX12_parties_217 rfl rfl ?_
  refine v_iload_n (i := 4) C dX12_parties_218 rfl rfl ?_
  refine v_iload (i := 5) C dX12_parties_219 rfl ?_
  refine v_callV (q := qX12_take) (k := 44) (As := [vi x3, vi x7]) (S := []) C co_yX12_take ml_RX12_172 im_yX12_take se_yX12_take ini_RX12 rfl rfl hq_X12_take (by decide) (Nat.le_of_ble_eq_true rfl) rfl dX12_parties_221 (Con.mono h (fun rr M31 hr => ?_) (Nat.le_refl _))
  obtain ⟨rfl, g32⟩ := hr
  show Aj E l z (221 + 3) [(4, vj x8), (0, vr 44), (1, vi x1), (2, vi x2), (3, vi x3), (7, vi x7), (8, vj x8)] [] M31
  exact v_sub [1, 2, 3, 4, 0] rfl (SX12_parties_224 C r hJ67 hJ88 hJ101 g32)
def VX12_parties_88 (E : FX) (l : Launch) (D : Nat) (post : Option AV → MM → Prop) (J67 : MM → Int → Int → Int → Int → Int → Prop) (J88 : MM → Int → Int → Int → Int → Int → Int → Int → Int → Prop) (J101 : MM → Int → Int → Int → Int → Int → Int → Int → Int → Int → Int → Prop) (M : MM) (x1 : Int) (x2 : Int) (x3 : Int) (x4 : Int) (x7 : Int) (x8 : Int) (x10 : Int) (x11 : Int) : Prop :=
  R32 x11 ∧ (R32 x7 ∧ ((x7 ≤ x11 → R32 x10 ∧ ((x10 = 0 → Con E l D qX12_goesOn [vr 44, vi x3] M (fun r M37 => ∃ y38 : Int, r = some (vi y38) ∧ (J67 M37 x1 x2 x3 x4 y38))) ∧ (¬ x10 = 0 → R64 x4 ∧ ((x4 < 0 → Con E l D qX12_take [vr 44, vi x3, vi x7] M (fun r M42 => r = none ∧ (VX12_parties_224 E l D post J67 J88 J101 M42 x1 x2 x3 x8))) ∧ (¬ x4 < 0 → R64 x8 ∧ (R64 x4 ∧ ((x8 < x4 → Con E l D qX12_take [vr 44, vi x3, vi x7] M (fun r M46 => r = none ∧ (VX12_parties_224 E l D post J67 J88 J101 M46 x1 x2 x3 x8))) ∧ (¬ x8 < x4 → R64 x8 ∧ (R64 x4 ∧ ((¬ x8 = x4 → Con E l D qX12_goesOn [vr 44, vi x3] M (fun r M50 => ∃ y51 : Int, r = some (vi y51) ∧ (J67 M50 x1 x2 x3 x4 y51))) ∧ (x8 = x4 → R32 x7 ∧ (R32 (M 44 13) ∧ ((x7 ≤ M 44 13 → Con E l D qX12_goesOn [vr 44, vi x3] M (fun r M55 => ∃ y56 : Int, r = some (vi y56) ∧ (J67 M55 x1 x2 x3 x4 y56))) ∧ (¬ x7 ≤ M 44 13 → Con E l D qX12_take [vr 44, vi x3, vi x7] M (fun r M58 => r = none ∧ (VX12_parties_224 E l D post J67 J88 J101 M58 x1 x2 x3 x8)))))))))))))))) ∧ (¬ x7 ≤ x11 → J101 M x1 x2 x3 x4 x7 x8 x10 x11 0 0)))
set_option maxRecDepth 20000 in
theorem SX12_parties_88 {E : FX} {l : Launch} {D : Nat} {post : Option AV → MM → Prop} {z : RT} {J67 : MM → Int → Int → Int → Int → Int → Prop} {J88 : MM → Int → Int → Int → Int → Int → Int → Int → Int → Prop} {J101 : MM → Int → Int → Int → Int → Int → Int → Int → Int → Int → Int → Prop} (C : Cx E z D RX12 cX12_parties 14) (r : Rt E z (some .long) post) (hJ67 : ∀ (M : MM) (x1 : Int) (x2 : Int) (x3 : Int) (x4 : Int) (x6 : Int), J67 M x1 x2 x3 x4 x6 → Aj E l z 67 [(0, vr 44), (1, vi x1), (2, vi x2), (3, vi x3), (4, vj x4), (6, vi x6)] [] M) (hJ88 : ∀ (M : MM) (x1 : Int) (x2 : Int) (x3 : Int) (x4 : Int) (x7 : Int) (x8 : Int) (x10 : Int) (x11 : Int), J88 M x1 x2 x3 x4 x7 x8 x10 x11 → Aj E l z 88 [(0, vr 44), (1, vi x1), (2, vi x2), (3, vi x3), (4, vj x4), (7, vi x7), (8, vj x8), (10, vi x10), (11, vi x11)] [] M) (hJ101 : ∀ (M : MM) (x1 : Int) (x2 : Int) (x3 : Int) (x4 : Int) (x7 : Int) (x8 : Int) (x10 : Int) (x11 : Int) (x12 : Int) (x13 : Int), J101 M x1 x2 x3 x4 x7 x8 x10 x11 x12 x13 → Aj E l z 101 [(0, vr 44), (1, vi x1), (2, vi x2), (3, vi x3), (4, vj x4), (7, vi x7), (8, vj x8), (10, vi x10), (11, vi x11), (12, vi x12), (13, vi x13)] [] M) {M : MM} {x1 : Int} {x2 : Int} {x3 : Int} {x4 : Int} {x7 : Int} {x8 : Int} {x10 : Int} {x11 : Int} (h : VX12_parties_88 E l D post J67 J88 J101 M x1 x2 x3 x4 x7 x8 x10 x11) : Aj E l z 88 [(0, vr 44), (1, vi x1), (2, vi x2), (3, vi x3), (4, vj x4), (7, vi x7), (8, vj x8), (10, vi x10), (11, vi x11)] [] M := by
  unfold VX12_parties_88 at h
  refine v_iload (i := 8) C dX12_parties_88 rfl ?_
  refine v_iload (i := 5) C dX12_parties_90 rfl ?_
  refine v_icmp_ge (tgt := 176) C h.1 h.2.1 dX12_parties_92 (by decide) (fun c => ?_) (fun c => ?_)
  · have g33 := h.2.2.1 c
    refine v_iload (i := 7) C dX12_parties_176 rfl ?_
    refine v_if_eq (tgt := 224) C g33.1 dX12_parties_178 (by decide) (fun c => ?_) (fun c => ?_)
    · have g35 := g33.2.1 c
      refine v_aload_n (i := 0) C dX12_parties_224 rfl rfl ?_
      refine v_iload_n (i := 3) C dX12_parties_225 rfl rfl ?_
      refine v_callV (q := qX12_goesOn) (k := 44) (As := [vi x3]) (S := []) C co_yX12_goesOn ml_RX12_176 im_yX12_goesOn se_yX12_goesOn ini_RX12 rfl rfl hq_X12_goesOn (by decide) (Nat.le_of_ble_eq_true rfl) rfl dX12_parties_226 (Con.mono g35 (fun rr M37 hr => ?_) (Nat.le_refl _))
      obtain ⟨y38, rfl, g39⟩ := hr
      show Aj E l z (226 + 3) [(0, vr 44), (1, vi x1), (2, vi x2), (3, vi x3), (4, vj x4), (7, vi x7), (8, vj x8), (10, vi x10), (11, vi x11)] [vi y38] M37
      refine v_istore (L' := [(6, vi y38), (0, vr 44), (1, vi x1), (2, vi x2), (3, vi x3), (4, vj x4), (7, vi x7), (8, vj x8), (10, vi x10), (11, vi x11)]) C dX12_parties_229 (by decide) rfl ?_
      refine v_goto C dX12_parties_231 (tgt := 67) (by decide) ?_
      exact v_sub [1, 2, 3, 4, 5, 0] rfl (hJ67 _ _ _ _ _ _ g39)
    · have g36 := g33.2.2 c
      refine v_lload (i := 4) C dX12_parties_181 rfl ?_
      refine v_lconst (x := 0) C dX12_parties_183 (by decide) ?_
      refine v_lif_lt (tgt := 213) C g36.1 (by decide) dX12_parties_184 dX12_parties_185 (by decide) (fun c => ?_) (fun c => ?_)
      · have g40 := g36.2.1 c
        refine v_lload (i := 6) C dX12_parties_213 rfl ?_
        refine v_lstore (L' := [(4, vj x8), (0, vr 44), (1, vi x1), (2, vi x2), (3, vi x3), (7, vi x7), (8, vj x8), (10, vi x10), (11, vi x11)]) C dX12_parties_215 (by decide) rfl ?_
        refine v_aload_n (i := 1) C dX12_parties_217 rfl rfl ?_
        refine v_iload_n (i := 4) C dX12_parties_218 rfl rfl ?_
        refine v_iload (i := 5) C dX12_parties_219 rfl ?_
        refine v_callV (q := qX12_take) (k := 44) (As := [vi x3, vi x7]) (S := []) C co_yX12_take ml_RX12_172 im_yX12_take se_yX12_take ini_RX12 rfl rfl hq_X12_take (by decide) (Nat.le_of_ble_eq_true rfl) rfl dX12_parties_221 (Con.mono g40 (fun rr M42 hr => ?_) (Nat.le_refl _))
        obtain ⟨rfl, g43⟩ := hr
        show Aj E l z (221 + 3) [(4, vj x8), (0, vr 44), (1, vi x1), (2, vi x2), (3, vi x3), (7, vi x7), (8, vj x8), (10, vi x10), (11, vi x11)] [] M42
        exact v_sub [1, 2, 3, 4, 0] rfl (SX12_parties_224 C r hJ67 hJ88 hJ101 g43)
      · have g41 := g36.2.2 c
        refine v_lload (i := 6) C dX12_parties_188 rfl ?_
        refine v_lload (i := 4) C dX12_parties_190 rfl ?_
        refine v_lif_lt (tgt := 213) C g41.1 g41.2.1 dX12_parties_192 dX12_parties_193 (by decide) (fun c => ?_) (fun c => ?_)
        · have g44 := g41.2.2.1 c
          refine v_lload (i := 6) C dX12_parties_213 rfl ?_
          refine v_lstore (L' := [(4, vj x8), (0, vr 44), (1, vi x1), (2, vi x2), (3, vi x3), (7, vi x7), (8, vj x8), (10, vi x10), (11, vi x11)]) C dX12_parties_215 (by decide) rfl ?_
          refine v_aload_n (i := 1) C dX12_parties_217 rfl rfl ?_
          refine v_iload_n (i := 4) C dX12_parties_218 rfl rfl ?_
          refine v_iload (i := 5) C dX12_parties_219 rfl ?_
          refine v_callV (q := qX12_take) (k := 44) (As := [vi x3, vi x7]) (S := []) C co_yX12_take ml_RX12_172 im_yX12_take se_yX12_take ini_RX12 rfl rfl hq_X12_take (by decide) (Nat.le_of_ble_eq_true rfl) rfl dX12_parties_221 (Con.mono g44 (fun rr M46 hr => ?_) (Nat.le_refl _))
          obtain ⟨rfl, g47⟩ := hr
          show Aj E l z (221 + 3) [(4, vj x8), (0, vr 44), (1, vi x1), (2, vi x2), (3, vi x3), (7, vi x7), (8, vj x8), (10, vi x10), (11, vi x11)] [] M46
          exact v_sub [1, 2, 3, 4, 0] rfl (SX12_parties_224 C r hJ67 hJ88 hJ101 g47)
        · have g45 := g41.2.2.2 c
          refine v_lload (i := 6) C dX12_parties_196 rfl ?_
          refine v_lload (i := 4) C dX12_parties_198 rfl ?_
          refine v_lif_ne (tgt := 224) C g45.1 g45.2.1 dX12_parties_200 dX12_parties_201 (by decide) (fun c => ?_) (fun c => ?_)
          · have g48 := g45.2.2.1 c
            refine v_aload_n (i := 0) C dX12_parties_224 rfl rfl ?_
            refine v_iload_n (i := 3) C dX12_parties_225 rfl rfl ?_
            refine v_callV (q := qX12_goesOn) (k := 44) (As := [vi x3]) (S := []) C co_yX12_goesOn ml_RX12_176 im_yX12_goesOn se_yX12_goesOn ini_RX12 rfl rfl hq_X12_goesOn (by decide) (Nat.le_of_ble_eq_true rfl) rfl dX12_parties_226 (Con.mono g48 (fun rr M50 hr => ?_) (Nat.le_refl _))
            obtain ⟨y51, rfl, g52⟩ := hr
            show Aj E l z (226 + 3) [(0, vr 44), (1, vi x1), (2, vi x2), (3, vi x3), (4, vj x4), (7, vi x7), (8, vj x8), (10, vi x10), (11, vi x11)] [vi y51] M50
            refine v_istore (L' := [(6, vi y51), (0, vr 44), (1, vi x1), (2, vi x2), (3, vi x3), (4, vj x4), (7, vi x7), (8, vj x8), (10, vi x10), (11, vi x11)]) C dX12_parties_229 (by decide) rfl ?_
            refine v_goto C dX12_parties_231 (tgt := 67) (by decide) ?_
            exact v_sub [1, 2, 3, 4, 5, 0] rfl (hJ67 _ _ _ _ _ _ g52)
          · have g49 := g45.2.2.2 c
            refine v_iload (i := 5) C dX12_parties_204 rfl ?_
            refine v_aload_n (i := 0) C dX12_parties_206 rfl rfl ?_
            refine v_getf (k := 44) C fl_RX12_163 rfl rfl dX12_parties_207 ?_
            show Aj E l z (207 + 3) [(0, vr 44), (1, vi x1), (2, vi x2), (3, vi x3), (4, vj x4), (7, vi x7), (8, vj x8), (10, vi x10), (11, vi x11)] [vi (M 44 13), vi x7] M
            refine v_icmp_le (tgt := 224) C g49.1 g49.2.1 dX12_parties_210 (by decide) (fun c => ?_) (fun c => ?_)
            · have g53 := g49.2.2.1 c
              refine v_aload_n (i := 0) C dX12_parties_224 rfl rfl ?_
              refine v_iload_n (i := 3) C dX12_parties_225 rfl rfl ?_
              refine v_callV (q := qX12_goesOn) (k := 44) (As := [vi x3]) (S := []) C co_yX12_goesOn ml_RX12_176 im_yX12_goesOn se_yX12_goesOn ini_RX12 rfl rfl hq_X12_goesOn (by decide) (Nat.le_of_ble_eq_true rfl) rfl dX12_parties_226 (Con.mono g53 (fun rr M55 hr => ?_) (Nat.le_refl _))
              obtain ⟨y56, rfl, g57⟩ := hr
              show Aj E l z (226 + 3) [(0, vr 44), (1, vi x1), (2, vi x2), (3, vi x3), (4, vj x4), (7, vi x7), (8, vj x8), (10, vi x10), (11, vi x11)] [vi y56] M55
              refine v_istore (L' := [(6, vi y56), (0, vr 44), (1, vi x1), (2, vi x2), (3, vi x3), (4, vj x4), (7, vi x7), (8, vj x8), (10, vi x10), (11, vi x11)]) C dX12_parties_229 (by decide) rfl ?_
              refine v_goto C dX12_parties_231 (tgt := 67) (by decide) ?_
              exact v_sub [1, 2, 3, 4, 5, 0] rfl (hJ67 _ _ _ _ _ _ g57)
            · have g54 := g49.2.2.2 c
              refine v_lload (i := 6) C dX12_parties_213 rfl ?_
              refine v_lstore (L' := [(4, vj x8), (0, vr 44), (1, vi x1), (2, vi x2), (3, vi x3), (7, vi x7), (8, vj x8), (10, vi x10), (11, vi x11)]) C dX12_parties_215 (by decide) rfl ?_
              refine v_aload_n (i := 1) C dX12_parties_217 rfl rfl ?_
              refine v_iload_n (i := 4) C dX12_parties_218 rfl rfl ?_
              refine v_iload (i := 5) C dX12_parties_219 rfl ?_
              refine v_callV (q := qX12_take) (k := 44) (As := [vi x3, vi x7]) (S := []) C co_yX12_take ml_RX12_172 im_yX12_take se_yX12_take ini_RX12 rfl rfl hq_X12_take (by decide) (Nat.le_of_ble_eq_true rfl) rfl dX12_parties_221 (Con.mono g54 (fun rr M58 hr => ?_) (Nat.le_refl _))
              obtain ⟨rfl, g59⟩ := hr
              show Aj E l z (221 + 3) [(4, vj x8), (0, vr 44), (1, vi x1), (2, vi x2), (3, vi x3), (7, vi x7), (8, vj x8), (10, vi x10), (11, vi x11)] [] M58
              exact v_sub [1, 2, 3, 4, 0] rfl (SX12_parties_224 C r hJ67 hJ88 hJ101 g59)
  · have g34 := h.2.2.2 c
    refine v_iconst C dX12_parties_95 ?_
    refine v_istore (L' := [(12, vi 0), (0, vr 44), (1, vi x1), (2, vi x2), (3, vi x3), (4, vj x4), (7, vi x7), (8, vj x8), (10, vi x10), (11, vi x11)]) C dX12_parties_96 (by decide) rfl ?_
    refine v_iconst C dX12_parties_98 ?_
    refine v_istore (L' := [(13, vi 0), (12, vi 0), (0, vr 44), (1, vi x1), (2, vi x2), (3, vi x3), (4, vj x4), (7, vi x7), (8, vj x8), (10, vi x10), (11, vi x11)]) C dX12_parties_99 (by decide) rfl ?_
    exact v_sub [2, 3, 4, 5, 6, 7, 8, 9, 10, 1, 0] rfl (hJ101 _ _ _ _ _ _ _ _ _ _ _ g34)
def VX12_parties_129 (E : FX) (l : Launch) (D : Nat) (post : Option AV → MM → Prop) (J67 : MM → Int → Int → Int → Int → Int → Prop) (J88 : MM → Int → Int → Int → Int → Int → Int → Int → Int → Prop) (J101 : MM → Int → Int → Int → Int → Int → Int → Int → Int → Int → Int → Prop) (M : MM) (x1 : Int) (x2 : Int) (x3 : Int) (x4 : Int) (x7 : Int) (x8 : Int) (x10 : Int) (x11 : Int) (x13 : Int) (s0 : Int) (s1 : Int) : Prop :=
  ∀ y60 : Int, y60 = ior s0 s1 → (∀ y62 : Int, y62 = x13 + 1 → (J101 M x1 x2 x3 x4 x7 x8 x10 x11 y60 y62))
set_option maxRecDepth 20000 in
theorem SX12_parties_129 {E : FX} {l : Launch} {D : Nat} {post : Option AV → MM → Prop} {z : RT} {J67 : MM → Int → Int → Int → Int → Int → Prop} {J88 : MM → Int → Int → Int → Int → Int → Int → Int → Int → Prop} {J101 : MM → Int → Int → Int → Int → Int → Int → Int → Int → Int → Int → Prop} (C : Cx E z D RX12 cX12_parties 14) (r : Rt E z (some .long) post) (hJ67 : ∀ (M : MM) (x1 : Int) (x2 : Int) (x3 : Int) (x4 : Int) (x6 : Int), J67 M x1 x2 x3 x4 x6 → Aj E l z 67 [(0, vr 44), (1, vi x1), (2, vi x2), (3, vi x3), (4, vj x4), (6, vi x6)] [] M) (hJ88 : ∀ (M : MM) (x1 : Int) (x2 : Int) (x3 : Int) (x4 : Int) (x7 : Int) (x8 : Int) (x10 : Int) (x11 : Int), J88 M x1 x2 x3 x4 x7 x8 x10 x11 → Aj E l z 88 [(0, vr 44), (1, vi x1), (2, vi x2), (3, vi x3), (4, vj x4), (7, vi x7), (8, vj x8), (10, vi x10), (11, vi x11)] [] M) (hJ101 : ∀ (M : MM) (x1 : Int) (x2 : Int) (x3 : Int) (x4 : Int) (x7 : Int) (x8 : Int) (x10 : Int) (x11 : Int) (x12 : Int) (x13 : Int), J101 M x1 x2 x3 x4 x7 x8 x10 x11 x12 x13 → Aj E l z 101 [(0, vr 44), (1, vi x1), (2, vi x2), (3, vi x3), (4, vj x4), (7, vi x7), (8, vj x8), (10, vi x10), (11, vi x11), (12, vi x12), (13, vi x13)] [] M) {M : MM} {x1 : Int} {x2 : Int} {x3 : Int} {x4 : Int} {x7 : Int} {x8 : Int} {x10 : Int} {x11 : Int} {x13 : Int} {s0 : Int} {s1 : Int} (h : VX12_parties_129 E l D post J67 J88 J101 M x1 x2 x3 x4 x7 x8 x10 x11 x13 s0 s1) : Aj E l z 129 [(0, vr 44), (1, vi x1), (2, vi x2), (3, vi x3), (4, vj x4), (7, vi x7), (8, vj x8), (10, vi x10), (11, vi x11), (13, vi x13)] [vi s1, vi s0] M := by
  unfold VX12_parties_129 at h
  refine v_ior C dX12_parties_129 ?_
  obtain ⟨y60, hy60⟩ : ∃ y : Int, y = ior s0 s1 := ⟨_, rfl⟩
  have g61 := h y60 hy60
  refine v_eqi hy60 ?_
  refine v_istore (L' := [(12, vi y60), (0, vr 44), (1, vi x1), (2, vi x2), (3, vi x3), (4, vj x4), (7, vi x7), (8, vj x8), (10, vi x10), (11, vi x11), (13, vi x13)]) C dX12_parties_130 (by decide) rfl ?_
  obtain ⟨y62, hy62⟩ : ∃ y : Int, y = x13 + 1 := ⟨_, rfl⟩
  have g63 := g61 y62 hy62
  refine v_iinc (i := 10) (L' := [(13, vi y62), (12, vi y60), (0, vr 44), (1, vi x1), (2, vi x2), (3, vi x3), (4, vj x4), (7, vi x7), (8, vj x8), (10, vi x10), (11, vi x11)]) C dX12_parties_132 rfl (by decide) hy62 rfl ?_
  refine v_goto C dX12_parties_135 (tgt := 101) (by decide) ?_
  exact v_sub [2, 3, 4, 5, 6, 7, 8, 9, 10, 1, 0] rfl (hJ101 _ _ _ _ _ _ _ _ _ _ _ g63)
def VX12_parties_157 (E : FX) (l : Launch) (D : Nat) (post : Option AV → MM → Prop) (J67 : MM → Int → Int → Int → Int → Int → Prop) (J88 : MM → Int → Int → Int → Int → Int → Int → Int → Int → Prop) (J101 : MM → Int → Int → Int → Int → Int → Int → Int → Int → Int → Int → Prop) (M : MM) (x1 : Int) (x2 : Int) (x3 : Int) (x4 : Int) (x7 : Int) (x8 : Int) (x11 : Int) (x12 : Int) (s0 : Int) : Prop :=
  Con E l D qX12_priceOf [vr 44, vi x12] M (fun r M64 => ∃ y65 : Int, r = some (vj y65) ∧ (∀ y67 : Int, y67 = x8 + y65 → (∀ y69 : Int, y69 = x11 + 1 → (J88 M64 x1 x2 x3 x4 x7 y67 s0 y69))))
set_option maxRecDepth 20000 in
theorem SX12_parties_157 {E : FX} {l : Launch} {D : Nat} {post : Option AV → MM → Prop} {z : RT} {J67 : MM → Int → Int → Int → Int → Int → Prop} {J88 : MM → Int → Int → Int → Int → Int → Int → Int → Int → Prop} {J101 : MM → Int → Int → Int → Int → Int → Int → Int → Int → Int → Int → Prop} (C : Cx E z D RX12 cX12_parties 14) (r : Rt E z (some .long) post) (hJ67 : ∀ (M : MM) (x1 : Int) (x2 : Int) (x3 : Int) (x4 : Int) (x6 : Int), J67 M x1 x2 x3 x4 x6 → Aj E l z 67 [(0, vr 44), (1, vi x1), (2, vi x2), (3, vi x3), (4, vj x4), (6, vi x6)] [] M) (hJ88 : ∀ (M : MM) (x1 : Int) (x2 : Int) (x3 : Int) (x4 : Int) (x7 : Int) (x8 : Int) (x10 : Int) (x11 : Int), J88 M x1 x2 x3 x4 x7 x8 x10 x11 → Aj E l z 88 [(0, vr 44), (1, vi x1), (2, vi x2), (3, vi x3), (4, vj x4), (7, vi x7), (8, vj x8), (10, vi x10), (11, vi x11)] [] M) (hJ101 : ∀ (M : MM) (x1 : Int) (x2 : Int) (x3 : Int) (x4 : Int) (x7 : Int) (x8 : Int) (x10 : Int) (x11 : Int) (x12 : Int) (x13 : Int), J101 M x1 x2 x3 x4 x7 x8 x10 x11 x12 x13 → Aj E l z 101 [(0, vr 44), (1, vi x1), (2, vi x2), (3, vi x3), (4, vj x4), (7, vi x7), (8, vj x8), (10, vi x10), (11, vi x11), (12, vi x12), (13, vi x13)] [] M) {M : MM} {x1 : Int} {x2 : Int} {x3 : Int} {x4 : Int} {x7 : Int} {x8 : Int} {x11 : Int} {x12 : Int} {s0 : Int} (h : VX12_parties_157 E l D post J67 J88 J101 M x1 x2 x3 x4 x7 x8 x11 x12 s0) : Aj E l z 157 [(0, vr 44), (1, vi x1), (2, vi x2), (3, vi x3), (4, vj x4), (7, vi x7), (8, vj x8), (11, vi x11), (12, vi x12)] [vi s0] M := by
  unfold VX12_parties_157 at h
  refine v_istore (L' := [(10, vi s0), (0, vr 44), (1, vi x1), (2, vi x2), (3, vi x3), (4, vj x4), (7, vi x7), (8, vj x8), (11, vi x11), (12, vi x12)]) C dX12_parties_157 (by decide) rfl ?_
  refine v_lload (i := 7) C dX12_parties_159 rfl ?_
  refine v_aload_n (i := 1) C dX12_parties_161 rfl rfl ?_
  refine v_iload (i := 9) C dX12_parties_162 rfl ?_
  refine v_callV (q := qX12_priceOf) (k := 44) (As := [vi x12]) (S := [vj x8]) C co_yX12_priceOf ml_RX12_184 im_yX12_priceOf se_yX12_priceOf ini_RX12 rfl rfl hq_X12_priceOf (by decide) (Nat.le_of_ble_eq_true rfl) rfl dX12_parties_164 (Con.mono h (fun rr M64 hr => ?_) (Nat.le_refl _))
  obtain ⟨y65, rfl, g66⟩ := hr
  show Aj E l z (164 + 3) [(10, vi s0), (0, vr 44), (1, vi x1), (2, vi x2), (3, vi x3), (4, vj x4), (7, vi x7), (8, vj x8), (11, vi x11), (12, vi x12)] [vj y65, vj x8] M64
  refine v_ladd C dX12_parties_167 ?_
  obtain ⟨y67, hy67⟩ : ∃ y : Int, y = x8 + y65 := ⟨_, rfl⟩
  have g68 := g66 y67 hy67
  refine v_eqj hy67 ?_
  refine v_lstore (L' := [(8, vj y67), (10, vi s0), (0, vr 44), (1, vi x1), (2, vi x2), (3, vi x3), (4, vj x4), (7, vi x7), (11, vi x11), (12, vi x12)]) C dX12_parties_168 (by decide) rfl ?_
  obtain ⟨y69, hy69⟩ : ∃ y : Int, y = x11 + 1 := ⟨_, rfl⟩
  have g70 := g68 y69 hy69
  refine v_iinc (i := 8) (L' := [(11, vi y69), (8, vj y67), (10, vi s0), (0, vr 44), (1, vi x1), (2, vi x2), (3, vi x3), (4, vj x4), (7, vi x7), (12, vi x12)]) C dX12_parties_170 rfl (by decide) hy69 rfl ?_
  refine v_goto C dX12_parties_173 (tgt := 88) (by decide) ?_
  exact v_sub [3, 4, 5, 6, 7, 8, 1, 2, 0] rfl (hJ88 _ _ _ _ _ _ _ _ _ g70)
def VX12_parties_156 (E : FX) (l : Launch) (D : Nat) (post : Option AV → MM → Prop) (J67 : MM → Int → Int → Int → Int → Int → Prop) (J88 : MM → Int → Int → Int → Int → Int → Int → Int → Int → Prop) (J101 : MM → Int → Int → Int → Int → Int → Int → Int → Int → Int → Int → Prop) (M : MM) (x1 : Int) (x2 : Int) (x3 : Int) (x4 : Int) (x7 : Int) (x8 : Int) (x11 : Int) (x12 : Int) : Prop :=
  VX12_parties_157 E l D post J67 J88 J101 M x1 x2 x3 x4 x7 x8 x11 x12 0
set_option maxRecDepth 20000 in
theorem SX12_parties_156 {E : FX} {l : Launch} {D : Nat} {post : Option AV → MM → Prop} {z : RT} {J67 : MM → Int → Int → Int → Int → Int → Prop} {J88 : MM → Int → Int → Int → Int → Int → Int → Int → Int → Prop} {J101 : MM → Int → Int → Int → Int → Int → Int → Int → Int → Int → Int → Prop} (C : Cx E z D RX12 cX12_parties 14) (r : Rt E z (some .long) post) (hJ67 : ∀ (M : MM) (x1 : Int) (x2 : Int) (x3 : Int) (x4 : Int) (x6 : Int), J67 M x1 x2 x3 x4 x6 → Aj E l z 67 [(0, vr 44), (1, vi x1), (2, vi x2), (3, vi x3), (4, vj x4), (6, vi x6)] [] M) (hJ88 : ∀ (M : MM) (x1 : Int) (x2 : Int) (x3 : Int) (x4 : Int) (x7 : Int) (x8 : Int) (x10 : Int) (x11 : Int), J88 M x1 x2 x3 x4 x7 x8 x10 x11 → Aj E l z 88 [(0, vr 44), (1, vi x1), (2, vi x2), (3, vi x3), (4, vj x4), (7, vi x7), (8, vj x8), (10, vi x10), (11, vi x11)] [] M) (hJ101 : ∀ (M : MM) (x1 : Int) (x2 : Int) (x3 : Int) (x4 : Int) (x7 : Int) (x8 : Int) (x10 : Int) (x11 : Int) (x12 : Int) (x13 : Int), J101 M x1 x2 x3 x4 x7 x8 x10 x11 x12 x13 → Aj E l z 101 [(0, vr 44), (1, vi x1), (2, vi x2), (3, vi x3), (4, vj x4), (7, vi x7), (8, vj x8), (10, vi x10), (11, vi x11), (12, vi x12), (13, vi x13)] [] M) {M : MM} {x1 : Int} {x2 : Int} {x3 : Int} {x4 : Int} {x7 : Int} {x8 : Int} {x11 : Int} {x12 : Int} (h : VX12_parties_156 E l D post J67 J88 J101 M x1 x2 x3 x4 x7 x8 x11 x12) : Aj E l z 156 [(0, vr 44), (1, vi x1), (2, vi x2), (3, vi x3), (4, vj x4), (7, vi x7), (8, vj x8), (11, vi x11), (12, vi x12)] [] M := by
  unfold VX12_parties_156 at h
  refine v_iconst C dX12_parties_156 ?_
  exact v_sub [0, 1, 2, 3, 4, 5, 6, 7, 8] rfl (SX12_parties_157 C r hJ67 hJ88 hJ101 h)
def VX12_parties_101 (E : FX) (l : Launch) (D : Nat) (post : Option AV → MM → Prop) (J67 : MM → Int → Int → Int → Int → Int → Prop) (J88 : MM → Int → Int → Int → Int → Int → Int → Int → Int → Prop) (J101 : MM → Int → Int → Int → Int → Int → Int → Int → Int → Int → Int → Prop) (M : MM) (x1 : Int) (x2 : Int) (x3 : Int) (x4 : Int) (x7 : Int) (x8 : Int) (x10 : Int) (x11 : Int) (x12 : Int) (x13 : Int) : Prop :=
  R32 x13 ∧ (R32 x3 ∧ ((x3 ≤ x13 → R32 x10 ∧ ((x10 = 0 → VX12_parties_157 E l D post J67 J88 J101 M x1 x2 x3 x4 x7 x8 x11 x12 0) ∧ (¬ x10 = 0 → Con E l D qX12_ones [vi x12] M (fun r M75 => ∃ y76 : Int, r = some (vi y76) ∧ (R32 y76 ∧ (R32 x1 ∧ ((x1 < y76 → VX12_parties_157 E l D post J67 J88 J101 M75 x1 x2 x3 x4 x7 x8 x11 x12 0) ∧ (¬ x1 < y76 → VX12_parties_157 E l D post J67 J88 J101 M75 x1 x2 x3 x4 x7 x8 x11 x12 1)))))))) ∧ (¬ x3 ≤ x13 → 0 ≤ x13 ∧ (x13 < 8 ∧ (R32 (M 49 (x13).toNat) ∧ (R32 x11 ∧ ((¬ M 49 (x13).toNat = x11 → VX12_parties_129 E l D post J67 J88 J101 M x1 x2 x3 x4 x7 x8 x10 x11 x13 x12 0) ∧ (M 49 (x13).toNat = x11 → VX12_parties_129 E l D post J67 J88 J101 M x1 x2 x3 x4 x7 x8 x10 x11 x13 x12 (ishl 1 x13)))))))))
set_option maxRecDepth 20000 in
theorem SX12_parties_101 {E : FX} {l : Launch} {D : Nat} {post : Option AV → MM → Prop} {z : RT} {J67 : MM → Int → Int → Int → Int → Int → Prop} {J88 : MM → Int → Int → Int → Int → Int → Int → Int → Int → Prop} {J101 : MM → Int → Int → Int → Int → Int → Int → Int → Int → Int → Int → Prop} (C : Cx E z D RX12 cX12_parties 14) (r : Rt E z (some .long) post) (hJ67 : ∀ (M : MM) (x1 : Int) (x2 : Int) (x3 : Int) (x4 : Int) (x6 : Int), J67 M x1 x2 x3 x4 x6 → Aj E l z 67 [(0, vr 44), (1, vi x1), (2, vi x2), (3, vi x3), (4, vj x4), (6, vi x6)] [] M) (hJ88 : ∀ (M : MM) (x1 : Int) (x2 : Int) (x3 : Int) (x4 : Int) (x7 : Int) (x8 : Int) (x10 : Int) (x11 : Int), J88 M x1 x2 x3 x4 x7 x8 x10 x11 → Aj E l z 88 [(0, vr 44), (1, vi x1), (2, vi x2), (3, vi x3), (4, vj x4), (7, vi x7), (8, vj x8), (10, vi x10), (11, vi x11)] [] M) (hJ101 : ∀ (M : MM) (x1 : Int) (x2 : Int) (x3 : Int) (x4 : Int) (x7 : Int) (x8 : Int) (x10 : Int) (x11 : Int) (x12 : Int) (x13 : Int), J101 M x1 x2 x3 x4 x7 x8 x10 x11 x12 x13 → Aj E l z 101 [(0, vr 44), (1, vi x1), (2, vi x2), (3, vi x3), (4, vj x4), (7, vi x7), (8, vj x8), (10, vi x10), (11, vi x11), (12, vi x12), (13, vi x13)] [] M) {M : MM} {x1 : Int} {x2 : Int} {x3 : Int} {x4 : Int} {x7 : Int} {x8 : Int} {x10 : Int} {x11 : Int} {x12 : Int} {x13 : Int} (h : VX12_parties_101 E l D post J67 J88 J101 M x1 x2 x3 x4 x7 x8 x10 x11 x12 x13) : Aj E l z 101 [(0, vr 44), (1, vi x1), (2, vi x2), (3, vi x3), (4, vj x4), (7, vi x7), (8, vj x8), (10, vi x10), (11, vi x11), (12, vi x12), (13, vi x13)] [] M := by
  unfold VX12_parties_101 at h
  refine v_iload (i := 10) C dX12_parties_101 rfl ?_
  refine v_iload_n (i := 3) C dX12_parties_103 rfl rfl ?_
  refine v_icmp_ge (tgt := 138) C h.1 h.2.1 dX12_parties_104 (by decide) (fun c => ?_) (fun c => ?_)
  · have g71 := h.2.2.1 c
    refine v_iload (i := 7) C dX12_parties_138 rfl ?_
    refine v_if_eq (tgt := 156) C g71.1 dX12_parties_140 (by decide) (fun c => ?_) (fun c => ?_)
    · have g73 := g71.2.1 c
      refine v_iconst C dX12_parties_156 ?_
      exact v_sub [0, 1, 2, 3, 4, 5, 6, 8, 9] rfl (SX12_parties_157 C r hJ67 hJ88 hJ101 g73)
    · have g74 := g71.2.2 c
      refine v_iload (i := 9) C dX12_parties_143 rfl ?_
      refine v_callS (q := qX12_ones) (As := [vi x12]) (S := []) C co_yX12_ones ml_RX12_150 st_yX12_ones ini_RX12 hq_X12_ones (by decide) (Nat.le_of_ble_eq_true rfl) rfl dX12_parties_145 (Con.mono g74 (fun rr M75 hr => ?_) (Nat.le_refl _))
      obtain ⟨y76, rfl, g77⟩ := hr
      show Aj E l z (145 + 3) [(0, vr 44), (1, vi x1), (2, vi x2), (3, vi x3), (4, vj x4), (7, vi x7), (8, vj x8), (10, vi x10), (11, vi x11), (12, vi x12), (13, vi x13)] [vi y76] M75
      refine v_iload_n (i := 1) C dX12_parties_148 rfl rfl ?_
      refine v_icmp_gt (tgt := 156) C g77.1 g77.2.1 dX12_parties_149 (by decide) (fun c => ?_) (fun c => ?_)
      · have g78 := g77.2.2.1 c
        refine v_iconst C dX12_parties_156 ?_
        exact v_sub [0, 1, 2, 3, 4, 5, 6, 8, 9] rfl (SX12_parties_157 C r hJ67 hJ88 hJ101 g78)
      · have g79 := g77.2.2.2 c
        refine v_iconst C dX12_parties_152 ?_
        refine v_goto C dX12_parties_153 (tgt := 157) (by decide) ?_
        exact v_sub [0, 1, 2, 3, 4, 5, 6, 8, 9] rfl (SX12_parties_157 C r hJ67 hJ88 hJ101 g79)
  · have g72 := h.2.2.2 c
    refine v_iload (i := 9) C dX12_parties_107 rfl ?_
    refine v_aload_n (i := 0) C dX12_parties_109 rfl rfl ?_
    refine v_getf (k := 44) C fl_RX12_23 rfl rfl dX12_parties_110 ?_
    show Aj E l z (110 + 3) [(0, vr 44), (1, vi x1), (2, vi x2), (3, vi x3), (4, vj x4), (7, vi x7), (8, vj x8), (10, vi x10), (11, vi x11), (12, vi x12), (13, vi x13)] [vr 49, vi x12] M
    refine v_iload (i := 10) C dX12_parties_113 rfl ?_
    refine v_iald (k := 49) C rfl g72.1 g72.2.1 dX12_parties_115 ?_
    show Aj E l z (115 + 1) [(0, vr 44), (1, vi x1), (2, vi x2), (3, vi x3), (4, vj x4), (7, vi x7), (8, vj x8), (10, vi x10), (11, vi x11), (12, vi x12), (13, vi x13)] [vi (M 49 (x13).toNat), vi x12] M
    refine v_iload (i := 8) C dX12_parties_116 rfl ?_
    refine v_icmp_ne (tgt := 128) C g72.2.2.1 g72.2.2.2.1 dX12_parties_118 (by decide) (fun c => ?_) (fun c => ?_)
    · have g80 := g72.2.2.2.2.1 c
      refine v_iconst C dX12_parties_128 ?_
      exact v_sub [0, 1, 2, 3, 4, 5, 6, 7, 8, 10] rfl (SX12_parties_129 C r hJ67 hJ88 hJ101 g80)
    · have g81 := g72.2.2.2.2.2 c
      refine v_iconst C dX12_parties_121 ?_
      refine v_iload (i := 10) C dX12_parties_122 rfl ?_
      refine v_ishl C dX12_parties_124 ?_
      refine v_goto C dX12_parties_125 (tgt := 129) (by decide) ?_
      exact v_sub [0, 1, 2, 3, 4, 5, 6, 7, 8, 10] rfl (SX12_parties_129 C r hJ67 hJ88 hJ101 g81)
theorem RX12_parties {E : FX} {l : Launch} {D : Nat} {post : Option AV → MM → Prop} (I67 : MM → Int → Int → Int → Int → Int → Prop) (m67 : MM → Int → Int → Int → Int → Int → Nat) (I88 : MM → Int → Int → Int → Int → Int → Int → Int → Int → Prop) (m88 : MM → Int → Int → Int → Int → Int → Int → Int → Int → Nat) (I101 : MM → Int → Int → Int → Int → Int → Int → Int → Int → Int → Int → Prop) (m101 : MM → Int → Int → Int → Int → Int → Int → Int → Int → Int → Int → Nat) {M : MM} {x1 : Int} {x2 : Int} (h0 : VX12_parties_0 E l D post I67 I88 I101 M x1 x2) (h67I : ∀ (M : MM) (x1 : Int) (x2 : Int) (x3 : Int) (x4 : Int) (x6 : Int), I67 M x1 x2 x3 x4 x6 → VX12_parties_67 E l D post (fun M' x1' x2' x3' x4' x6' => I67 M' x1' x2' x3' x4' x6' ∧ m67 M' x1' x2' x3' x4' x6' < m67 M x1 x2 x3 x4 x6) (fun M' x1' x2' x3' x4' x7' x8' x10' x11' => I88 M' x1' x2' x3' x4' x7' x8' x10' x11' ∧ m88 M' x1' x2' x3' x4' x7' x8' x10' x11' < m67 M x1 x2 x3 x4 x6) (fun M' x1' x2' x3' x4' x7' x8' x10' x11' x12' x13' => I101 M' x1' x2' x3' x4' x7' x8' x10' x11' x12' x13' ∧ m101 M' x1' x2' x3' x4' x7' x8' x10' x11' x12' x13' < m67 M x1 x2 x3 x4 x6) M x1 x2 x3 x4 x6) (h88I : ∀ (M : MM) (x1 : Int) (x2 : Int) (x3 : Int) (x4 : Int) (x7 : Int) (x8 : Int) (x10 : Int) (x11 : Int), I88 M x1 x2 x3 x4 x7 x8 x10 x11 → VX12_parties_88 E l D post (fun M' x1' x2' x3' x4' x6' => I67 M' x1' x2' x3' x4' x6' ∧ m67 M' x1' x2' x3' x4' x6' < m88 M x1 x2 x3 x4 x7 x8 x10 x11) (fun M' x1' x2' x3' x4' x7' x8' x10' x11' => I88 M' x1' x2' x3' x4' x7' x8' x10' x11' ∧ m88 M' x1' x2' x3' x4' x7' x8' x10' x11' < m88 M x1 x2 x3 x4 x7 x8 x10 x11) (fun M' x1' x2' x3' x4' x7' x8' x10' x11' x12' x13' => I101 M' x1' x2' x3' x4' x7' x8' x10' x11' x12' x13' ∧ m101 M' x1' x2' x3' x4' x7' x8' x10' x11' x12' x13' < m88 M x1 x2 x3 x4 x7 x8 x10 x11) M x1 x2 x3 x4 x7 x8 x10 x11) (h101I : ∀ (M : MM) (x1 : Int) (x2 : Int) (x3 : Int) (x4 : Int) (x7 : Int) (x8 : Int) (x10 : Int) (x11 : Int) (x12 : Int) (x13 : Int), I101 M x1 x2 x3 x4 x7 x8 x10 x11 x12 x13 → VX12_parties_101 E l D post (fun M' x1' x2' x3' x4' x6' => I67 M' x1' x2' x3' x4' x6' ∧ m67 M' x1' x2' x3' x4' x6' < m101 M x1 x2 x3 x4 x7 x8 x10 x11 x12 x13) (fun M' x1' x2' x3' x4' x7' x8' x10' x11' => I88 M' x1' x2' x3' x4' x7' x8' x10' x11' ∧ m88 M' x1' x2' x3' x4' x7' x8' x10' x11' < m101 M x1 x2 x3 x4 x7 x8 x10 x11 x12 x13) (fun M' x1' x2' x3' x4' x7' x8' x10' x11' x12' x13' => I101 M' x1' x2' x3' x4' x7' x8' x10' x11' x12' x13' ∧ m101 M' x1' x2' x3' x4' x7' x8' x10' x11' x12' x13' < m101 M x1 x2 x3 x4 x7 x8 x10 x11 x12 x13) M x1 x2 x3 x4 x7 x8 x10 x11 x12 x13) : Con E l (D + 1) qX12_parties [vr 44, vi x1, vi x2] M post := by
  refine con_of (by decide +kernel) (Nat.le_of_ble_eq_true rfl) (fun z C r => ?_)
  have all : ∀ n : Nat, (∀ (M : MM) (x1 : Int) (x2 : Int) (x3 : Int) (x4 : Int) (x6 : Int), I67 M x1 x2 x3 x4 x6 → m67 M x1 x2 x3 x4 x6 < n → Aj E l z 67 [(0, vr 44), (1, vi x1), (2, vi x2), (3, vi x3), (4, vj x4), (6, vi x6)] [] M) ∧ (∀ (M : MM) (x1 : Int) (x2 : Int) (x3 : Int) (x4 : Int) (x7 : Int) (x8 : Int) (x10 : Int) (x11 : Int), I88 M x1 x2 x3 x4 x7 x8 x10 x11 → m88 M x1 x2 x3 x4 x7 x8 x10 x11 < n → Aj E l z 88 [(0, vr 44), (1, vi x1), (2, vi x2), (3, vi x3), (4, vj x4), (7, vi x7), (8, vj x8), (10, vi x10), (11, vi x11)] [] M) ∧ (∀ (M : MM) (x1 : Int) (x2 : Int) (x3 : Int) (x4 : Int) (x7 : Int) (x8 : Int) (x10 : Int) (x11 : Int) (x12 : Int) (x13 : Int), I101 M x1 x2 x3 x4 x7 x8 x10 x11 x12 x13 → m101 M x1 x2 x3 x4 x7 x8 x10 x11 x12 x13 < n → Aj E l z 101 [(0, vr 44), (1, vi x1), (2, vi x2), (3, vi x3), (4, vj x4), (7, vi x7), (8, vj x8), (10, vi x10), (11, vi x11), (12, vi x12), (13, vi x13)] [] M) := by
    intro n
    induction n with
    | zero => exact ⟨fun _ _ _ _ _ _ _ hm => absurd hm (Nat.not_lt_zero _), fun _ _ _ _ _ _ _ _ _ _ hm => absurd hm (Nat.not_lt_zero _), fun _ _ _ _ _ _ _ _ _ _ _ _ hm => absurd hm (Nat.not_lt_zero _)⟩
    | succ n ih => exact ⟨fun M x1 x2 x3 x4 x6 hi hm => SX12_parties_67 C r (fun M' x1' x2' x3' x4' x6' hj => ih.1 M' x1' x2' x3' x4' x6' hj.1 (by omega)) (fun M' x1' x2' x3' x4' x7' x8' x10' x11' hj => ih.2.1 M' x1' x2' x3' x4' x7' x8' x10' x11' hj.1 (by omega)) (fun M' x1' x2' x3' x4' x7' x8' x10' x11' x12' x13' hj => ih.2.2 M' x1' x2' x3' x4' x7' x8' x10' x11' x12' x13' hj.1 (by omega)) (h67I M x1 x2 x3 x4 x6 hi), fun M x1 x2 x3 x4 x7 x8 x10 x11 hi hm => SX12_parties_88 C r (fun M' x1' x2' x3' x4' x6' hj => ih.1 M' x1' x2' x3' x4' x6' hj.1 (by omega)) (fun M' x1' x2' x3' x4' x7' x8' x10' x11' hj => ih.2.1 M' x1' x2' x3' x4' x7' x8' x10' x11' hj.1 (by omega)) (fun M' x1' x2' x3' x4' x7' x8' x10' x11' x12' x13' hj => ih.2.2 M' x1' x2' x3' x4' x7' x8' x10' x11' x12' x13' hj.1 (by omega)) (h88I M x1 x2 x3 x4 x7 x8 x10 x11 hi), fun M x1 x2 x3 x4 x7 x8 x10 x11 x12 x13 hi hm => SX12_parties_101 C r (fun M' x1' x2' x3' x4' x6' hj => ih.1 M' x1' x2' x3' x4' x6' hj.1 (by omega)) (fun M' x1' x2' x3' x4' x7' x8' x10' x11' hj => ih.2.1 M' x1' x2' x3' x4' x7' x8' x10' x11' hj.1 (by omega)) (fun M' x1' x2' x3' x4' x7' x8' x10' x11' x12' x13' hj => ih.2.2 M' x1' x2' x3' x4' x7' x8' x10' x11' x12' x13' hj.1 (by omega)) (h101I M x1 x2 x3 x4 x7 x8 x10 x11 x12 x13 hi)⟩
  exact v_sub [0, 1, 2] rfl (SX12_parties_0 C r (fun M' x1' x2' x3' x4' x6' hj => (all _).1 M' x1' x2' x3' x4' x6' hj (Nat.lt_succ_self _)) (fun M' x1' x2' x3' x4' x7' x8' x10' x11' hj => (all _).2.1 M' x1' x2' x3' x4' x7' x8' x10' x11' hj (Nat.lt_succ_self _)) (fun M' x1' x2' x3' x4' x7' x8' x10' x11' x12' x13' hj => (all _).2.2 M' x1' x2' x3' x4' x7' x8' x10' x11' x12' x13' hj (Nat.lt_succ_self _)) h0)
def VX12_third_0 (E : FX) (l : Launch) (D : Nat) (post : Option AV → MM → Prop) (J19 : MM → Int → Int → Int → Int → Prop) (M : MM) (x1 : Int) : Prop :=
  R32 x1 ∧ (Con E l D qX12_in [vj x1, vj 0, vj 1] M (fun r M1 => ∃ y2 : Int, r = some (vi y2) ∧ (R32 y2 ∧ ((¬ y2 = 0 → J19 M1 x1 0 0 1) ∧ (y2 = 0 → post (some (vi (-1))) M1)))))
set_option maxRecDepth 20000 in
theorem SX12_third_0 {E : FX} {l : Launch} {D : Nat} {post : Option AV → MM → Prop} {z : RT} {J19 : MM → Int → Int → Int → Int → Prop} (C : Cx E z D RX12 cX12_third 6) (r : Rt E z (some .int) post) (hJ19 : ∀ (M : MM) (x1 : Int) (x2 : Int) (x3 : Int) (x4 : Int), J19 M x1 x2 x3 x4 → Aj E l z 19 [(0, vr 44), (1, vi x1), (2, vi x2), (3, vi x3), (4, vi x4)] [] M) {M : MM} {x1 : Int} (h : VX12_third_0 E l D post J19 M x1) : Aj E l z 0 [(0, vr 44), (1, vi x1)] [] M := by
  unfold VX12_third_0 at h
  refine v_iload_n (i := 1) C dX12_third_0 rfl rfl ?_
  refine v_i2l C h.1 dX12_third_1 ?_
  refine v_lconst (x := 0) C dX12_third_2 (by decide) ?_
  refine v_lconst (x := 1) C dX12_third_3 (by decide) ?_
  refine v_callS (q := qX12_in) (As := [vj x1, vj 0, vj 1]) (S := []) C co_yX12_in ml_RX12_71 st_yX12_in ini_RX12 hq_X12_in (by decide) (Nat.le_of_ble_eq_true rfl) rfl dX12_third_4 (Con.mono h.2 (fun rr M1 hr => ?_) (Nat.le_refl _))
  obtain ⟨y2, rfl, g3⟩ := hr
  show Aj E l z (4 + 3) [(0, vr 44), (1, vi x1)] [vi y2] M1
  refine v_if_ne (tgt := 12) C g3.1 dX12_third_7 (by decide) (fun c => ?_) (fun c => ?_)
  · have g4 := g3.2.1 c
    refine v_iconst C dX12_third_12 ?_
    refine v_istore_n (L' := [(2, vi 0), (0, vr 44), (1, vi x1)]) C dX12_third_13 rfl (by decide) rfl ?_
    refine v_iconst C dX12_third_14 ?_
    refine v_istore_n (L' := [(3, vi 0), (2, vi 0), (0, vr 44), (1, vi x1)]) C dX12_third_15 rfl (by decide) rfl ?_
    refine v_iconst C dX12_third_16 ?_
    refine v_istore (L' := [(4, vi 1), (3, vi 0), (2, vi 0), (0, vr 44), (1, vi x1)]) C dX12_third_17 (by decide) rfl ?_
    exact v_sub [3, 4, 2, 1, 0] rfl (hJ19 _ _ _ _ _ g4)
  · have g5 := g3.2.2 c
    refine v_iconst C dX12_third_10 ?_
    exact v_iret C r dX12_third_11 g5
def VX12_third_74 (E : FX) (l : Launch) (D : Nat) (post : Option AV → MM → Prop) (J19 : MM → Int → Int → Int → Int → Prop) (M : MM) (s0 : Int) : Prop :=
  post (some (vi s0)) M
set_option maxRecDepth 20000 in
theorem SX12_third_74 {E : FX} {l : Launch} {D : Nat} {post : Option AV → MM → Prop} {z : RT} {J19 : MM → Int → Int → Int → Int → Prop} (C : Cx E z D RX12 cX12_third 6) (r : Rt E z (some .int) post) (hJ19 : ∀ (M : MM) (x1 : Int) (x2 : Int) (x3 : Int) (x4 : Int), J19 M x1 x2 x3 x4 → Aj E l z 19 [(0, vr 44), (1, vi x1), (2, vi x2), (3, vi x3), (4, vi x4)] [] M) {M : MM} {s0 : Int} (h : VX12_third_74 E l D post J19 M s0) : Aj E l z 74 [] [vi s0] M := by
  unfold VX12_third_74 at h
  exact v_iret C r dX12_third_74 h
def VX12_third_59 (E : FX) (l : Launch) (D : Nat) (post : Option AV → MM → Prop) (J19 : MM → Int → Int → Int → Int → Prop) (M : MM) (x1 : Int) (x2 : Int) (x3 : Int) (x4 : Int) : Prop :=
  ∀ y6 : Int, y6 = x4 + 1 → (J19 M x1 x2 x3 y6)
set_option maxRecDepth 20000 in
theorem SX12_third_59 {E : FX} {l : Launch} {D : Nat} {post : Option AV → MM → Prop} {z : RT} {J19 : MM → Int → Int → Int → Int → Prop} (C : Cx E z D RX12 cX12_third 6) (r : Rt E z (some .int) post) (hJ19 : ∀ (M : MM) (x1 : Int) (x2 : Int) (x3 : Int) (x4 : Int), J19 M x1 x2 x3 x4 → Aj E l z 19 [(0, vr 44), (1, vi x1), (2, vi x2), (3, vi x3), (4, vi x4)] [] M) {M : MM} {x1 : Int} {x2 : Int} {x3 : Int} {x4 : Int} (h : VX12_third_59 E l D post J19 M x1 x2 x3 x4) : Aj E l z 59 [(0, vr 44), (1, vi x1), (2, vi x2), (3, vi x3), (4, vi x4)] [] M := by
  unfold VX12_third_59 at h
  obtain ⟨y6, hy6⟩ : ∃ y : Int, y = x4 + 1 := ⟨_, rfl⟩
  have g7 := h y6 hy6
  refine v_iinc (i := 4) (L' := [(4, vi y6), (0, vr 44), (1, vi x1), (2, vi x2), (3, vi x3)]) C dX12_third_59 rfl (by decide) hy6 rfl ?_
  refine v_goto C dX12_third_62 (tgt := 19) (by decide) ?_
  exact v_sub [1, 2, 3, 4, 0] rfl (hJ19 _ _ _ _ _ g7)
def VX12_third_53 (E : FX) (l : Launch) (D : Nat) (post : Option AV → MM → Prop) (J19 : MM → Int → Int → Int → Int → Prop) (M : MM) (x1 : Int) (x4 : Int) (x5 : Int) : Prop :=
  VX12_third_59 E l D post J19 M x1 x4 x5 x4
set_option maxRecDepth 20000 in
theorem SX12_third_53 {E : FX} {l : Launch} {D : Nat} {post : Option AV → MM → Prop} {z : RT} {J19 : MM → Int → Int → Int → Int → Prop} (C : Cx E z D RX12 cX12_third 6) (r : Rt E z (some .int) post) (hJ19 : ∀ (M : MM) (x1 : Int) (x2 : Int) (x3 : Int) (x4 : Int), J19 M x1 x2 x3 x4 → Aj E l z 19 [(0, vr 44), (1, vi x1), (2, vi x2), (3, vi x3), (4, vi x4)] [] M) {M : MM} {x1 : Int} {x4 : Int} {x5 : Int} (h : VX12_third_53 E l D post J19 M x1 x4 x5) : Aj E l z 53 [(0, vr 44), (1, vi x1), (4, vi x4), (5, vi x5)] [] M := by
  unfold VX12_third_53 at h
  refine v_iload (i := 2) C dX12_third_53 rfl ?_
  refine v_istore_n (L' := [(2, vi x4), (0, vr 44), (1, vi x1), (4, vi x4), (5, vi x5)]) C dX12_third_55 rfl (by decide) rfl ?_
  refine v_iload (i := 4) C dX12_third_56 rfl ?_
  refine v_istore_n (L' := [(3, vi x5), (2, vi x4), (0, vr 44), (1, vi x1), (4, vi x4), (5, vi x5)]) C dX12_third_58 rfl (by decide) rfl ?_
  exact v_sub [2, 3, 1, 0, 4] rfl (SX12_third_59 C r hJ19 h)
def VX12_third_19 (E : FX) (l : Launch) (D : Nat) (post : Option AV → MM → Prop) (J19 : MM → Int → Int → Int → Int → Prop) (M : MM) (x1 : Int) (x2 : Int) (x3 : Int) (x4 : Int) : Prop :=
  R32 x4 ∧ ((100 ≤ x4 → R32 x1 ∧ ((¬ x1 = 0 → VX12_third_74 E l D post J19 M x3) ∧ (x1 = 0 → VX12_third_74 E l D post J19 M x2))) ∧ (¬ 100 ≤ x4 → Con E l D qX12_lay [vr 44, vi 7, vi 1, vi x4] M (fun r M12 => r = none ∧ (Con E l D qX12_wasteOf [vr 44] M12 (fun r M14 => ∃ y15 : Int, r = some (vi y15) ∧ (R32 x4 ∧ ((x4 = 1 → VX12_third_59 E l D post J19 M14 x1 x4 y15 x4) ∧ (¬ x4 = 1 → R32 y15 ∧ (R32 x3 ∧ ((x3 ≤ y15 → ∀ y21 : Int, y21 = x4 + 1 → (J19 M14 x1 x2 x3 y21)) ∧ (¬ x3 ≤ y15 → VX12_third_59 E l D post J19 M14 x1 x4 y15 x4)))))))))))
set_option maxRecDepth 20000 in
theorem SX12_third_19 {E : FX} {l : Launch} {D : Nat} {post : Option AV → MM → Prop} {z : RT} {J19 : MM → Int → Int → Int → Int → Prop} (C : Cx E z D RX12 cX12_third 6) (r : Rt E z (some .int) post) (hJ19 : ∀ (M : MM) (x1 : Int) (x2 : Int) (x3 : Int) (x4 : Int), J19 M x1 x2 x3 x4 → Aj E l z 19 [(0, vr 44), (1, vi x1), (2, vi x2), (3, vi x3), (4, vi x4)] [] M) {M : MM} {x1 : Int} {x2 : Int} {x3 : Int} {x4 : Int} (h : VX12_third_19 E l D post J19 M x1 x2 x3 x4) : Aj E l z 19 [(0, vr 44), (1, vi x1), (2, vi x2), (3, vi x3), (4, vi x4)] [] M := by
  unfold VX12_third_19 at h
  refine v_iload (i := 4) C dX12_third_19 rfl ?_
  refine v_bipush C dX12_third_21 (by decide) ?_
  refine v_icmp_ge (tgt := 65) C h.1 (by decide) dX12_third_23 (by decide) (fun c => ?_) (fun c => ?_)
  · have g8 := h.2.1 c
    refine v_iload_n (i := 1) C dX12_third_65 rfl rfl ?_
    refine v_if_ne (tgt := 73) C g8.1 dX12_third_66 (by decide) (fun c => ?_) (fun c => ?_)
    · have g10 := g8.2.1 c
      refine v_iload_n (i := 3) C dX12_third_73 rfl rfl ?_
      exact v_sub [] rfl (SX12_third_74 C r hJ19 g10)
    · have g11 := g8.2.2 c
      refine v_iload_n (i := 2) C dX12_third_69 rfl rfl ?_
      refine v_goto C dX12_third_70 (tgt := 74) (by decide) ?_
      exact v_sub [] rfl (SX12_third_74 C r hJ19 g11)
  · have g9 := h.2.2 c
    refine v_aload_n (i := 0) C dX12_third_26 rfl rfl ?_
    refine v_bipush C dX12_third_27 (by decide) ?_
    refine v_iconst C dX12_third_29 ?_
    refine v_iload (i := 4) C dX12_third_30 rfl ?_
    refine v_callV (q := qX12_lay) (k := 44) (As := [vi 7, vi 1, vi x4]) (S := []) C co_yX12_lay ml_RX12_59 im_yX12_lay se_yX12_lay ini_RX12 rfl rfl hq_X12_lay (by decide) (Nat.le_of_ble_eq_true rfl) rfl dX12_third_32 (Con.mono g9 (fun rr M12 hr => ?_) (Nat.le_refl _))
    obtain ⟨rfl, g13⟩ := hr
    show Aj E l z (32 + 3) [(0, vr 44), (1, vi x1), (2, vi x2), (3, vi x3), (4, vi x4)] [] M12
    refine v_aload_n (i := 0) C dX12_third_35 rfl rfl ?_
    refine v_callV (q := qX12_wasteOf) (k := 44) (As := []) (S := []) C co_yX12_wasteOf ml_RX12_160 im_yX12_wasteOf se_yX12_wasteOf ini_RX12 rfl rfl hq_X12_wasteOf (by decide) (Nat.le_of_ble_eq_true rfl) rfl dX12_third_36 (Con.mono g13 (fun rr M14 hr => ?_) (Nat.le_refl _))
    obtain ⟨y15, rfl, g16⟩ := hr
    show Aj E l z (36 + 3) [(0, vr 44), (1, vi x1), (2, vi x2), (3, vi x3), (4, vi x4)] [vi y15] M14
    refine v_istore (L' := [(5, vi y15), (0, vr 44), (1, vi x1), (2, vi x2), (3, vi x3), (4, vi x4)]) C dX12_third_39 (by decide) rfl ?_
    refine v_iload (i := 5) C dX12_third_41 rfl ?_
    refine v_iconst C dX12_third_43 ?_
    refine v_icmp_eq (tgt := 53) C g16.1 (by decide) dX12_third_44 (by decide) (fun c => ?_) (fun c => ?_)
    · have g17 := g16.2.1 c
      refine v_iload (i := 5) C dX12_third_53 rfl ?_
      refine v_istore_n (L' := [(2, vi x4), (5, vi y15), (0, vr 44), (1, vi x1), (3, vi x3), (4, vi x4)]) C dX12_third_55 rfl (by decide) rfl ?_
      refine v_iload (i := 1) C dX12_third_56 rfl ?_
      refine v_istore_n (L' := [(3, vi y15), (2, vi x4), (5, vi y15), (0, vr 44), (1, vi x1), (4, vi x4)]) C dX12_third_58 rfl (by decide) rfl ?_
      exact v_sub [3, 4, 1, 0, 5] rfl (SX12_third_59 C r hJ19 g17)
    · have g18 := g16.2.2 c
      refine v_iload (i := 0) C dX12_third_47 rfl ?_
      refine v_iload_n (i := 4) C dX12_third_49 rfl rfl ?_
      refine v_icmp_ge (tgt := 59) C g18.1 g18.2.1 dX12_third_50 (by decide) (fun c => ?_) (fun c => ?_)
      · have g19 := g18.2.2.1 c
        obtain ⟨y21, hy21⟩ : ∃ y : Int, y = x4 + 1 := ⟨_, rfl⟩
        have g22 := g19 y21 hy21
        refine v_iinc (i := 5) (L' := [(4, vi y21), (5, vi y15), (0, vr 44), (1, vi x1), (2, vi x2), (3, vi x3)]) C dX12_third_59 rfl (by decide) hy21 rfl ?_
        refine v_goto C dX12_third_62 (tgt := 19) (by decide) ?_
        exact v_sub [2, 3, 4, 5, 0] rfl (hJ19 _ _ _ _ _ g22)
      · have g20 := g18.2.2.2 c
        refine v_iload (i := 5) C dX12_third_53 rfl ?_
        refine v_istore_n (L' := [(2, vi x4), (5, vi y15), (0, vr 44), (1, vi x1), (3, vi x3), (4, vi x4)]) C dX12_third_55 rfl (by decide) rfl ?_
        refine v_iload (i := 1) C dX12_third_56 rfl ?_
        refine v_istore_n (L' := [(3, vi y15), (2, vi x4), (5, vi y15), (0, vr 44), (1, vi x1), (4, vi x4)]) C dX12_third_58 rfl (by decide) rfl ?_
        exact v_sub [3, 4, 1, 0, 5] rfl (SX12_third_59 C r hJ19 g20)
theorem RX12_third {E : FX} {l : Launch} {D : Nat} {post : Option AV → MM → Prop} (I19 : MM → Int → Int → Int → Int → Prop) (m19 : MM → Int → Int → Int → Int → Nat) {M : MM} {x1 : Int} (h0 : VX12_third_0 E l D post I19 M x1) (h19I : ∀ (M : MM) (x1 : Int) (x2 : Int) (x3 : Int) (x4 : Int), I19 M x1 x2 x3 x4 → VX12_third_19 E l D post (fun M' x1' x2' x3' x4' => I19 M' x1' x2' x3' x4' ∧ m19 M' x1' x2' x3' x4' < m19 M x1 x2 x3 x4) M x1 x2 x3 x4) : Con E l (D + 1) qX12_third [vr 44, vi x1] M post := by
  refine con_of (by decide +kernel) (Nat.le_of_ble_eq_true rfl) (fun z C r => ?_)
  have all : ∀ n : Nat, (∀ (M : MM) (x1 : Int) (x2 : Int) (x3 : Int) (x4 : Int), I19 M x1 x2 x3 x4 → m19 M x1 x2 x3 x4 < n → Aj E l z 19 [(0, vr 44), (1, vi x1), (2, vi x2), (3, vi x3), (4, vi x4)] [] M) := by
    intro n
    induction n with
    | zero => exact fun _ _ _ _ _ _ hm => absurd hm (Nat.not_lt_zero _)
    | succ n ih => exact fun M x1 x2 x3 x4 hi hm => SX12_third_19 C r (fun M' x1' x2' x3' x4' hj => ih M' x1' x2' x3' x4' hj.1 (by omega)) (h19I M x1 x2 x3 x4 hi)
  exact v_sub [0, 1] rfl (SX12_third_0 C r (fun M' x1' x2' x3' x4' hj => (all _) M' x1' x2' x3' x4' hj (Nat.lt_succ_self _)) h0)
def VX12_worn_36 (E : FX) (l : Launch) (D : Nat) (post : Option AV → MM → Prop) (J41 : MM → Int → Int → Int → Int → Prop) (M : MM) : Prop :=
  post (some (vi (-1))) M
set_option maxRecDepth 20000 in
theorem SX12_worn_36 {E : FX} {l : Launch} {D : Nat} {post : Option AV → MM → Prop} {z : RT} {J41 : MM → Int → Int → Int → Int → Prop} (C : Cx E z D RX12 cX12_worn 6) (r : Rt E z (some .int) post) (hJ41 : ∀ (M : MM) (x1 : Int) (x2 : Int) (x3 : Int) (x4 : Int), J41 M x1 x2 x3 x4 → Aj E l z 41 [(1, vi x1), (2, vi x2), (3, vi x3), (4, vi x4)] [] M) {M : MM} (h : VX12_worn_36 E l D post J41 M) : Aj E l z 36 [] [] M := by
  unfold VX12_worn_36 at h
  refine v_iconst C dX12_worn_36 ?_
  exact v_iret C r dX12_worn_37 h
def VX12_worn_0 (E : FX) (l : Launch) (D : Nat) (post : Option AV → MM → Prop) (J41 : MM → Int → Int → Int → Int → Prop) (M : MM) (x1 : Int) : Prop :=
  ∀ y1 : Int, y1 = M 45 0 → (∀ y3 : Int, y3 = M 45 1 → (R32 x1 ∧ (Con E l D qX12_in [vj x1, vj 0, vj 9] M (fun r M5 => ∃ y6 : Int, r = some (vi y6) ∧ (R32 y6 ∧ ((y6 = 0 → post (some (vi (-1))) M5) ∧ (¬ y6 = 0 → R32 x1 ∧ (R32 y1 ∧ ((y1 ≤ x1 → post (some (vi (-1))) M5) ∧ (¬ y1 ≤ x1 → R32 x1 ∧ (R32 y3 ∧ ((x1 < y3 → J41 M5 x1 y1 y3 1) ∧ (¬ x1 < y3 → post (some (vi (-1))) M5)))))))))))))
set_option maxRecDepth 20000 in
theorem SX12_worn_0 {E : FX} {l : Launch} {D : Nat} {post : Option AV → MM → Prop} {z : RT} {J41 : MM → Int → Int → Int → Int → Prop} (C : Cx E z D RX12 cX12_worn 6) (r : Rt E z (some .int) post) (hJ41 : ∀ (M : MM) (x1 : Int) (x2 : Int) (x3 : Int) (x4 : Int), J41 M x1 x2 x3 x4 → Aj E l z 41 [(1, vi x1), (2, vi x2), (3, vi x3), (4, vi x4)] [] M) {M : MM} {x1 : Int} (h : VX12_worn_0 E l D post J41 M x1) : Aj E l z 0 [(0, vr 44), (1, vi x1)] [] M := by
  unfold VX12_worn_0 at h
  refine v_aload_n (i := 0) C dX12_worn_0 rfl rfl ?_
  refine v_getf (k := 44) C fl_RX12_7 rfl rfl dX12_worn_1 ?_
  show Aj E l z (1 + 3) [(0, vr 44), (1, vi x1)] [vr 45] M
  refine v_iconst C dX12_worn_4 ?_
  refine v_iald (k := 45) C rfl (by decide) (by decide) dX12_worn_5 ?_
  show Aj E l z (5 + 1) [(0, vr 44), (1, vi x1)] [vi (M 45 0)] M
  obtain ⟨y1, hy1⟩ : ∃ y : Int, y = M 45 0 := ⟨_, rfl⟩
  have g2 := h y1 hy1
  refine v_eqi hy1 ?_
  refine v_istore_n (L' := [(2, vi y1), (0, vr 44), (1, vi x1)]) C dX12_worn_6 rfl (by decide) rfl ?_
  refine v_aload_n (i := 1) C dX12_worn_7 rfl rfl ?_
  refine v_getf (k := 44) C fl_RX12_7 rfl rfl dX12_worn_8 ?_
  show Aj E l z (8 + 3) [(2, vi y1), (0, vr 44), (1, vi x1)] [vr 45] M
  refine v_iconst C dX12_worn_11 ?_
  refine v_iald (k := 45) C rfl (by decide) (by decide) dX12_worn_12 ?_
  show Aj E l z (12 + 1) [(2, vi y1), (0, vr 44), (1, vi x1)] [vi (M 45 1)] M
  obtain ⟨y3, hy3⟩ : ∃ y : Int, y = M 45 1 := ⟨_, rfl⟩
  have g4 := g2 y3 hy3
  refine v_eqi hy3 ?_
  refine v_istore_n (L' := [(3, vi y3), (2, vi y1), (0, vr 44), (1, vi x1)]) C dX12_worn_13 rfl (by decide) rfl ?_
  refine v_iload_n (i := 3) C dX12_worn_14 rfl rfl ?_
  refine v_i2l C g4.1 dX12_worn_15 ?_
  refine v_lconst (x := 0) C dX12_worn_16 (by decide) ?_
  refine v_ldc2 (x := 9) C cs_RX12_192 (by decide) dX12_worn_17 ?_
  refine v_callS (q := qX12_in) (As := [vj x1, vj 0, vj 9]) (S := []) C co_yX12_in ml_RX12_71 st_yX12_in ini_RX12 hq_X12_in (by decide) (Nat.le_of_ble_eq_true rfl) rfl dX12_worn_20 (Con.mono g4.2 (fun rr M5 hr => ?_) (Nat.le_refl _))
  obtain ⟨y6, rfl, g7⟩ := hr
  show Aj E l z (20 + 3) [(3, vi y3), (2, vi y1), (0, vr 44), (1, vi x1)] [vi y6] M5
  refine v_if_eq (tgt := 36) C g7.1 dX12_worn_23 (by decide) (fun c => ?_) (fun c => ?_)
  · have g8 := g7.2.1 c
    refine v_iconst C dX12_worn_36 ?_
    exact v_iret C r dX12_worn_37 g8
  · have g9 := g7.2.2 c
    refine v_iload_n (i := 3) C dX12_worn_26 rfl rfl ?_
    refine v_iload_n (i := 1) C dX12_worn_27 rfl rfl ?_
    refine v_icmp_ge (tgt := 36) C g9.1 g9.2.1 dX12_worn_28 (by decide) (fun c => ?_) (fun c => ?_)
    · have g10 := g9.2.2.1 c
      refine v_iconst C dX12_worn_36 ?_
      exact v_iret C r dX12_worn_37 g10
    · have g11 := g9.2.2.2 c
      refine v_iload_n (i := 3) C dX12_worn_31 rfl rfl ?_
      refine v_iload_n (i := 0) C dX12_worn_32 rfl rfl ?_
      refine v_icmp_lt (tgt := 38) C g11.1 g11.2.1 dX12_worn_33 (by decide) (fun c => ?_) (fun c => ?_)
      · have g12 := g11.2.2.1 c
        refine v_iconst C dX12_worn_38 ?_
        refine v_istore (L' := [(4, vi 1), (3, vi y3), (2, vi y1), (0, vr 44), (1, vi x1)]) C dX12_worn_39 (by decide) rfl ?_
        exact v_sub [4, 2, 1, 0] rfl (hJ41 _ _ _ _ _ g12)
      · have g13 := g11.2.2.2 c
        refine v_iconst C dX12_worn_36 ?_
        exact v_iret C r dX12_worn_37 g13
def VX12_worn_80 (E : FX) (l : Launch) (D : Nat) (post : Option AV → MM → Prop) (J41 : MM → Int → Int → Int → Int → Prop) (M : MM) (x1 : Int) (x2 : Int) (x3 : Int) (x4 : Int) : Prop :=
  ∀ y14 : Int, y14 = x4 + 1 → (J41 M x1 x2 x3 y14)
set_option maxRecDepth 20000 in
theorem SX12_worn_80 {E : FX} {l : Launch} {D : Nat} {post : Option AV → MM → Prop} {z : RT} {J41 : MM → Int → Int → Int → Int → Prop} (C : Cx E z D RX12 cX12_worn 6) (r : Rt E z (some .int) post) (hJ41 : ∀ (M : MM) (x1 : Int) (x2 : Int) (x3 : Int) (x4 : Int), J41 M x1 x2 x3 x4 → Aj E l z 41 [(1, vi x1), (2, vi x2), (3, vi x3), (4, vi x4)] [] M) {M : MM} {x1 : Int} {x2 : Int} {x3 : Int} {x4 : Int} (h : VX12_worn_80 E l D post J41 M x1 x2 x3 x4) : Aj E l z 80 [(1, vi x1), (2, vi x2), (3, vi x3), (4, vi x4)] [] M := by
  unfold VX12_worn_80 at h
  obtain ⟨y14, hy14⟩ : ∃ y : Int, y = x4 + 1 := ⟨_, rfl⟩
  have g15 := h y14 hy14
  refine v_iinc (i := 3) (L' := [(4, vi y14), (1, vi x1), (2, vi x2), (3, vi x3)]) C dX12_worn_80 rfl (by decide) hy14 rfl ?_
  refine v_goto C dX12_worn_83 (tgt := 41) (by decide) ?_
  exact v_sub [1, 2, 3, 0] rfl (hJ41 _ _ _ _ _ g15)
def VX12_worn_41 (E : FX) (l : Launch) (D : Nat) (post : Option AV → MM → Prop) (J41 : MM → Int → Int → Int → Int → Prop) (M : MM) (x1 : Int) (x2 : Int) (x3 : Int) (x4 : Int) : Prop :=
  R32 x4 ∧ ((10000 ≤ x4 → post (some (vi (-4))) M) ∧ (¬ 10000 ≤ x4 → R32 (x4 * x2) ∧ (R32 (x3 - x1) ∧ (0 < x3 - x1 ∧ (∀ y18 : Int, y18 = Int.tdiv (x4 * x2) (x3 - x1) → (R32 y18 ∧ ((y18 ≤ 0 → ∀ y22 : Int, y22 = x4 + 1 → (J41 M x1 x2 x3 y22)) ∧ (¬ y18 ≤ 0 → R32 (y18 * x3) ∧ (R32 (x4 * (x2 - x1)) ∧ ((y18 * x3 < x4 * (x2 - x1) → ∀ y26 : Int, y26 = x4 + 1 → (J41 M x1 x2 x3 y26)) ∧ (¬ y18 * x3 < x4 * (x2 - x1) → post (some (vi x4)) M)))))))))))
set_option maxRecDepth 20000 in
theorem SX12_worn_41 {E : FX} {l : Launch} {D : Nat} {post : Option AV → MM → Prop} {z : RT} {J41 : MM → Int → Int → Int → Int → Prop} (C : Cx E z D RX12 cX12_worn 6) (r : Rt E z (some .int) post) (hJ41 : ∀ (M : MM) (x1 : Int) (x2 : Int) (x3 : Int) (x4 : Int), J41 M x1 x2 x3 x4 → Aj E l z 41 [(1, vi x1), (2, vi x2), (3, vi x3), (4, vi x4)] [] M) {M : MM} {x1 : Int} {x2 : Int} {x3 : Int} {x4 : Int} (h : VX12_worn_41 E l D post J41 M x1 x2 x3 x4) : Aj E l z 41 [(1, vi x1), (2, vi x2), (3, vi x3), (4, vi x4)] [] M := by
  unfold VX12_worn_41 at h
  refine v_iload (i := 3) C dX12_worn_41 rfl ?_
  refine v_sipush C dX12_worn_43 (by decide) ?_
  refine v_icmp_ge (tgt := 86) C h.1 (by decide) dX12_worn_46 (by decide) (fun c => ?_) (fun c => ?_)
  · have g16 := h.2.1 c
    refine v_bipush C dX12_worn_86 (by decide) ?_
    exact v_iret C r dX12_worn_88 g16
  · have g17 := h.2.2 c
    refine v_iload (i := 3) C dX12_worn_49 rfl ?_
    refine v_iload_n (i := 1) C dX12_worn_51 rfl rfl ?_
    refine v_imul C dX12_worn_52 ?_
    refine v_iload_n (i := 2) C dX12_worn_53 rfl rfl ?_
    refine v_iload_n (i := 0) C dX12_worn_54 rfl rfl ?_
    refine v_isub C dX12_worn_55 ?_
    refine v_idiv C g17.1 g17.2.1 g17.2.2.1 dX12_worn_56 ?_
    obtain ⟨y18, hy18⟩ : ∃ y : Int, y = Int.tdiv (x4 * x2) (x3 - x1) := ⟨_, rfl⟩
    have g19 := g17.2.2.2 y18 hy18
    refine v_eqi hy18 ?_
    refine v_istore (L' := [(5, vi y18), (1, vi x1), (2, vi x2), (3, vi x3), (4, vi x4)]) C dX12_worn_57 (by decide) rfl ?_
    refine v_iload (i := 0) C dX12_worn_59 rfl ?_
    refine v_if_le (tgt := 80) C g19.1 dX12_worn_61 (by decide) (fun c => ?_) (fun c => ?_)
    · have g20 := g19.2.1 c
      obtain ⟨y22, hy22⟩ : ∃ y : Int, y = x4 + 1 := ⟨_, rfl⟩
      have g23 := g20 y22 hy22
      refine v_iinc (i := 4) (L' := [(4, vi y22), (5, vi y18), (1, vi x1), (2, vi x2), (3, vi x3)]) C dX12_worn_80 rfl (by decide) hy22 rfl ?_
      refine v_goto C dX12_worn_83 (tgt := 41) (by decide) ?_
      exact v_sub [2, 3, 4, 0] rfl (hJ41 _ _ _ _ _ g23)
    · have g21 := g19.2.2 c
      refine v_iload (i := 0) C dX12_worn_64 rfl ?_
      refine v_iload_n (i := 3) C dX12_worn_66 rfl rfl ?_
      refine v_imul C dX12_worn_67 ?_
      refine v_iload (i := 4) C dX12_worn_68 rfl ?_
      refine v_iload_n (i := 2) C dX12_worn_70 rfl rfl ?_
      refine v_iload_n (i := 1) C dX12_worn_71 rfl rfl ?_
      refine v_isub C dX12_worn_72 ?_
      refine v_imul C dX12_worn_73 ?_
      refine v_icmp_lt (tgt := 80) C g21.1 g21.2.1 dX12_worn_74 (by decide) (fun c => ?_) (fun c => ?_)
      · have g24 := g21.2.2.1 c
        obtain ⟨y26, hy26⟩ : ∃ y : Int, y = x4 + 1 := ⟨_, rfl⟩
        have g27 := g24 y26 hy26
        refine v_iinc (i := 4) (L' := [(4, vi y26), (5, vi y18), (1, vi x1), (2, vi x2), (3, vi x3)]) C dX12_worn_80 rfl (by decide) hy26 rfl ?_
        refine v_goto C dX12_worn_83 (tgt := 41) (by decide) ?_
        exact v_sub [2, 3, 4, 0] rfl (hJ41 _ _ _ _ _ g27)
      · have g25 := g21.2.2.2 c
        refine v_iload (i := 4) C dX12_worn_77 rfl ?_
        exact v_iret C r dX12_worn_79 g25
theorem RX12_worn {E : FX} {l : Launch} {D : Nat} {post : Option AV → MM → Prop} (I41 : MM → Int → Int → Int → Int → Prop) (m41 : MM → Int → Int → Int → Int → Nat) {M : MM} {x1 : Int} (h0 : VX12_worn_0 E l D post I41 M x1) (h41I : ∀ (M : MM) (x1 : Int) (x2 : Int) (x3 : Int) (x4 : Int), I41 M x1 x2 x3 x4 → VX12_worn_41 E l D post (fun M' x1' x2' x3' x4' => I41 M' x1' x2' x3' x4' ∧ m41 M' x1' x2' x3' x4' < m41 M x1 x2 x3 x4) M x1 x2 x3 x4) : Con E l (D + 1) qX12_worn [vr 44, vi x1] M post := by
  refine con_of (by decide +kernel) (Nat.le_of_ble_eq_true rfl) (fun z C r => ?_)
  have all : ∀ n : Nat, (∀ (M : MM) (x1 : Int) (x2 : Int) (x3 : Int) (x4 : Int), I41 M x1 x2 x3 x4 → m41 M x1 x2 x3 x4 < n → Aj E l z 41 [(1, vi x1), (2, vi x2), (3, vi x3), (4, vi x4)] [] M) := by
    intro n
    induction n with
    | zero => exact fun _ _ _ _ _ _ hm => absurd hm (Nat.not_lt_zero _)
    | succ n ih => exact fun M x1 x2 x3 x4 hi hm => SX12_worn_41 C r (fun M' x1' x2' x3' x4' hj => ih M' x1' x2' x3' x4' hj.1 (by omega)) (h41I M x1 x2 x3 x4 hi)
  exact v_sub [0, 1] rfl (SX12_worn_0 C r (fun M' x1' x2' x3' x4' hj => (all _) M' x1' x2' x3' x4' hj (Nat.lt_succ_self _)) h0)
def VX12_rateAt_0 (E : FX) (l : Launch) (D : Nat) (post : Option AV → MM → Prop) (M : MM) (x0 : Int) (x1 : Int) : Prop :=
  post (some (vi ((31 + (8 * x0)) + (2 * x1)))) M
set_option maxRecDepth 20000 in
theorem SX12_rateAt_0 {E : FX} {l : Launch} {D : Nat} {post : Option AV → MM → Prop} {z : RT} (C : Cx E z D RX12 cX12_rateAt 2) (r : Rt E z (some .int) post) {M : MM} {x0 : Int} {x1 : Int} (h : VX12_rateAt_0 E l D post M x0 x1) : Aj E l z 0 [(0, vi x0), (1, vi x1)] [] M := by
  unfold VX12_rateAt_0 at h
  refine v_bipush C dX12_rateAt_0 (by decide) ?_
  refine v_bipush C dX12_rateAt_2 (by decide) ?_
  refine v_iload_n (i := 0) C dX12_rateAt_4 rfl rfl ?_
  refine v_imul C dX12_rateAt_5 ?_
  refine v_iadd C dX12_rateAt_6 ?_
  refine v_iconst C dX12_rateAt_7 ?_
  refine v_iload_n (i := 1) C dX12_rateAt_8 rfl rfl ?_
  refine v_imul C dX12_rateAt_9 ?_
  refine v_iadd C dX12_rateAt_10 ?_
  exact v_iret C r dX12_rateAt_11 h
theorem RX12_rateAt {E : FX} {l : Launch} {D : Nat} {post : Option AV → MM → Prop} {M : MM} {x0 : Int} {x1 : Int} (h0 : VX12_rateAt_0 E l D post M x0 x1) : Con E l (D + 1) qX12_rateAt [vi x0, vi x1] M post := by
  refine con_of (by decide +kernel) (Nat.le_of_ble_eq_true rfl) (fun z C r => ?_)
  exact v_sub [0, 1] rfl (SX12_rateAt_0 C r h0)
def VX12_isCoin_0 (E : FX) (l : Launch) (D : Nat) (post : Option AV → MM → Prop) (M : MM) (x0 : Int) : Prop :=
  R32 x0 ∧ (Con E l D qX12_in [vj x0, vj 0, vj 3] M (fun r M1 => ∃ y2 : Int, r = some (vi y2) ∧ ((y2 = 0 ∨ y2 = 1) ∧ (post (some (vi y2)) M1))))
set_option maxRecDepth 20000 in
theorem SX12_isCoin_0 {E : FX} {l : Launch} {D : Nat} {post : Option AV → MM → Prop} {z : RT} (C : Cx E z D RX12 cX12_isCoin 1) (r : Rt E z (some .boolean) post) {M : MM} {x0 : Int} (h : VX12_isCoin_0 E l D post M x0) : Aj E l z 0 [(0, vi x0)] [] M := by
  unfold VX12_isCoin_0 at h
  refine v_iload_n (i := 0) C dX12_isCoin_0 rfl rfl ?_
  refine v_i2l C h.1 dX12_isCoin_1 ?_
  refine v_lconst (x := 0) C dX12_isCoin_2 (by decide) ?_
  refine v_ldc2 (x := 3) C cs_RX12_96 (by decide) dX12_isCoin_3 ?_
  refine v_callS (q := qX12_in) (As := [vj x0, vj 0, vj 3]) (S := []) C co_yX12_in ml_RX12_71 st_yX12_in ini_RX12 hq_X12_in (by decide) (Nat.le_of_ble_eq_true rfl) rfl dX12_isCoin_6 (Con.mono h.2 (fun rr M1 hr => ?_) (Nat.le_refl _))
  obtain ⟨y2, rfl, g3⟩ := hr
  show Aj E l z (6 + 3) [(0, vi x0)] [vi y2] M1
  exact v_zret C r g3.1 dX12_isCoin_9 g3.2
theorem RX12_isCoin {E : FX} {l : Launch} {D : Nat} {post : Option AV → MM → Prop} {M : MM} {x0 : Int} (h0 : VX12_isCoin_0 E l D post M x0) : Con E l (D + 1) qX12_isCoin [vi x0] M post := by
  refine con_of (by decide +kernel) (Nat.le_of_ble_eq_true rfl) (fun z C r => ?_)
  exact v_sub [0] rfl (SX12_isCoin_0 C r h0)
def VX12_rate_44 (E : FX) (l : Launch) (D : Nat) (post : Option AV → MM → Prop) (M : MM) : Prop :=
  post (some (vi (-1))) M
set_option maxRecDepth 20000 in
theorem SX12_rate_44 {E : FX} {l : Launch} {D : Nat} {post : Option AV → MM → Prop} {z : RT} (C : Cx E z D RX12 cX12_rate 7) (r : Rt E z (some .int) post) {M : MM} (h : VX12_rate_44 E l D post M) : Aj E l z 44 [] [] M := by
  unfold VX12_rate_44 at h
  refine v_iconst C dX12_rate_44 ?_
  exact v_iret C r dX12_rate_45 h
def VX12_rate_0 (E : FX) (l : Launch) (D : Nat) (post : Option AV → MM → Prop) (M : MM) (x1 : Int) (x2 : Int) (x3 : Int) (x4 : Int) : Prop :=
  Con E l D qX12_isCoin [vi x1] M (fun r M1 => ∃ y2 : Int, r = some (vi y2) ∧ (R32 y2 ∧ ((y2 = 0 → post (some (vi (-1))) M1) ∧ (¬ y2 = 0 → Con E l D qX12_isCoin [vi x2] M1 (fun r M6 => ∃ y7 : Int, r = some (vi y7) ∧ (R32 y7 ∧ ((y7 = 0 → post (some (vi (-1))) M6) ∧ (¬ y7 = 0 → R32 x1 ∧ (R32 x2 ∧ ((x1 = x2 → post (some (vi (-1))) M6) ∧ (¬ x1 = x2 → R32 x3 ∧ (Con E l D qX12_in [vj x3, vj 1, vj 99] M6 (fun r M13 => ∃ y14 : Int, r = some (vi y14) ∧ (R32 y14 ∧ ((y14 = 0 → post (some (vi (-1))) M13) ∧ (¬ y14 = 0 → R32 x4 ∧ (Con E l D qX12_in [vj x4, vj 1, vj 99] M13 (fun r M18 => ∃ y19 : Int, r = some (vi y19) ∧ (R32 y19 ∧ ((¬ y19 = 0 → Con E l D qX12_rateAt [vi x1, vi x2] M18 (fun r M23 => ∃ y24 : Int, r = some (vi y24) ∧ (0 ≤ y24 ∧ (y24 < 140 ∧ (0 ≤ y24 + 1 ∧ (y24 + 1 < 140 ∧ (∀ y26 : Int, y26 = (100 * (M23 45 (y24).toNat)) + (M23 45 (y24 + 1).toNat) → (0 ≤ y24 ∧ (y24 < 140 ∧ (∀ M28 : MM, M28 = up M23 45 (y24).toNat x3 → (0 ≤ y24 + 1 ∧ (y24 + 1 < 140 ∧ (∀ M30 : MM, M30 = up M28 45 (y24 + 1).toNat x4 → (post (some (vi y26)) M30)))))))))))))) ∧ (y19 = 0 → post (some (vi (-1))) M18)))))))))))))))))))))
set_option maxRecDepth 20000 in
theorem SX12_rate_0 {E : FX} {l : Launch} {D : Nat} {post : Option AV → MM → Prop} {z : RT} (C : Cx E z D RX12 cX12_rate 7) (r : Rt E z (some .int) post) {M : MM} {x1 : Int} {x2 : Int} {x3 : Int} {x4 : Int} (h : VX12_rate_0 E l D post M x1 x2 x3 x4) : Aj E l z 0 [(0, vr 44), (1, vi x1), (2, vi x2), (3, vi x3), (4, vi x4)] [] M := by
  unfold VX12_rate_0 at h
  refine v_iload_n (i := 1) C dX12_rate_0 rfl rfl ?_
  refine v_callS (q := qX12_isCoin) (As := [vi x1]) (S := []) C co_yX12_isCoin ml_RX12_194 st_yX12_isCoin ini_RX12 hq_X12_isCoin (by decide) (Nat.le_of_ble_eq_true rfl) rfl dX12_rate_1 (Con.mono h (fun rr M1 hr => ?_) (Nat.le_refl _))
  obtain ⟨y2, rfl, g3⟩ := hr
  show Aj E l z (1 + 3) [(0, vr 44), (1, vi x1), (2, vi x2), (3, vi x3), (4, vi x4)] [vi y2] M1
  refine v_if_eq (tgt := 44) C g3.1 dX12_rate_4 (by decide) (fun c => ?_) (fun c => ?_)
  · have g4 := g3.2.1 c
    refine v_iconst C dX12_rate_44 ?_
    exact v_iret C r dX12_rate_45 g4
  · have g5 := g3.2.2 c
    refine v_iload_n (i := 2) C dX12_rate_7 rfl rfl ?_
    refine v_callS (q := qX12_isCoin) (As := [vi x2]) (S := []) C co_yX12_isCoin ml_RX12_194 st_yX12_isCoin ini_RX12 hq_X12_isCoin (by decide) (Nat.le_of_ble_eq_true rfl) rfl dX12_rate_8 (Con.mono g5 (fun rr M6 hr => ?_) (Nat.le_refl _))
    obtain ⟨y7, rfl, g8⟩ := hr
    show Aj E l z (8 + 3) [(0, vr 44), (1, vi x1), (2, vi x2), (3, vi x3), (4, vi x4)] [vi y7] M6
    refine v_if_eq (tgt := 44) C g8.1 dX12_rate_11 (by decide) (fun c => ?_) (fun c => ?_)
    · have g9 := g8.2.1 c
      refine v_iconst C dX12_rate_44 ?_
      exact v_iret C r dX12_rate_45 g9
    · have g10 := g8.2.2 c
      refine v_iload_n (i := 1) C dX12_rate_14 rfl rfl ?_
      refine v_iload_n (i := 2) C dX12_rate_15 rfl rfl ?_
      refine v_icmp_eq (tgt := 44) C g10.1 g10.2.1 dX12_rate_16 (by decide) (fun c => ?_) (fun c => ?_)
      · have g11 := g10.2.2.1 c
        refine v_iconst C dX12_rate_44 ?_
        exact v_iret C r dX12_rate_45 g11
      · have g12 := g10.2.2.2 c
        refine v_iload_n (i := 3) C dX12_rate_19 rfl rfl ?_
        refine v_i2l C g12.1 dX12_rate_20 ?_
        refine v_lconst (x := 1) C dX12_rate_21 (by decide) ?_
        refine v_ldc2 (x := 99) C cs_RX12_81 (by decide) dX12_rate_22 ?_
        refine v_callS (q := qX12_in) (As := [vj x3, vj 1, vj 99]) (S := []) C co_yX12_in ml_RX12_71 st_yX12_in ini_RX12 hq_X12_in (by decide) (Nat.le_of_ble_eq_true rfl) rfl dX12_rate_25 (Con.mono g12.2 (fun rr M13 hr => ?_) (Nat.le_refl _))
        obtain ⟨y14, rfl, g15⟩ := hr
        show Aj E l z (25 + 3) [(0, vr 44), (1, vi x1), (2, vi x2), (3, vi x3), (4, vi x4)] [vi y14] M13
        refine v_if_eq (tgt := 44) C g15.1 dX12_rate_28 (by decide) (fun c => ?_) (fun c => ?_)
        · have g16 := g15.2.1 c
          refine v_iconst C dX12_rate_44 ?_
          exact v_iret C r dX12_rate_45 g16
        · have g17 := g15.2.2 c
          refine v_iload (i := 4) C dX12_rate_31 rfl ?_
          refine v_i2l C g17.1 dX12_rate_33 ?_
          refine v_lconst (x := 1) C dX12_rate_34 (by decide) ?_
          refine v_ldc2 (x := 99) C cs_RX12_81 (by decide) dX12_rate_35 ?_
          refine v_callS (q := qX12_in) (As := [vj x4, vj 1, vj 99]) (S := []) C co_yX12_in ml_RX12_71 st_yX12_in ini_RX12 hq_X12_in (by decide) (Nat.le_of_ble_eq_true rfl) rfl dX12_rate_38 (Con.mono g17.2 (fun rr M18 hr => ?_) (Nat.le_refl _))
          obtain ⟨y19, rfl, g20⟩ := hr
          show Aj E l z (38 + 3) [(0, vr 44), (1, vi x1), (2, vi x2), (3, vi x3), (4, vi x4)] [vi y19] M18
          refine v_if_ne (tgt := 46) C g20.1 dX12_rate_41 (by decide) (fun c => ?_) (fun c => ?_)
          · have g21 := g20.2.1 c
            refine v_iload_n (i := 1) C dX12_rate_46 rfl rfl ?_
            refine v_iload_n (i := 2) C dX12_rate_47 rfl rfl ?_
            refine v_callS (q := qX12_rateAt) (As := [vi x1, vi x2]) (S := []) C co_yX12_rateAt ml_RX12_197 st_yX12_rateAt ini_RX12 hq_X12_rateAt (by decide) (Nat.le_of_ble_eq_true rfl) rfl dX12_rate_48 (Con.mono g21 (fun rr M23 hr => ?_) (Nat.le_refl _))
            obtain ⟨y24, rfl, g25⟩ := hr
            show Aj E l z (48 + 3) [(0, vr 44), (1, vi x1), (2, vi x2), (3, vi x3), (4, vi x4)] [vi y24] M23
            refine v_istore (L' := [(5, vi y24), (0, vr 44), (1, vi x1), (2, vi x2), (3, vi x3), (4, vi x4)]) C dX12_rate_51 (by decide) rfl ?_
            refine v_bipush C dX12_rate_53 (by decide) ?_
            refine v_aload_n (i := 1) C dX12_rate_55 rfl rfl ?_
            refine v_getf (k := 44) C fl_RX12_7 rfl rfl dX12_rate_56 ?_
            show Aj E l z (56 + 3) [(5, vi y24), (0, vr 44), (1, vi x1), (2, vi x2), (3, vi x3), (4, vi x4)] [vr 45, vi 100] M23
            refine v_iload (i := 0) C dX12_rate_59 rfl ?_
            refine v_iald (k := 45) C rfl g25.1 g25.2.1 dX12_rate_61 ?_
            show Aj E l z (61 + 1) [(5, vi y24), (0, vr 44), (1, vi x1), (2, vi x2), (3, vi x3), (4, vi x4)] [vi (M23 45 (y24).toNat), vi 100] M23
            refine v_imul C dX12_rate_62 ?_
            refine v_aload_n (i := 1) C dX12_rate_63 rfl rfl ?_
            refine v_getf (k := 44) C fl_RX12_7 rfl rfl dX12_rate_64 ?_
            show Aj E l z (64 + 3) [(5, vi y24), (0, vr 44), (1, vi x1), (2, vi x2), (3, vi x3), (4, vi x4)] [vr 45, vi (100 * (M23 45 (y24).toNat))] M23
            refine v_iload (i := 0) C dX12_rate_67 rfl ?_
            refine v_iconst C dX12_rate_69 ?_
            refine v_iadd C dX12_rate_70 ?_
            refine v_iald (k := 45) C rfl g25.2.2.1 g25.2.2.2.1 dX12_rate_71 ?_
            show Aj E l z (71 + 1) [(5, vi y24), (0, vr 44), (1, vi x1), (2, vi x2), (3, vi x3), (4, vi x4)] [vi (M23 45 (y24 + 1).toNat), vi (100 * (M23 45 (y24).toNat))] M23
            refine v_iadd C dX12_rate_72 ?_
            obtain ⟨y26, hy26⟩ : ∃ y : Int, y = (100 * (M23 45 (y24).toNat)) + (M23 45 (y24 + 1).toNat) := ⟨_, rfl⟩
            have g27 := g25.2.2.2.2 y26 hy26
            refine v_eqi hy26 ?_
            refine v_istore (L' := [(6, vi y26), (5, vi y24), (0, vr 44), (1, vi x1), (2, vi x2), (3, vi x3), (4, vi x4)]) C dX12_rate_73 (by decide) rfl ?_
            refine v_aload_n (i := 2) C dX12_rate_75 rfl rfl ?_
            refine v_getf (k := 44) C fl_RX12_7 rfl rfl dX12_rate_76 ?_
            show Aj E l z (76 + 3) [(6, vi y26), (5, vi y24), (0, vr 44), (1, vi x1), (2, vi x2), (3, vi x3), (4, vi x4)] [vr 45] M23
            refine v_iload (i := 1) C dX12_rate_79 rfl ?_
            refine v_iload_n (i := 5) C dX12_rate_81 rfl rfl ?_
            refine v_iast (k := 45) C rfl g27.1 g27.2.1 dX12_rate_82 ?_
            obtain ⟨M28, hM28⟩ : ∃ X : MM, X = up M23 45 (y24).toNat x3 := ⟨_, rfl⟩
            refine v_eqM hM28 ?_
            have g29 := g27.2.2 M28 hM28
            refine v_aload_n (i := 2) C dX12_rate_83 rfl rfl ?_
            refine v_getf (k := 44) C fl_RX12_7 rfl rfl dX12_rate_84 ?_
            show Aj E l z (84 + 3) [(6, vi y26), (5, vi y24), (0, vr 44), (1, vi x1), (2, vi x2), (3, vi x3), (4, vi x4)] [vr 45] M28
            refine v_iload (i := 1) C dX12_rate_87 rfl ?_
            refine v_iconst C dX12_rate_89 ?_
            refine v_iadd C dX12_rate_90 ?_
            refine v_iload (i := 6) C dX12_rate_91 rfl ?_
            refine v_iast (k := 45) C rfl g29.1 g29.2.1 dX12_rate_93 ?_
            obtain ⟨M30, hM30⟩ : ∃ X : MM, X = up M28 45 (y24 + 1).toNat x4 := ⟨_, rfl⟩
            refine v_eqM hM30 ?_
            have g31 := g29.2.2 M30 hM30
            refine v_iload (i := 0) C dX12_rate_94 rfl ?_
            exact v_iret C r dX12_rate_96 g31
          · have g22 := g20.2.2 c
            refine v_iconst C dX12_rate_44 ?_
            exact v_iret C r dX12_rate_45 g22
theorem RX12_rate {E : FX} {l : Launch} {D : Nat} {post : Option AV → MM → Prop} {M : MM} {x1 : Int} {x2 : Int} {x3 : Int} {x4 : Int} (h0 : VX12_rate_0 E l D post M x1 x2 x3 x4) : Con E l (D + 1) qX12_rate [vr 44, vi x1, vi x2, vi x3, vi x4] M post := by
  refine con_of (by decide +kernel) (Nat.le_of_ble_eq_true rfl) (fun z C r => ?_)
  exact v_sub [0, 1, 2, 3, 4] rfl (SX12_rate_0 C r h0)
def VX12_gains_0 (E : FX) (l : Launch) (D : Nat) (post : Option AV → MM → Prop) (J16 : MM → Int → Int → Int → Int → Int → Int → Prop) (M : MM) (x1 : Int) : Prop :=
  J16 M 0 0 0 1 1 x1
set_option maxRecDepth 20000 in
theorem SX12_gains_0 {E : FX} {l : Launch} {D : Nat} {post : Option AV → MM → Prop} {z : RT} {J16 : MM → Int → Int → Int → Int → Int → Int → Prop} (C : Cx E z D RX12 cX12_gains 11) (r : Rt E z (some .boolean) post) (hJ16 : ∀ (M : MM) (x2 : Int) (x3 : Int) (x4 : Int) (x5 : Int) (x7 : Int) (x9 : Int), J16 M x2 x3 x4 x5 x7 x9 → Aj E l z 16 [(0, vr 44), (2, vi x2), (3, vi x3), (4, vi x4), (5, vj x5), (7, vj x7), (9, vi x9)] [] M) {M : MM} {x1 : Int} (h : VX12_gains_0 E l D post J16 M x1) : Aj E l z 0 [(0, vr 44), (1, vi x1)] [] M := by
  unfold VX12_gains_0 at h
  refine v_iconst C dX12_gains_0 ?_
  refine v_istore_n (L' := [(2, vi 0), (0, vr 44), (1, vi x1)]) C dX12_gains_1 rfl (by decide) rfl ?_
  refine v_iconst C dX12_gains_2 ?_
  refine v_istore_n (L' := [(3, vi 0), (2, vi 0), (0, vr 44), (1, vi x1)]) C dX12_gains_3 rfl (by decide) rfl ?_
  refine v_iconst C dX12_gains_4 ?_
  refine v_istore (L' := [(4, vi 0), (3, vi 0), (2, vi 0), (0, vr 44), (1, vi x1)]) C dX12_gains_5 (by decide) rfl ?_
  refine v_lconst (x := 1) C dX12_gains_7 (by decide) ?_
  refine v_lstore (L' := [(5, vj 1), (4, vi 0), (3, vi 0), (2, vi 0), (0, vr 44), (1, vi x1)]) C dX12_gains_8 (by decide) rfl ?_
  refine v_lconst (x := 1) C dX12_gains_10 (by decide) ?_
  refine v_lstore (L' := [(7, vj 1), (5, vj 1), (4, vi 0), (3, vi 0), (2, vi 0), (0, vr 44), (1, vi x1)]) C dX12_gains_11 (by decide) rfl ?_
  refine v_iload_n (i := 6) C dX12_gains_13 rfl rfl ?_
  refine v_istore (L' := [(9, vi x1), (7, vj 1), (5, vj 1), (4, vi 0), (3, vi 0), (2, vi 0), (0, vr 44), (1, vi x1)]) C dX12_gains_14 (by decide) rfl ?_
  exact v_sub [6, 5, 4, 3, 2, 1, 0] rfl (hJ16 _ _ _ _ _ _ _ h)
def VX12_gains_192 (E : FX) (l : Launch) (D : Nat) (post : Option AV → MM → Prop) (J16 : MM → Int → Int → Int → Int → Int → Int → Prop) (M : MM) (s0 : Int) : Prop :=
  (s0 = 0 ∨ s0 = 1) ∧ (post (some (vi s0)) M)
set_option maxRecDepth 20000 in
theorem SX12_gains_192 {E : FX} {l : Launch} {D : Nat} {post : Option AV → MM → Prop} {z : RT} {J16 : MM → Int → Int → Int → Int → Int → Int → Prop} (C : Cx E z D RX12 cX12_gains 11) (r : Rt E z (some .boolean) post) (hJ16 : ∀ (M : MM) (x2 : Int) (x3 : Int) (x4 : Int) (x5 : Int) (x7 : Int) (x9 : Int), J16 M x2 x3 x4 x5 x7 x9 → Aj E l z 16 [(0, vr 44), (2, vi x2), (3, vi x3), (4, vi x4), (5, vj x5), (7, vj x7), (9, vi x9)] [] M) {M : MM} {s0 : Int} (h : VX12_gains_192 E l D post J16 M s0) : Aj E l z 192 [] [vi s0] M := by
  unfold VX12_gains_192 at h
  exact v_zret C r h.1 dX12_gains_192 h.2
def VX12_gains_105 (E : FX) (l : Launch) (D : Nat) (post : Option AV → MM → Prop) (J16 : MM → Int → Int → Int → Int → Int → Int → Prop) (M : MM) (x2 : Int) (x3 : Int) (x4 : Int) (x5 : Int) (x7 : Int) (x9 : Int) (x10 : Int) : Prop :=
  ∀ y1 : Int, y1 = ior x2 (ishl 1 x10) → (R32 x9 ∧ (∀ y3 : Int, y3 = Int.tdiv x9 10 → (J16 M y1 x3 x4 x5 x7 y3)))
set_option maxRecDepth 20000 in
theorem SX12_gains_105 {E : FX} {l : Launch} {D : Nat} {post : Option AV → MM → Prop} {z : RT} {J16 : MM → Int → Int → Int → Int → Int → Int → Prop} (C : Cx E z D RX12 cX12_gains 11) (r : Rt E z (some .boolean) post) (hJ16 : ∀ (M : MM) (x2 : Int) (x3 : Int) (x4 : Int) (x5 : Int) (x7 : Int) (x9 : Int), J16 M x2 x3 x4 x5 x7 x9 → Aj E l z 16 [(0, vr 44), (2, vi x2), (3, vi x3), (4, vi x4), (5, vj x5), (7, vj x7), (9, vi x9)] [] M) {M : MM} {x2 : Int} {x3 : Int} {x4 : Int} {x5 : Int} {x7 : Int} {x9 : Int} {x10 : Int} (h : VX12_gains_105 E l D post J16 M x2 x3 x4 x5 x7 x9 x10) : Aj E l z 105 [(0, vr 44), (2, vi x2), (3, vi x3), (4, vi x4), (5, vj x5), (7, vj x7), (9, vi x9), (10, vi x10)] [] M := by
  unfold VX12_gains_105 at h
  refine v_iload_n (i := 1) C dX12_gains_105 rfl rfl ?_
  refine v_iconst C dX12_gains_106 ?_
  refine v_iload (i := 7) C dX12_gains_107 rfl ?_
  refine v_ishl C dX12_gains_109 ?_
  refine v_ior C dX12_gains_110 ?_
  obtain ⟨y1, hy1⟩ : ∃ y : Int, y = ior x2 (ishl 1 x10) := ⟨_, rfl⟩
  have g2 := h y1 hy1
  refine v_eqi hy1 ?_
  refine v_istore_n (L' := [(2, vi y1), (0, vr 44), (3, vi x3), (4, vi x4), (5, vj x5), (7, vj x7), (9, vi x9), (10, vi x10)]) C dX12_gains_111 rfl (by decide) rfl ?_
  refine v_iload (i := 6) C dX12_gains_112 rfl ?_
  refine v_bipush C dX12_gains_114 (by decide) ?_
  refine v_idiv C g2.1 (by decide) (by decide) dX12_gains_116 ?_
  obtain ⟨y3, hy3⟩ : ∃ y : Int, y = Int.tdiv x9 10 := ⟨_, rfl⟩
  have g4 := g2.2 y3 hy3
  refine v_eqi hy3 ?_
  refine v_istore (L' := [(9, vi y3), (2, vi y1), (0, vr 44), (3, vi x3), (4, vi x4), (5, vj x5), (7, vj x7), (10, vi x10)]) C dX12_gains_117 (by decide) rfl ?_
  refine v_goto C dX12_gains_119 (tgt := 16) (by decide) ?_
  exact v_sub [2, 1, 3, 4, 5, 6, 0] rfl (hJ16 _ _ _ _ _ _ _ g4)
def VX12_gains_141 (E : FX) (l : Launch) (D : Nat) (post : Option AV → MM → Prop) (J16 : MM → Int → Int → Int → Int → Int → Int → Prop) (M : MM) : Prop :=
  post (some (vi 0)) M
set_option maxRecDepth 20000 in
theorem SX12_gains_141 {E : FX} {l : Launch} {D : Nat} {post : Option AV → MM → Prop} {z : RT} {J16 : MM → Int → Int → Int → Int → Int → Int → Prop} (C : Cx E z D RX12 cX12_gains 11) (r : Rt E z (some .boolean) post) (hJ16 : ∀ (M : MM) (x2 : Int) (x3 : Int) (x4 : Int) (x5 : Int) (x7 : Int) (x9 : Int), J16 M x2 x3 x4 x5 x7 x9 → Aj E l z 16 [(0, vr 44), (2, vi x2), (3, vi x3), (4, vi x4), (5, vj x5), (7, vj x7), (9, vi x9)] [] M) {M : MM} (h : VX12_gains_141 E l D post J16 M) : Aj E l z 141 [] [] M := by
  unfold VX12_gains_141 at h
  refine v_iconst C dX12_gains_141 ?_
  exact v_zret C r (by decide) dX12_gains_142 h
def VX12_gains_47 (E : FX) (l : Launch) (D : Nat) (post : Option AV → MM → Prop) (J16 : MM → Int → Int → Int → Int → Int → Int → Prop) (M : MM) : Prop :=
  post (some (vi 0)) M
set_option maxRecDepth 20000 in
theorem SX12_gains_47 {E : FX} {l : Launch} {D : Nat} {post : Option AV → MM → Prop} {z : RT} {J16 : MM → Int → Int → Int → Int → Int → Int → Prop} (C : Cx E z D RX12 cX12_gains 11) (r : Rt E z (some .boolean) post) (hJ16 : ∀ (M : MM) (x2 : Int) (x3 : Int) (x4 : Int) (x5 : Int) (x7 : Int) (x9 : Int), J16 M x2 x3 x4 x5 x7 x9 → Aj E l z 16 [(0, vr 44), (2, vi x2), (3, vi x3), (4, vi x4), (5, vj x5), (7, vj x7), (9, vi x9)] [] M) {M : MM} (h : VX12_gains_47 E l D post J16 M) : Aj E l z 47 [] [] M := by
  unfold VX12_gains_47 at h
  refine v_iconst C dX12_gains_47 ?_
  exact v_zret C r (by decide) dX12_gains_48 h
def VX12_gains_16 (E : FX) (l : Launch) (D : Nat) (post : Option AV → MM → Prop) (J16 : MM → Int → Int → Int → Int → Int → Int → Prop) (M : MM) (x2 : Int) (x3 : Int) (x4 : Int) (x5 : Int) (x7 : Int) (x9 : Int) : Prop :=
  R32 x9 ∧ ((x9 ≤ 0 → Con E l D qX12_ones [vi x2] M (fun r M7 => ∃ y8 : Int, r = some (vi y8) ∧ (R32 y8 ∧ ((y8 < 2 → post (some (vi 0)) M7) ∧ (¬ y8 < 2 → R32 (iand x2 ((ishl 1 x4) - 1)) ∧ ((iand x2 ((ishl 1 x4) - 1) = 0 → Con E l D qX12_rateAt [vi x3, vi x4] M7 (fun r M14 => ∃ y15 : Int, r = some (vi y15) ∧ (0 ≤ y15 ∧ (y15 < 140 ∧ (R32 (M14 45 (y15).toNat) ∧ (∀ y17 : Int, y17 = x5 * (M14 45 (y15).toNat) → (Con E l D qX12_rateAt [vi x3, vi x4] M14 (fun r M19 => ∃ y20 : Int, r = some (vi y20) ∧ (0 ≤ y20 + 1 ∧ (y20 + 1 < 140 ∧ (R32 (M19 45 (y20 + 1).toNat) ∧ (∀ y22 : Int, y22 = x7 * (M19 45 (y20 + 1).toNat) → (R64 y17 ∧ (R64 y22 ∧ ((y17 ≤ y22 → VX12_gains_192 E l D post J16 M19 0) ∧ (¬ y17 ≤ y22 → VX12_gains_192 E l D post J16 M19 1)))))))))))))))) ∧ (¬ iand x2 ((ishl 1 x4) - 1) = 0 → post (some (vi 0)) M7))))))) ∧ (¬ x9 ≤ 0 → R32 x9 ∧ (∀ y26 : Int, y26 = (Int.tmod x9 10) - 1 → (Con E l D qX12_isCoin [vi y26] M (fun r M28 => ∃ y29 : Int, r = some (vi y29) ∧ (R32 y29 ∧ ((y29 = 0 → post (some (vi 0)) M28) ∧ (¬ y29 = 0 → Con E l D qX12_has [vi x2, vi y26] M28 (fun r M33 => ∃ y34 : Int, r = some (vi y34) ∧ (R32 y34 ∧ ((y34 = 0 → R32 x2 ∧ ((¬ x2 = 0 → Con E l D qX12_rateAt [vi y26, vi x4] M33 (fun r M40 => ∃ y41 : Int, r = some (vi y41) ∧ (0 ≤ y41 ∧ (y41 < 140 ∧ (R32 (M40 45 (y41).toNat) ∧ (∀ y43 : Int, y43 = x5 * (M40 45 (y41).toNat) → (Con E l D qX12_rateAt [vi y26, vi x4] M40 (fun r M45 => ∃ y46 : Int, r = some (vi y46) ∧ (0 ≤ y46 + 1 ∧ (y46 + 1 < 140 ∧ (R32 (M45 45 (y46 + 1).toNat) ∧ (∀ y48 : Int, y48 = x7 * (M45 45 (y46 + 1).toNat) → (VX12_gains_105 E l D post J16 M45 x2 x3 y26 y43 y48 x9 y26))))))))))))) ∧ (x2 = 0 → VX12_gains_105 E l D post J16 M33 x2 y26 y26 x5 x7 x9 y26))) ∧ (¬ y34 = 0 → post (some (vi 0)) M33))))))))))))
set_option maxRecDepth 20000 in
theorem SX12_gains_16 {E : FX} {l : Launch} {D : Nat} {post : Option AV → MM → Prop} {z : RT} {J16 : MM → Int → Int → Int → Int → Int → Int → Prop} (C : Cx E z D RX12 cX12_gains 11) (r : Rt E z (some .boolean) post) (hJ16 : ∀ (M : MM) (x2 : Int) (x3 : Int) (x4 : Int) (x5 : Int) (x7 : Int) (x9 : Int), J16 M x2 x3 x4 x5 x7 x9 → Aj E l z 16 [(0, vr 44), (2, vi x2), (3, vi x3), (4, vi x4), (5, vj x5), (7, vj x7), (9, vi x9)] [] M) {M : MM} {x2 : Int} {x3 : Int} {x4 : Int} {x5 : Int} {x7 : Int} {x9 : Int} (h : VX12_gains_16 E l D post J16 M x2 x3 x4 x5 x7 x9) : Aj E l z 16 [(0, vr 44), (2, vi x2), (3, vi x3), (4, vi x4), (5, vj x5), (7, vj x7), (9, vi x9)] [] M := by
  unfold VX12_gains_16 at h
  refine v_iload (i := 6) C dX12_gains_16 rfl ?_
  refine v_if_le (tgt := 122) C h.1 dX12_gains_18 (by decide) (fun c => ?_) (fun c => ?_)
  · have g5 := h.2.1 c
    refine v_iload_n (i := 1) C dX12_gains_122 rfl rfl ?_
    refine v_callS (q := qX12_ones) (As := [vi x2]) (S := []) C co_yX12_ones ml_RX12_150 st_yX12_ones ini_RX12 hq_X12_ones (by decide) (Nat.le_of_ble_eq_true rfl) rfl dX12_gains_123 (Con.mono g5 (fun rr M7 hr => ?_) (Nat.le_refl _))
    obtain ⟨y8, rfl, g9⟩ := hr
    show Aj E l z (123 + 3) [(0, vr 44), (2, vi x2), (3, vi x3), (4, vi x4), (5, vj x5), (7, vj x7), (9, vi x9)] [vi y8] M7
    refine v_iconst C dX12_gains_126 ?_
    refine v_icmp_lt (tgt := 141) C g9.1 (by decide) dX12_gains_127 (by decide) (fun c => ?_) (fun c => ?_)
    · have g10 := g9.2.1 c
      refine v_iconst C dX12_gains_141 ?_
      exact v_zret C r (by decide) dX12_gains_142 g10
    · have g11 := g9.2.2 c
      refine v_iload_n (i := 1) C dX12_gains_130 rfl rfl ?_
      refine v_iconst C dX12_gains_131 ?_
      refine v_iload (i := 3) C dX12_gains_132 rfl ?_
      refine v_ishl C dX12_gains_134 ?_
      refine v_iconst C dX12_gains_135 ?_
      refine v_isub C dX12_gains_136 ?_
      refine v_iand C dX12_gains_137 ?_
      refine v_if_eq (tgt := 143) C g11.1 dX12_gains_138 (by decide) (fun c => ?_) (fun c => ?_)
      · have g12 := g11.2.1 c
        refine v_lload (i := 4) C dX12_gains_143 rfl ?_
        refine v_aload_n (i := 0) C dX12_gains_145 rfl rfl ?_
        refine v_getf (k := 44) C fl_RX12_7 rfl rfl dX12_gains_146 ?_
        show Aj E l z (146 + 3) [(0, vr 44), (2, vi x2), (3, vi x3), (4, vi x4), (5, vj x5), (7, vj x7), (9, vi x9)] [vr 45, vj x5] M7
        refine v_iload_n (i := 2) C dX12_gains_149 rfl rfl ?_
        refine v_iload (i := 3) C dX12_gains_150 rfl ?_
        refine v_callS (q := qX12_rateAt) (As := [vi x3, vi x4]) (S := [vr 45, vj x5]) C co_yX12_rateAt ml_RX12_197 st_yX12_rateAt ini_RX12 hq_X12_rateAt (by decide) (Nat.le_of_ble_eq_true rfl) rfl dX12_gains_152 (Con.mono g12 (fun rr M14 hr => ?_) (Nat.le_refl _))
        obtain ⟨y15, rfl, g16⟩ := hr
        show Aj E l z (152 + 3) [(0, vr 44), (2, vi x2), (3, vi x3), (4, vi x4), (5, vj x5), (7, vj x7), (9, vi x9)] [vi y15, vr 45, vj x5] M14
        refine v_iald (k := 45) C rfl g16.1 g16.2.1 dX12_gains_155 ?_
        show Aj E l z (155 + 1) [(0, vr 44), (2, vi x2), (3, vi x3), (4, vi x4), (5, vj x5), (7, vj x7), (9, vi x9)] [vi (M14 45 (y15).toNat), vj x5] M14
        refine v_i2l C g16.2.2.1 dX12_gains_156 ?_
        refine v_lmul C dX12_gains_157 ?_
        obtain ⟨y17, hy17⟩ : ∃ y : Int, y = x5 * (M14 45 (y15).toNat) := ⟨_, rfl⟩
        have g18 := g16.2.2.2 y17 hy17
        refine v_eqj hy17 ?_
        refine v_lstore (L' := [(5, vj y17), (0, vr 44), (2, vi x2), (3, vi x3), (4, vi x4), (7, vj x7), (9, vi x9)]) C dX12_gains_158 (by decide) rfl ?_
        refine v_lload (i := 5) C dX12_gains_160 rfl ?_
        refine v_aload_n (i := 1) C dX12_gains_162 rfl rfl ?_
        refine v_getf (k := 44) C fl_RX12_7 rfl rfl dX12_gains_163 ?_
        show Aj E l z (163 + 3) [(5, vj y17), (0, vr 44), (2, vi x2), (3, vi x3), (4, vi x4), (7, vj x7), (9, vi x9)] [vr 45, vj x7] M14
        refine v_iload_n (i := 3) C dX12_gains_166 rfl rfl ?_
        refine v_iload (i := 4) C dX12_gains_167 rfl ?_
        refine v_callS (q := qX12_rateAt) (As := [vi x3, vi x4]) (S := [vr 45, vj x7]) C co_yX12_rateAt ml_RX12_197 st_yX12_rateAt ini_RX12 hq_X12_rateAt (by decide) (Nat.le_of_ble_eq_true rfl) rfl dX12_gains_169 (Con.mono g18 (fun rr M19 hr => ?_) (Nat.le_refl _))
        obtain ⟨y20, rfl, g21⟩ := hr
        show Aj E l z (169 + 3) [(5, vj y17), (0, vr 44), (2, vi x2), (3, vi x3), (4, vi x4), (7, vj x7), (9, vi x9)] [vi y20, vr 45, vj x7] M19
        refine v_iconst C dX12_gains_172 ?_
        refine v_iadd C dX12_gains_173 ?_
        refine v_iald (k := 45) C rfl g21.1 g21.2.1 dX12_gains_174 ?_
        show Aj E l z (174 + 1) [(5, vj y17), (0, vr 44), (2, vi x2), (3, vi x3), (4, vi x4), (7, vj x7), (9, vi x9)] [vi (M19 45 (y20 + 1).toNat), vj x7] M19
        refine v_i2l C g21.2.2.1 dX12_gains_175 ?_
        refine v_lmul C dX12_gains_176 ?_
        obtain ⟨y22, hy22⟩ : ∃ y : Int, y = x7 * (M19 45 (y20 + 1).toNat) := ⟨_, rfl⟩
        have g23 := g21.2.2.2 y22 hy22
        refine v_eqj hy22 ?_
        refine v_lstore (L' := [(7, vj y22), (5, vj y17), (0, vr 44), (2, vi x2), (3, vi x3), (4, vi x4), (9, vi x9)]) C dX12_gains_177 (by decide) rfl ?_
        refine v_lload (i := 1) C dX12_gains_179 rfl ?_
        refine v_lload (i := 0) C dX12_gains_181 rfl ?_
        refine v_lif_le (tgt := 191) C g23.1 g23.2.1 dX12_gains_183 dX12_gains_184 (by decide) (fun c => ?_) (fun c => ?_)
        · have g24 := g23.2.2.1 c
          refine v_iconst C dX12_gains_191 ?_
          exact v_sub [] rfl (SX12_gains_192 C r hJ16 g24)
        · have g25 := g23.2.2.2 c
          refine v_iconst C dX12_gains_187 ?_
          refine v_goto C dX12_gains_188 (tgt := 192) (by decide) ?_
          exact v_sub [] rfl (SX12_gains_192 C r hJ16 g25)
      · have g13 := g11.2.2 c
        refine v_iconst C dX12_gains_141 ?_
        exact v_zret C r (by decide) dX12_gains_142 g13
  · have g6 := h.2.2 c
    refine v_iload (i := 6) C dX12_gains_21 rfl ?_
    refine v_bipush C dX12_gains_23 (by decide) ?_
    refine v_irem C g6.1 (by decide) (by decide) dX12_gains_25 ?_
    refine v_iconst C dX12_gains_26 ?_
    refine v_isub C dX12_gains_27 ?_
    obtain ⟨y26, hy26⟩ : ∃ y : Int, y = (Int.tmod x9 10) - 1 := ⟨_, rfl⟩
    have g27 := g6.2 y26 hy26
    refine v_eqi hy26 ?_
    refine v_istore (L' := [(10, vi y26), (0, vr 44), (2, vi x2), (3, vi x3), (4, vi x4), (5, vj x5), (7, vj x7), (9, vi x9)]) C dX12_gains_28 (by decide) rfl ?_
    refine v_iload (i := 0) C dX12_gains_30 rfl ?_
    refine v_callS (q := qX12_isCoin) (As := [vi y26]) (S := []) C co_yX12_isCoin ml_RX12_194 st_yX12_isCoin ini_RX12 hq_X12_isCoin (by decide) (Nat.le_of_ble_eq_true rfl) rfl dX12_gains_32 (Con.mono g27 (fun rr M28 hr => ?_) (Nat.le_refl _))
    obtain ⟨y29, rfl, g30⟩ := hr
    show Aj E l z (32 + 3) [(10, vi y26), (0, vr 44), (2, vi x2), (3, vi x3), (4, vi x4), (5, vj x5), (7, vj x7), (9, vi x9)] [vi y29] M28
    refine v_if_eq (tgt := 47) C g30.1 dX12_gains_35 (by decide) (fun c => ?_) (fun c => ?_)
    · have g31 := g30.2.1 c
      refine v_iconst C dX12_gains_47 ?_
      exact v_zret C r (by decide) dX12_gains_48 g31
    · have g32 := g30.2.2 c
      refine v_iload_n (i := 2) C dX12_gains_38 rfl rfl ?_
      refine v_iload (i := 0) C dX12_gains_39 rfl ?_
      refine v_callS (q := qX12_has) (As := [vi x2, vi y26]) (S := []) C co_yX12_has ml_RX12_146 st_yX12_has ini_RX12 hq_X12_has (by decide) (Nat.le_of_ble_eq_true rfl) rfl dX12_gains_41 (Con.mono g32 (fun rr M33 hr => ?_) (Nat.le_refl _))
      obtain ⟨y34, rfl, g35⟩ := hr
      show Aj E l z (41 + 3) [(10, vi y26), (0, vr 44), (2, vi x2), (3, vi x3), (4, vi x4), (5, vj x5), (7, vj x7), (9, vi x9)] [vi y34] M33
      refine v_if_eq (tgt := 49) C g35.1 dX12_gains_44 (by decide) (fun c => ?_) (fun c => ?_)
      · have g36 := g35.2.1 c
        refine v_iload_n (i := 2) C dX12_gains_49 rfl rfl ?_
        refine v_if_ne (tgt := 63) C g36.1 dX12_gains_50 (by decide) (fun c => ?_) (fun c => ?_)
        · have g38 := g36.2.1 c
          refine v_lload (i := 5) C dX12_gains_63 rfl ?_
          refine v_aload_n (i := 1) C dX12_gains_65 rfl rfl ?_
          refine v_getf (k := 44) C fl_RX12_7 rfl rfl dX12_gains_66 ?_
          show Aj E l z (66 + 3) [(10, vi y26), (0, vr 44), (2, vi x2), (3, vi x3), (4, vi x4), (5, vj x5), (7, vj x7), (9, vi x9)] [vr 45, vj x5] M33
          refine v_iload (i := 0) C dX12_gains_69 rfl ?_
          refine v_iload (i := 4) C dX12_gains_71 rfl ?_
          refine v_callS (q := qX12_rateAt) (As := [vi y26, vi x4]) (S := [vr 45, vj x5]) C co_yX12_rateAt ml_RX12_197 st_yX12_rateAt ini_RX12 hq_X12_rateAt (by decide) (Nat.le_of_ble_eq_true rfl) rfl dX12_gains_73 (Con.mono g38 (fun rr M40 hr => ?_) (Nat.le_refl _))
          obtain ⟨y41, rfl, g42⟩ := hr
          show Aj E l z (73 + 3) [(10, vi y26), (0, vr 44), (2, vi x2), (3, vi x3), (4, vi x4), (5, vj x5), (7, vj x7), (9, vi x9)] [vi y41, vr 45, vj x5] M40
          refine v_iald (k := 45) C rfl g42.1 g42.2.1 dX12_gains_76 ?_
          show Aj E l z (76 + 1) [(10, vi y26), (0, vr 44), (2, vi x2), (3, vi x3), (4, vi x4), (5, vj x5), (7, vj x7), (9, vi x9)] [vi (M40 45 (y41).toNat), vj x5] M40
          refine v_i2l C g42.2.2.1 dX12_gains_77 ?_
          refine v_lmul C dX12_gains_78 ?_
          obtain ⟨y43, hy43⟩ : ∃ y : Int, y = x5 * (M40 45 (y41).toNat) := ⟨_, rfl⟩
          have g44 := g42.2.2.2 y43 hy43
          refine v_eqj hy43 ?_
          refine v_lstore (L' := [(5, vj y43), (10, vi y26), (0, vr 44), (2, vi x2), (3, vi x3), (4, vi x4), (7, vj x7), (9, vi x9)]) C dX12_gains_79 (by decide) rfl ?_
          refine v_lload (i := 6) C dX12_gains_81 rfl ?_
          refine v_aload_n (i := 2) C dX12_gains_83 rfl rfl ?_
          refine v_getf (k := 44) C fl_RX12_7 rfl rfl dX12_gains_84 ?_
          show Aj E l z (84 + 3) [(5, vj y43), (10, vi y26), (0, vr 44), (2, vi x2), (3, vi x3), (4, vi x4), (7, vj x7), (9, vi x9)] [vr 45, vj x7] M40
          refine v_iload (i := 1) C dX12_gains_87 rfl ?_
          refine v_iload (i := 5) C dX12_gains_89 rfl ?_
          refine v_callS (q := qX12_rateAt) (As := [vi y26, vi x4]) (S := [vr 45, vj x7]) C co_yX12_rateAt ml_RX12_197 st_yX12_rateAt ini_RX12 hq_X12_rateAt (by decide) (Nat.le_of_ble_eq_true rfl) rfl dX12_gains_91 (Con.mono g44 (fun rr M45 hr => ?_) (Nat.le_refl _))
          obtain ⟨y46, rfl, g47⟩ := hr
          show Aj E l z (91 + 3) [(5, vj y43), (10, vi y26), (0, vr 44), (2, vi x2), (3, vi x3), (4, vi x4), (7, vj x7), (9, vi x9)] [vi y46, vr 45, vj x7] M45
          refine v_iconst C dX12_gains_94 ?_
          refine v_iadd C dX12_gains_95 ?_
          refine v_iald (k := 45) C rfl g47.1 g47.2.1 dX12_gains_96 ?_
          show Aj E l z (96 + 1) [(5, vj y43), (10, vi y26), (0, vr 44), (2, vi x2), (3, vi x3), (4, vi x4), (7, vj x7), (9, vi x9)] [vi (M45 45 (y46 + 1).toNat), vj x7] M45
          refine v_i2l C g47.2.2.1 dX12_gains_97 ?_
          refine v_lmul C dX12_gains_98 ?_
          obtain ⟨y48, hy48⟩ : ∃ y : Int, y = x7 * (M45 45 (y46 + 1).toNat) := ⟨_, rfl⟩
          have g49 := g47.2.2.2 y48 hy48
          refine v_eqj hy48 ?_
          refine v_lstore (L' := [(7, vj y48), (5, vj y43), (10, vi y26), (0, vr 44), (2, vi x2), (3, vi x3), (4, vi x4), (9, vi x9)]) C dX12_gains_99 (by decide) rfl ?_
          refine v_iload (i := 2) C dX12_gains_101 rfl ?_
          refine v_istore (L' := [(4, vi y26), (7, vj y48), (5, vj y43), (10, vi y26), (0, vr 44), (2, vi x2), (3, vi x3), (9, vi x9)]) C dX12_gains_103 (by decide) rfl ?_
          exact v_sub [4, 5, 6, 0, 2, 1, 7, 3] rfl (SX12_gains_105 C r hJ16 g49)
        · have g39 := g36.2.2 c
          refine v_iload (i := 0) C dX12_gains_53 rfl ?_
          refine v_istore (L' := [(4, vi y26), (10, vi y26), (0, vr 44), (2, vi x2), (3, vi x3), (5, vj x5), (7, vj x7), (9, vi x9)]) C dX12_gains_55 (by decide) rfl ?_
          refine v_iload (i := 1) C dX12_gains_57 rfl ?_
          refine v_istore_n (L' := [(3, vi y26), (4, vi y26), (10, vi y26), (0, vr 44), (2, vi x2), (5, vj x5), (7, vj x7), (9, vi x9)]) C dX12_gains_59 rfl (by decide) rfl ?_
          refine v_goto C dX12_gains_60 (tgt := 105) (by decide) ?_
          exact v_sub [3, 4, 0, 1, 5, 6, 7, 2] rfl (SX12_gains_105 C r hJ16 g39)
      · have g37 := g35.2.2 c
        refine v_iconst C dX12_gains_47 ?_
        exact v_zret C r (by decide) dX12_gains_48 g37
theorem RX12_gains {E : FX} {l : Launch} {D : Nat} {post : Option AV → MM → Prop} (I16 : MM → Int → Int → Int → Int → Int → Int → Prop) (m16 : MM → Int → Int → Int → Int → Int → Int → Nat) {M : MM} {x1 : Int} (h0 : VX12_gains_0 E l D post I16 M x1) (h16I : ∀ (M : MM) (x2 : Int) (x3 : Int) (x4 : Int) (x5 : Int) (x7 : Int) (x9 : Int), I16 M x2 x3 x4 x5 x7 x9 → VX12_gains_16 E l D post (fun M' x2' x3' x4' x5' x7' x9' => I16 M' x2' x3' x4' x5' x7' x9' ∧ m16 M' x2' x3' x4' x5' x7' x9' < m16 M x2 x3 x4 x5 x7 x9) M x2 x3 x4 x5 x7 x9) : Con E l (D + 1) qX12_gains [vr 44, vi x1] M post := by
  refine con_of (by decide +kernel) (Nat.le_of_ble_eq_true rfl) (fun z C r => ?_)
  have all : ∀ n : Nat, (∀ (M : MM) (x2 : Int) (x3 : Int) (x4 : Int) (x5 : Int) (x7 : Int) (x9 : Int), I16 M x2 x3 x4 x5 x7 x9 → m16 M x2 x3 x4 x5 x7 x9 < n → Aj E l z 16 [(0, vr 44), (2, vi x2), (3, vi x3), (4, vi x4), (5, vj x5), (7, vj x7), (9, vi x9)] [] M) := by
    intro n
    induction n with
    | zero => exact fun _ _ _ _ _ _ _ _ hm => absurd hm (Nat.not_lt_zero _)
    | succ n ih => exact fun M x2 x3 x4 x5 x7 x9 hi hm => SX12_gains_16 C r (fun M' x2' x3' x4' x5' x7' x9' hj => ih M' x2' x3' x4' x5' x7' x9' hj.1 (by omega)) (h16I M x2 x3 x4 x5 x7 x9 hi)
  exact v_sub [0, 1] rfl (SX12_gains_0 C r (fun M' x2' x3' x4' x5' x7' x9' hj => (all _) M' x2' x3' x4' x5' x7' x9' hj (Nat.lt_succ_self _)) h0)
def VX12_rings_0 (E : FX) (l : Launch) (D : Nat) (post : Option AV → MM → Prop) (J21 : MM → Int → Int → Int → Int → Prop) (M : MM) (x1 : Int) : Prop :=
  R32 x1 ∧ (Con E l D qX12_in [vj x1, vj 0, vj 1] M (fun r M1 => ∃ y2 : Int, r = some (vi y2) ∧ (R32 y2 ∧ ((¬ y2 = 0 → J21 M1 x1 0 (-4) 12) ∧ (y2 = 0 → post (some (vi (-1))) M1)))))
set_option maxRecDepth 20000 in
theorem SX12_rings_0 {E : FX} {l : Launch} {D : Nat} {post : Option AV → MM → Prop} {z : RT} {J21 : MM → Int → Int → Int → Int → Prop} (C : Cx E z D RX12 cX12_rings 5) (r : Rt E z (some .int) post) (hJ21 : ∀ (M : MM) (x1 : Int) (x2 : Int) (x3 : Int) (x4 : Int), J21 M x1 x2 x3 x4 → Aj E l z 21 [(0, vr 44), (1, vi x1), (2, vi x2), (3, vi x3), (4, vi x4)] [] M) {M : MM} {x1 : Int} (h : VX12_rings_0 E l D post J21 M x1) : Aj E l z 0 [(0, vr 44), (1, vi x1)] [] M := by
  unfold VX12_rings_0 at h
  refine v_iload_n (i := 1) C dX12_rings_0 rfl rfl ?_
  refine v_i2l C h.1 dX12_rings_1 ?_
  refine v_lconst (x := 0) C dX12_rings_2 (by decide) ?_
  refine v_lconst (x := 1) C dX12_rings_3 (by decide) ?_
  refine v_callS (q := qX12_in) (As := [vj x1, vj 0, vj 1]) (S := []) C co_yX12_in ml_RX12_71 st_yX12_in ini_RX12 hq_X12_in (by decide) (Nat.le_of_ble_eq_true rfl) rfl dX12_rings_4 (Con.mono h.2 (fun rr M1 hr => ?_) (Nat.le_refl _))
  obtain ⟨y2, rfl, g3⟩ := hr
  show Aj E l z (4 + 3) [(0, vr 44), (1, vi x1)] [vi y2] M1
  refine v_if_ne (tgt := 12) C g3.1 dX12_rings_7 (by decide) (fun c => ?_) (fun c => ?_)
  · have g4 := g3.2.1 c
    refine v_iconst C dX12_rings_12 ?_
    refine v_istore_n (L' := [(2, vi 0), (0, vr 44), (1, vi x1)]) C dX12_rings_13 rfl (by decide) rfl ?_
    refine v_bipush C dX12_rings_14 (by decide) ?_
    refine v_istore_n (L' := [(3, vi (-4)), (2, vi 0), (0, vr 44), (1, vi x1)]) C dX12_rings_16 rfl (by decide) rfl ?_
    refine v_bipush C dX12_rings_17 (by decide) ?_
    refine v_istore (L' := [(4, vi 12), (3, vi (-4)), (2, vi 0), (0, vr 44), (1, vi x1)]) C dX12_rings_19 (by decide) rfl ?_
    exact v_sub [3, 4, 2, 1, 0] rfl (hJ21 _ _ _ _ _ g4)
  · have g5 := g3.2.2 c
    refine v_iconst C dX12_rings_10 ?_
    exact v_iret C r dX12_rings_11 g5
def VX12_rings_52 (E : FX) (l : Launch) (D : Nat) (post : Option AV → MM → Prop) (J21 : MM → Int → Int → Int → Int → Prop) (M : MM) (x1 : Int) (x2 : Int) (x3 : Int) (x4 : Int) : Prop :=
  ∀ y6 : Int, y6 = x4 + 1 → (J21 M x1 x2 x3 y6)
set_option maxRecDepth 20000 in
theorem SX12_rings_52 {E : FX} {l : Launch} {D : Nat} {post : Option AV → MM → Prop} {z : RT} {J21 : MM → Int → Int → Int → Int → Prop} (C : Cx E z D RX12 cX12_rings 5) (r : Rt E z (some .int) post) (hJ21 : ∀ (M : MM) (x1 : Int) (x2 : Int) (x3 : Int) (x4 : Int), J21 M x1 x2 x3 x4 → Aj E l z 21 [(0, vr 44), (1, vi x1), (2, vi x2), (3, vi x3), (4, vi x4)] [] M) {M : MM} {x1 : Int} {x2 : Int} {x3 : Int} {x4 : Int} (h : VX12_rings_52 E l D post J21 M x1 x2 x3 x4) : Aj E l z 52 [(0, vr 44), (1, vi x1), (2, vi x2), (3, vi x3), (4, vi x4)] [] M := by
  unfold VX12_rings_52 at h
  obtain ⟨y6, hy6⟩ : ∃ y : Int, y = x4 + 1 := ⟨_, rfl⟩
  have g7 := h y6 hy6
  refine v_iinc (i := 4) (L' := [(4, vi y6), (0, vr 44), (1, vi x1), (2, vi x2), (3, vi x3)]) C dX12_rings_52 rfl (by decide) hy6 rfl ?_
  refine v_goto C dX12_rings_55 (tgt := 21) (by decide) ?_
  exact v_sub [1, 2, 3, 4, 0] rfl (hJ21 _ _ _ _ _ g7)
def VX12_rings_48 (E : FX) (l : Launch) (D : Nat) (post : Option AV → MM → Prop) (J21 : MM → Int → Int → Int → Int → Prop) (M : MM) (x1 : Int) (x2 : Int) (x4 : Int) (s0 : Int) : Prop :=
  ∀ y8 : Int, y8 = x2 + 1 → (VX12_rings_52 E l D post J21 M x1 y8 s0 x4)
set_option maxRecDepth 20000 in
theorem SX12_rings_48 {E : FX} {l : Launch} {D : Nat} {post : Option AV → MM → Prop} {z : RT} {J21 : MM → Int → Int → Int → Int → Prop} (C : Cx E z D RX12 cX12_rings 5) (r : Rt E z (some .int) post) (hJ21 : ∀ (M : MM) (x1 : Int) (x2 : Int) (x3 : Int) (x4 : Int), J21 M x1 x2 x3 x4 → Aj E l z 21 [(0, vr 44), (1, vi x1), (2, vi x2), (3, vi x3), (4, vi x4)] [] M) {M : MM} {x1 : Int} {x2 : Int} {x4 : Int} {s0 : Int} (h : VX12_rings_48 E l D post J21 M x1 x2 x4 s0) : Aj E l z 48 [(0, vr 44), (1, vi x1), (2, vi x2), (4, vi x4)] [vi s0] M := by
  unfold VX12_rings_48 at h
  refine v_istore_n (L' := [(3, vi s0), (0, vr 44), (1, vi x1), (2, vi x2), (4, vi x4)]) C dX12_rings_48 rfl (by decide) rfl ?_
  obtain ⟨y8, hy8⟩ : ∃ y : Int, y = x2 + 1 := ⟨_, rfl⟩
  have g9 := h y8 hy8
  refine v_iinc (i := 3) (L' := [(2, vi y8), (3, vi s0), (0, vr 44), (1, vi x1), (4, vi x4)]) C dX12_rings_49 rfl (by decide) hy8 rfl ?_
  exact v_sub [2, 3, 0, 1, 4] rfl (SX12_rings_52 C r hJ21 g9)
def VX12_rings_67 (E : FX) (l : Launch) (D : Nat) (post : Option AV → MM → Prop) (J21 : MM → Int → Int → Int → Int → Prop) (M : MM) (s0 : Int) : Prop :=
  post (some (vi s0)) M
set_option maxRecDepth 20000 in
theorem SX12_rings_67 {E : FX} {l : Launch} {D : Nat} {post : Option AV → MM → Prop} {z : RT} {J21 : MM → Int → Int → Int → Int → Prop} (C : Cx E z D RX12 cX12_rings 5) (r : Rt E z (some .int) post) (hJ21 : ∀ (M : MM) (x1 : Int) (x2 : Int) (x3 : Int) (x4 : Int), J21 M x1 x2 x3 x4 → Aj E l z 21 [(0, vr 44), (1, vi x1), (2, vi x2), (3, vi x3), (4, vi x4)] [] M) {M : MM} {s0 : Int} (h : VX12_rings_67 E l D post J21 M s0) : Aj E l z 67 [] [vi s0] M := by
  unfold VX12_rings_67 at h
  exact v_iret C r dX12_rings_67 h
def VX12_rings_21 (E : FX) (l : Launch) (D : Nat) (post : Option AV → MM → Prop) (J21 : MM → Int → Int → Int → Int → Prop) (M : MM) (x1 : Int) (x2 : Int) (x3 : Int) (x4 : Int) : Prop :=
  R32 x4 ∧ ((4322 ≤ x4 → R32 x1 ∧ ((¬ x1 = 0 → VX12_rings_67 E l D post J21 M x3) ∧ (x1 = 0 → VX12_rings_67 E l D post J21 M x2))) ∧ (¬ 4322 ≤ x4 → Con E l D qX12_gains [vr 44, vi x4] M (fun r M14 => ∃ y15 : Int, r = some (vi y15) ∧ (R32 y15 ∧ ((y15 = 0 → ∀ y19 : Int, y19 = x4 + 1 → (J21 M14 x1 x2 x3 y19)) ∧ (¬ y15 = 0 → R32 x2 ∧ ((¬ x2 = 0 → VX12_rings_48 E l D post J21 M14 x1 x2 x4 x3) ∧ (x2 = 0 → VX12_rings_48 E l D post J21 M14 x1 x2 x4 x4))))))))
set_option maxRecDepth 20000 in
theorem SX12_rings_21 {E : FX} {l : Launch} {D : Nat} {post : Option AV → MM → Prop} {z : RT} {J21 : MM → Int → Int → Int → Int → Prop} (C : Cx E z D RX12 cX12_rings 5) (r : Rt E z (some .int) post) (hJ21 : ∀ (M : MM) (x1 : Int) (x2 : Int) (x3 : Int) (x4 : Int), J21 M x1 x2 x3 x4 → Aj E l z 21 [(0, vr 44), (1, vi x1), (2, vi x2), (3, vi x3), (4, vi x4)] [] M) {M : MM} {x1 : Int} {x2 : Int} {x3 : Int} {x4 : Int} (h : VX12_rings_21 E l D post J21 M x1 x2 x3 x4) : Aj E l z 21 [(0, vr 44), (1, vi x1), (2, vi x2), (3, vi x3), (4, vi x4)] [] M := by
  unfold VX12_rings_21 at h
  refine v_iload (i := 4) C dX12_rings_21 rfl ?_
  refine v_sipush C dX12_rings_23 (by decide) ?_
  refine v_icmp_ge (tgt := 58) C h.1 (by decide) dX12_rings_26 (by decide) (fun c => ?_) (fun c => ?_)
  · have g10 := h.2.1 c
    refine v_iload_n (i := 1) C dX12_rings_58 rfl rfl ?_
    refine v_if_ne (tgt := 66) C g10.1 dX12_rings_59 (by decide) (fun c => ?_) (fun c => ?_)
    · have g12 := g10.2.1 c
      refine v_iload_n (i := 3) C dX12_rings_66 rfl rfl ?_
      exact v_sub [] rfl (SX12_rings_67 C r hJ21 g12)
    · have g13 := g10.2.2 c
      refine v_iload_n (i := 2) C dX12_rings_62 rfl rfl ?_
      refine v_goto C dX12_rings_63 (tgt := 67) (by decide) ?_
      exact v_sub [] rfl (SX12_rings_67 C r hJ21 g13)
  · have g11 := h.2.2 c
    refine v_aload_n (i := 0) C dX12_rings_29 rfl rfl ?_
    refine v_iload (i := 4) C dX12_rings_30 rfl ?_
    refine v_callV (q := qX12_gains) (k := 44) (As := [vi x4]) (S := []) C co_yX12_gains ml_RX12_200 im_yX12_gains se_yX12_gains ini_RX12 rfl rfl hq_X12_gains (by decide) (Nat.le_of_ble_eq_true rfl) rfl dX12_rings_32 (Con.mono g11 (fun rr M14 hr => ?_) (Nat.le_refl _))
    obtain ⟨y15, rfl, g16⟩ := hr
    show Aj E l z (32 + 3) [(0, vr 44), (1, vi x1), (2, vi x2), (3, vi x3), (4, vi x4)] [vi y15] M14
    refine v_if_eq (tgt := 52) C g16.1 dX12_rings_35 (by decide) (fun c => ?_) (fun c => ?_)
    · have g17 := g16.2.1 c
      obtain ⟨y19, hy19⟩ : ∃ y : Int, y = x4 + 1 := ⟨_, rfl⟩
      have g20 := g17 y19 hy19
      refine v_iinc (i := 4) (L' := [(4, vi y19), (0, vr 44), (1, vi x1), (2, vi x2), (3, vi x3)]) C dX12_rings_52 rfl (by decide) hy19 rfl ?_
      refine v_goto C dX12_rings_55 (tgt := 21) (by decide) ?_
      exact v_sub [1, 2, 3, 4, 0] rfl (hJ21 _ _ _ _ _ g20)
    · have g18 := g16.2.2 c
      refine v_iload_n (i := 2) C dX12_rings_38 rfl rfl ?_
      refine v_if_ne (tgt := 47) C g18.1 dX12_rings_39 (by decide) (fun c => ?_) (fun c => ?_)
      · have g21 := g18.2.1 c
        refine v_iload_n (i := 3) C dX12_rings_47 rfl rfl ?_
        exact v_sub [0, 1, 2, 4] rfl (SX12_rings_48 C r hJ21 g21)
      · have g22 := g18.2.2 c
        refine v_iload (i := 4) C dX12_rings_42 rfl ?_
        refine v_goto C dX12_rings_44 (tgt := 48) (by decide) ?_
        exact v_sub [0, 1, 2, 4] rfl (SX12_rings_48 C r hJ21 g22)
theorem RX12_rings {E : FX} {l : Launch} {D : Nat} {post : Option AV → MM → Prop} (I21 : MM → Int → Int → Int → Int → Prop) (m21 : MM → Int → Int → Int → Int → Nat) {M : MM} {x1 : Int} (h0 : VX12_rings_0 E l D post I21 M x1) (h21I : ∀ (M : MM) (x1 : Int) (x2 : Int) (x3 : Int) (x4 : Int), I21 M x1 x2 x3 x4 → VX12_rings_21 E l D post (fun M' x1' x2' x3' x4' => I21 M' x1' x2' x3' x4' ∧ m21 M' x1' x2' x3' x4' < m21 M x1 x2 x3 x4) M x1 x2 x3 x4) : Con E l (D + 1) qX12_rings [vr 44, vi x1] M post := by
  refine con_of (by decide +kernel) (Nat.le_of_ble_eq_true rfl) (fun z C r => ?_)
  have all : ∀ n : Nat, (∀ (M : MM) (x1 : Int) (x2 : Int) (x3 : Int) (x4 : Int), I21 M x1 x2 x3 x4 → m21 M x1 x2 x3 x4 < n → Aj E l z 21 [(0, vr 44), (1, vi x1), (2, vi x2), (3, vi x3), (4, vi x4)] [] M) := by
    intro n
    induction n with
    | zero => exact fun _ _ _ _ _ _ hm => absurd hm (Nat.not_lt_zero _)
    | succ n ih => exact fun M x1 x2 x3 x4 hi hm => SX12_rings_21 C r (fun M' x1' x2' x3' x4' hj => ih M' x1' x2' x3' x4' hj.1 (by omega)) (h21I M x1 x2 x3 x4 hi)
  exact v_sub [0, 1] rfl (SX12_rings_0 C r (fun M' x1' x2' x3' x4' hj => (all _) M' x1' x2' x3' x4' hj (Nat.lt_succ_self _)) h0)
def VX12_turn_47 (E : FX) (l : Launch) (D : Nat) (post : Option AV → MM → Prop) (J71 : MM → Int → Int → Int → Int → Int → Int → Int → Prop) (J96 : MM → Int → Int → Int → Int → Int → Int → Int → Int → Int → Int → Int → Prop) (M : MM) : Prop :=
  post (some (vj (-1))) M
set_option maxRecDepth 20000 in
theorem SX12_turn_47 {E : FX} {l : Launch} {D : Nat} {post : Option AV → MM → Prop} {z : RT} {J71 : MM → Int → Int → Int → Int → Int → Int → Int → Prop} {J96 : MM → Int → Int → Int → Int → Int → Int → Int → Int → Int → Int → Int → Prop} (C : Cx E z D RX12 cX12_turn 15) (r : Rt E z (some .long) post) (hJ71 : ∀ (M : MM) (x1 : Int) (x2 : Int) (x3 : Int) (x4 : Int) (x5 : Int) (x7 : Int) (x8 : Int), J71 M x1 x2 x3 x4 x5 x7 x8 → Aj E l z 71 [(0, vr 44), (1, vi x1), (2, vi x2), (3, vi x3), (4, vi x4), (5, vj x5), (7, vi x7), (8, vi x8)] [] M) (hJ96 : ∀ (M : MM) (x1 : Int) (x2 : Int) (x3 : Int) (x4 : Int) (x5 : Int) (x7 : Int) (x8 : Int) (x9 : Int) (x11 : Int) (x12 : Int) (x13 : Int), J96 M x1 x2 x3 x4 x5 x7 x8 x9 x11 x12 x13 → Aj E l z 96 [(0, vr 44), (1, vi x1), (2, vi x2), (3, vi x3), (4, vi x4), (5, vj x5), (7, vi x7), (8, vi x8), (9, vj x9), (11, vi x11), (12, vi x12), (13, vi x13)] [] M) {M : MM} (h : VX12_turn_47 E l D post J71 J96 M) : Aj E l z 47 [] [] M := by
  unfold VX12_turn_47 at h
  refine v_ldc2 (x := -1) C cs_RX12_85 (by decide) dX12_turn_47 ?_
  exact v_lret C r dX12_turn_50 h
def VX12_turn_0 (E : FX) (l : Launch) (D : Nat) (post : Option AV → MM → Prop) (J71 : MM → Int → Int → Int → Int → Int → Int → Int → Prop) (J96 : MM → Int → Int → Int → Int → Int → Int → Int → Int → Int → Int → Int → Prop) (M : MM) (x1 : Int) (x2 : Int) (x3 : Int) (x4 : Int) : Prop :=
  Con E l D qX12_isCoin [vi x1] M (fun r M1 => ∃ y2 : Int, r = some (vi y2) ∧ (R32 y2 ∧ ((y2 = 0 → post (some (vj (-1))) M1) ∧ (¬ y2 = 0 → R32 x2 ∧ (Con E l D qX12_in [vj x2, vj 0, vj 999999] M1 (fun r M6 => ∃ y7 : Int, r = some (vi y7) ∧ (R32 y7 ∧ ((y7 = 0 → post (some (vj (-1))) M6) ∧ (¬ y7 = 0 → R32 x3 ∧ (Con E l D qX12_in [vj x3, vj 1, vj 5] M6 (fun r M11 => ∃ y12 : Int, r = some (vi y12) ∧ (R32 y12 ∧ ((y12 = 0 → post (some (vj (-1))) M11) ∧ (¬ y12 = 0 → R32 x4 ∧ (R32 (x3 - 1) ∧ (Con E l D qX12_in [vj x4, vj (-1), vj (x3 - 1)] M11 (fun r M16 => ∃ y17 : Int, r = some (vi y17) ∧ (R32 y17 ∧ ((¬ y17 = 0 → R32 x3 ∧ ((¬ x3 = 1 → J71 M16 x1 x2 x3 x4 (-1) 0 0) ∧ (x3 = 1 → post (some (vj (-4))) M16))) ∧ (y17 = 0 → post (some (vj (-1))) M16))))))))))))))))))))
set_option maxRecDepth 20000 in
theorem SX12_turn_0 {E : FX} {l : Launch} {D : Nat} {post : Option AV → MM → Prop} {z : RT} {J71 : MM → Int → Int → Int → Int → Int → Int → Int → Prop} {J96 : MM → Int → Int → Int → Int → Int → Int → Int → Int → Int → Int → Int → Prop} (C : Cx E z D RX12 cX12_turn 15) (r : Rt E z (some .long) post) (hJ71 : ∀ (M : MM) (x1 : Int) (x2 : Int) (x3 : Int) (x4 : Int) (x5 : Int) (x7 : Int) (x8 : Int), J71 M x1 x2 x3 x4 x5 x7 x8 → Aj E l z 71 [(0, vr 44), (1, vi x1), (2, vi x2), (3, vi x3), (4, vi x4), (5, vj x5), (7, vi x7), (8, vi x8)] [] M) (hJ96 : ∀ (M : MM) (x1 : Int) (x2 : Int) (x3 : Int) (x4 : Int) (x5 : Int) (x7 : Int) (x8 : Int) (x9 : Int) (x11 : Int) (x12 : Int) (x13 : Int), J96 M x1 x2 x3 x4 x5 x7 x8 x9 x11 x12 x13 → Aj E l z 96 [(0, vr 44), (1, vi x1), (2, vi x2), (3, vi x3), (4, vi x4), (5, vj x5), (7, vi x7), (8, vi x8), (9, vj x9), (11, vi x11), (12, vi x12), (13, vi x13)] [] M) {M : MM} {x1 : Int} {x2 : Int} {x3 : Int} {x4 : Int} (h : VX12_turn_0 E l D post J71 J96 M x1 x2 x3 x4) : Aj E l z 0 [(0, vr 44), (1, vi x1), (2, vi x2), (3, vi x3), (4, vi x4)] [] M := by
  unfold VX12_turn_0 at h
  refine v_iload_n (i := 1) C dX12_turn_0 rfl rfl ?_
  refine v_callS (q := qX12_isCoin) (As := [vi x1]) (S := []) C co_yX12_isCoin ml_RX12_194 st_yX12_isCoin ini_RX12 hq_X12_isCoin (by decide) (Nat.le_of_ble_eq_true rfl) rfl dX12_turn_1 (Con.mono h (fun rr M1 hr => ?_) (Nat.le_refl _))
  obtain ⟨y2, rfl, g3⟩ := hr
  show Aj E l z (1 + 3) [(0, vr 44), (1, vi x1), (2, vi x2), (3, vi x3), (4, vi x4)] [vi y2] M1
  refine v_if_eq (tgt := 47) C g3.1 dX12_turn_4 (by decide) (fun c => ?_) (fun c => ?_)
  · have g4 := g3.2.1 c
    refine v_ldc2 (x := -1) C cs_RX12_85 (by decide) dX12_turn_47 ?_
    exact v_lret C r dX12_turn_50 g4
  · have g5 := g3.2.2 c
    refine v_iload_n (i := 2) C dX12_turn_7 rfl rfl ?_
    refine v_i2l C g5.1 dX12_turn_8 ?_
    refine v_lconst (x := 0) C dX12_turn_9 (by decide) ?_
    refine v_ldc2 (x := 999999) C cs_RX12_83 (by decide) dX12_turn_10 ?_
    refine v_callS (q := qX12_in) (As := [vj x2, vj 0, vj 999999]) (S := []) C co_yX12_in ml_RX12_71 st_yX12_in ini_RX12 hq_X12_in (by decide) (Nat.le_of_ble_eq_true rfl) rfl dX12_turn_13 (Con.mono g5.2 (fun rr M6 hr => ?_) (Nat.le_refl _))
    obtain ⟨y7, rfl, g8⟩ := hr
    show Aj E l z (13 + 3) [(0, vr 44), (1, vi x1), (2, vi x2), (3, vi x3), (4, vi x4)] [vi y7] M6
    refine v_if_eq (tgt := 47) C g8.1 dX12_turn_16 (by decide) (fun c => ?_) (fun c => ?_)
    · have g9 := g8.2.1 c
      refine v_ldc2 (x := -1) C cs_RX12_85 (by decide) dX12_turn_47 ?_
      exact v_lret C r dX12_turn_50 g9
    · have g10 := g8.2.2 c
      refine v_iload_n (i := 3) C dX12_turn_19 rfl rfl ?_
      refine v_i2l C g10.1 dX12_turn_20 ?_
      refine v_lconst (x := 1) C dX12_turn_21 (by decide) ?_
      refine v_ldc2 (x := 5) C cs_RX12_77 (by decide) dX12_turn_22 ?_
      refine v_callS (q := qX12_in) (As := [vj x3, vj 1, vj 5]) (S := []) C co_yX12_in ml_RX12_71 st_yX12_in ini_RX12 hq_X12_in (by decide) (Nat.le_of_ble_eq_true rfl) rfl dX12_turn_25 (Con.mono g10.2 (fun rr M11 hr => ?_) (Nat.le_refl _))
      obtain ⟨y12, rfl, g13⟩ := hr
      show Aj E l z (25 + 3) [(0, vr 44), (1, vi x1), (2, vi x2), (3, vi x3), (4, vi x4)] [vi y12] M11
      refine v_if_eq (tgt := 47) C g13.1 dX12_turn_28 (by decide) (fun c => ?_) (fun c => ?_)
      · have g14 := g13.2.1 c
        refine v_ldc2 (x := -1) C cs_RX12_85 (by decide) dX12_turn_47 ?_
        exact v_lret C r dX12_turn_50 g14
      · have g15 := g13.2.2 c
        refine v_iload (i := 4) C dX12_turn_31 rfl ?_
        refine v_i2l C g15.1 dX12_turn_33 ?_
        refine v_ldc2 (x := -1) C cs_RX12_85 (by decide) dX12_turn_34 ?_
        refine v_iload_n (i := 3) C dX12_turn_37 rfl rfl ?_
        refine v_iconst C dX12_turn_38 ?_
        refine v_isub C dX12_turn_39 ?_
        refine v_i2l C g15.2.1 dX12_turn_40 ?_
        refine v_callS (q := qX12_in) (As := [vj x4, vj (-1), vj (x3 - 1)]) (S := []) C co_yX12_in ml_RX12_71 st_yX12_in ini_RX12 hq_X12_in (by decide) (Nat.le_of_ble_eq_true rfl) rfl dX12_turn_41 (Con.mono g15.2.2 (fun rr M16 hr => ?_) (Nat.le_refl _))
        obtain ⟨y17, rfl, g18⟩ := hr
        show Aj E l z (41 + 3) [(0, vr 44), (1, vi x1), (2, vi x2), (3, vi x3), (4, vi x4)] [vi y17] M16
        refine v_if_ne (tgt := 51) C g18.1 dX12_turn_44 (by decide) (fun c => ?_) (fun c => ?_)
        · have g19 := g18.2.1 c
          refine v_iload_n (i := 3) C dX12_turn_51 rfl rfl ?_
          refine v_iconst C dX12_turn_52 ?_
          refine v_icmp_ne (tgt := 60) C g19.1 (by decide) dX12_turn_53 (by decide) (fun c => ?_) (fun c => ?_)
          · have g21 := g19.2.1 c
            refine v_ldc2 (x := -1) C cs_RX12_85 (by decide) dX12_turn_60 ?_
            refine v_lstore (L' := [(5, vj (-1)), (0, vr 44), (1, vi x1), (2, vi x2), (3, vi x3), (4, vi x4)]) C dX12_turn_63 (by decide) rfl ?_
            refine v_iconst C dX12_turn_65 ?_
            refine v_istore (L' := [(7, vi 0), (5, vj (-1)), (0, vr 44), (1, vi x1), (2, vi x2), (3, vi x3), (4, vi x4)]) C dX12_turn_66 (by decide) rfl ?_
            refine v_iconst C dX12_turn_68 ?_
            refine v_istore (L' := [(8, vi 0), (7, vi 0), (5, vj (-1)), (0, vr 44), (1, vi x1), (2, vi x2), (3, vi x3), (4, vi x4)]) C dX12_turn_69 (by decide) rfl ?_
            exact v_sub [3, 4, 5, 6, 7, 2, 1, 0] rfl (hJ71 _ _ _ _ _ _ _ _ g21)
          · have g22 := g19.2.2 c
            refine v_ldc2 (x := -4) C cs_RX12_190 (by decide) dX12_turn_56 ?_
            exact v_lret C r dX12_turn_59 g22
        · have g20 := g18.2.2 c
          refine v_ldc2 (x := -1) C cs_RX12_85 (by decide) dX12_turn_47 ?_
          exact v_lret C r dX12_turn_50 g20
def VX12_turn_256 (E : FX) (l : Launch) (D : Nat) (post : Option AV → MM → Prop) (J71 : MM → Int → Int → Int → Int → Int → Int → Int → Prop) (J96 : MM → Int → Int → Int → Int → Int → Int → Int → Int → Int → Int → Int → Prop) (M : MM) (s0 : Int) : Prop :=
  post (some (vj s0)) M
set_option maxRecDepth 20000 in
theorem SX12_turn_256 {E : FX} {l : Launch} {D : Nat} {post : Option AV → MM → Prop} {z : RT} {J71 : MM → Int → Int → Int → Int → Int → Int → Int → Prop} {J96 : MM → Int → Int → Int → Int → Int → Int → Int → Int → Int → Int → Int → Prop} (C : Cx E z D RX12 cX12_turn 15) (r : Rt E z (some .long) post) (hJ71 : ∀ (M : MM) (x1 : Int) (x2 : Int) (x3 : Int) (x4 : Int) (x5 : Int) (x7 : Int) (x8 : Int), J71 M x1 x2 x3 x4 x5 x7 x8 → Aj E l z 71 [(0, vr 44), (1, vi x1), (2, vi x2), (3, vi x3), (4, vi x4), (5, vj x5), (7, vi x7), (8, vi x8)] [] M) (hJ96 : ∀ (M : MM) (x1 : Int) (x2 : Int) (x3 : Int) (x4 : Int) (x5 : Int) (x7 : Int) (x8 : Int) (x9 : Int) (x11 : Int) (x12 : Int) (x13 : Int), J96 M x1 x2 x3 x4 x5 x7 x8 x9 x11 x12 x13 → Aj E l z 96 [(0, vr 44), (1, vi x1), (2, vi x2), (3, vi x3), (4, vi x4), (5, vj x5), (7, vi x7), (8, vi x8), (9, vj x9), (11, vi x11), (12, vi x12), (13, vi x13)] [] M) {M : MM} {s0 : Int} (h : VX12_turn_256 E l D post J71 J96 M s0) : Aj E l z 256 [] [vj s0] M := by
  unfold VX12_turn_256 at h
  exact v_lret C r dX12_turn_256 h
def VX12_turn_71 (E : FX) (l : Launch) (D : Nat) (post : Option AV → MM → Prop) (J71 : MM → Int → Int → Int → Int → Int → Int → Int → Prop) (J96 : MM → Int → Int → Int → Int → Int → Int → Int → Int → Int → Int → Int → Prop) (M : MM) (x1 : Int) (x2 : Int) (x3 : Int) (x4 : Int) (x5 : Int) (x7 : Int) (x8 : Int) : Prop :=
  R32 x8 ∧ (R32 (ishl 1 (2 * (x3 - 1))) ∧ ((ishl 1 (2 * (x3 - 1)) ≤ x8 → R32 x4 ∧ ((0 ≤ x4 → R32 x4 ∧ (R32 (x3 - 1) ∧ ((¬ x4 = x3 - 1 → R32 (iand (ishr x7 (2 * ((x3 - 2) - x4))) 3) ∧ (VX12_turn_256 E l D post J71 J96 M (iand (ishr x7 (2 * ((x3 - 2) - x4))) 3))) ∧ (x4 = x3 - 1 → R32 x1 ∧ (VX12_turn_256 E l D post J71 J96 M x1))))) ∧ (¬ 0 ≤ x4 → VX12_turn_256 E l D post J71 J96 M x5))) ∧ (¬ ishl 1 (2 * (x3 - 1)) ≤ x8 → R32 x2 ∧ (J96 M x1 x2 x3 x4 x5 x7 x8 x2 x1 1 0))))
set_option maxRecDepth 20000 in
theorem SX12_turn_71 {E : FX} {l : Launch} {D : Nat} {post : Option AV → MM → Prop} {z : RT} {J71 : MM → Int → Int → Int → Int → Int → Int → Int → Prop} {J96 : MM → Int → Int → Int → Int → Int → Int → Int → Int → Int → Int → Int → Prop} (C : Cx E z D RX12 cX12_turn 15) (r : Rt E z (some .long) post) (hJ71 : ∀ (M : MM) (x1 : Int) (x2 : Int) (x3 : Int) (x4 : Int) (x5 : Int) (x7 : Int) (x8 : Int), J71 M x1 x2 x3 x4 x5 x7 x8 → Aj E l z 71 [(0, vr 44), (1, vi x1), (2, vi x2), (3, vi x3), (4, vi x4), (5, vj x5), (7, vi x7), (8, vi x8)] [] M) (hJ96 : ∀ (M : MM) (x1 : Int) (x2 : Int) (x3 : Int) (x4 : Int) (x5 : Int) (x7 : Int) (x8 : Int) (x9 : Int) (x11 : Int) (x12 : Int) (x13 : Int), J96 M x1 x2 x3 x4 x5 x7 x8 x9 x11 x12 x13 → Aj E l z 96 [(0, vr 44), (1, vi x1), (2, vi x2), (3, vi x3), (4, vi x4), (5, vj x5), (7, vi x7), (8, vi x8), (9, vj x9), (11, vi x11), (12, vi x12), (13, vi x13)] [] M) {M : MM} {x1 : Int} {x2 : Int} {x3 : Int} {x4 : Int} {x5 : Int} {x7 : Int} {x8 : Int} (h : VX12_turn_71 E l D post J71 J96 M x1 x2 x3 x4 x5 x7 x8) : Aj E l z 71 [(0, vr 44), (1, vi x1), (2, vi x2), (3, vi x3), (4, vi x4), (5, vj x5), (7, vi x7), (8, vi x8)] [] M := by
  unfold VX12_turn_71 at h
  refine v_iload (i := 7) C dX12_turn_71 rfl ?_
  refine v_iconst C dX12_turn_73 ?_
  refine v_iconst C dX12_turn_74 ?_
  refine v_iload_n (i := 3) C dX12_turn_75 rfl rfl ?_
  refine v_iconst C dX12_turn_76 ?_
  refine v_isub C dX12_turn_77 ?_
  refine v_imul C dX12_turn_78 ?_
  refine v_ishl C dX12_turn_79 ?_
  refine v_icmp_ge (tgt := 219) C h.1 h.2.1 dX12_turn_80 (by decide) (fun c => ?_) (fun c => ?_)
  · have g23 := h.2.2.1 c
    refine v_iload (i := 4) C dX12_turn_219 rfl ?_
    refine v_if_ge (tgt := 229) C g23.1 dX12_turn_221 (by decide) (fun c => ?_) (fun c => ?_)
    · have g25 := g23.2.1 c
      refine v_iload (i := 4) C dX12_turn_229 rfl ?_
      refine v_iload_n (i := 3) C dX12_turn_231 rfl rfl ?_
      refine v_iconst C dX12_turn_232 ?_
      refine v_isub C dX12_turn_233 ?_
      refine v_icmp_ne (tgt := 242) C g25.1 g25.2.1 dX12_turn_234 (by decide) (fun c => ?_) (fun c => ?_)
      · have g27 := g25.2.2.1 c
        refine v_iload (i := 6) C dX12_turn_242 rfl ?_
        refine v_iconst C dX12_turn_244 ?_
        refine v_iload_n (i := 3) C dX12_turn_245 rfl rfl ?_
        refine v_iconst C dX12_turn_246 ?_
        refine v_isub C dX12_turn_247 ?_
        refine v_iload (i := 4) C dX12_turn_248 rfl ?_
        refine v_isub C dX12_turn_250 ?_
        refine v_imul C dX12_turn_251 ?_
        refine v_ishr C dX12_turn_252 ?_
        refine v_iconst C dX12_turn_253 ?_
        refine v_iand C dX12_turn_254 ?_
        refine v_i2l C g27.1 dX12_turn_255 ?_
        exact v_sub [] rfl (SX12_turn_256 C r hJ71 hJ96 g27.2)
      · have g28 := g25.2.2.2 c
        refine v_iload_n (i := 1) C dX12_turn_237 rfl rfl ?_
        refine v_i2l C g28.1 dX12_turn_238 ?_
        refine v_goto C dX12_turn_239 (tgt := 256) (by decide) ?_
        exact v_sub [] rfl (SX12_turn_256 C r hJ71 hJ96 g28.2)
    · have g26 := g23.2.2 c
      refine v_lload (i := 5) C dX12_turn_224 rfl ?_
      refine v_goto C dX12_turn_226 (tgt := 256) (by decide) ?_
      exact v_sub [] rfl (SX12_turn_256 C r hJ71 hJ96 g26)
  · have g24 := h.2.2.2 c
    refine v_iload_n (i := 2) C dX12_turn_83 rfl rfl ?_
    refine v_i2l C g24.1 dX12_turn_84 ?_
    refine v_lstore (L' := [(9, vj x2), (0, vr 44), (1, vi x1), (2, vi x2), (3, vi x3), (4, vi x4), (5, vj x5), (7, vi x7), (8, vi x8)]) C dX12_turn_85 (by decide) rfl ?_
    refine v_iload_n (i := 2) C dX12_turn_87 rfl rfl ?_
    refine v_istore (L' := [(11, vi x1), (9, vj x2), (0, vr 44), (1, vi x1), (2, vi x2), (3, vi x3), (4, vi x4), (5, vj x5), (7, vi x7), (8, vi x8)]) C dX12_turn_88 (by decide) rfl ?_
    refine v_iconst C dX12_turn_90 ?_
    refine v_istore (L' := [(12, vi 1), (11, vi x1), (9, vj x2), (0, vr 44), (1, vi x1), (2, vi x2), (3, vi x3), (4, vi x4), (5, vj x5), (7, vi x7), (8, vi x8)]) C dX12_turn_91 (by decide) rfl ?_
    refine v_iconst C dX12_turn_93 ?_
    refine v_istore (L' := [(13, vi 0), (12, vi 1), (11, vi x1), (9, vj x2), (0, vr 44), (1, vi x1), (2, vi x2), (3, vi x3), (4, vi x4), (5, vj x5), (7, vi x7), (8, vi x8)]) C dX12_turn_94 (by decide) rfl ?_
    exact v_sub [4, 5, 6, 7, 8, 9, 10, 11, 3, 2, 1, 0] rfl (hJ96 _ _ _ _ _ _ _ _ _ _ _ _ g24.2)
def VX12_turn_213 (E : FX) (l : Launch) (D : Nat) (post : Option AV → MM → Prop) (J71 : MM → Int → Int → Int → Int → Int → Int → Int → Prop) (J96 : MM → Int → Int → Int → Int → Int → Int → Int → Int → Int → Int → Int → Prop) (M : MM) (x1 : Int) (x2 : Int) (x3 : Int) (x4 : Int) (x5 : Int) (x7 : Int) (x8 : Int) : Prop :=
  ∀ y29 : Int, y29 = x8 + 1 → (J71 M x1 x2 x3 x4 x5 x7 y29)
set_option maxRecDepth 20000 in
theorem SX12_turn_213 {E : FX} {l : Launch} {D : Nat} {post : Option AV → MM → Prop} {z : RT} {J71 : MM → Int → Int → Int → Int → Int → Int → Int → Prop} {J96 : MM → Int → Int → Int → Int → Int → Int → Int → Int → Int → Int → Int → Prop} (C : Cx E z D RX12 cX12_turn 15) (r : Rt E z (some .long) post) (hJ71 : ∀ (M : MM) (x1 : Int) (x2 : Int) (x3 : Int) (x4 : Int) (x5 : Int) (x7 : Int) (x8 : Int), J71 M x1 x2 x3 x4 x5 x7 x8 → Aj E l z 71 [(0, vr 44), (1, vi x1), (2, vi x2), (3, vi x3), (4, vi x4), (5, vj x5), (7, vi x7), (8, vi x8)] [] M) (hJ96 : ∀ (M : MM) (x1 : Int) (x2 : Int) (x3 : Int) (x4 : Int) (x5 : Int) (x7 : Int) (x8 : Int) (x9 : Int) (x11 : Int) (x12 : Int) (x13 : Int), J96 M x1 x2 x3 x4 x5 x7 x8 x9 x11 x12 x13 → Aj E l z 96 [(0, vr 44), (1, vi x1), (2, vi x2), (3, vi x3), (4, vi x4), (5, vj x5), (7, vi x7), (8, vi x8), (9, vj x9), (11, vi x11), (12, vi x12), (13, vi x13)] [] M) {M : MM} {x1 : Int} {x2 : Int} {x3 : Int} {x4 : Int} {x5 : Int} {x7 : Int} {x8 : Int} (h : VX12_turn_213 E l D post J71 J96 M x1 x2 x3 x4 x5 x7 x8) : Aj E l z 213 [(0, vr 44), (1, vi x1), (2, vi x2), (3, vi x3), (4, vi x4), (5, vj x5), (7, vi x7), (8, vi x8)] [] M := by
  unfold VX12_turn_213 at h
  obtain ⟨y29, hy29⟩ : ∃ y : Int, y = x8 + 1 := ⟨_, rfl⟩
  have g30 := h y29 hy29
  refine v_iinc (i := 7) (L' := [(8, vi y29), (0, vr 44), (1, vi x1), (2, vi x2), (3, vi x3), (4, vi x4), (5, vj x5), (7, vi x7)]) C dX12_turn_213 rfl (by decide) hy29 rfl ?_
  refine v_goto C dX12_turn_216 (tgt := 71) (by decide) ?_
  exact v_sub [1, 2, 3, 4, 5, 6, 7, 0] rfl (hJ71 _ _ _ _ _ _ _ _ g30)
def VX12_turn_146 (E : FX) (l : Launch) (D : Nat) (post : Option AV → MM → Prop) (J71 : MM → Int → Int → Int → Int → Int → Int → Int → Prop) (J96 : MM → Int → Int → Int → Int → Int → Int → Int → Int → Int → Int → Int → Prop) (M : MM) (x1 : Int) (x2 : Int) (x3 : Int) (x4 : Int) (x5 : Int) (x7 : Int) (x8 : Int) (x9 : Int) (x11 : Int) (x13 : Int) (x14 : Int) (s0 : Int) : Prop :=
  Con E l D qX12_rateAt [vi x11, vi x14] M (fun r M31 => ∃ y32 : Int, r = some (vi y32) ∧ (0 ≤ y32 ∧ (y32 < 140 ∧ (R32 (M31 45 (y32).toNat) ∧ (Con E l D qX12_rateAt [vi x11, vi x14] M31 (fun r M34 => ∃ y35 : Int, r = some (vi y35) ∧ (0 ≤ y35 + 1 ∧ (y35 + 1 < 140 ∧ (R32 (M34 45 (y35 + 1).toNat) ∧ (R64 (x9 * (M31 45 (y32).toNat)) ∧ (R64 (M34 45 (y35 + 1).toNat) ∧ (0 < M34 45 (y35 + 1).toNat ∧ (∀ y37 : Int, y37 = Int.tdiv (x9 * (M31 45 (y32).toNat)) (M34 45 (y35 + 1).toNat) → (∀ y39 : Int, y39 = x13 + 1 → (J96 M34 x1 x2 x3 x4 x5 x7 x8 y37 x14 s0 y39)))))))))))))))
set_option maxRecDepth 20000 in
theorem SX12_turn_146 {E : FX} {l : Launch} {D : Nat} {post : Option AV → MM → Prop} {z : RT} {J71 : MM → Int → Int → Int → Int → Int → Int → Int → Prop} {J96 : MM → Int → Int → Int → Int → Int → Int → Int → Int → Int → Int → Int → Prop} (C : Cx E z D RX12 cX12_turn 15) (r : Rt E z (some .long) post) (hJ71 : ∀ (M : MM) (x1 : Int) (x2 : Int) (x3 : Int) (x4 : Int) (x5 : Int) (x7 : Int) (x8 : Int), J71 M x1 x2 x3 x4 x5 x7 x8 → Aj E l z 71 [(0, vr 44), (1, vi x1), (2, vi x2), (3, vi x3), (4, vi x4), (5, vj x5), (7, vi x7), (8, vi x8)] [] M) (hJ96 : ∀ (M : MM) (x1 : Int) (x2 : Int) (x3 : Int) (x4 : Int) (x5 : Int) (x7 : Int) (x8 : Int) (x9 : Int) (x11 : Int) (x12 : Int) (x13 : Int), J96 M x1 x2 x3 x4 x5 x7 x8 x9 x11 x12 x13 → Aj E l z 96 [(0, vr 44), (1, vi x1), (2, vi x2), (3, vi x3), (4, vi x4), (5, vj x5), (7, vi x7), (8, vi x8), (9, vj x9), (11, vi x11), (12, vi x12), (13, vi x13)] [] M) {M : MM} {x1 : Int} {x2 : Int} {x3 : Int} {x4 : Int} {x5 : Int} {x7 : Int} {x8 : Int} {x9 : Int} {x11 : Int} {x13 : Int} {x14 : Int} {s0 : Int} (h : VX12_turn_146 E l D post J71 J96 M x1 x2 x3 x4 x5 x7 x8 x9 x11 x13 x14 s0) : Aj E l z 146 [(0, vr 44), (1, vi x1), (2, vi x2), (3, vi x3), (4, vi x4), (5, vj x5), (7, vi x7), (8, vi x8), (9, vj x9), (11, vi x11), (13, vi x13), (14, vi x14)] [vi s0] M := by
  unfold VX12_turn_146 at h
  refine v_istore (L' := [(12, vi s0), (0, vr 44), (1, vi x1), (2, vi x2), (3, vi x3), (4, vi x4), (5, vj x5), (7, vi x7), (8, vi x8), (9, vj x9), (11, vi x11), (13, vi x13), (14, vi x14)]) C dX12_turn_146 (by decide) rfl ?_
  refine v_lload (i := 9) C dX12_turn_148 rfl ?_
  refine v_aload_n (i := 1) C dX12_turn_150 rfl rfl ?_
  refine v_getf (k := 44) C fl_RX12_7 rfl rfl dX12_turn_151 ?_
  show Aj E l z (151 + 3) [(12, vi s0), (0, vr 44), (1, vi x1), (2, vi x2), (3, vi x3), (4, vi x4), (5, vj x5), (7, vi x7), (8, vi x8), (9, vj x9), (11, vi x11), (13, vi x13), (14, vi x14)] [vr 45, vj x9] M
  refine v_iload (i := 10) C dX12_turn_154 rfl ?_
  refine v_iload (i := 12) C dX12_turn_156 rfl ?_
  refine v_callS (q := qX12_rateAt) (As := [vi x11, vi x14]) (S := [vr 45, vj x9]) C co_yX12_rateAt ml_RX12_197 st_yX12_rateAt ini_RX12 hq_X12_rateAt (by decide) (Nat.le_of_ble_eq_true rfl) rfl dX12_turn_158 (Con.mono h (fun rr M31 hr => ?_) (Nat.le_refl _))
  obtain ⟨y32, rfl, g33⟩ := hr
  show Aj E l z (158 + 3) [(12, vi s0), (0, vr 44), (1, vi x1), (2, vi x2), (3, vi x3), (4, vi x4), (5, vj x5), (7, vi x7), (8, vi x8), (9, vj x9), (11, vi x11), (13, vi x13), (14, vi x14)] [vi y32, vr 45, vj x9] M31
  refine v_iald (k := 45) C rfl g33.1 g33.2.1 dX12_turn_161 ?_
  show Aj E l z (161 + 1) [(12, vi s0), (0, vr 44), (1, vi x1), (2, vi x2), (3, vi x3), (4, vi x4), (5, vj x5), (7, vi x7), (8, vi x8), (9, vj x9), (11, vi x11), (13, vi x13), (14, vi x14)] [vi (M31 45 (y32).toNat), vj x9] M31
  refine v_i2l C g33.2.2.1 dX12_turn_162 ?_
  refine v_lmul C dX12_turn_163 ?_
  refine v_aload_n (i := 1) C dX12_turn_164 rfl rfl ?_
  refine v_getf (k := 44) C fl_RX12_7 rfl rfl dX12_turn_165 ?_
  show Aj E l z (165 + 3) [(12, vi s0), (0, vr 44), (1, vi x1), (2, vi x2), (3, vi x3), (4, vi x4), (5, vj x5), (7, vi x7), (8, vi x8), (9, vj x9), (11, vi x11), (13, vi x13), (14, vi x14)] [vr 45, vj (x9 * (M31 45 (y32).toNat))] M31
  refine v_iload (i := 10) C dX12_turn_168 rfl ?_
  refine v_iload (i := 12) C dX12_turn_170 rfl ?_
  refine v_callS (q := qX12_rateAt) (As := [vi x11, vi x14]) (S := [vr 45, vj (x9 * (M31 45 (y32).toNat))]) C co_yX12_rateAt ml_RX12_197 st_yX12_rateAt ini_RX12 hq_X12_rateAt (by decide) (Nat.le_of_ble_eq_true rfl) rfl dX12_turn_172 (Con.mono g33.2.2.2 (fun rr M34 hr => ?_) (Nat.le_refl _))
  obtain ⟨y35, rfl, g36⟩ := hr
  show Aj E l z (172 + 3) [(12, vi s0), (0, vr 44), (1, vi x1), (2, vi x2), (3, vi x3), (4, vi x4), (5, vj x5), (7, vi x7), (8, vi x8), (9, vj x9), (11, vi x11), (13, vi x13), (14, vi x14)] [vi y35, vr 45, vj (x9 * (M31 45 (y32).toNat))] M34
  refine v_iconst C dX12_turn_175 ?_
  refine v_iadd C dX12_turn_176 ?_
  refine v_iald (k := 45) C rfl g36.1 g36.2.1 dX12_turn_177 ?_
  show Aj E l z (177 + 1) [(12, vi s0), (0, vr 44), (1, vi x1), (2, vi x2), (3, vi x3), (4, vi x4), (5, vj x5), (7, vi x7), (8, vi x8), (9, vj x9), (11, vi x11), (13, vi x13), (14, vi x14)] [vi (M34 45 (y35 + 1).toNat), vj (x9 * (M31 45 (y32).toNat))] M34
  refine v_i2l C g36.2.2.1 dX12_turn_178 ?_
  refine v_ldiv C g36.2.2.2.1 g36.2.2.2.2.1 g36.2.2.2.2.2.1 dX12_turn_179 ?_
  obtain ⟨y37, hy37⟩ : ∃ y : Int, y = Int.tdiv (x9 * (M31 45 (y32).toNat)) (M34 45 (y35 + 1).toNat) := ⟨_, rfl⟩
  have g38 := g36.2.2.2.2.2.2 y37 hy37
  refine v_eqj hy37 ?_
  refine v_lstore (L' := [(9, vj y37), (12, vi s0), (0, vr 44), (1, vi x1), (2, vi x2), (3, vi x3), (4, vi x4), (5, vj x5), (7, vi x7), (8, vi x8), (11, vi x11), (13, vi x13), (14, vi x14)]) C dX12_turn_180 (by decide) rfl ?_
  refine v_iload (i := 12) C dX12_turn_182 rfl ?_
  refine v_istore (L' := [(11, vi x14), (9, vj y37), (12, vi s0), (0, vr 44), (1, vi x1), (2, vi x2), (3, vi x3), (4, vi x4), (5, vj x5), (7, vi x7), (8, vi x8), (13, vi x13), (14, vi x14)]) C dX12_turn_184 (by decide) rfl ?_
  obtain ⟨y39, hy39⟩ : ∃ y : Int, y = x13 + 1 := ⟨_, rfl⟩
  have g40 := g38 y39 hy39
  refine v_iinc (i := 11) (L' := [(13, vi y39), (11, vi x14), (9, vj y37), (12, vi s0), (0, vr 44), (1, vi x1), (2, vi x2), (3, vi x3), (4, vi x4), (5, vj x5), (7, vi x7), (8, vi x8), (14, vi x14)]) C dX12_turn_186 rfl (by decide) hy39 rfl ?_
  refine v_goto C dX12_turn_189 (tgt := 96) (by decide) ?_
  exact v_sub [4, 5, 6, 7, 8, 9, 10, 11, 2, 1, 3, 0] rfl (hJ96 _ _ _ _ _ _ _ _ _ _ _ _ g40)
def VX12_turn_145 (E : FX) (l : Launch) (D : Nat) (post : Option AV → MM → Prop) (J71 : MM → Int → Int → Int → Int → Int → Int → Int → Prop) (J96 : MM → Int → Int → Int → Int → Int → Int → Int → Int → Int → Int → Int → Prop) (M : MM) (x1 : Int) (x2 : Int) (x3 : Int) (x4 : Int) (x5 : Int) (x7 : Int) (x8 : Int) (x9 : Int) (x11 : Int) (x13 : Int) (x14 : Int) : Prop :=
  VX12_turn_146 E l D post J71 J96 M x1 x2 x3 x4 x5 x7 x8 x9 x11 x13 x14 0
set_option maxRecDepth 20000 in
theorem SX12_turn_145 {E : FX} {l : Launch} {D : Nat} {post : Option AV → MM → Prop} {z : RT} {J71 : MM → Int → Int → Int → Int → Int → Int → Int → Prop} {J96 : MM → Int → Int → Int → Int → Int → Int → Int → Int → Int → Int → Int → Prop} (C : Cx E z D RX12 cX12_turn 15) (r : Rt E z (some .long) post) (hJ71 : ∀ (M : MM) (x1 : Int) (x2 : Int) (x3 : Int) (x4 : Int) (x5 : Int) (x7 : Int) (x8 : Int), J71 M x1 x2 x3 x4 x5 x7 x8 → Aj E l z 71 [(0, vr 44), (1, vi x1), (2, vi x2), (3, vi x3), (4, vi x4), (5, vj x5), (7, vi x7), (8, vi x8)] [] M) (hJ96 : ∀ (M : MM) (x1 : Int) (x2 : Int) (x3 : Int) (x4 : Int) (x5 : Int) (x7 : Int) (x8 : Int) (x9 : Int) (x11 : Int) (x12 : Int) (x13 : Int), J96 M x1 x2 x3 x4 x5 x7 x8 x9 x11 x12 x13 → Aj E l z 96 [(0, vr 44), (1, vi x1), (2, vi x2), (3, vi x3), (4, vi x4), (5, vj x5), (7, vi x7), (8, vi x8), (9, vj x9), (11, vi x11), (12, vi x12), (13, vi x13)] [] M) {M : MM} {x1 : Int} {x2 : Int} {x3 : Int} {x4 : Int} {x5 : Int} {x7 : Int} {x8 : Int} {x9 : Int} {x11 : Int} {x13 : Int} {x14 : Int} (h : VX12_turn_145 E l D post J71 J96 M x1 x2 x3 x4 x5 x7 x8 x9 x11 x13 x14) : Aj E l z 145 [(0, vr 44), (1, vi x1), (2, vi x2), (3, vi x3), (4, vi x4), (5, vj x5), (7, vi x7), (8, vi x8), (9, vj x9), (11, vi x11), (13, vi x13), (14, vi x14)] [] M := by
  unfold VX12_turn_145 at h
  refine v_iconst C dX12_turn_145 ?_
  exact v_sub [0, 1, 2, 3, 4, 5, 6, 7, 8, 9, 10, 11] rfl (SX12_turn_146 C r hJ71 hJ96 h)
def VX12_turn_127 (E : FX) (l : Launch) (D : Nat) (post : Option AV → MM → Prop) (J71 : MM → Int → Int → Int → Int → Int → Int → Int → Prop) (J96 : MM → Int → Int → Int → Int → Int → Int → Int → Int → Int → Int → Int → Prop) (M : MM) (x1 : Int) (x2 : Int) (x3 : Int) (x4 : Int) (x5 : Int) (x7 : Int) (x8 : Int) (x9 : Int) (x11 : Int) (x12 : Int) (x13 : Int) (s0 : Int) : Prop :=
  R32 x12 ∧ ((x12 = 0 → VX12_turn_146 E l D post J71 J96 M x1 x2 x3 x4 x5 x7 x8 x9 x11 x13 s0 0) ∧ (¬ x12 = 0 → R32 s0 ∧ (R32 x11 ∧ ((s0 = x11 → VX12_turn_146 E l D post J71 J96 M x1 x2 x3 x4 x5 x7 x8 x9 x11 x13 s0 0) ∧ (¬ s0 = x11 → VX12_turn_146 E l D post J71 J96 M x1 x2 x3 x4 x5 x7 x8 x9 x11 x13 s0 1)))))
set_option maxRecDepth 20000 in
theorem SX12_turn_127 {E : FX} {l : Launch} {D : Nat} {post : Option AV → MM → Prop} {z : RT} {J71 : MM → Int → Int → Int → Int → Int → Int → Int → Prop} {J96 : MM → Int → Int → Int → Int → Int → Int → Int → Int → Int → Int → Int → Prop} (C : Cx E z D RX12 cX12_turn 15) (r : Rt E z (some .long) post) (hJ71 : ∀ (M : MM) (x1 : Int) (x2 : Int) (x3 : Int) (x4 : Int) (x5 : Int) (x7 : Int) (x8 : Int), J71 M x1 x2 x3 x4 x5 x7 x8 → Aj E l z 71 [(0, vr 44), (1, vi x1), (2, vi x2), (3, vi x3), (4, vi x4), (5, vj x5), (7, vi x7), (8, vi x8)] [] M) (hJ96 : ∀ (M : MM) (x1 : Int) (x2 : Int) (x3 : Int) (x4 : Int) (x5 : Int) (x7 : Int) (x8 : Int) (x9 : Int) (x11 : Int) (x12 : Int) (x13 : Int), J96 M x1 x2 x3 x4 x5 x7 x8 x9 x11 x12 x13 → Aj E l z 96 [(0, vr 44), (1, vi x1), (2, vi x2), (3, vi x3), (4, vi x4), (5, vj x5), (7, vi x7), (8, vi x8), (9, vj x9), (11, vi x11), (12, vi x12), (13, vi x13)] [] M) {M : MM} {x1 : Int} {x2 : Int} {x3 : Int} {x4 : Int} {x5 : Int} {x7 : Int} {x8 : Int} {x9 : Int} {x11 : Int} {x12 : Int} {x13 : Int} {s0 : Int} (h : VX12_turn_127 E l D post J71 J96 M x1 x2 x3 x4 x5 x7 x8 x9 x11 x12 x13 s0) : Aj E l z 127 [(0, vr 44), (1, vi x1), (2, vi x2), (3, vi x3), (4, vi x4), (5, vj x5), (7, vi x7), (8, vi x8), (9, vj x9), (11, vi x11), (12, vi x12), (13, vi x13)] [vi s0] M := by
  unfold VX12_turn_127 at h
  refine v_istore (L' := [(14, vi s0), (0, vr 44), (1, vi x1), (2, vi x2), (3, vi x3), (4, vi x4), (5, vj x5), (7, vi x7), (8, vi x8), (9, vj x9), (11, vi x11), (12, vi x12), (13, vi x13)]) C dX12_turn_127 (by decide) rfl ?_
  refine v_iload (i := 11) C dX12_turn_129 rfl ?_
  refine v_if_eq (tgt := 145) C h.1 dX12_turn_131 (by decide) (fun c => ?_) (fun c => ?_)
  · have g41 := h.2.1 c
    refine v_iconst C dX12_turn_145 ?_
    exact v_sub [1, 2, 3, 4, 5, 6, 7, 8, 9, 10, 12, 0] rfl (SX12_turn_146 C r hJ71 hJ96 g41)
  · have g42 := h.2.2 c
    refine v_iload (i := 0) C dX12_turn_134 rfl ?_
    refine v_iload (i := 10) C dX12_turn_136 rfl ?_
    refine v_icmp_eq (tgt := 145) C g42.1 g42.2.1 dX12_turn_138 (by decide) (fun c => ?_) (fun c => ?_)
    · have g43 := g42.2.2.1 c
      refine v_iconst C dX12_turn_145 ?_
      exact v_sub [1, 2, 3, 4, 5, 6, 7, 8, 9, 10, 12, 0] rfl (SX12_turn_146 C r hJ71 hJ96 g43)
    · have g44 := g42.2.2.2 c
      refine v_iconst C dX12_turn_141 ?_
      refine v_goto C dX12_turn_142 (tgt := 146) (by decide) ?_
      exact v_sub [1, 2, 3, 4, 5, 6, 7, 8, 9, 10, 12, 0] rfl (SX12_turn_146 C r hJ71 hJ96 g44)
def VX12_turn_96 (E : FX) (l : Launch) (D : Nat) (post : Option AV → MM → Prop) (J71 : MM → Int → Int → Int → Int → Int → Int → Int → Prop) (J96 : MM → Int → Int → Int → Int → Int → Int → Int → Int → Int → Int → Int → Prop) (M : MM) (x1 : Int) (x2 : Int) (x3 : Int) (x4 : Int) (x5 : Int) (x7 : Int) (x8 : Int) (x9 : Int) (x11 : Int) (x12 : Int) (x13 : Int) : Prop :=
  R32 x13 ∧ (R32 x3 ∧ ((x3 ≤ x13 → R32 x12 ∧ ((x12 = 0 → ∀ y49 : Int, y49 = x8 + 1 → (J71 M x1 x2 x3 x4 x5 x7 y49)) ∧ (¬ x12 = 0 → R64 x9 ∧ (R64 x5 ∧ ((x9 ≤ x5 → ∀ y53 : Int, y53 = x8 + 1 → (J71 M x1 x2 x3 x4 x5 x7 y53)) ∧ (¬ x9 ≤ x5 → VX12_turn_213 E l D post J71 J96 M x1 x2 x3 x4 x9 x8 x8)))))) ∧ (¬ x3 ≤ x13 → R32 x13 ∧ (R32 (x3 - 1) ∧ ((¬ x13 = x3 - 1 → VX12_turn_127 E l D post J71 J96 M x1 x2 x3 x4 x5 x7 x8 x9 x11 x12 x13 (iand (ishr x8 (2 * ((x3 - 2) - x13))) 3)) ∧ (x13 = x3 - 1 → VX12_turn_127 E l D post J71 J96 M x1 x2 x3 x4 x5 x7 x8 x9 x11 x12 x13 x1))))))
set_option maxRecDepth 20000 in
theorem SX12_turn_96 {E : FX} {l : Launch} {D : Nat} {post : Option AV → MM → Prop} {z : RT} {J71 : MM → Int → Int → Int → Int → Int → Int → Int → Prop} {J96 : MM → Int → Int → Int → Int → Int → Int → Int → Int → Int → Int → Int → Prop} (C : Cx E z D RX12 cX12_turn 15) (r : Rt E z (some .long) post) (hJ71 : ∀ (M : MM) (x1 : Int) (x2 : Int) (x3 : Int) (x4 : Int) (x5 : Int) (x7 : Int) (x8 : Int), J71 M x1 x2 x3 x4 x5 x7 x8 → Aj E l z 71 [(0, vr 44), (1, vi x1), (2, vi x2), (3, vi x3), (4, vi x4), (5, vj x5), (7, vi x7), (8, vi x8)] [] M) (hJ96 : ∀ (M : MM) (x1 : Int) (x2 : Int) (x3 : Int) (x4 : Int) (x5 : Int) (x7 : Int) (x8 : Int) (x9 : Int) (x11 : Int) (x12 : Int) (x13 : Int), J96 M x1 x2 x3 x4 x5 x7 x8 x9 x11 x12 x13 → Aj E l z 96 [(0, vr 44), (1, vi x1), (2, vi x2), (3, vi x3), (4, vi x4), (5, vj x5), (7, vi x7), (8, vi x8), (9, vj x9), (11, vi x11), (12, vi x12), (13, vi x13)] [] M) {M : MM} {x1 : Int} {x2 : Int} {x3 : Int} {x4 : Int} {x5 : Int} {x7 : Int} {x8 : Int} {x9 : Int} {x11 : Int} {x12 : Int} {x13 : Int} (h : VX12_turn_96 E l D post J71 J96 M x1 x2 x3 x4 x5 x7 x8 x9 x11 x12 x13) : Aj E l z 96 [(0, vr 44), (1, vi x1), (2, vi x2), (3, vi x3), (4, vi x4), (5, vj x5), (7, vi x7), (8, vi x8), (9, vj x9), (11, vi x11), (12, vi x12), (13, vi x13)] [] M := by
  unfold VX12_turn_96 at h
  refine v_iload (i := 11) C dX12_turn_96 rfl ?_
  refine v_iload_n (i := 3) C dX12_turn_98 rfl rfl ?_
  refine v_icmp_ge (tgt := 192) C h.1 h.2.1 dX12_turn_99 (by decide) (fun c => ?_) (fun c => ?_)
  · have g45 := h.2.2.1 c
    refine v_iload (i := 10) C dX12_turn_192 rfl ?_
    refine v_if_eq (tgt := 213) C g45.1 dX12_turn_194 (by decide) (fun c => ?_) (fun c => ?_)
    · have g47 := g45.2.1 c
      obtain ⟨y49, hy49⟩ : ∃ y : Int, y = x8 + 1 := ⟨_, rfl⟩
      have g50 := g47 y49 hy49
      refine v_iinc (i := 7) (L' := [(8, vi y49), (0, vr 44), (1, vi x1), (2, vi x2), (3, vi x3), (4, vi x4), (5, vj x5), (7, vi x7), (9, vj x9), (11, vi x11), (12, vi x12), (13, vi x13)]) C dX12_turn_213 rfl (by decide) hy49 rfl ?_
      refine v_goto C dX12_turn_216 (tgt := 71) (by decide) ?_
      exact v_sub [1, 2, 3, 4, 5, 6, 7, 0] rfl (hJ71 _ _ _ _ _ _ _ _ g50)
    · have g48 := g45.2.2 c
      refine v_lload (i := 8) C dX12_turn_197 rfl ?_
      refine v_lload (i := 5) C dX12_turn_199 rfl ?_
      refine v_lif_le (tgt := 213) C g48.1 g48.2.1 dX12_turn_201 dX12_turn_202 (by decide) (fun c => ?_) (fun c => ?_)
      · have g51 := g48.2.2.1 c
        obtain ⟨y53, hy53⟩ : ∃ y : Int, y = x8 + 1 := ⟨_, rfl⟩
        have g54 := g51 y53 hy53
        refine v_iinc (i := 7) (L' := [(8, vi y53), (0, vr 44), (1, vi x1), (2, vi x2), (3, vi x3), (4, vi x4), (5, vj x5), (7, vi x7), (9, vj x9), (11, vi x11), (12, vi x12), (13, vi x13)]) C dX12_turn_213 rfl (by decide) hy53 rfl ?_
        refine v_goto C dX12_turn_216 (tgt := 71) (by decide) ?_
        exact v_sub [1, 2, 3, 4, 5, 6, 7, 0] rfl (hJ71 _ _ _ _ _ _ _ _ g54)
      · have g52 := g48.2.2.2 c
        refine v_lload (i := 8) C dX12_turn_205 rfl ?_
        refine v_lstore (L' := [(5, vj x9), (0, vr 44), (1, vi x1), (2, vi x2), (3, vi x3), (4, vi x4), (7, vi x7), (8, vi x8), (9, vj x9), (11, vi x11), (12, vi x12), (13, vi x13)]) C dX12_turn_207 (by decide) rfl ?_
        refine v_iload (i := 7) C dX12_turn_209 rfl ?_
        refine v_istore (L' := [(7, vi x8), (5, vj x9), (0, vr 44), (1, vi x1), (2, vi x2), (3, vi x3), (4, vi x4), (8, vi x8), (9, vj x9), (11, vi x11), (12, vi x12), (13, vi x13)]) C dX12_turn_211 (by decide) rfl ?_
        exact v_sub [2, 3, 4, 5, 6, 1, 0, 7] rfl (SX12_turn_213 C r hJ71 hJ96 g52)
  · have g46 := h.2.2.2 c
    refine v_iload (i := 11) C dX12_turn_102 rfl ?_
    refine v_iload_n (i := 3) C dX12_turn_104 rfl rfl ?_
    refine v_iconst C dX12_turn_105 ?_
    refine v_isub C dX12_turn_106 ?_
    refine v_icmp_ne (tgt := 114) C g46.1 g46.2.1 dX12_turn_107 (by decide) (fun c => ?_) (fun c => ?_)
    · have g55 := g46.2.2.1 c
      refine v_iload (i := 7) C dX12_turn_114 rfl ?_
      refine v_iconst C dX12_turn_116 ?_
      refine v_iload_n (i := 3) C dX12_turn_117 rfl rfl ?_
      refine v_iconst C dX12_turn_118 ?_
      refine v_isub C dX12_turn_119 ?_
      refine v_iload (i := 11) C dX12_turn_120 rfl ?_
      refine v_isub C dX12_turn_122 ?_
      refine v_imul C dX12_turn_123 ?_
      refine v_ishr C dX12_turn_124 ?_
      refine v_iconst C dX12_turn_125 ?_
      refine v_iand C dX12_turn_126 ?_
      exact v_sub [0, 1, 2, 3, 4, 5, 6, 7, 8, 9, 10, 11] rfl (SX12_turn_127 C r hJ71 hJ96 g55)
    · have g56 := g46.2.2.2 c
      refine v_iload_n (i := 1) C dX12_turn_110 rfl rfl ?_
      refine v_goto C dX12_turn_111 (tgt := 127) (by decide) ?_
      exact v_sub [0, 1, 2, 3, 4, 5, 6, 7, 8, 9, 10, 11] rfl (SX12_turn_127 C r hJ71 hJ96 g56)
theorem RX12_turn {E : FX} {l : Launch} {D : Nat} {post : Option AV → MM → Prop} (I71 : MM → Int → Int → Int → Int → Int → Int → Int → Prop) (m71 : MM → Int → Int → Int → Int → Int → Int → Int → Nat) (I96 : MM → Int → Int → Int → Int → Int → Int → Int → Int → Int → Int → Int → Prop) (m96 : MM → Int → Int → Int → Int → Int → Int → Int → Int → Int → Int → Int → Nat) {M : MM} {x1 : Int} {x2 : Int} {x3 : Int} {x4 : Int} (h0 : VX12_turn_0 E l D post I71 I96 M x1 x2 x3 x4) (h71I : ∀ (M : MM) (x1 : Int) (x2 : Int) (x3 : Int) (x4 : Int) (x5 : Int) (x7 : Int) (x8 : Int), I71 M x1 x2 x3 x4 x5 x7 x8 → VX12_turn_71 E l D post (fun M' x1' x2' x3' x4' x5' x7' x8' => I71 M' x1' x2' x3' x4' x5' x7' x8' ∧ m71 M' x1' x2' x3' x4' x5' x7' x8' < m71 M x1 x2 x3 x4 x5 x7 x8) (fun M' x1' x2' x3' x4' x5' x7' x8' x9' x11' x12' x13' => I96 M' x1' x2' x3' x4' x5' x7' x8' x9' x11' x12' x13' ∧ m96 M' x1' x2' x3' x4' x5' x7' x8' x9' x11' x12' x13' < m71 M x1 x2 x3 x4 x5 x7 x8) M x1 x2 x3 x4 x5 x7 x8) (h96I : ∀ (M : MM) (x1 : Int) (x2 : Int) (x3 : Int) (x4 : Int) (x5 : Int) (x7 : Int) (x8 : Int) (x9 : Int) (x11 : Int) (x12 : Int) (x13 : Int), I96 M x1 x2 x3 x4 x5 x7 x8 x9 x11 x12 x13 → VX12_turn_96 E l D post (fun M' x1' x2' x3' x4' x5' x7' x8' => I71 M' x1' x2' x3' x4' x5' x7' x8' ∧ m71 M' x1' x2' x3' x4' x5' x7' x8' < m96 M x1 x2 x3 x4 x5 x7 x8 x9 x11 x12 x13) (fun M' x1' x2' x3' x4' x5' x7' x8' x9' x11' x12' x13' => I96 M' x1' x2' x3' x4' x5' x7' x8' x9' x11' x12' x13' ∧ m96 M' x1' x2' x3' x4' x5' x7' x8' x9' x11' x12' x13' < m96 M x1 x2 x3 x4 x5 x7 x8 x9 x11 x12 x13) M x1 x2 x3 x4 x5 x7 x8 x9 x11 x12 x13) : Con E l (D + 1) qX12_turn [vr 44, vi x1, vi x2, vi x3, vi x4] M post := by
  refine con_of (by decide +kernel) (Nat.le_of_ble_eq_true rfl) (fun z C r => ?_)
  have all : ∀ n : Nat, (∀ (M : MM) (x1 : Int) (x2 : Int) (x3 : Int) (x4 : Int) (x5 : Int) (x7 : Int) (x8 : Int), I71 M x1 x2 x3 x4 x5 x7 x8 → m71 M x1 x2 x3 x4 x5 x7 x8 < n → Aj E l z 71 [(0, vr 44), (1, vi x1), (2, vi x2), (3, vi x3), (4, vi x4), (5, vj x5), (7, vi x7), (8, vi x8)] [] M) ∧ (∀ (M : MM) (x1 : Int) (x2 : Int) (x3 : Int) (x4 : Int) (x5 : Int) (x7 : Int) (x8 : Int) (x9 : Int) (x11 : Int) (x12 : Int) (x13 : Int), I96 M x1 x2 x3 x4 x5 x7 x8 x9 x11 x12 x13 → m96 M x1 x2 x3 x4 x5 x7 x8 x9 x11 x12 x13 < n → Aj E l z 96 [(0, vr 44), (1, vi x1), (2, vi x2), (3, vi x3), (4, vi x4), (5, vj x5), (7, vi x7), (8, vi x8), (9, vj x9), (11, vi x11), (12, vi x12), (13, vi x13)] [] M) := by
    intro n
    induction n with
    | zero => exact ⟨fun _ _ _ _ _ _ _ _ _ hm => absurd hm (Nat.not_lt_zero _), fun _ _ _ _ _ _ _ _ _ _ _ _ _ hm => absurd hm (Nat.not_lt_zero _)⟩
    | succ n ih => exact ⟨fun M x1 x2 x3 x4 x5 x7 x8 hi hm => SX12_turn_71 C r (fun M' x1' x2' x3' x4' x5' x7' x8' hj => ih.1 M' x1' x2' x3' x4' x5' x7' x8' hj.1 (by omega)) (fun M' x1' x2' x3' x4' x5' x7' x8' x9' x11' x12' x13' hj => ih.2 M' x1' x2' x3' x4' x5' x7' x8' x9' x11' x12' x13' hj.1 (by omega)) (h71I M x1 x2 x3 x4 x5 x7 x8 hi), fun M x1 x2 x3 x4 x5 x7 x8 x9 x11 x12 x13 hi hm => SX12_turn_96 C r (fun M' x1' x2' x3' x4' x5' x7' x8' hj => ih.1 M' x1' x2' x3' x4' x5' x7' x8' hj.1 (by omega)) (fun M' x1' x2' x3' x4' x5' x7' x8' x9' x11' x12' x13' hj => ih.2 M' x1' x2' x3' x4' x5' x7' x8' x9' x11' x12' x13' hj.1 (by omega)) (h96I M x1 x2 x3 x4 x5 x7 x8 x9 x11 x12 x13 hi)⟩
  exact v_sub [0, 1, 2, 3, 4] rfl (SX12_turn_0 C r (fun M' x1' x2' x3' x4' x5' x7' x8' hj => (all _).1 M' x1' x2' x3' x4' x5' x7' x8' hj (Nat.lt_succ_self _)) (fun M' x1' x2' x3' x4' x5' x7' x8' x9' x11' x12' x13' hj => (all _).2 M' x1' x2' x3' x4' x5' x7' x8' x9' x11' x12' x13' hj (Nat.lt_succ_self _)) h0)
def VX12_image_0 (E : FX) (l : Launch) (D : Nat) (post : Option AV → MM → Prop) (J2 : MM → Int → Prop) (M : MM) : Prop :=
  J2 M 0
set_option maxRecDepth 20000 in
theorem SX12_image_0 {E : FX} {l : Launch} {D : Nat} {post : Option AV → MM → Prop} {z : RT} {J2 : MM → Int → Prop} (C : Cx E z D RX12 cX12_image 2) (r : Rt E z (some .int) post) (hJ2 : ∀ (M : MM) (x1 : Int), J2 M x1 → Aj E l z 2 [(0, vr 44), (1, vi x1)] [] M) {M : MM} (h : VX12_image_0 E l D post J2 M) : Aj E l z 0 [(0, vr 44)] [] M := by
  unfold VX12_image_0 at h
  refine v_iconst C dX12_image_0 ?_
  refine v_istore_n (L' := [(1, vi 0), (0, vr 44)]) C dX12_image_1 rfl (by decide) rfl ?_
  exact v_sub [1, 0] rfl (hJ2 _ _ h)
def VX12_image_2 (E : FX) (l : Launch) (D : Nat) (post : Option AV → MM → Prop) (J2 : MM → Int → Prop) (M : MM) (x1 : Int) : Prop :=
  R32 x1 ∧ ((70 ≤ x1 → ∀ M3 : MM, M3 = up M 44 1 1 → (post (some (vi 1)) M3)) ∧ (¬ 70 ≤ x1 → 0 ≤ x1 ∧ (x1 < 140 ∧ (0 ≤ 70 + x1 ∧ (70 + x1 < 140 ∧ (∀ M5 : MM, M5 = up M 45 (70 + x1).toNat (M 45 (x1).toNat) → (∀ y7 : Int, y7 = x1 + 1 → (J2 M5 y7))))))))
set_option maxRecDepth 20000 in
theorem SX12_image_2 {E : FX} {l : Launch} {D : Nat} {post : Option AV → MM → Prop} {z : RT} {J2 : MM → Int → Prop} (C : Cx E z D RX12 cX12_image 2) (r : Rt E z (some .int) post) (hJ2 : ∀ (M : MM) (x1 : Int), J2 M x1 → Aj E l z 2 [(0, vr 44), (1, vi x1)] [] M) {M : MM} {x1 : Int} (h : VX12_image_2 E l D post J2 M x1) : Aj E l z 2 [(0, vr 44), (1, vi x1)] [] M := by
  unfold VX12_image_2 at h
  refine v_iload_n (i := 1) C dX12_image_2 rfl rfl ?_
  refine v_bipush C dX12_image_3 (by decide) ?_
  refine v_icmp_ge (tgt := 29) C h.1 (by decide) dX12_image_5 (by decide) (fun c => ?_) (fun c => ?_)
  · have g1 := h.2.1 c
    refine v_aload_n (i := 0) C dX12_image_29 rfl rfl ?_
    refine v_iconst C dX12_image_30 ?_
    refine v_putf (k := 44) (x := 1) (t := 0) C fp_RX12_203 rfl rfl (by decide) (by simp [fv, up]) rfl rfl dX12_image_31 ?_
    obtain ⟨M3, hM3⟩ : ∃ X : MM, X = up M 44 1 1 := ⟨_, rfl⟩
    refine v_eqM hM3 ?_
    have g4 := g1 M3 hM3
    refine v_iconst C dX12_image_34 ?_
    exact v_iret C r dX12_image_35 g4
  · have g2 := h.2.2 c
    refine v_aload_n (i := 0) C dX12_image_8 rfl rfl ?_
    refine v_getf (k := 44) C fl_RX12_7 rfl rfl dX12_image_9 ?_
    show Aj E l z (9 + 3) [(0, vr 44), (1, vi x1)] [vr 45] M
    refine v_bipush C dX12_image_12 (by decide) ?_
    refine v_iload_n (i := 1) C dX12_image_14 rfl rfl ?_
    refine v_iadd C dX12_image_15 ?_
    refine v_aload_n (i := 0) C dX12_image_16 rfl rfl ?_
    refine v_getf (k := 44) C fl_RX12_7 rfl rfl dX12_image_17 ?_
    show Aj E l z (17 + 3) [(0, vr 44), (1, vi x1)] [vr 45, vi (70 + x1), vr 45] M
    refine v_iload_n (i := 1) C dX12_image_20 rfl rfl ?_
    refine v_iald (k := 45) C rfl g2.1 g2.2.1 dX12_image_21 ?_
    show Aj E l z (21 + 1) [(0, vr 44), (1, vi x1)] [vi (M 45 (x1).toNat), vi (70 + x1), vr 45] M
    refine v_iast (k := 45) C rfl g2.2.2.1 g2.2.2.2.1 dX12_image_22 ?_
    obtain ⟨M5, hM5⟩ : ∃ X : MM, X = up M 45 (70 + x1).toNat (M 45 (x1).toNat) := ⟨_, rfl⟩
    refine v_eqM hM5 ?_
    have g6 := g2.2.2.2.2 M5 hM5
    obtain ⟨y7, hy7⟩ : ∃ y : Int, y = x1 + 1 := ⟨_, rfl⟩
    have g8 := g6 y7 hy7
    refine v_iinc (i := 1) (L' := [(1, vi y7), (0, vr 44)]) C dX12_image_23 rfl (by decide) hy7 rfl ?_
    refine v_goto C dX12_image_26 (tgt := 2) (by decide) ?_
    exact v_sub [1, 0] rfl (hJ2 _ _ g8)
theorem RX12_image {E : FX} {l : Launch} {D : Nat} {post : Option AV → MM → Prop} (I2 : MM → Int → Prop) (m2 : MM → Int → Nat) {M : MM} (h0 : VX12_image_0 E l D post I2 M) (h2I : ∀ (M : MM) (x1 : Int), I2 M x1 → VX12_image_2 E l D post (fun M' x1' => I2 M' x1' ∧ m2 M' x1' < m2 M x1) M x1) : Con E l (D + 1) qX12_image [vr 44] M post := by
  refine con_of (by decide +kernel) (Nat.le_of_ble_eq_true rfl) (fun z C r => ?_)
  have all : ∀ n : Nat, (∀ (M : MM) (x1 : Int), I2 M x1 → m2 M x1 < n → Aj E l z 2 [(0, vr 44), (1, vi x1)] [] M) := by
    intro n
    induction n with
    | zero => exact fun _ _ _ hm => absurd hm (Nat.not_lt_zero _)
    | succ n ih => exact fun M x1 hi hm => SX12_image_2 C r (fun M' x1' hj => ih M' x1' hj.1 (by omega)) (h2I M x1 hi)
  exact v_sub [0] rfl (SX12_image_0 C r (fun M' x1' hj => (all _) M' x1' hj (Nat.lt_succ_self _)) h0)
def VX12_restore_0 (E : FX) (l : Launch) (D : Nat) (post : Option AV → MM → Prop) (J12 : MM → Int → Prop) (M : MM) : Prop :=
  R32 (M 44 1) ∧ ((¬ M 44 1 = 0 → J12 M 0) ∧ (M 44 1 = 0 → post (some (vi (-4))) M))
set_option maxRecDepth 20000 in
theorem SX12_restore_0 {E : FX} {l : Launch} {D : Nat} {post : Option AV → MM → Prop} {z : RT} {J12 : MM → Int → Prop} (C : Cx E z D RX12 cX12_restore 2) (r : Rt E z (some .int) post) (hJ12 : ∀ (M : MM) (x1 : Int), J12 M x1 → Aj E l z 12 [(0, vr 44), (1, vi x1)] [] M) {M : MM} (h : VX12_restore_0 E l D post J12 M) : Aj E l z 0 [(0, vr 44)] [] M := by
  unfold VX12_restore_0 at h
  refine v_aload_n (i := 0) C dX12_restore_0 rfl rfl ?_
  refine v_getf (k := 44) C fl_RX12_203 rfl rfl dX12_restore_1 ?_
  show Aj E l z (1 + 3) [(0, vr 44)] [vi (M 44 1)] M
  refine v_if_ne (tgt := 10) C h.1 dX12_restore_4 (by decide) (fun c => ?_) (fun c => ?_)
  · have g1 := h.2.1 c
    refine v_iconst C dX12_restore_10 ?_
    refine v_istore_n (L' := [(1, vi 0), (0, vr 44)]) C dX12_restore_11 rfl (by decide) rfl ?_
    exact v_sub [1, 0] rfl (hJ12 _ _ g1)
  · have g2 := h.2.2 c
    refine v_bipush C dX12_restore_7 (by decide) ?_
    exact v_iret C r dX12_restore_9 g2
def VX12_restore_12 (E : FX) (l : Launch) (D : Nat) (post : Option AV → MM → Prop) (J12 : MM → Int → Prop) (M : MM) (x1 : Int) : Prop :=
  R32 x1 ∧ ((70 ≤ x1 → post (some (vi 1)) M) ∧ (¬ 70 ≤ x1 → 0 ≤ 70 + x1 ∧ (70 + x1 < 140 ∧ (0 ≤ x1 ∧ (x1 < 140 ∧ (∀ M5 : MM, M5 = up M 45 (x1).toNat (M 45 (70 + x1).toNat) → (∀ y7 : Int, y7 = x1 + 1 → (J12 M5 y7))))))))
set_option maxRecDepth 20000 in
theorem SX12_restore_12 {E : FX} {l : Launch} {D : Nat} {post : Option AV → MM → Prop} {z : RT} {J12 : MM → Int → Prop} (C : Cx E z D RX12 cX12_restore 2) (r : Rt E z (some .int) post) (hJ12 : ∀ (M : MM) (x1 : Int), J12 M x1 → Aj E l z 12 [(0, vr 44), (1, vi x1)] [] M) {M : MM} {x1 : Int} (h : VX12_restore_12 E l D post J12 M x1) : Aj E l z 12 [(0, vr 44), (1, vi x1)] [] M := by
  unfold VX12_restore_12 at h
  refine v_iload_n (i := 1) C dX12_restore_12 rfl rfl ?_
  refine v_bipush C dX12_restore_13 (by decide) ?_
  refine v_icmp_ge (tgt := 39) C h.1 (by decide) dX12_restore_15 (by decide) (fun c => ?_) (fun c => ?_)
  · have g3 := h.2.1 c
    refine v_iconst C dX12_restore_39 ?_
    exact v_iret C r dX12_restore_40 g3
  · have g4 := h.2.2 c
    refine v_aload_n (i := 0) C dX12_restore_18 rfl rfl ?_
    refine v_getf (k := 44) C fl_RX12_7 rfl rfl dX12_restore_19 ?_
    show Aj E l z (19 + 3) [(0, vr 44), (1, vi x1)] [vr 45] M
    refine v_iload_n (i := 1) C dX12_restore_22 rfl rfl ?_
    refine v_aload_n (i := 0) C dX12_restore_23 rfl rfl ?_
    refine v_getf (k := 44) C fl_RX12_7 rfl rfl dX12_restore_24 ?_
    show Aj E l z (24 + 3) [(0, vr 44), (1, vi x1)] [vr 45, vi x1, vr 45] M
    refine v_bipush C dX12_restore_27 (by decide) ?_
    refine v_iload_n (i := 1) C dX12_restore_29 rfl rfl ?_
    refine v_iadd C dX12_restore_30 ?_
    refine v_iald (k := 45) C rfl g4.1 g4.2.1 dX12_restore_31 ?_
    show Aj E l z (31 + 1) [(0, vr 44), (1, vi x1)] [vi (M 45 (70 + x1).toNat), vi x1, vr 45] M
    refine v_iast (k := 45) C rfl g4.2.2.1 g4.2.2.2.1 dX12_restore_32 ?_
    obtain ⟨M5, hM5⟩ : ∃ X : MM, X = up M 45 (x1).toNat (M 45 (70 + x1).toNat) := ⟨_, rfl⟩
    refine v_eqM hM5 ?_
    have g6 := g4.2.2.2.2 M5 hM5
    obtain ⟨y7, hy7⟩ : ∃ y : Int, y = x1 + 1 := ⟨_, rfl⟩
    have g8 := g6 y7 hy7
    refine v_iinc (i := 1) (L' := [(1, vi y7), (0, vr 44)]) C dX12_restore_33 rfl (by decide) hy7 rfl ?_
    refine v_goto C dX12_restore_36 (tgt := 12) (by decide) ?_
    exact v_sub [1, 0] rfl (hJ12 _ _ g8)
theorem RX12_restore {E : FX} {l : Launch} {D : Nat} {post : Option AV → MM → Prop} (I12 : MM → Int → Prop) (m12 : MM → Int → Nat) {M : MM} (h0 : VX12_restore_0 E l D post I12 M) (h12I : ∀ (M : MM) (x1 : Int), I12 M x1 → VX12_restore_12 E l D post (fun M' x1' => I12 M' x1' ∧ m12 M' x1' < m12 M x1) M x1) : Con E l (D + 1) qX12_restore [vr 44] M post := by
  refine con_of (by decide +kernel) (Nat.le_of_ble_eq_true rfl) (fun z C r => ?_)
  have all : ∀ n : Nat, (∀ (M : MM) (x1 : Int), I12 M x1 → m12 M x1 < n → Aj E l z 12 [(0, vr 44), (1, vi x1)] [] M) := by
    intro n
    induction n with
    | zero => exact fun _ _ _ hm => absurd hm (Nat.not_lt_zero _)
    | succ n ih => exact fun M x1 hi hm => SX12_restore_12 C r (fun M' x1' hj => ih M' x1' hj.1 (by omega)) (h12I M x1 hi)
  exact v_sub [0] rfl (SX12_restore_0 C r (fun M' x1' hj => (all _) M' x1' hj (Nat.lt_succ_self _)) h0)
def VX12_isSheet_0 (E : FX) (l : Launch) (D : Nat) (post : Option AV → MM → Prop) (M : MM) (x0 : Int) : Prop :=
  R32 x0 ∧ (Con E l D qX12_in [vj x0, vj 0, vj 3] M (fun r M1 => ∃ y2 : Int, r = some (vi y2) ∧ ((y2 = 0 ∨ y2 = 1) ∧ (post (some (vi y2)) M1))))
set_option maxRecDepth 20000 in
theorem SX12_isSheet_0 {E : FX} {l : Launch} {D : Nat} {post : Option AV → MM → Prop} {z : RT} (C : Cx E z D RX12 cX12_isSheet 1) (r : Rt E z (some .boolean) post) {M : MM} {x0 : Int} (h : VX12_isSheet_0 E l D post M x0) : Aj E l z 0 [(0, vi x0)] [] M := by
  unfold VX12_isSheet_0 at h
  refine v_iload_n (i := 0) C dX12_isSheet_0 rfl rfl ?_
  refine v_i2l C h.1 dX12_isSheet_1 ?_
  refine v_lconst (x := 0) C dX12_isSheet_2 (by decide) ?_
  refine v_ldc2 (x := 3) C cs_RX12_96 (by decide) dX12_isSheet_3 ?_
  refine v_callS (q := qX12_in) (As := [vj x0, vj 0, vj 3]) (S := []) C co_yX12_in ml_RX12_71 st_yX12_in ini_RX12 hq_X12_in (by decide) (Nat.le_of_ble_eq_true rfl) rfl dX12_isSheet_6 (Con.mono h.2 (fun rr M1 hr => ?_) (Nat.le_refl _))
  obtain ⟨y2, rfl, g3⟩ := hr
  show Aj E l z (6 + 3) [(0, vi x0)] [vi y2] M1
  exact v_zret C r g3.1 dX12_isSheet_9 g3.2
theorem RX12_isSheet {E : FX} {l : Launch} {D : Nat} {post : Option AV → MM → Prop} {M : MM} {x0 : Int} (h0 : VX12_isSheet_0 E l D post M x0) : Con E l (D + 1) qX12_isSheet [vi x0] M post := by
  refine con_of (by decide +kernel) (Nat.le_of_ble_eq_true rfl) (fun z C r => ?_)
  exact v_sub [0] rfl (SX12_isSheet_0 C r h0)
def VX12_bars_61 (E : FX) (l : Launch) (D : Nat) (post : Option AV → MM → Prop) (M : MM) (s0 : Int) : Prop :=
  post (some (vi s0)) M
set_option maxRecDepth 20000 in
theorem SX12_bars_61 {E : FX} {l : Launch} {D : Nat} {post : Option AV → MM → Prop} {z : RT} (C : Cx E z D RX12 cX12_bars 5) (r : Rt E z (some .int) post) {M : MM} {s0 : Int} (h : VX12_bars_61 E l D post M s0) : Aj E l z 61 [] [vi s0] M := by
  unfold VX12_bars_61 at h
  exact v_iret C r dX12_bars_61 h
def VX12_bars_55 (E : FX) (l : Launch) (D : Nat) (post : Option AV → MM → Prop) (M : MM) : Prop :=
  VX12_bars_61 E l D post M (-13)
set_option maxRecDepth 20000 in
theorem SX12_bars_55 {E : FX} {l : Launch} {D : Nat} {post : Option AV → MM → Prop} {z : RT} (C : Cx E z D RX12 cX12_bars 5) (r : Rt E z (some .int) post) {M : MM} (h : VX12_bars_55 E l D post M) : Aj E l z 55 [] [] M := by
  unfold VX12_bars_55 at h
  refine v_bipush C dX12_bars_55 (by decide) ?_
  refine v_goto C dX12_bars_57 (tgt := 61) (by decide) ?_
  exact v_sub [] rfl (SX12_bars_61 C r h)
def VX12_bars_0 (E : FX) (l : Launch) (D : Nat) (post : Option AV → MM → Prop) (M : MM) (x1 : Int) (x2 : Int) (x3 : Int) (x4 : Int) : Prop :=
  0 ≤ x1 ∧ (x1 < 4 ∧ (R32 (M 52 (x1).toNat) ∧ ((0 ≤ M 52 (x1).toNat → 0 ≤ x1 ∧ (x1 < 4 ∧ (R32 (M 52 (x1).toNat) ∧ (R32 x2 ∧ ((M 52 (x1).toNat = x2 → R32 x3 ∧ ((x3 < 0 → VX12_bars_61 E l D post M (-13)) ∧ (¬ x3 < 0 → R32 x4 ∧ ((x4 < 0 → VX12_bars_61 E l D post M (-13)) ∧ (¬ x4 < 0 → R32 x3 ∧ (R32 x4 ∧ (0 ≤ x1 ∧ (x1 < 4 ∧ (R32 (M 53 (x1).toNat) ∧ (R64 (x3 + x4) ∧ (R64 (M 53 (x1).toNat) ∧ ((x3 + x4 ≤ M 53 (x1).toNat → VX12_bars_61 E l D post M 0) ∧ (¬ x3 + x4 ≤ M 53 (x1).toNat → VX12_bars_61 E l D post M (-13)))))))))))))) ∧ (¬ M 52 (x1).toNat = x2 → VX12_bars_61 E l D post M (-12))))))) ∧ (¬ 0 ≤ M 52 (x1).toNat → VX12_bars_61 E l D post M (-11)))))
set_option maxRecDepth 20000 in
theorem SX12_bars_0 {E : FX} {l : Launch} {D : Nat} {post : Option AV → MM → Prop} {z : RT} (C : Cx E z D RX12 cX12_bars 5) (r : Rt E z (some .int) post) {M : MM} {x1 : Int} {x2 : Int} {x3 : Int} {x4 : Int} (h : VX12_bars_0 E l D post M x1 x2 x3 x4) : Aj E l z 0 [(0, vr 44), (1, vi x1), (2, vi x2), (3, vi x3), (4, vi x4)] [] M := by
  unfold VX12_bars_0 at h
  refine v_aload_n (i := 0) C dX12_bars_0 rfl rfl ?_
  refine v_getf (k := 44) C fl_RX12_32 rfl rfl dX12_bars_1 ?_
  show Aj E l z (1 + 3) [(0, vr 44), (1, vi x1), (2, vi x2), (3, vi x3), (4, vi x4)] [vr 52] M
  refine v_iload_n (i := 1) C dX12_bars_4 rfl rfl ?_
  refine v_iald (k := 52) C rfl h.1 h.2.1 dX12_bars_5 ?_
  show Aj E l z (5 + 1) [(0, vr 44), (1, vi x1), (2, vi x2), (3, vi x3), (4, vi x4)] [vi (M 52 (x1).toNat)] M
  refine v_if_ge (tgt := 14) C h.2.2.1 dX12_bars_6 (by decide) (fun c => ?_) (fun c => ?_)
  · have g1 := h.2.2.2.1 c
    refine v_aload_n (i := 0) C dX12_bars_14 rfl rfl ?_
    refine v_getf (k := 44) C fl_RX12_32 rfl rfl dX12_bars_15 ?_
    show Aj E l z (15 + 3) [(0, vr 44), (1, vi x1), (2, vi x2), (3, vi x3), (4, vi x4)] [vr 52] M
    refine v_iload_n (i := 1) C dX12_bars_18 rfl rfl ?_
    refine v_iald (k := 52) C rfl g1.1 g1.2.1 dX12_bars_19 ?_
    show Aj E l z (19 + 1) [(0, vr 44), (1, vi x1), (2, vi x2), (3, vi x3), (4, vi x4)] [vi (M 52 (x1).toNat)] M
    refine v_iload_n (i := 2) C dX12_bars_20 rfl rfl ?_
    refine v_icmp_eq (tgt := 29) C g1.2.2.1 g1.2.2.2.1 dX12_bars_21 (by decide) (fun c => ?_) (fun c => ?_)
    · have g3 := g1.2.2.2.2.1 c
      refine v_iload_n (i := 3) C dX12_bars_29 rfl rfl ?_
      refine v_if_lt (tgt := 55) C g3.1 dX12_bars_30 (by decide) (fun c => ?_) (fun c => ?_)
      · have g5 := g3.2.1 c
        refine v_bipush C dX12_bars_55 (by decide) ?_
        refine v_goto C dX12_bars_57 (tgt := 61) (by decide) ?_
        exact v_sub [] rfl (SX12_bars_61 C r g5)
      · have g6 := g3.2.2 c
        refine v_iload (i := 4) C dX12_bars_33 rfl ?_
        refine v_if_lt (tgt := 55) C g6.1 dX12_bars_35 (by decide) (fun c => ?_) (fun c => ?_)
        · have g7 := g6.2.1 c
          refine v_bipush C dX12_bars_55 (by decide) ?_
          refine v_goto C dX12_bars_57 (tgt := 61) (by decide) ?_
          exact v_sub [] rfl (SX12_bars_61 C r g7)
        · have g8 := g6.2.2 c
          refine v_iload_n (i := 3) C dX12_bars_38 rfl rfl ?_
          refine v_i2l C g8.1 dX12_bars_39 ?_
          refine v_iload (i := 4) C dX12_bars_40 rfl ?_
          refine v_i2l C g8.2.1 dX12_bars_42 ?_
          refine v_ladd C dX12_bars_43 ?_
          refine v_aload_n (i := 0) C dX12_bars_44 rfl rfl ?_
          refine v_getf (k := 44) C fl_RX12_35 rfl rfl dX12_bars_45 ?_
          show Aj E l z (45 + 3) [(0, vr 44), (1, vi x1), (2, vi x2), (3, vi x3), (4, vi x4)] [vr 53, vj (x3 + x4)] M
          refine v_iload_n (i := 1) C dX12_bars_48 rfl rfl ?_
          refine v_iald (k := 53) C rfl g8.2.2.1 g8.2.2.2.1 dX12_bars_49 ?_
          show Aj E l z (49 + 1) [(0, vr 44), (1, vi x1), (2, vi x2), (3, vi x3), (4, vi x4)] [vi (M 53 (x1).toNat), vj (x3 + x4)] M
          refine v_i2l C g8.2.2.2.2.1 dX12_bars_50 ?_
          refine v_lif_le (tgt := 60) C g8.2.2.2.2.2.1 g8.2.2.2.2.2.2.1 dX12_bars_51 dX12_bars_52 (by decide) (fun c => ?_) (fun c => ?_)
          · have g9 := g8.2.2.2.2.2.2.2.1 c
            refine v_iconst C dX12_bars_60 ?_
            exact v_sub [] rfl (SX12_bars_61 C r g9)
          · have g10 := g8.2.2.2.2.2.2.2.2 c
            refine v_bipush C dX12_bars_55 (by decide) ?_
            refine v_goto C dX12_bars_57 (tgt := 61) (by decide) ?_
            exact v_sub [] rfl (SX12_bars_61 C r g10)
    · have g4 := g1.2.2.2.2.2 c
      refine v_bipush C dX12_bars_24 (by decide) ?_
      refine v_goto C dX12_bars_26 (tgt := 61) (by decide) ?_
      exact v_sub [] rfl (SX12_bars_61 C r g4)
  · have g2 := h.2.2.2.2 c
    refine v_bipush C dX12_bars_9 (by decide) ?_
    refine v_goto C dX12_bars_11 (tgt := 61) (by decide) ?_
    exact v_sub [] rfl (SX12_bars_61 C r g2)
theorem RX12_bars {E : FX} {l : Launch} {D : Nat} {post : Option AV → MM → Prop} {M : MM} {x1 : Int} {x2 : Int} {x3 : Int} {x4 : Int} (h0 : VX12_bars_0 E l D post M x1 x2 x3 x4) : Con E l (D + 1) qX12_bars [vr 44, vi x1, vi x2, vi x3, vi x4] M post := by
  refine con_of (by decide +kernel) (Nat.le_of_ble_eq_true rfl) (fun z C r => ?_)
  exact v_sub [0, 1, 2, 3, 4] rfl (SX12_bars_0 C r h0)
def VX12_cutTo_23 (E : FX) (l : Launch) (D : Nat) (post : Option AV → MM → Prop) (M : MM) (s0 : Int) : Prop :=
  post (some (vj s0)) M
set_option maxRecDepth 20000 in
theorem SX12_cutTo_23 {E : FX} {l : Launch} {D : Nat} {post : Option AV → MM → Prop} {z : RT} (C : Cx E z D RX12 cX12_cutTo 3) (r : Rt E z (some .long) post) {M : MM} {s0 : Int} (h : VX12_cutTo_23 E l D post M s0) : Aj E l z 23 [] [vj s0] M := by
  unfold VX12_cutTo_23 at h
  exact v_lret C r dX12_cutTo_23 h
def VX12_cutTo_0 (E : FX) (l : Launch) (D : Nat) (post : Option AV → MM → Prop) (M : MM) (x0 : Int) (x1 : Int) : Prop :=
  R32 x0 ∧ ((¬ x0 = 0 → R32 x0 ∧ ((¬ x0 = 1 → VX12_cutTo_23 E l D post M x1) ∧ (x0 = 1 → R32 (w32 x1) ∧ (VX12_cutTo_23 E l D post M (w32 x1))))) ∧ (x0 = 0 → R32 (w16 (w32 x1)) ∧ (VX12_cutTo_23 E l D post M (w16 (w32 x1)))))
set_option maxRecDepth 20000 in
theorem SX12_cutTo_0 {E : FX} {l : Launch} {D : Nat} {post : Option AV → MM → Prop} {z : RT} (C : Cx E z D RX12 cX12_cutTo 3) (r : Rt E z (some .long) post) {M : MM} {x0 : Int} {x1 : Int} (h : VX12_cutTo_0 E l D post M x0 x1) : Aj E l z 0 [(0, vi x0), (1, vj x1)] [] M := by
  unfold VX12_cutTo_0 at h
  refine v_iload_n (i := 0) C dX12_cutTo_0 rfl rfl ?_
  refine v_if_ne (tgt := 11) C h.1 dX12_cutTo_1 (by decide) (fun c => ?_) (fun c => ?_)
  · have g1 := h.2.1 c
    refine v_iload_n (i := 0) C dX12_cutTo_11 rfl rfl ?_
    refine v_iconst C dX12_cutTo_12 ?_
    refine v_icmp_ne (tgt := 22) C g1.1 (by decide) dX12_cutTo_13 (by decide) (fun c => ?_) (fun c => ?_)
    · have g3 := g1.2.1 c
      refine v_lload_n (i := 1) C dX12_cutTo_22 rfl rfl ?_
      exact v_sub [] rfl (SX12_cutTo_23 C r g3)
    · have g4 := g1.2.2 c
      refine v_lload_n (i := 1) C dX12_cutTo_16 rfl rfl ?_
      refine v_l2i C dX12_cutTo_17 ?_
      refine v_i2l C g4.1 dX12_cutTo_18 ?_
      refine v_goto C dX12_cutTo_19 (tgt := 23) (by decide) ?_
      exact v_sub [] rfl (SX12_cutTo_23 C r g4.2)
  · have g2 := h.2.2 c
    refine v_lload_n (i := 1) C dX12_cutTo_4 rfl rfl ?_
    refine v_l2i C dX12_cutTo_5 ?_
    refine v_i2s C dX12_cutTo_6 ?_
    refine v_i2l C g2.1 dX12_cutTo_7 ?_
    refine v_goto C dX12_cutTo_8 (tgt := 23) (by decide) ?_
    exact v_sub [] rfl (SX12_cutTo_23 C r g2.2)
theorem RX12_cutTo {E : FX} {l : Launch} {D : Nat} {post : Option AV → MM → Prop} {M : MM} {x0 : Int} {x1 : Int} (h0 : VX12_cutTo_0 E l D post M x0 x1) : Con E l (D + 1) qX12_cutTo [vi x0, vj x1] M post := by
  refine con_of (by decide +kernel) (Nat.le_of_ble_eq_true rfl) (fun z C r => ?_)
  exact v_sub [0, 1] rfl (SX12_cutTo_0 C r h0)
def VX12_leaves_19 (E : FX) (l : Launch) (D : Nat) (post : Option AV → MM → Prop) (J64 : MM → Int → Int → Int → Int → Int → Prop) (J128 : MM → Int → Int → Int → Int → Prop) (J143 : MM → Int → Int → Int → Int → Int → Int → Prop) (M : MM) : Prop :=
  post (some (vi (-1))) M
set_option maxRecDepth 20000 in
theorem SX12_leaves_19 {E : FX} {l : Launch} {D : Nat} {post : Option AV → MM → Prop} {z : RT} {J64 : MM → Int → Int → Int → Int → Int → Prop} {J128 : MM → Int → Int → Int → Int → Prop} {J143 : MM → Int → Int → Int → Int → Int → Int → Prop} (C : Cx E z D RX12 cX12_leaves 11) (r : Rt E z (some .int) post) (hJ64 : ∀ (M : MM) (x1 : Int) (x3 : Int) (x4 : Int) (x6 : Int) (x7 : Int), J64 M x1 x3 x4 x6 x7 → Aj E l z 64 [(0, vr 44), (1, vi x1), (3, vi x3), (4, vi x4), (6, vi x6), (7, vi x7)] [] M) (hJ128 : ∀ (M : MM) (x1 : Int) (x3 : Int) (x4 : Int) (x7 : Int), J128 M x1 x3 x4 x7 → Aj E l z 128 [(0, vr 44), (1, vi x1), (3, vi x3), (4, vi x4), (7, vi x7)] [] M) (hJ143 : ∀ (M : MM) (x1 : Int) (x3 : Int) (x4 : Int) (x7 : Int) (x8 : Int) (x10 : Int), J143 M x1 x3 x4 x7 x8 x10 → Aj E l z 143 [(0, vr 44), (1, vi x1), (3, vi x3), (4, vi x4), (7, vi x7), (8, vj x8), (10, vi x10)] [] M) {M : MM} (h : VX12_leaves_19 E l D post J64 J128 J143 M) : Aj E l z 19 [] [] M := by
  unfold VX12_leaves_19 at h
  refine v_iconst C dX12_leaves_19 ?_
  exact v_iret C r dX12_leaves_20 h
def VX12_leaves_59 (E : FX) (l : Launch) (D : Nat) (post : Option AV → MM → Prop) (J64 : MM → Int → Int → Int → Int → Int → Prop) (J128 : MM → Int → Int → Int → Int → Prop) (J143 : MM → Int → Int → Int → Int → Int → Int → Prop) (M : MM) (x1 : Int) (x3 : Int) (x4 : Int) (s0 : Int) : Prop :=
  J64 M x1 x3 x4 s0 0
set_option maxRecDepth 20000 in
theorem SX12_leaves_59 {E : FX} {l : Launch} {D : Nat} {post : Option AV → MM → Prop} {z : RT} {J64 : MM → Int → Int → Int → Int → Int → Prop} {J128 : MM → Int → Int → Int → Int → Prop} {J143 : MM → Int → Int → Int → Int → Int → Int → Prop} (C : Cx E z D RX12 cX12_leaves 11) (r : Rt E z (some .int) post) (hJ64 : ∀ (M : MM) (x1 : Int) (x3 : Int) (x4 : Int) (x6 : Int) (x7 : Int), J64 M x1 x3 x4 x6 x7 → Aj E l z 64 [(0, vr 44), (1, vi x1), (3, vi x3), (4, vi x4), (6, vi x6), (7, vi x7)] [] M) (hJ128 : ∀ (M : MM) (x1 : Int) (x3 : Int) (x4 : Int) (x7 : Int), J128 M x1 x3 x4 x7 → Aj E l z 128 [(0, vr 44), (1, vi x1), (3, vi x3), (4, vi x4), (7, vi x7)] [] M) (hJ143 : ∀ (M : MM) (x1 : Int) (x3 : Int) (x4 : Int) (x7 : Int) (x8 : Int) (x10 : Int), J143 M x1 x3 x4 x7 x8 x10 → Aj E l z 143 [(0, vr 44), (1, vi x1), (3, vi x3), (4, vi x4), (7, vi x7), (8, vj x8), (10, vi x10)] [] M) {M : MM} {x1 : Int} {x3 : Int} {x4 : Int} {s0 : Int} (h : VX12_leaves_59 E l D post J64 J128 J143 M x1 x3 x4 s0) : Aj E l z 59 [(0, vr 44), (1, vi x1), (3, vi x3), (4, vi x4)] [vi s0] M := by
  unfold VX12_leaves_59 at h
  refine v_istore (L' := [(6, vi s0), (0, vr 44), (1, vi x1), (3, vi x3), (4, vi x4)]) C dX12_leaves_59 (by decide) rfl ?_
  refine v_iconst C dX12_leaves_61 ?_
  refine v_istore (L' := [(7, vi 0), (6, vi s0), (0, vr 44), (1, vi x1), (3, vi x3), (4, vi x4)]) C dX12_leaves_62 (by decide) rfl ?_
  exact v_sub [2, 3, 4, 5, 1, 0] rfl (hJ64 _ _ _ _ _ _ h)
def VX12_leaves_0 (E : FX) (l : Launch) (D : Nat) (post : Option AV → MM → Prop) (J64 : MM → Int → Int → Int → Int → Int → Prop) (J128 : MM → Int → Int → Int → Int → Prop) (J143 : MM → Int → Int → Int → Int → Int → Int → Prop) (M : MM) (x1 : Int) (x2 : Int) (x3 : Int) : Prop :=
  Con E l D qX12_isSheet [vi x1] M (fun r M1 => ∃ y2 : Int, r = some (vi y2) ∧ (R32 y2 ∧ ((y2 = 0 → post (some (vi (-1))) M1) ∧ (¬ y2 = 0 → R32 x2 ∧ (Con E l D qX12_in [vj x2, vj 0, vj 2] M1 (fun r M6 => ∃ y7 : Int, r = some (vi y7) ∧ (R32 y7 ∧ ((¬ y7 = 0 → ∀ y11 : Int, y11 = M6 45 24 → (Con E l D qX12_bars [vr 44, vi x1, vi x2, vi x3, vi y11] M6 (fun r M13 => ∃ y14 : Int, r = some (vi y14) ∧ (R32 y14 ∧ ((y14 = 0 → R32 y11 ∧ ((y11 ≤ 0 → VX12_leaves_59 E l D post J64 J128 J143 M13 x1 x3 y11 0) ∧ (¬ y11 ≤ 0 → VX12_leaves_59 E l D post J64 J128 J143 M13 x1 x3 y11 1))) ∧ (¬ y14 = 0 → post (some (vi y14)) M13)))))) ∧ (y7 = 0 → post (some (vi (-1))) M6)))))))))
set_option maxRecDepth 20000 in
theorem SX12_leaves_0 {E : FX} {l : Launch} {D : Nat} {post : Option AV → MM → Prop} {z : RT} {J64 : MM → Int → Int → Int → Int → Int → Prop} {J128 : MM → Int → Int → Int → Int → Prop} {J143 : MM → Int → Int → Int → Int → Int → Int → Prop} (C : Cx E z D RX12 cX12_leaves 11) (r : Rt E z (some .int) post) (hJ64 : ∀ (M : MM) (x1 : Int) (x3 : Int) (x4 : Int) (x6 : Int) (x7 : Int), J64 M x1 x3 x4 x6 x7 → Aj E l z 64 [(0, vr 44), (1, vi x1), (3, vi x3), (4, vi x4), (6, vi x6), (7, vi x7)] [] M) (hJ128 : ∀ (M : MM) (x1 : Int) (x3 : Int) (x4 : Int) (x7 : Int), J128 M x1 x3 x4 x7 → Aj E l z 128 [(0, vr 44), (1, vi x1), (3, vi x3), (4, vi x4), (7, vi x7)] [] M) (hJ143 : ∀ (M : MM) (x1 : Int) (x3 : Int) (x4 : Int) (x7 : Int) (x8 : Int) (x10 : Int), J143 M x1 x3 x4 x7 x8 x10 → Aj E l z 143 [(0, vr 44), (1, vi x1), (3, vi x3), (4, vi x4), (7, vi x7), (8, vj x8), (10, vi x10)] [] M) {M : MM} {x1 : Int} {x2 : Int} {x3 : Int} (h : VX12_leaves_0 E l D post J64 J128 J143 M x1 x2 x3) : Aj E l z 0 [(0, vr 44), (1, vi x1), (2, vi x2), (3, vi x3)] [] M := by
  unfold VX12_leaves_0 at h
  refine v_iload_n (i := 1) C dX12_leaves_0 rfl rfl ?_
  refine v_callS (q := qX12_isSheet) (As := [vi x1]) (S := []) C co_yX12_isSheet ml_RX12_207 st_yX12_isSheet ini_RX12 hq_X12_isSheet (by decide) (Nat.le_of_ble_eq_true rfl) rfl dX12_leaves_1 (Con.mono h (fun rr M1 hr => ?_) (Nat.le_refl _))
  obtain ⟨y2, rfl, g3⟩ := hr
  show Aj E l z (1 + 3) [(0, vr 44), (1, vi x1), (2, vi x2), (3, vi x3)] [vi y2] M1
  refine v_if_eq (tgt := 19) C g3.1 dX12_leaves_4 (by decide) (fun c => ?_) (fun c => ?_)
  · have g4 := g3.2.1 c
    refine v_iconst C dX12_leaves_19 ?_
    exact v_iret C r dX12_leaves_20 g4
  · have g5 := g3.2.2 c
    refine v_iload_n (i := 2) C dX12_leaves_7 rfl rfl ?_
    refine v_i2l C g5.1 dX12_leaves_8 ?_
    refine v_lconst (x := 0) C dX12_leaves_9 (by decide) ?_
    refine v_ldc2 (x := 2) C cs_RX12_69 (by decide) dX12_leaves_10 ?_
    refine v_callS (q := qX12_in) (As := [vj x2, vj 0, vj 2]) (S := []) C co_yX12_in ml_RX12_71 st_yX12_in ini_RX12 hq_X12_in (by decide) (Nat.le_of_ble_eq_true rfl) rfl dX12_leaves_13 (Con.mono g5.2 (fun rr M6 hr => ?_) (Nat.le_refl _))
    obtain ⟨y7, rfl, g8⟩ := hr
    show Aj E l z (13 + 3) [(0, vr 44), (1, vi x1), (2, vi x2), (3, vi x3)] [vi y7] M6
    refine v_if_ne (tgt := 21) C g8.1 dX12_leaves_16 (by decide) (fun c => ?_) (fun c => ?_)
    · have g9 := g8.2.1 c
      refine v_aload_n (i := 0) C dX12_leaves_21 rfl rfl ?_
      refine v_getf (k := 44) C fl_RX12_7 rfl rfl dX12_leaves_22 ?_
      show Aj E l z (22 + 3) [(0, vr 44), (1, vi x1), (2, vi x2), (3, vi x3)] [vr 45] M6
      refine v_bipush C dX12_leaves_25 (by decide) ?_
      refine v_iald (k := 45) C rfl (by decide) (by decide) dX12_leaves_27 ?_
      show Aj E l z (27 + 1) [(0, vr 44), (1, vi x1), (2, vi x2), (3, vi x3)] [vi (M6 45 24)] M6
      obtain ⟨y11, hy11⟩ : ∃ y : Int, y = M6 45 24 := ⟨_, rfl⟩
      have g12 := g9 y11 hy11
      refine v_eqi hy11 ?_
      refine v_istore (L' := [(4, vi y11), (0, vr 44), (1, vi x1), (2, vi x2), (3, vi x3)]) C dX12_leaves_28 (by decide) rfl ?_
      refine v_aload_n (i := 1) C dX12_leaves_30 rfl rfl ?_
      refine v_iload_n (i := 2) C dX12_leaves_31 rfl rfl ?_
      refine v_iload_n (i := 3) C dX12_leaves_32 rfl rfl ?_
      refine v_iload_n (i := 4) C dX12_leaves_33 rfl rfl ?_
      refine v_iload (i := 0) C dX12_leaves_34 rfl ?_
      refine v_callV (q := qX12_bars) (k := 44) (As := [vi x1, vi x2, vi x3, vi y11]) (S := []) C co_yX12_bars ml_RX12_210 im_yX12_bars se_yX12_bars ini_RX12 rfl rfl hq_X12_bars (by decide) (Nat.le_of_ble_eq_true rfl) rfl dX12_leaves_36 (Con.mono g12 (fun rr M13 hr => ?_) (Nat.le_refl _))
      obtain ⟨y14, rfl, g15⟩ := hr
      show Aj E l z (36 + 3) [(4, vi y11), (0, vr 44), (1, vi x1), (2, vi x2), (3, vi x3)] [vi y14] M13
      refine v_istore (L' := [(5, vi y14), (4, vi y11), (0, vr 44), (1, vi x1), (2, vi x2), (3, vi x3)]) C dX12_leaves_39 (by decide) rfl ?_
      refine v_iload (i := 0) C dX12_leaves_41 rfl ?_
      refine v_if_eq (tgt := 49) C g15.1 dX12_leaves_43 (by decide) (fun c => ?_) (fun c => ?_)
      · have g16 := g15.2.1 c
        refine v_iload (i := 1) C dX12_leaves_49 rfl ?_
        refine v_if_le (tgt := 58) C g16.1 dX12_leaves_51 (by decide) (fun c => ?_) (fun c => ?_)
        · have g18 := g16.2.1 c
          refine v_iconst C dX12_leaves_58 ?_
          exact v_sub [2, 3, 5, 1] rfl (SX12_leaves_59 C r hJ64 hJ128 hJ143 g18)
        · have g19 := g16.2.2 c
          refine v_iconst C dX12_leaves_54 ?_
          refine v_goto C dX12_leaves_55 (tgt := 59) (by decide) ?_
          exact v_sub [2, 3, 5, 1] rfl (SX12_leaves_59 C r hJ64 hJ128 hJ143 g19)
      · have g17 := g15.2.2 c
        refine v_iload (i := 0) C dX12_leaves_46 rfl ?_
        exact v_iret C r dX12_leaves_48 g17
    · have g10 := g8.2.2 c
      refine v_iconst C dX12_leaves_19 ?_
      exact v_iret C r dX12_leaves_20 g10
def VX12_leaves_105 (E : FX) (l : Launch) (D : Nat) (post : Option AV → MM → Prop) (J64 : MM → Int → Int → Int → Int → Int → Prop) (J128 : MM → Int → Int → Int → Int → Prop) (J143 : MM → Int → Int → Int → Int → Int → Int → Prop) (M : MM) (x1 : Int) (x3 : Int) (x4 : Int) (x7 : Int) (s0 : Int) : Prop :=
  ∀ y20 : Int, y20 = x7 + 1 → (J64 M x1 x3 x4 s0 y20)
set_option maxRecDepth 20000 in
theorem SX12_leaves_105 {E : FX} {l : Launch} {D : Nat} {post : Option AV → MM → Prop} {z : RT} {J64 : MM → Int → Int → Int → Int → Int → Prop} {J128 : MM → Int → Int → Int → Int → Prop} {J143 : MM → Int → Int → Int → Int → Int → Int → Prop} (C : Cx E z D RX12 cX12_leaves 11) (r : Rt E z (some .int) post) (hJ64 : ∀ (M : MM) (x1 : Int) (x3 : Int) (x4 : Int) (x6 : Int) (x7 : Int), J64 M x1 x3 x4 x6 x7 → Aj E l z 64 [(0, vr 44), (1, vi x1), (3, vi x3), (4, vi x4), (6, vi x6), (7, vi x7)] [] M) (hJ128 : ∀ (M : MM) (x1 : Int) (x3 : Int) (x4 : Int) (x7 : Int), J128 M x1 x3 x4 x7 → Aj E l z 128 [(0, vr 44), (1, vi x1), (3, vi x3), (4, vi x4), (7, vi x7)] [] M) (hJ143 : ∀ (M : MM) (x1 : Int) (x3 : Int) (x4 : Int) (x7 : Int) (x8 : Int) (x10 : Int), J143 M x1 x3 x4 x7 x8 x10 → Aj E l z 143 [(0, vr 44), (1, vi x1), (3, vi x3), (4, vi x4), (7, vi x7), (8, vj x8), (10, vi x10)] [] M) {M : MM} {x1 : Int} {x3 : Int} {x4 : Int} {x7 : Int} {s0 : Int} (h : VX12_leaves_105 E l D post J64 J128 J143 M x1 x3 x4 x7 s0) : Aj E l z 105 [(0, vr 44), (1, vi x1), (3, vi x3), (4, vi x4), (7, vi x7)] [vi s0] M := by
  unfold VX12_leaves_105 at h
  refine v_istore (L' := [(6, vi s0), (0, vr 44), (1, vi x1), (3, vi x3), (4, vi x4), (7, vi x7)]) C dX12_leaves_105 (by decide) rfl ?_
  obtain ⟨y20, hy20⟩ : ∃ y : Int, y = x7 + 1 := ⟨_, rfl⟩
  have g21 := h y20 hy20
  refine v_iinc (i := 5) (L' := [(7, vi y20), (6, vi s0), (0, vr 44), (1, vi x1), (3, vi x3), (4, vi x4)]) C dX12_leaves_107 rfl (by decide) hy20 rfl ?_
  refine v_goto C dX12_leaves_110 (tgt := 64) (by decide) ?_
  exact v_sub [2, 3, 4, 5, 1, 0] rfl (hJ64 _ _ _ _ _ _ g21)
def VX12_leaves_104 (E : FX) (l : Launch) (D : Nat) (post : Option AV → MM → Prop) (J64 : MM → Int → Int → Int → Int → Int → Prop) (J128 : MM → Int → Int → Int → Int → Prop) (J143 : MM → Int → Int → Int → Int → Int → Int → Prop) (M : MM) (x1 : Int) (x3 : Int) (x4 : Int) (x7 : Int) : Prop :=
  VX12_leaves_105 E l D post J64 J128 J143 M x1 x3 x4 x7 0
set_option maxRecDepth 20000 in
theorem SX12_leaves_104 {E : FX} {l : Launch} {D : Nat} {post : Option AV → MM → Prop} {z : RT} {J64 : MM → Int → Int → Int → Int → Int → Prop} {J128 : MM → Int → Int → Int → Int → Prop} {J143 : MM → Int → Int → Int → Int → Int → Int → Prop} (C : Cx E z D RX12 cX12_leaves 11) (r : Rt E z (some .int) post) (hJ64 : ∀ (M : MM) (x1 : Int) (x3 : Int) (x4 : Int) (x6 : Int) (x7 : Int), J64 M x1 x3 x4 x6 x7 → Aj E l z 64 [(0, vr 44), (1, vi x1), (3, vi x3), (4, vi x4), (6, vi x6), (7, vi x7)] [] M) (hJ128 : ∀ (M : MM) (x1 : Int) (x3 : Int) (x4 : Int) (x7 : Int), J128 M x1 x3 x4 x7 → Aj E l z 128 [(0, vr 44), (1, vi x1), (3, vi x3), (4, vi x4), (7, vi x7)] [] M) (hJ143 : ∀ (M : MM) (x1 : Int) (x3 : Int) (x4 : Int) (x7 : Int) (x8 : Int) (x10 : Int), J143 M x1 x3 x4 x7 x8 x10 → Aj E l z 143 [(0, vr 44), (1, vi x1), (3, vi x3), (4, vi x4), (7, vi x7), (8, vj x8), (10, vi x10)] [] M) {M : MM} {x1 : Int} {x3 : Int} {x4 : Int} {x7 : Int} (h : VX12_leaves_104 E l D post J64 J128 J143 M x1 x3 x4 x7) : Aj E l z 104 [(0, vr 44), (1, vi x1), (3, vi x3), (4, vi x4), (7, vi x7)] [] M := by
  unfold VX12_leaves_104 at h
  refine v_iconst C dX12_leaves_104 ?_
  exact v_sub [0, 1, 2, 3, 4] rfl (SX12_leaves_105 C r hJ64 hJ128 hJ143 h)
def VX12_leaves_64 (E : FX) (l : Launch) (D : Nat) (post : Option AV → MM → Prop) (J64 : MM → Int → Int → Int → Int → Int → Prop) (J128 : MM → Int → Int → Int → Int → Prop) (J143 : MM → Int → Int → Int → Int → Int → Int → Prop) (M : MM) (x1 : Int) (x3 : Int) (x4 : Int) (x6 : Int) (x7 : Int) : Prop :=
  R32 x7 ∧ (R32 x4 ∧ ((x4 ≤ x7 → R32 x6 ∧ ((¬ x6 = 0 → Con E l D qX12_layNow [vr 44] M (fun r M26 => r = none ∧ (J128 M26 x1 x3 x4 1))) ∧ (x6 = 0 → post (some (vi (-2))) M))) ∧ (¬ x4 ≤ x7 → R32 x6 ∧ ((x6 = 0 → VX12_leaves_105 E l D post J64 J128 J143 M x1 x3 x4 x7 0) ∧ (¬ x6 = 0 → 0 ≤ ((16 * x1) + x3) + x7 ∧ (((16 * x1) + x3) + x7 < 64 ∧ (Con E l D qX12_in [vj (M 54 (((16 * x1) + x3) + x7).toNat), vj 0, vj 9999999] M (fun r M30 => ∃ y31 : Int, r = some (vi y31) ∧ (R32 y31 ∧ ((y31 = 0 → VX12_leaves_105 E l D post J64 J128 J143 M30 x1 x3 x4 x7 0) ∧ (¬ y31 = 0 → VX12_leaves_105 E l D post J64 J128 J143 M30 x1 x3 x4 x7 1)))))))))))
set_option maxRecDepth 20000 in
theorem SX12_leaves_64 {E : FX} {l : Launch} {D : Nat} {post : Option AV → MM → Prop} {z : RT} {J64 : MM → Int → Int → Int → Int → Int → Prop} {J128 : MM → Int → Int → Int → Int → Prop} {J143 : MM → Int → Int → Int → Int → Int → Int → Prop} (C : Cx E z D RX12 cX12_leaves 11) (r : Rt E z (some .int) post) (hJ64 : ∀ (M : MM) (x1 : Int) (x3 : Int) (x4 : Int) (x6 : Int) (x7 : Int), J64 M x1 x3 x4 x6 x7 → Aj E l z 64 [(0, vr 44), (1, vi x1), (3, vi x3), (4, vi x4), (6, vi x6), (7, vi x7)] [] M) (hJ128 : ∀ (M : MM) (x1 : Int) (x3 : Int) (x4 : Int) (x7 : Int), J128 M x1 x3 x4 x7 → Aj E l z 128 [(0, vr 44), (1, vi x1), (3, vi x3), (4, vi x4), (7, vi x7)] [] M) (hJ143 : ∀ (M : MM) (x1 : Int) (x3 : Int) (x4 : Int) (x7 : Int) (x8 : Int) (x10 : Int), J143 M x1 x3 x4 x7 x8 x10 → Aj E l z 143 [(0, vr 44), (1, vi x1), (3, vi x3), (4, vi x4), (7, vi x7), (8, vj x8), (10, vi x10)] [] M) {M : MM} {x1 : Int} {x3 : Int} {x4 : Int} {x6 : Int} {x7 : Int} (h : VX12_leaves_64 E l D post J64 J128 J143 M x1 x3 x4 x6 x7) : Aj E l z 64 [(0, vr 44), (1, vi x1), (3, vi x3), (4, vi x4), (6, vi x6), (7, vi x7)] [] M := by
  unfold VX12_leaves_64 at h
  refine v_iload (i := 5) C dX12_leaves_64 rfl ?_
  refine v_iload (i := 3) C dX12_leaves_66 rfl ?_
  refine v_icmp_ge (tgt := 113) C h.1 h.2.1 dX12_leaves_68 (by decide) (fun c => ?_) (fun c => ?_)
  · have g22 := h.2.2.1 c
    refine v_iload (i := 4) C dX12_leaves_113 rfl ?_
    refine v_if_ne (tgt := 121) C g22.1 dX12_leaves_115 (by decide) (fun c => ?_) (fun c => ?_)
    · have g24 := g22.2.1 c
      refine v_aload_n (i := 0) C dX12_leaves_121 rfl rfl ?_
      refine v_callV (q := qX12_layNow) (k := 44) (As := []) (S := []) C co_yX12_layNow ml_RX12_87 im_yX12_layNow se_yX12_layNow ini_RX12 rfl rfl hq_X12_layNow (by decide) (Nat.le_of_ble_eq_true rfl) rfl dX12_leaves_122 (Con.mono g24 (fun rr M26 hr => ?_) (Nat.le_refl _))
      obtain ⟨rfl, g27⟩ := hr
      show Aj E l z (122 + 3) [(0, vr 44), (1, vi x1), (3, vi x3), (4, vi x4), (6, vi x6), (7, vi x7)] [] M26
      refine v_iconst C dX12_leaves_125 ?_
      refine v_istore (L' := [(7, vi 1), (0, vr 44), (1, vi x1), (3, vi x3), (4, vi x4), (6, vi x6)]) C dX12_leaves_126 (by decide) rfl ?_
      exact v_sub [1, 2, 3, 4, 0] rfl (hJ128 _ _ _ _ _ g27)
    · have g25 := g22.2.2 c
      refine v_bipush C dX12_leaves_118 (by decide) ?_
      exact v_iret C r dX12_leaves_120 g25
  · have g23 := h.2.2.2 c
    refine v_iload (i := 4) C dX12_leaves_71 rfl ?_
    refine v_if_eq (tgt := 104) C g23.1 dX12_leaves_73 (by decide) (fun c => ?_) (fun c => ?_)
    · have g28 := g23.2.1 c
      refine v_iconst C dX12_leaves_104 ?_
      exact v_sub [0, 1, 2, 3, 5] rfl (SX12_leaves_105 C r hJ64 hJ128 hJ143 g28)
    · have g29 := g23.2.2 c
      refine v_aload_n (i := 0) C dX12_leaves_76 rfl rfl ?_
      refine v_getf (k := 44) C fl_RX12_38 rfl rfl dX12_leaves_77 ?_
      show Aj E l z (77 + 3) [(0, vr 44), (1, vi x1), (3, vi x3), (4, vi x4), (6, vi x6), (7, vi x7)] [vr 54] M
      refine v_bipush C dX12_leaves_80 (by decide) ?_
      refine v_iload_n (i := 1) C dX12_leaves_82 rfl rfl ?_
      refine v_imul C dX12_leaves_83 ?_
      refine v_iload_n (i := 2) C dX12_leaves_84 rfl rfl ?_
      refine v_iadd C dX12_leaves_85 ?_
      refine v_iload (i := 5) C dX12_leaves_86 rfl ?_
      refine v_iadd C dX12_leaves_88 ?_
      refine v_lald (k := 54) C rfl g29.1 g29.2.1 dX12_leaves_89 ?_
      show Aj E l z (89 + 1) [(0, vr 44), (1, vi x1), (3, vi x3), (4, vi x4), (6, vi x6), (7, vi x7)] [vj (M 54 (((16 * x1) + x3) + x7).toNat)] M
      refine v_lconst (x := 0) C dX12_leaves_90 (by decide) ?_
      refine v_ldc2 (x := 9999999) C cs_RX12_214 (by decide) dX12_leaves_91 ?_
      refine v_callS (q := qX12_in) (As := [vj (M 54 (((16 * x1) + x3) + x7).toNat), vj 0, vj 9999999]) (S := []) C co_yX12_in ml_RX12_71 st_yX12_in ini_RX12 hq_X12_in (by decide) (Nat.le_of_ble_eq_true rfl) rfl dX12_leaves_94 (Con.mono g29.2.2 (fun rr M30 hr => ?_) (Nat.le_refl _))
      obtain ⟨y31, rfl, g32⟩ := hr
      show Aj E l z (94 + 3) [(0, vr 44), (1, vi x1), (3, vi x3), (4, vi x4), (6, vi x6), (7, vi x7)] [vi y31] M30
      refine v_if_eq (tgt := 104) C g32.1 dX12_leaves_97 (by decide) (fun c => ?_) (fun c => ?_)
      · have g33 := g32.2.1 c
        refine v_iconst C dX12_leaves_104 ?_
        exact v_sub [0, 1, 2, 3, 5] rfl (SX12_leaves_105 C r hJ64 hJ128 hJ143 g33)
      · have g34 := g32.2.2 c
        refine v_iconst C dX12_leaves_100 ?_
        refine v_goto C dX12_leaves_101 (tgt := 105) (by decide) ?_
        exact v_sub [0, 1, 2, 3, 5] rfl (SX12_leaves_105 C r hJ64 hJ128 hJ143 g34)
def VX12_leaves_128 (E : FX) (l : Launch) (D : Nat) (post : Option AV → MM → Prop) (J64 : MM → Int → Int → Int → Int → Int → Prop) (J128 : MM → Int → Int → Int → Int → Prop) (J143 : MM → Int → Int → Int → Int → Int → Int → Prop) (M : MM) (x1 : Int) (x3 : Int) (x4 : Int) (x7 : Int) : Prop :=
  R32 x7 ∧ (R32 (ishl 1 x4) ∧ ((ishl 1 x4 ≤ x7 → post (some (vi (-4))) M) ∧ (¬ ishl 1 x4 ≤ x7 → J143 M x1 x3 x4 x7 0 0)))
set_option maxRecDepth 20000 in
theorem SX12_leaves_128 {E : FX} {l : Launch} {D : Nat} {post : Option AV → MM → Prop} {z : RT} {J64 : MM → Int → Int → Int → Int → Int → Prop} {J128 : MM → Int → Int → Int → Int → Prop} {J143 : MM → Int → Int → Int → Int → Int → Int → Prop} (C : Cx E z D RX12 cX12_leaves 11) (r : Rt E z (some .int) post) (hJ64 : ∀ (M : MM) (x1 : Int) (x3 : Int) (x4 : Int) (x6 : Int) (x7 : Int), J64 M x1 x3 x4 x6 x7 → Aj E l z 64 [(0, vr 44), (1, vi x1), (3, vi x3), (4, vi x4), (6, vi x6), (7, vi x7)] [] M) (hJ128 : ∀ (M : MM) (x1 : Int) (x3 : Int) (x4 : Int) (x7 : Int), J128 M x1 x3 x4 x7 → Aj E l z 128 [(0, vr 44), (1, vi x1), (3, vi x3), (4, vi x4), (7, vi x7)] [] M) (hJ143 : ∀ (M : MM) (x1 : Int) (x3 : Int) (x4 : Int) (x7 : Int) (x8 : Int) (x10 : Int), J143 M x1 x3 x4 x7 x8 x10 → Aj E l z 143 [(0, vr 44), (1, vi x1), (3, vi x3), (4, vi x4), (7, vi x7), (8, vj x8), (10, vi x10)] [] M) {M : MM} {x1 : Int} {x3 : Int} {x4 : Int} {x7 : Int} (h : VX12_leaves_128 E l D post J64 J128 J143 M x1 x3 x4 x7) : Aj E l z 128 [(0, vr 44), (1, vi x1), (3, vi x3), (4, vi x4), (7, vi x7)] [] M := by
  unfold VX12_leaves_128 at h
  refine v_iload (i := 4) C dX12_leaves_128 rfl ?_
  refine v_iconst C dX12_leaves_130 ?_
  refine v_iload (i := 3) C dX12_leaves_131 rfl ?_
  refine v_ishl C dX12_leaves_133 ?_
  refine v_icmp_ge (tgt := 210) C h.1 h.2.1 dX12_leaves_134 (by decide) (fun c => ?_) (fun c => ?_)
  · have g35 := h.2.2.1 c
    refine v_bipush C dX12_leaves_210 (by decide) ?_
    exact v_iret C r dX12_leaves_212 g35
  · have g36 := h.2.2.2 c
    refine v_lconst (x := 0) C dX12_leaves_137 (by decide) ?_
    refine v_lstore (L' := [(8, vj 0), (0, vr 44), (1, vi x1), (3, vi x3), (4, vi x4), (7, vi x7)]) C dX12_leaves_138 (by decide) rfl ?_
    refine v_iconst C dX12_leaves_140 ?_
    refine v_istore (L' := [(10, vi 0), (8, vj 0), (0, vr 44), (1, vi x1), (3, vi x3), (4, vi x4), (7, vi x7)]) C dX12_leaves_141 (by decide) rfl ?_
    exact v_sub [2, 3, 4, 5, 6, 1, 0] rfl (hJ143 _ _ _ _ _ _ _ g36)
def VX12_leaves_180 (E : FX) (l : Launch) (D : Nat) (post : Option AV → MM → Prop) (J64 : MM → Int → Int → Int → Int → Int → Prop) (J128 : MM → Int → Int → Int → Int → Prop) (J143 : MM → Int → Int → Int → Int → Int → Int → Prop) (M : MM) (x1 : Int) (x3 : Int) (x4 : Int) (x7 : Int) (x10 : Int) (s0 : Int) (s1 : Int) : Prop :=
  ∀ y37 : Int, y37 = s0 + s1 → (∀ y39 : Int, y39 = x10 + 1 → (J143 M x1 x3 x4 x7 y37 y39))
set_option maxRecDepth 20000 in
theorem SX12_leaves_180 {E : FX} {l : Launch} {D : Nat} {post : Option AV → MM → Prop} {z : RT} {J64 : MM → Int → Int → Int → Int → Int → Prop} {J128 : MM → Int → Int → Int → Int → Prop} {J143 : MM → Int → Int → Int → Int → Int → Int → Prop} (C : Cx E z D RX12 cX12_leaves 11) (r : Rt E z (some .int) post) (hJ64 : ∀ (M : MM) (x1 : Int) (x3 : Int) (x4 : Int) (x6 : Int) (x7 : Int), J64 M x1 x3 x4 x6 x7 → Aj E l z 64 [(0, vr 44), (1, vi x1), (3, vi x3), (4, vi x4), (6, vi x6), (7, vi x7)] [] M) (hJ128 : ∀ (M : MM) (x1 : Int) (x3 : Int) (x4 : Int) (x7 : Int), J128 M x1 x3 x4 x7 → Aj E l z 128 [(0, vr 44), (1, vi x1), (3, vi x3), (4, vi x4), (7, vi x7)] [] M) (hJ143 : ∀ (M : MM) (x1 : Int) (x3 : Int) (x4 : Int) (x7 : Int) (x8 : Int) (x10 : Int), J143 M x1 x3 x4 x7 x8 x10 → Aj E l z 143 [(0, vr 44), (1, vi x1), (3, vi x3), (4, vi x4), (7, vi x7), (8, vj x8), (10, vi x10)] [] M) {M : MM} {x1 : Int} {x3 : Int} {x4 : Int} {x7 : Int} {x10 : Int} {s0 : Int} {s1 : Int} (h : VX12_leaves_180 E l D post J64 J128 J143 M x1 x3 x4 x7 x10 s0 s1) : Aj E l z 180 [(0, vr 44), (1, vi x1), (3, vi x3), (4, vi x4), (7, vi x7), (10, vi x10)] [vj s1, vj s0] M := by
  unfold VX12_leaves_180 at h
  refine v_ladd C dX12_leaves_180 ?_
  obtain ⟨y37, hy37⟩ : ∃ y : Int, y = s0 + s1 := ⟨_, rfl⟩
  have g38 := h y37 hy37
  refine v_eqj hy37 ?_
  refine v_lstore (L' := [(8, vj y37), (0, vr 44), (1, vi x1), (3, vi x3), (4, vi x4), (7, vi x7), (10, vi x10)]) C dX12_leaves_181 (by decide) rfl ?_
  obtain ⟨y39, hy39⟩ : ∃ y : Int, y = x10 + 1 := ⟨_, rfl⟩
  have g40 := g38 y39 hy39
  refine v_iinc (i := 6) (L' := [(10, vi y39), (8, vj y37), (0, vr 44), (1, vi x1), (3, vi x3), (4, vi x4), (7, vi x7)]) C dX12_leaves_183 rfl (by decide) hy39 rfl ?_
  refine v_goto C dX12_leaves_186 (tgt := 143) (by decide) ?_
  exact v_sub [2, 3, 4, 5, 6, 1, 0] rfl (hJ143 _ _ _ _ _ _ _ g40)
def VX12_leaves_143 (E : FX) (l : Launch) (D : Nat) (post : Option AV → MM → Prop) (J64 : MM → Int → Int → Int → Int → Int → Prop) (J128 : MM → Int → Int → Int → Int → Prop) (J143 : MM → Int → Int → Int → Int → Int → Int → Prop) (M : MM) (x1 : Int) (x3 : Int) (x4 : Int) (x7 : Int) (x8 : Int) (x10 : Int) : Prop :=
  R32 x10 ∧ (R32 x4 ∧ ((x4 ≤ x10 → Con E l D qX12_priceOf [vr 44, vi x7] M (fun r M43 => ∃ y44 : Int, r = some (vj y44) ∧ (R64 x8 ∧ (R64 y44 ∧ ((x8 ≤ y44 → ∀ y48 : Int, y48 = x7 + 1 → (J128 M43 x1 x3 x4 y48)) ∧ (¬ x8 ≤ y44 → post (some (vi x7)) M43)))))) ∧ (¬ x4 ≤ x10 → Con E l D qX12_has [vi x7, vi x10] M (fun r M50 => ∃ y51 : Int, r = some (vi y51) ∧ (R32 y51 ∧ ((y51 = 0 → VX12_leaves_180 E l D post J64 J128 J143 M50 x1 x3 x4 x7 x10 x8 0) ∧ (¬ y51 = 0 → 0 ≤ ((16 * x1) + x3) + x10 ∧ (((16 * x1) + x3) + x10 < 64 ∧ (VX12_leaves_180 E l D post J64 J128 J143 M50 x1 x3 x4 x7 x10 x8 (M50 54 (((16 * x1) + x3) + x10).toNat))))))))))
set_option maxRecDepth 20000 in
theorem SX12_leaves_143 {E : FX} {l : Launch} {D : Nat} {post : Option AV → MM → Prop} {z : RT} {J64 : MM → Int → Int → Int → Int → Int → Prop} {J128 : MM → Int → Int → Int → Int → Prop} {J143 : MM → Int → Int → Int → Int → Int → Int → Prop} (C : Cx E z D RX12 cX12_leaves 11) (r : Rt E z (some .int) post) (hJ64 : ∀ (M : MM) (x1 : Int) (x3 : Int) (x4 : Int) (x6 : Int) (x7 : Int), J64 M x1 x3 x4 x6 x7 → Aj E l z 64 [(0, vr 44), (1, vi x1), (3, vi x3), (4, vi x4), (6, vi x6), (7, vi x7)] [] M) (hJ128 : ∀ (M : MM) (x1 : Int) (x3 : Int) (x4 : Int) (x7 : Int), J128 M x1 x3 x4 x7 → Aj E l z 128 [(0, vr 44), (1, vi x1), (3, vi x3), (4, vi x4), (7, vi x7)] [] M) (hJ143 : ∀ (M : MM) (x1 : Int) (x3 : Int) (x4 : Int) (x7 : Int) (x8 : Int) (x10 : Int), J143 M x1 x3 x4 x7 x8 x10 → Aj E l z 143 [(0, vr 44), (1, vi x1), (3, vi x3), (4, vi x4), (7, vi x7), (8, vj x8), (10, vi x10)] [] M) {M : MM} {x1 : Int} {x3 : Int} {x4 : Int} {x7 : Int} {x8 : Int} {x10 : Int} (h : VX12_leaves_143 E l D post J64 J128 J143 M x1 x3 x4 x7 x8 x10) : Aj E l z 143 [(0, vr 44), (1, vi x1), (3, vi x3), (4, vi x4), (7, vi x7), (8, vj x8), (10, vi x10)] [] M := by
  unfold VX12_leaves_143 at h
  refine v_iload (i := 6) C dX12_leaves_143 rfl ?_
  refine v_iload (i := 3) C dX12_leaves_145 rfl ?_
  refine v_icmp_ge (tgt := 189) C h.1 h.2.1 dX12_leaves_147 (by decide) (fun c => ?_) (fun c => ?_)
  · have g41 := h.2.2.1 c
    refine v_lload (i := 5) C dX12_leaves_189 rfl ?_
    refine v_aload_n (i := 0) C dX12_leaves_191 rfl rfl ?_
    refine v_iload (i := 4) C dX12_leaves_192 rfl ?_
    refine v_callV (q := qX12_priceOf) (k := 44) (As := [vi x7]) (S := [vj x8]) C co_yX12_priceOf ml_RX12_184 im_yX12_priceOf se_yX12_priceOf ini_RX12 rfl rfl hq_X12_priceOf (by decide) (Nat.le_of_ble_eq_true rfl) rfl dX12_leaves_194 (Con.mono g41 (fun rr M43 hr => ?_) (Nat.le_refl _))
    obtain ⟨y44, rfl, g45⟩ := hr
    show Aj E l z (194 + 3) [(0, vr 44), (1, vi x1), (3, vi x3), (4, vi x4), (7, vi x7), (8, vj x8), (10, vi x10)] [vj y44, vj x8] M43
    refine v_lif_le (tgt := 204) C g45.1 g45.2.1 dX12_leaves_197 dX12_leaves_198 (by decide) (fun c => ?_) (fun c => ?_)
    · have g46 := g45.2.2.1 c
      obtain ⟨y48, hy48⟩ : ∃ y : Int, y = x7 + 1 := ⟨_, rfl⟩
      have g49 := g46 y48 hy48
      refine v_iinc (i := 4) (L' := [(7, vi y48), (0, vr 44), (1, vi x1), (3, vi x3), (4, vi x4), (8, vj x8), (10, vi x10)]) C dX12_leaves_204 rfl (by decide) hy48 rfl ?_
      refine v_goto C dX12_leaves_207 (tgt := 128) (by decide) ?_
      exact v_sub [1, 2, 3, 4, 0] rfl (hJ128 _ _ _ _ _ g49)
    · have g47 := g45.2.2.2 c
      refine v_iload (i := 4) C dX12_leaves_201 rfl ?_
      exact v_iret C r dX12_leaves_203 g47
  · have g42 := h.2.2.2 c
    refine v_lload (i := 5) C dX12_leaves_150 rfl ?_
    refine v_iload (i := 4) C dX12_leaves_152 rfl ?_
    refine v_iload (i := 6) C dX12_leaves_154 rfl ?_
    refine v_callS (q := qX12_has) (As := [vi x7, vi x10]) (S := [vj x8]) C co_yX12_has ml_RX12_146 st_yX12_has ini_RX12 hq_X12_has (by decide) (Nat.le_of_ble_eq_true rfl) rfl dX12_leaves_156 (Con.mono g42 (fun rr M50 hr => ?_) (Nat.le_refl _))
    obtain ⟨y51, rfl, g52⟩ := hr
    show Aj E l z (156 + 3) [(0, vr 44), (1, vi x1), (3, vi x3), (4, vi x4), (7, vi x7), (8, vj x8), (10, vi x10)] [vi y51, vj x8] M50
    refine v_if_eq (tgt := 179) C g52.1 dX12_leaves_159 (by decide) (fun c => ?_) (fun c => ?_)
    · have g53 := g52.2.1 c
      refine v_lconst (x := 0) C dX12_leaves_179 (by decide) ?_
      exact v_sub [0, 1, 2, 3, 4, 6] rfl (SX12_leaves_180 C r hJ64 hJ128 hJ143 g53)
    · have g54 := g52.2.2 c
      refine v_aload_n (i := 0) C dX12_leaves_162 rfl rfl ?_
      refine v_getf (k := 44) C fl_RX12_38 rfl rfl dX12_leaves_163 ?_
      show Aj E l z (163 + 3) [(0, vr 44), (1, vi x1), (3, vi x3), (4, vi x4), (7, vi x7), (8, vj x8), (10, vi x10)] [vr 54, vj x8] M50
      refine v_bipush C dX12_leaves_166 (by decide) ?_
      refine v_iload_n (i := 1) C dX12_leaves_168 rfl rfl ?_
      refine v_imul C dX12_leaves_169 ?_
      refine v_iload_n (i := 2) C dX12_leaves_170 rfl rfl ?_
      refine v_iadd C dX12_leaves_171 ?_
      refine v_iload (i := 6) C dX12_leaves_172 rfl ?_
      refine v_iadd C dX12_leaves_174 ?_
      refine v_lald (k := 54) C rfl g54.1 g54.2.1 dX12_leaves_175 ?_
      show Aj E l z (175 + 1) [(0, vr 44), (1, vi x1), (3, vi x3), (4, vi x4), (7, vi x7), (8, vj x8), (10, vi x10)] [vj (M50 54 (((16 * x1) + x3) + x10).toNat), vj x8] M50
      refine v_goto C dX12_leaves_176 (tgt := 180) (by decide) ?_
      exact v_sub [0, 1, 2, 3, 4, 6] rfl (SX12_leaves_180 C r hJ64 hJ128 hJ143 g54.2.2)
theorem RX12_leaves {E : FX} {l : Launch} {D : Nat} {post : Option AV → MM → Prop} (I64 : MM → Int → Int → Int → Int → Int → Prop) (m64 : MM → Int → Int → Int → Int → Int → Nat) (I128 : MM → Int → Int → Int → Int → Prop) (m128 : MM → Int → Int → Int → Int → Nat) (I143 : MM → Int → Int → Int → Int → Int → Int → Prop) (m143 : MM → Int → Int → Int → Int → Int → Int → Nat) {M : MM} {x1 : Int} {x2 : Int} {x3 : Int} (h0 : VX12_leaves_0 E l D post I64 I128 I143 M x1 x2 x3) (h64I : ∀ (M : MM) (x1 : Int) (x3 : Int) (x4 : Int) (x6 : Int) (x7 : Int), I64 M x1 x3 x4 x6 x7 → VX12_leaves_64 E l D post (fun M' x1' x3' x4' x6' x7' => I64 M' x1' x3' x4' x6' x7' ∧ m64 M' x1' x3' x4' x6' x7' < m64 M x1 x3 x4 x6 x7) (fun M' x1' x3' x4' x7' => I128 M' x1' x3' x4' x7' ∧ m128 M' x1' x3' x4' x7' < m64 M x1 x3 x4 x6 x7) (fun M' x1' x3' x4' x7' x8' x10' => I143 M' x1' x3' x4' x7' x8' x10' ∧ m143 M' x1' x3' x4' x7' x8' x10' < m64 M x1 x3 x4 x6 x7) M x1 x3 x4 x6 x7) (h128I : ∀ (M : MM) (x1 : Int) (x3 : Int) (x4 : Int) (x7 : Int), I128 M x1 x3 x4 x7 → VX12_leaves_128 E l D post (fun M' x1' x3' x4' x6' x7' => I64 M' x1' x3' x4' x6' x7' ∧ m64 M' x1' x3' x4' x6' x7' < m128 M x1 x3 x4 x7) (fun M' x1' x3' x4' x7' => I128 M' x1' x3' x4' x7' ∧ m128 M' x1' x3' x4' x7' < m128 M x1 x3 x4 x7) (fun M' x1' x3' x4' x7' x8' x10' => I143 M' x1' x3' x4' x7' x8' x10' ∧ m143 M' x1' x3' x4' x7' x8' x10' < m128 M x1 x3 x4 x7) M x1 x3 x4 x7) (h143I : ∀ (M : MM) (x1 : Int) (x3 : Int) (x4 : Int) (x7 : Int) (x8 : Int) (x10 : Int), I143 M x1 x3 x4 x7 x8 x10 → VX12_leaves_143 E l D post (fun M' x1' x3' x4' x6' x7' => I64 M' x1' x3' x4' x6' x7' ∧ m64 M' x1' x3' x4' x6' x7' < m143 M x1 x3 x4 x7 x8 x10) (fun M' x1' x3' x4' x7' => I128 M' x1' x3' x4' x7' ∧ m128 M' x1' x3' x4' x7' < m143 M x1 x3 x4 x7 x8 x10) (fun M' x1' x3' x4' x7' x8' x10' => I143 M' x1' x3' x4' x7' x8' x10' ∧ m143 M' x1' x3' x4' x7' x8' x10' < m143 M x1 x3 x4 x7 x8 x10) M x1 x3 x4 x7 x8 x10) : Con E l (D + 1) qX12_leaves [vr 44, vi x1, vi x2, vi x3] M post := by
  refine con_of (by decide +kernel) (Nat.le_of_ble_eq_true rfl) (fun z C r => ?_)
  have all : ∀ n : Nat, (∀ (M : MM) (x1 : Int) (x3 : Int) (x4 : Int) (x6 : Int) (x7 : Int), I64 M x1 x3 x4 x6 x7 → m64 M x1 x3 x4 x6 x7 < n → Aj E l z 64 [(0, vr 44), (1, vi x1), (3, vi x3), (4, vi x4), (6, vi x6), (7, vi x7)] [] M) ∧ (∀ (M : MM) (x1 : Int) (x3 : Int) (x4 : Int) (x7 : Int), I128 M x1 x3 x4 x7 → m128 M x1 x3 x4 x7 < n → Aj E l z 128 [(0, vr 44), (1, vi x1), (3, vi x3), (4, vi x4), (7, vi x7)] [] M) ∧ (∀ (M : MM) (x1 : Int) (x3 : Int) (x4 : Int) (x7 : Int) (x8 : Int) (x10 : Int), I143 M x1 x3 x4 x7 x8 x10 → m143 M x1 x3 x4 x7 x8 x10 < n → Aj E l z 143 [(0, vr 44), (1, vi x1), (3, vi x3), (4, vi x4), (7, vi x7), (8, vj x8), (10, vi x10)] [] M) := by
    intro n
    induction n with
    | zero => exact ⟨fun _ _ _ _ _ _ _ hm => absurd hm (Nat.not_lt_zero _), fun _ _ _ _ _ _ hm => absurd hm (Nat.not_lt_zero _), fun _ _ _ _ _ _ _ _ hm => absurd hm (Nat.not_lt_zero _)⟩
    | succ n ih => exact ⟨fun M x1 x3 x4 x6 x7 hi hm => SX12_leaves_64 C r (fun M' x1' x3' x4' x6' x7' hj => ih.1 M' x1' x3' x4' x6' x7' hj.1 (by omega)) (fun M' x1' x3' x4' x7' hj => ih.2.1 M' x1' x3' x4' x7' hj.1 (by omega)) (fun M' x1' x3' x4' x7' x8' x10' hj => ih.2.2 M' x1' x3' x4' x7' x8' x10' hj.1 (by omega)) (h64I M x1 x3 x4 x6 x7 hi), fun M x1 x3 x4 x7 hi hm => SX12_leaves_128 C r (fun M' x1' x3' x4' x6' x7' hj => ih.1 M' x1' x3' x4' x6' x7' hj.1 (by omega)) (fun M' x1' x3' x4' x7' hj => ih.2.1 M' x1' x3' x4' x7' hj.1 (by omega)) (fun M' x1' x3' x4' x7' x8' x10' hj => ih.2.2 M' x1' x3' x4' x7' x8' x10' hj.1 (by omega)) (h128I M x1 x3 x4 x7 hi), fun M x1 x3 x4 x7 x8 x10 hi hm => SX12_leaves_143 C r (fun M' x1' x3' x4' x6' x7' hj => ih.1 M' x1' x3' x4' x6' x7' hj.1 (by omega)) (fun M' x1' x3' x4' x7' hj => ih.2.1 M' x1' x3' x4' x7' hj.1 (by omega)) (fun M' x1' x3' x4' x7' x8' x10' hj => ih.2.2 M' x1' x3' x4' x7' x8' x10' hj.1 (by omega)) (h143I M x1 x3 x4 x7 x8 x10 hi)⟩
  exact v_sub [0, 1, 2, 3] rfl (SX12_leaves_0 C r (fun M' x1' x3' x4' x6' x7' hj => (all _).1 M' x1' x3' x4' x6' x7' hj (Nat.lt_succ_self _)) (fun M' x1' x3' x4' x7' hj => (all _).2.1 M' x1' x3' x4' x7' hj (Nat.lt_succ_self _)) (fun M' x1' x3' x4' x7' x8' x10' hj => (all _).2.2 M' x1' x3' x4' x7' x8' x10' hj (Nat.lt_succ_self _)) h0)
def VX12_fit_43 (E : FX) (l : Launch) (D : Nat) (post : Option AV → MM → Prop) (J70 : MM → Int → Int → Int → Int → Int → Int → Prop) (J136 : MM → Int → Int → Int → Int → Int → Int → Prop) (J149 : MM → Int → Int → Int → Int → Int → Int → Int → Prop) (M : MM) : Prop :=
  post (some (vi (-1))) M
set_option maxRecDepth 20000 in
theorem SX12_fit_43 {E : FX} {l : Launch} {D : Nat} {post : Option AV → MM → Prop} {z : RT} {J70 : MM → Int → Int → Int → Int → Int → Int → Prop} {J136 : MM → Int → Int → Int → Int → Int → Int → Prop} {J149 : MM → Int → Int → Int → Int → Int → Int → Int → Prop} (C : Cx E z D RX12 cX12_fit 15) (r : Rt E z (some .int) post) (hJ70 : ∀ (M : MM) (x1 : Int) (x3 : Int) (x4 : Int) (x5 : Int) (x7 : Int) (x9 : Int), J70 M x1 x3 x4 x5 x7 x9 → Aj E l z 70 [(0, vr 44), (1, vi x1), (3, vi x3), (4, vi x4), (5, vi x5), (7, vj x7), (9, vi x9)] [] M) (hJ136 : ∀ (M : MM) (x5 : Int) (x7 : Int) (x9 : Int) (x10 : Int) (x11 : Int) (x13 : Int), J136 M x5 x7 x9 x10 x11 x13 → Aj E l z 136 [(5, vi x5), (7, vj x7), (9, vi x9), (10, vi x10), (11, vj x11), (13, vi x13)] [] M) (hJ149 : ∀ (M : MM) (x5 : Int) (x7 : Int) (x9 : Int) (x10 : Int) (x11 : Int) (x13 : Int) (x14 : Int), J149 M x5 x7 x9 x10 x11 x13 x14 → Aj E l z 149 [(5, vi x5), (7, vj x7), (9, vi x9), (10, vi x10), (11, vj x11), (13, vi x13), (14, vi x14)] [] M) {M : MM} (h : VX12_fit_43 E l D post J70 J136 J149 M) : Aj E l z 43 [] [] M := by
  unfold VX12_fit_43 at h
  refine v_iconst C dX12_fit_43 ?_
  exact v_iret C r dX12_fit_44 h
def VX12_fit_0 (E : FX) (l : Launch) (D : Nat) (post : Option AV → MM → Prop) (J70 : MM → Int → Int → Int → Int → Int → Int → Prop) (J136 : MM → Int → Int → Int → Int → Int → Int → Prop) (J149 : MM → Int → Int → Int → Int → Int → Int → Int → Prop) (M : MM) (x1 : Int) (x2 : Int) (x3 : Int) (x4 : Int) (x5 : Int) : Prop :=
  Con E l D qX12_isSheet [vi x1] M (fun r M1 => ∃ y2 : Int, r = some (vi y2) ∧ (R32 y2 ∧ ((y2 = 0 → post (some (vi (-1))) M1) ∧ (¬ y2 = 0 → R32 x2 ∧ (Con E l D qX12_in [vj x2, vj 0, vj 2] M1 (fun r M6 => ∃ y7 : Int, r = some (vi y7) ∧ (R32 y7 ∧ ((y7 = 0 → post (some (vi (-1))) M6) ∧ (¬ y7 = 0 → R32 x4 ∧ (Con E l D qX12_in [vj x4, vj 1, vj 8] M6 (fun r M11 => ∃ y12 : Int, r = some (vi y12) ∧ (R32 y12 ∧ ((y12 = 0 → post (some (vi (-1))) M11) ∧ (¬ y12 = 0 → R32 x5 ∧ (Con E l D qX12_in [vj x5, vj 0, vj 1] M11 (fun r M16 => ∃ y17 : Int, r = some (vi y17) ∧ (R32 y17 ∧ ((¬ y17 = 0 → Con E l D qX12_bars [vr 44, vi x1, vi x2, vi x3, vi x4] M16 (fun r M21 => ∃ y22 : Int, r = some (vi y22) ∧ (R32 y22 ∧ ((y22 = 0 → J70 M21 x1 x3 x4 x5 0 0) ∧ (¬ y22 = 0 → post (some (vi y22)) M21))))) ∧ (y17 = 0 → post (some (vi (-1))) M16)))))))))))))))))))
set_option maxRecDepth 20000 in
theorem SX12_fit_0 {E : FX} {l : Launch} {D : Nat} {post : Option AV → MM → Prop} {z : RT} {J70 : MM → Int → Int → Int → Int → Int → Int → Prop} {J136 : MM → Int → Int → Int → Int → Int → Int → Prop} {J149 : MM → Int → Int → Int → Int → Int → Int → Int → Prop} (C : Cx E z D RX12 cX12_fit 15) (r : Rt E z (some .int) post) (hJ70 : ∀ (M : MM) (x1 : Int) (x3 : Int) (x4 : Int) (x5 : Int) (x7 : Int) (x9 : Int), J70 M x1 x3 x4 x5 x7 x9 → Aj E l z 70 [(0, vr 44), (1, vi x1), (3, vi x3), (4, vi x4), (5, vi x5), (7, vj x7), (9, vi x9)] [] M) (hJ136 : ∀ (M : MM) (x5 : Int) (x7 : Int) (x9 : Int) (x10 : Int) (x11 : Int) (x13 : Int), J136 M x5 x7 x9 x10 x11 x13 → Aj E l z 136 [(5, vi x5), (7, vj x7), (9, vi x9), (10, vi x10), (11, vj x11), (13, vi x13)] [] M) (hJ149 : ∀ (M : MM) (x5 : Int) (x7 : Int) (x9 : Int) (x10 : Int) (x11 : Int) (x13 : Int) (x14 : Int), J149 M x5 x7 x9 x10 x11 x13 x14 → Aj E l z 149 [(5, vi x5), (7, vj x7), (9, vi x9), (10, vi x10), (11, vj x11), (13, vi x13), (14, vi x14)] [] M) {M : MM} {x1 : Int} {x2 : Int} {x3 : Int} {x4 : Int} {x5 : Int} (h : VX12_fit_0 E l D post J70 J136 J149 M x1 x2 x3 x4 x5) : Aj E l z 0 [(0, vr 44), (1, vi x1), (2, vi x2), (3, vi x3), (4, vi x4), (5, vi x5)] [] M := by
  unfold VX12_fit_0 at h
  refine v_iload_n (i := 1) C dX12_fit_0 rfl rfl ?_
  refine v_callS (q := qX12_isSheet) (As := [vi x1]) (S := []) C co_yX12_isSheet ml_RX12_207 st_yX12_isSheet ini_RX12 hq_X12_isSheet (by decide) (Nat.le_of_ble_eq_true rfl) rfl dX12_fit_1 (Con.mono h (fun rr M1 hr => ?_) (Nat.le_refl _))
  obtain ⟨y2, rfl, g3⟩ := hr
  show Aj E l z (1 + 3) [(0, vr 44), (1, vi x1), (2, vi x2), (3, vi x3), (4, vi x4), (5, vi x5)] [vi y2] M1
  refine v_if_eq (tgt := 43) C g3.1 dX12_fit_4 (by decide) (fun c => ?_) (fun c => ?_)
  · have g4 := g3.2.1 c
    refine v_iconst C dX12_fit_43 ?_
    exact v_iret C r dX12_fit_44 g4
  · have g5 := g3.2.2 c
    refine v_iload_n (i := 2) C dX12_fit_7 rfl rfl ?_
    refine v_i2l C g5.1 dX12_fit_8 ?_
    refine v_lconst (x := 0) C dX12_fit_9 (by decide) ?_
    refine v_ldc2 (x := 2) C cs_RX12_69 (by decide) dX12_fit_10 ?_
    refine v_callS (q := qX12_in) (As := [vj x2, vj 0, vj 2]) (S := []) C co_yX12_in ml_RX12_71 st_yX12_in ini_RX12 hq_X12_in (by decide) (Nat.le_of_ble_eq_true rfl) rfl dX12_fit_13 (Con.mono g5.2 (fun rr M6 hr => ?_) (Nat.le_refl _))
    obtain ⟨y7, rfl, g8⟩ := hr
    show Aj E l z (13 + 3) [(0, vr 44), (1, vi x1), (2, vi x2), (3, vi x3), (4, vi x4), (5, vi x5)] [vi y7] M6
    refine v_if_eq (tgt := 43) C g8.1 dX12_fit_16 (by decide) (fun c => ?_) (fun c => ?_)
    · have g9 := g8.2.1 c
      refine v_iconst C dX12_fit_43 ?_
      exact v_iret C r dX12_fit_44 g9
    · have g10 := g8.2.2 c
      refine v_iload (i := 4) C dX12_fit_19 rfl ?_
      refine v_i2l C g10.1 dX12_fit_21 ?_
      refine v_lconst (x := 1) C dX12_fit_22 (by decide) ?_
      refine v_ldc2 (x := 8) C cs_RX12_112 (by decide) dX12_fit_23 ?_
      refine v_callS (q := qX12_in) (As := [vj x4, vj 1, vj 8]) (S := []) C co_yX12_in ml_RX12_71 st_yX12_in ini_RX12 hq_X12_in (by decide) (Nat.le_of_ble_eq_true rfl) rfl dX12_fit_26 (Con.mono g10.2 (fun rr M11 hr => ?_) (Nat.le_refl _))
      obtain ⟨y12, rfl, g13⟩ := hr
      show Aj E l z (26 + 3) [(0, vr 44), (1, vi x1), (2, vi x2), (3, vi x3), (4, vi x4), (5, vi x5)] [vi y12] M11
      refine v_if_eq (tgt := 43) C g13.1 dX12_fit_29 (by decide) (fun c => ?_) (fun c => ?_)
      · have g14 := g13.2.1 c
        refine v_iconst C dX12_fit_43 ?_
        exact v_iret C r dX12_fit_44 g14
      · have g15 := g13.2.2 c
        refine v_iload (i := 5) C dX12_fit_32 rfl ?_
        refine v_i2l C g15.1 dX12_fit_34 ?_
        refine v_lconst (x := 0) C dX12_fit_35 (by decide) ?_
        refine v_lconst (x := 1) C dX12_fit_36 (by decide) ?_
        refine v_callS (q := qX12_in) (As := [vj x5, vj 0, vj 1]) (S := []) C co_yX12_in ml_RX12_71 st_yX12_in ini_RX12 hq_X12_in (by decide) (Nat.le_of_ble_eq_true rfl) rfl dX12_fit_37 (Con.mono g15.2 (fun rr M16 hr => ?_) (Nat.le_refl _))
        obtain ⟨y17, rfl, g18⟩ := hr
        show Aj E l z (37 + 3) [(0, vr 44), (1, vi x1), (2, vi x2), (3, vi x3), (4, vi x4), (5, vi x5)] [vi y17] M16
        refine v_if_ne (tgt := 45) C g18.1 dX12_fit_40 (by decide) (fun c => ?_) (fun c => ?_)
        · have g19 := g18.2.1 c
          refine v_aload_n (i := 0) C dX12_fit_45 rfl rfl ?_
          refine v_iload_n (i := 1) C dX12_fit_46 rfl rfl ?_
          refine v_iload_n (i := 2) C dX12_fit_47 rfl rfl ?_
          refine v_iload_n (i := 3) C dX12_fit_48 rfl rfl ?_
          refine v_iload (i := 4) C dX12_fit_49 rfl ?_
          refine v_callV (q := qX12_bars) (k := 44) (As := [vi x1, vi x2, vi x3, vi x4]) (S := []) C co_yX12_bars ml_RX12_210 im_yX12_bars se_yX12_bars ini_RX12 rfl rfl hq_X12_bars (by decide) (Nat.le_of_ble_eq_true rfl) rfl dX12_fit_51 (Con.mono g19 (fun rr M21 hr => ?_) (Nat.le_refl _))
          obtain ⟨y22, rfl, g23⟩ := hr
          show Aj E l z (51 + 3) [(0, vr 44), (1, vi x1), (2, vi x2), (3, vi x3), (4, vi x4), (5, vi x5)] [vi y22] M21
          refine v_istore (L' := [(6, vi y22), (0, vr 44), (1, vi x1), (2, vi x2), (3, vi x3), (4, vi x4), (5, vi x5)]) C dX12_fit_54 (by decide) rfl ?_
          refine v_iload (i := 0) C dX12_fit_56 rfl ?_
          refine v_if_eq (tgt := 64) C g23.1 dX12_fit_58 (by decide) (fun c => ?_) (fun c => ?_)
          · have g24 := g23.2.1 c
            refine v_lconst (x := 0) C dX12_fit_64 (by decide) ?_
            refine v_lstore (L' := [(7, vj 0), (6, vi y22), (0, vr 44), (1, vi x1), (2, vi x2), (3, vi x3), (4, vi x4), (5, vi x5)]) C dX12_fit_65 (by decide) rfl ?_
            refine v_iconst C dX12_fit_67 ?_
            refine v_istore (L' := [(9, vi 0), (7, vj 0), (6, vi y22), (0, vr 44), (1, vi x1), (2, vi x2), (3, vi x3), (4, vi x4), (5, vi x5)]) C dX12_fit_68 (by decide) rfl ?_
            exact v_sub [3, 4, 6, 7, 8, 1, 0] rfl (hJ70 _ _ _ _ _ _ _ g24)
          · have g25 := g23.2.2 c
            refine v_iload (i := 0) C dX12_fit_61 rfl ?_
            exact v_iret C r dX12_fit_63 g25
        · have g20 := g18.2.2 c
          refine v_iconst C dX12_fit_43 ?_
          exact v_iret C r dX12_fit_44 g20
def VX12_fit_70 (E : FX) (l : Launch) (D : Nat) (post : Option AV → MM → Prop) (J70 : MM → Int → Int → Int → Int → Int → Int → Prop) (J136 : MM → Int → Int → Int → Int → Int → Int → Prop) (J149 : MM → Int → Int → Int → Int → Int → Int → Int → Prop) (M : MM) (x1 : Int) (x3 : Int) (x4 : Int) (x5 : Int) (x7 : Int) (x9 : Int) : Prop :=
  R32 x9 ∧ (R32 x4 ∧ ((x4 ≤ x9 → J136 M x5 x7 0 (-4) 0 2) ∧ (¬ x4 ≤ x9 → 0 ≤ ((16 * x1) + x3) + x9 ∧ (((16 * x1) + x3) + x9 < 64 ∧ (∀ y28 : Int, y28 = M 54 (((16 * x1) + x3) + x9).toNat → (Con E l D qX12_in [vj y28, vj 1, vj 999999] M (fun r M30 => ∃ y31 : Int, r = some (vi y31) ∧ (R32 y31 ∧ ((¬ y31 = 0 → Con E l D qX12_divisor [vj x7, vj y28] M30 (fun r M35 => ∃ y36 : Int, r = some (vj y36) ∧ (∀ y38 : Int, y38 = x9 + 1 → (J70 M35 x1 x3 x4 x5 y36 y38)))) ∧ (y31 = 0 → post (some (vi (-2))) M30))))))))))
set_option maxRecDepth 20000 in
theorem SX12_fit_70 {E : FX} {l : Launch} {D : Nat} {post : Option AV → MM → Prop} {z : RT} {J70 : MM → Int → Int → Int → Int → Int → Int → Prop} {J136 : MM → Int → Int → Int → Int → Int → Int → Prop} {J149 : MM → Int → Int → Int → Int → Int → Int → Int → Prop} (C : Cx E z D RX12 cX12_fit 15) (r : Rt E z (some .int) post) (hJ70 : ∀ (M : MM) (x1 : Int) (x3 : Int) (x4 : Int) (x5 : Int) (x7 : Int) (x9 : Int), J70 M x1 x3 x4 x5 x7 x9 → Aj E l z 70 [(0, vr 44), (1, vi x1), (3, vi x3), (4, vi x4), (5, vi x5), (7, vj x7), (9, vi x9)] [] M) (hJ136 : ∀ (M : MM) (x5 : Int) (x7 : Int) (x9 : Int) (x10 : Int) (x11 : Int) (x13 : Int), J136 M x5 x7 x9 x10 x11 x13 → Aj E l z 136 [(5, vi x5), (7, vj x7), (9, vi x9), (10, vi x10), (11, vj x11), (13, vi x13)] [] M) (hJ149 : ∀ (M : MM) (x5 : Int) (x7 : Int) (x9 : Int) (x10 : Int) (x11 : Int) (x13 : Int) (x14 : Int), J149 M x5 x7 x9 x10 x11 x13 x14 → Aj E l z 149 [(5, vi x5), (7, vj x7), (9, vi x9), (10, vi x10), (11, vj x11), (13, vi x13), (14, vi x14)] [] M) {M : MM} {x1 : Int} {x3 : Int} {x4 : Int} {x5 : Int} {x7 : Int} {x9 : Int} (h : VX12_fit_70 E l D post J70 J136 J149 M x1 x3 x4 x5 x7 x9) : Aj E l z 70 [(0, vr 44), (1, vi x1), (3, vi x3), (4, vi x4), (5, vi x5), (7, vj x7), (9, vi x9)] [] M := by
  unfold VX12_fit_70 at h
  refine v_iload (i := 6) C dX12_fit_70 rfl ?_
  refine v_iload (i := 3) C dX12_fit_72 rfl ?_
  refine v_icmp_ge (tgt := 123) C h.1 h.2.1 dX12_fit_74 (by decide) (fun c => ?_) (fun c => ?_)
  · have g26 := h.2.2.1 c
    refine v_iconst C dX12_fit_123 ?_
    refine v_istore (L' := [(9, vi 0), (0, vr 44), (1, vi x1), (3, vi x3), (4, vi x4), (5, vi x5), (7, vj x7)]) C dX12_fit_124 (by decide) rfl ?_
    refine v_bipush C dX12_fit_126 (by decide) ?_
    refine v_istore (L' := [(10, vi (-4)), (9, vi 0), (0, vr 44), (1, vi x1), (3, vi x3), (4, vi x4), (5, vi x5), (7, vj x7)]) C dX12_fit_128 (by decide) rfl ?_
    refine v_lconst (x := 0) C dX12_fit_130 (by decide) ?_
    refine v_lstore (L' := [(11, vj 0), (10, vi (-4)), (9, vi 0), (0, vr 44), (1, vi x1), (3, vi x3), (4, vi x4), (5, vi x5), (7, vj x7)]) C dX12_fit_131 (by decide) rfl ?_
    refine v_iconst C dX12_fit_133 ?_
    refine v_istore (L' := [(13, vi 2), (11, vj 0), (10, vi (-4)), (9, vi 0), (0, vr 44), (1, vi x1), (3, vi x3), (4, vi x4), (5, vi x5), (7, vj x7)]) C dX12_fit_134 (by decide) rfl ?_
    exact v_sub [8, 9, 3, 2, 1, 0] rfl (hJ136 _ _ _ _ _ _ _ g26)
  · have g27 := h.2.2.2 c
    refine v_aload_n (i := 0) C dX12_fit_77 rfl rfl ?_
    refine v_getf (k := 44) C fl_RX12_38 rfl rfl dX12_fit_78 ?_
    show Aj E l z (78 + 3) [(0, vr 44), (1, vi x1), (3, vi x3), (4, vi x4), (5, vi x5), (7, vj x7), (9, vi x9)] [vr 54] M
    refine v_bipush C dX12_fit_81 (by decide) ?_
    refine v_iload_n (i := 1) C dX12_fit_83 rfl rfl ?_
    refine v_imul C dX12_fit_84 ?_
    refine v_iload_n (i := 2) C dX12_fit_85 rfl rfl ?_
    refine v_iadd C dX12_fit_86 ?_
    refine v_iload (i := 6) C dX12_fit_87 rfl ?_
    refine v_iadd C dX12_fit_89 ?_
    refine v_lald (k := 54) C rfl g27.1 g27.2.1 dX12_fit_90 ?_
    show Aj E l z (90 + 1) [(0, vr 44), (1, vi x1), (3, vi x3), (4, vi x4), (5, vi x5), (7, vj x7), (9, vi x9)] [vj (M 54 (((16 * x1) + x3) + x9).toNat)] M
    obtain ⟨y28, hy28⟩ : ∃ y : Int, y = M 54 (((16 * x1) + x3) + x9).toNat := ⟨_, rfl⟩
    have g29 := g27.2.2 y28 hy28
    refine v_eqj hy28 ?_
    refine v_lstore (L' := [(10, vj y28), (0, vr 44), (1, vi x1), (3, vi x3), (4, vi x4), (5, vi x5), (7, vj x7), (9, vi x9)]) C dX12_fit_91 (by decide) rfl ?_
    refine v_lload (i := 0) C dX12_fit_93 rfl ?_
    refine v_lconst (x := 1) C dX12_fit_95 (by decide) ?_
    refine v_ldc2 (x := 999999) C cs_RX12_83 (by decide) dX12_fit_96 ?_
    refine v_callS (q := qX12_in) (As := [vj y28, vj 1, vj 999999]) (S := []) C co_yX12_in ml_RX12_71 st_yX12_in ini_RX12 hq_X12_in (by decide) (Nat.le_of_ble_eq_true rfl) rfl dX12_fit_99 (Con.mono g29 (fun rr M30 hr => ?_) (Nat.le_refl _))
    obtain ⟨y31, rfl, g32⟩ := hr
    show Aj E l z (99 + 3) [(10, vj y28), (0, vr 44), (1, vi x1), (3, vi x3), (4, vi x4), (5, vi x5), (7, vj x7), (9, vi x9)] [vi y31] M30
    refine v_if_ne (tgt := 108) C g32.1 dX12_fit_102 (by decide) (fun c => ?_) (fun c => ?_)
    · have g33 := g32.2.1 c
      refine v_lload (i := 6) C dX12_fit_108 rfl ?_
      refine v_lload (i := 0) C dX12_fit_110 rfl ?_
      refine v_callS (q := qX12_divisor) (As := [vj x7, vj y28]) (S := []) C co_yX12_divisor ml_RX12_44 st_yX12_divisor ini_RX12 hq_X12_divisor (by decide) (Nat.le_of_ble_eq_true rfl) rfl dX12_fit_112 (Con.mono g33 (fun rr M35 hr => ?_) (Nat.le_refl _))
      obtain ⟨y36, rfl, g37⟩ := hr
      show Aj E l z (112 + 3) [(10, vj y28), (0, vr 44), (1, vi x1), (3, vi x3), (4, vi x4), (5, vi x5), (7, vj x7), (9, vi x9)] [vj y36] M35
      refine v_lstore (L' := [(7, vj y36), (10, vj y28), (0, vr 44), (1, vi x1), (3, vi x3), (4, vi x4), (5, vi x5), (9, vi x9)]) C dX12_fit_115 (by decide) rfl ?_
      obtain ⟨y38, hy38⟩ : ∃ y : Int, y = x9 + 1 := ⟨_, rfl⟩
      have g39 := g37 y38 hy38
      refine v_iinc (i := 7) (L' := [(9, vi y38), (7, vj y36), (10, vj y28), (0, vr 44), (1, vi x1), (3, vi x3), (4, vi x4), (5, vi x5)]) C dX12_fit_117 rfl (by decide) hy38 rfl ?_
      refine v_goto C dX12_fit_120 (tgt := 70) (by decide) ?_
      exact v_sub [3, 4, 5, 6, 7, 1, 0] rfl (hJ70 _ _ _ _ _ _ _ g39)
    · have g34 := g32.2.2 c
      refine v_bipush C dX12_fit_105 (by decide) ?_
      exact v_iret C r dX12_fit_107 g34
def VX12_fit_251 (E : FX) (l : Launch) (D : Nat) (post : Option AV → MM → Prop) (J70 : MM → Int → Int → Int → Int → Int → Int → Prop) (J136 : MM → Int → Int → Int → Int → Int → Int → Prop) (J149 : MM → Int → Int → Int → Int → Int → Int → Int → Prop) (M : MM) (s0 : Int) : Prop :=
  post (some (vi s0)) M
set_option maxRecDepth 20000 in
theorem SX12_fit_251 {E : FX} {l : Launch} {D : Nat} {post : Option AV → MM → Prop} {z : RT} {J70 : MM → Int → Int → Int → Int → Int → Int → Prop} {J136 : MM → Int → Int → Int → Int → Int → Int → Prop} {J149 : MM → Int → Int → Int → Int → Int → Int → Int → Prop} (C : Cx E z D RX12 cX12_fit 15) (r : Rt E z (some .int) post) (hJ70 : ∀ (M : MM) (x1 : Int) (x3 : Int) (x4 : Int) (x5 : Int) (x7 : Int) (x9 : Int), J70 M x1 x3 x4 x5 x7 x9 → Aj E l z 70 [(0, vr 44), (1, vi x1), (3, vi x3), (4, vi x4), (5, vi x5), (7, vj x7), (9, vi x9)] [] M) (hJ136 : ∀ (M : MM) (x5 : Int) (x7 : Int) (x9 : Int) (x10 : Int) (x11 : Int) (x13 : Int), J136 M x5 x7 x9 x10 x11 x13 → Aj E l z 136 [(5, vi x5), (7, vj x7), (9, vi x9), (10, vi x10), (11, vj x11), (13, vi x13)] [] M) (hJ149 : ∀ (M : MM) (x5 : Int) (x7 : Int) (x9 : Int) (x10 : Int) (x11 : Int) (x13 : Int) (x14 : Int), J149 M x5 x7 x9 x10 x11 x13 x14 → Aj E l z 149 [(5, vi x5), (7, vj x7), (9, vi x9), (10, vi x10), (11, vj x11), (13, vi x13), (14, vi x14)] [] M) {M : MM} {s0 : Int} (h : VX12_fit_251 E l D post J70 J136 J149 M s0) : Aj E l z 251 [] [vi s0] M := by
  unfold VX12_fit_251 at h
  exact v_iret C r dX12_fit_251 h
def VX12_fit_136 (E : FX) (l : Launch) (D : Nat) (post : Option AV → MM → Prop) (J70 : MM → Int → Int → Int → Int → Int → Int → Prop) (J136 : MM → Int → Int → Int → Int → Int → Int → Prop) (J149 : MM → Int → Int → Int → Int → Int → Int → Int → Prop) (M : MM) (x5 : Int) (x7 : Int) (x9 : Int) (x10 : Int) (x11 : Int) (x13 : Int) : Prop :=
  R32 x13 ∧ ((60 ≤ x13 → R32 x5 ∧ ((¬ x5 = 0 → VX12_fit_251 E l D post J70 J136 J149 M x10) ∧ (x5 = 0 → VX12_fit_251 E l D post J70 J136 J149 M x9))) ∧ (¬ 60 ≤ x13 → ∀ y44 : Int, y44 = x13 + 1 → (J149 M x5 x7 x9 x10 x11 x13 y44)))
set_option maxRecDepth 20000 in
theorem SX12_fit_136 {E : FX} {l : Launch} {D : Nat} {post : Option AV → MM → Prop} {z : RT} {J70 : MM → Int → Int → Int → Int → Int → Int → Prop} {J136 : MM → Int → Int → Int → Int → Int → Int → Prop} {J149 : MM → Int → Int → Int → Int → Int → Int → Int → Prop} (C : Cx E z D RX12 cX12_fit 15) (r : Rt E z (some .int) post) (hJ70 : ∀ (M : MM) (x1 : Int) (x3 : Int) (x4 : Int) (x5 : Int) (x7 : Int) (x9 : Int), J70 M x1 x3 x4 x5 x7 x9 → Aj E l z 70 [(0, vr 44), (1, vi x1), (3, vi x3), (4, vi x4), (5, vi x5), (7, vj x7), (9, vi x9)] [] M) (hJ136 : ∀ (M : MM) (x5 : Int) (x7 : Int) (x9 : Int) (x10 : Int) (x11 : Int) (x13 : Int), J136 M x5 x7 x9 x10 x11 x13 → Aj E l z 136 [(5, vi x5), (7, vj x7), (9, vi x9), (10, vi x10), (11, vj x11), (13, vi x13)] [] M) (hJ149 : ∀ (M : MM) (x5 : Int) (x7 : Int) (x9 : Int) (x10 : Int) (x11 : Int) (x13 : Int) (x14 : Int), J149 M x5 x7 x9 x10 x11 x13 x14 → Aj E l z 149 [(5, vi x5), (7, vj x7), (9, vi x9), (10, vi x10), (11, vj x11), (13, vi x13), (14, vi x14)] [] M) {M : MM} {x5 : Int} {x7 : Int} {x9 : Int} {x10 : Int} {x11 : Int} {x13 : Int} (h : VX12_fit_136 E l D post J70 J136 J149 M x5 x7 x9 x10 x11 x13) : Aj E l z 136 [(5, vi x5), (7, vj x7), (9, vi x9), (10, vi x10), (11, vj x11), (13, vi x13)] [] M := by
  unfold VX12_fit_136 at h
  refine v_iload (i := 5) C dX12_fit_136 rfl ?_
  refine v_bipush C dX12_fit_138 (by decide) ?_
  refine v_icmp_ge (tgt := 239) C h.1 (by decide) dX12_fit_140 (by decide) (fun c => ?_) (fun c => ?_)
  · have g40 := h.2.1 c
    refine v_iload (i := 0) C dX12_fit_239 rfl ?_
    refine v_if_ne (tgt := 249) C g40.1 dX12_fit_241 (by decide) (fun c => ?_) (fun c => ?_)
    · have g42 := g40.2.1 c
      refine v_iload (i := 3) C dX12_fit_249 rfl ?_
      exact v_sub [] rfl (SX12_fit_251 C r hJ70 hJ136 hJ149 g42)
    · have g43 := g40.2.2 c
      refine v_iload (i := 2) C dX12_fit_244 rfl ?_
      refine v_goto C dX12_fit_246 (tgt := 251) (by decide) ?_
      exact v_sub [] rfl (SX12_fit_251 C r hJ70 hJ136 hJ149 g43)
  · have g41 := h.2.2 c
    refine v_iload (i := 5) C dX12_fit_143 rfl ?_
    refine v_iconst C dX12_fit_145 ?_
    refine v_iadd C dX12_fit_146 ?_
    obtain ⟨y44, hy44⟩ : ∃ y : Int, y = x13 + 1 := ⟨_, rfl⟩
    have g45 := g41 y44 hy44
    refine v_eqi hy44 ?_
    refine v_istore (L' := [(14, vi y44), (5, vi x5), (7, vj x7), (9, vi x9), (10, vi x10), (11, vj x11), (13, vi x13)]) C dX12_fit_147 (by decide) rfl ?_
    exact v_sub [1, 2, 3, 4, 5, 6, 0] rfl (hJ149 _ _ _ _ _ _ _ _ g45)
def VX12_fit_227 (E : FX) (l : Launch) (D : Nat) (post : Option AV → MM → Prop) (J70 : MM → Int → Int → Int → Int → Int → Int → Prop) (J136 : MM → Int → Int → Int → Int → Int → Int → Prop) (J149 : MM → Int → Int → Int → Int → Int → Int → Int → Prop) (M : MM) (x5 : Int) (x7 : Int) (x9 : Int) (x10 : Int) (x11 : Int) (x13 : Int) (x14 : Int) : Prop :=
  ∀ y46 : Int, y46 = x14 + 1 → (J149 M x5 x7 x9 x10 x11 x13 y46)
set_option maxRecDepth 20000 in
theorem SX12_fit_227 {E : FX} {l : Launch} {D : Nat} {post : Option AV → MM → Prop} {z : RT} {J70 : MM → Int → Int → Int → Int → Int → Int → Prop} {J136 : MM → Int → Int → Int → Int → Int → Int → Prop} {J149 : MM → Int → Int → Int → Int → Int → Int → Int → Prop} (C : Cx E z D RX12 cX12_fit 15) (r : Rt E z (some .int) post) (hJ70 : ∀ (M : MM) (x1 : Int) (x3 : Int) (x4 : Int) (x5 : Int) (x7 : Int) (x9 : Int), J70 M x1 x3 x4 x5 x7 x9 → Aj E l z 70 [(0, vr 44), (1, vi x1), (3, vi x3), (4, vi x4), (5, vi x5), (7, vj x7), (9, vi x9)] [] M) (hJ136 : ∀ (M : MM) (x5 : Int) (x7 : Int) (x9 : Int) (x10 : Int) (x11 : Int) (x13 : Int), J136 M x5 x7 x9 x10 x11 x13 → Aj E l z 136 [(5, vi x5), (7, vj x7), (9, vi x9), (10, vi x10), (11, vj x11), (13, vi x13)] [] M) (hJ149 : ∀ (M : MM) (x5 : Int) (x7 : Int) (x9 : Int) (x10 : Int) (x11 : Int) (x13 : Int) (x14 : Int), J149 M x5 x7 x9 x10 x11 x13 x14 → Aj E l z 149 [(5, vi x5), (7, vj x7), (9, vi x9), (10, vi x10), (11, vj x11), (13, vi x13), (14, vi x14)] [] M) {M : MM} {x5 : Int} {x7 : Int} {x9 : Int} {x10 : Int} {x11 : Int} {x13 : Int} {x14 : Int} (h : VX12_fit_227 E l D post J70 J136 J149 M x5 x7 x9 x10 x11 x13 x14) : Aj E l z 227 [(5, vi x5), (7, vj x7), (9, vi x9), (10, vi x10), (11, vj x11), (13, vi x13), (14, vi x14)] [] M := by
  unfold VX12_fit_227 at h
  obtain ⟨y46, hy46⟩ : ∃ y : Int, y = x14 + 1 := ⟨_, rfl⟩
  have g47 := h y46 hy46
  refine v_iinc (i := 6) (L' := [(14, vi y46), (5, vi x5), (7, vj x7), (9, vi x9), (10, vi x10), (11, vj x11), (13, vi x13)]) C dX12_fit_227 rfl (by decide) hy46 rfl ?_
  refine v_goto C dX12_fit_230 (tgt := 149) (by decide) ?_
  exact v_sub [1, 2, 3, 4, 5, 6, 0] rfl (hJ149 _ _ _ _ _ _ _ _ g47)
def VX12_fit_206 (E : FX) (l : Launch) (D : Nat) (post : Option AV → MM → Prop) (J70 : MM → Int → Int → Int → Int → Int → Int → Prop) (J136 : MM → Int → Int → Int → Int → Int → Int → Prop) (J149 : MM → Int → Int → Int → Int → Int → Int → Int → Prop) (M : MM) (x5 : Int) (x7 : Int) (x9 : Int) (x11 : Int) (x13 : Int) (x14 : Int) (s0 : Int) : Prop :=
  R32 x13 ∧ (R32 x14 ∧ (Con E l D qX12_common [vj x13, vj x14] M (fun r M48 => ∃ y49 : Int, r = some (vj y49) ∧ (Con E l D qX12_greater [vj x11, vj y49] M48 (fun r M51 => ∃ y52 : Int, r = some (vj y52) ∧ (∀ y54 : Int, y54 = x9 + 1 → (VX12_fit_227 E l D post J70 J136 J149 M51 x5 x7 y54 s0 y52 x13 x14)))))))
set_option maxRecDepth 20000 in
theorem SX12_fit_206 {E : FX} {l : Launch} {D : Nat} {post : Option AV → MM → Prop} {z : RT} {J70 : MM → Int → Int → Int → Int → Int → Int → Prop} {J136 : MM → Int → Int → Int → Int → Int → Int → Prop} {J149 : MM → Int → Int → Int → Int → Int → Int → Int → Prop} (C : Cx E z D RX12 cX12_fit 15) (r : Rt E z (some .int) post) (hJ70 : ∀ (M : MM) (x1 : Int) (x3 : Int) (x4 : Int) (x5 : Int) (x7 : Int) (x9 : Int), J70 M x1 x3 x4 x5 x7 x9 → Aj E l z 70 [(0, vr 44), (1, vi x1), (3, vi x3), (4, vi x4), (5, vi x5), (7, vj x7), (9, vi x9)] [] M) (hJ136 : ∀ (M : MM) (x5 : Int) (x7 : Int) (x9 : Int) (x10 : Int) (x11 : Int) (x13 : Int), J136 M x5 x7 x9 x10 x11 x13 → Aj E l z 136 [(5, vi x5), (7, vj x7), (9, vi x9), (10, vi x10), (11, vj x11), (13, vi x13)] [] M) (hJ149 : ∀ (M : MM) (x5 : Int) (x7 : Int) (x9 : Int) (x10 : Int) (x11 : Int) (x13 : Int) (x14 : Int), J149 M x5 x7 x9 x10 x11 x13 x14 → Aj E l z 149 [(5, vi x5), (7, vj x7), (9, vi x9), (10, vi x10), (11, vj x11), (13, vi x13), (14, vi x14)] [] M) {M : MM} {x5 : Int} {x7 : Int} {x9 : Int} {x11 : Int} {x13 : Int} {x14 : Int} {s0 : Int} (h : VX12_fit_206 E l D post J70 J136 J149 M x5 x7 x9 x11 x13 x14 s0) : Aj E l z 206 [(5, vi x5), (7, vj x7), (9, vi x9), (11, vj x11), (13, vi x13), (14, vi x14)] [vi s0] M := by
  unfold VX12_fit_206 at h
  refine v_istore (L' := [(10, vi s0), (5, vi x5), (7, vj x7), (9, vi x9), (11, vj x11), (13, vi x13), (14, vi x14)]) C dX12_fit_206 (by decide) rfl ?_
  refine v_lload (i := 4) C dX12_fit_208 rfl ?_
  refine v_iload (i := 5) C dX12_fit_210 rfl ?_
  refine v_i2l C h.1 dX12_fit_212 ?_
  refine v_iload (i := 6) C dX12_fit_213 rfl ?_
  refine v_i2l C h.2.1 dX12_fit_215 ?_
  refine v_callS (q := qX12_common) (As := [vj x13, vj x14]) (S := [vj x11]) C co_yX12_common ml_RX12_52 st_yX12_common ini_RX12 hq_X12_common (by decide) (Nat.le_of_ble_eq_true rfl) rfl dX12_fit_216 (Con.mono h.2.2 (fun rr M48 hr => ?_) (Nat.le_refl _))
  obtain ⟨y49, rfl, g50⟩ := hr
  show Aj E l z (216 + 3) [(10, vi s0), (5, vi x5), (7, vj x7), (9, vi x9), (11, vj x11), (13, vi x13), (14, vi x14)] [vj y49, vj x11] M48
  refine v_callS (q := qX12_greater) (As := [vj x11, vj y49]) (S := []) C co_yX12_greater ml_RX12_63 st_yX12_greater ini_RX12 hq_X12_greater (by decide) (Nat.le_of_ble_eq_true rfl) rfl dX12_fit_219 (Con.mono g50 (fun rr M51 hr => ?_) (Nat.le_refl _))
  obtain ⟨y52, rfl, g53⟩ := hr
  show Aj E l z (219 + 3) [(10, vi s0), (5, vi x5), (7, vj x7), (9, vi x9), (11, vj x11), (13, vi x13), (14, vi x14)] [vj y52] M51
  refine v_lstore (L' := [(11, vj y52), (10, vi s0), (5, vi x5), (7, vj x7), (9, vi x9), (13, vi x13), (14, vi x14)]) C dX12_fit_222 (by decide) rfl ?_
  obtain ⟨y54, hy54⟩ : ∃ y : Int, y = x9 + 1 := ⟨_, rfl⟩
  have g55 := g53 y54 hy54
  refine v_iinc (i := 4) (L' := [(9, vi y54), (11, vj y52), (10, vi s0), (5, vi x5), (7, vj x7), (13, vi x13), (14, vi x14)]) C dX12_fit_224 rfl (by decide) hy54 rfl ?_
  exact v_sub [3, 4, 0, 2, 1, 5, 6] rfl (SX12_fit_227 C r hJ70 hJ136 hJ149 g55)
def VX12_fit_149 (E : FX) (l : Launch) (D : Nat) (post : Option AV → MM → Prop) (J70 : MM → Int → Int → Int → Int → Int → Int → Prop) (J136 : MM → Int → Int → Int → Int → Int → Int → Prop) (J149 : MM → Int → Int → Int → Int → Int → Int → Int → Prop) (M : MM) (x5 : Int) (x7 : Int) (x9 : Int) (x10 : Int) (x11 : Int) (x13 : Int) (x14 : Int) : Prop :=
  R32 x14 ∧ ((60 < x14 → ∀ y58 : Int, y58 = x13 + 1 → (J136 M x5 x7 x9 x10 x11 y58)) ∧ (¬ 60 < x14 → R32 x13 ∧ (R64 x7 ∧ (R64 x13 ∧ (0 < x13 ∧ (R64 (Int.tmod x7 x13) ∧ ((¬ Int.tmod x7 x13 = 0 → ∀ y62 : Int, y62 = x14 + 1 → (J149 M x5 x7 x9 x10 x11 x13 y62)) ∧ (Int.tmod x7 x13 = 0 → R32 x14 ∧ (R64 x7 ∧ (R64 x14 ∧ (0 < x14 ∧ (R64 (Int.tmod x7 x14) ∧ ((¬ Int.tmod x7 x14 = 0 → ∀ y66 : Int, y66 = x14 + 1 → (J149 M x5 x7 x9 x10 x11 x13 y66)) ∧ (Int.tmod x7 x14 = 0 → R32 x13 ∧ (R32 x14 ∧ (Con E l D qX12_common [vj x13, vj x14] M (fun r M68 => ∃ y69 : Int, r = some (vj y69) ∧ (R64 y69 ∧ (R64 x11 ∧ ((y69 ≤ x11 → VX12_fit_206 E l D post J70 J136 J149 M68 x5 x7 x9 x11 x13 x14 x10) ∧ (¬ y69 ≤ x11 → VX12_fit_206 E l D post J70 J136 J149 M68 x5 x7 x9 x11 x13 x14 ((100 * x13) + x14))))))))))))))))))))))
set_option maxRecDepth 20000 in
theorem SX12_fit_149 {E : FX} {l : Launch} {D : Nat} {post : Option AV → MM → Prop} {z : RT} {J70 : MM → Int → Int → Int → Int → Int → Int → Prop} {J136 : MM → Int → Int → Int → Int → Int → Int → Prop} {J149 : MM → Int → Int → Int → Int → Int → Int → Int → Prop} (C : Cx E z D RX12 cX12_fit 15) (r : Rt E z (some .int) post) (hJ70 : ∀ (M : MM) (x1 : Int) (x3 : Int) (x4 : Int) (x5 : Int) (x7 : Int) (x9 : Int), J70 M x1 x3 x4 x5 x7 x9 → Aj E l z 70 [(0, vr 44), (1, vi x1), (3, vi x3), (4, vi x4), (5, vi x5), (7, vj x7), (9, vi x9)] [] M) (hJ136 : ∀ (M : MM) (x5 : Int) (x7 : Int) (x9 : Int) (x10 : Int) (x11 : Int) (x13 : Int), J136 M x5 x7 x9 x10 x11 x13 → Aj E l z 136 [(5, vi x5), (7, vj x7), (9, vi x9), (10, vi x10), (11, vj x11), (13, vi x13)] [] M) (hJ149 : ∀ (M : MM) (x5 : Int) (x7 : Int) (x9 : Int) (x10 : Int) (x11 : Int) (x13 : Int) (x14 : Int), J149 M x5 x7 x9 x10 x11 x13 x14 → Aj E l z 149 [(5, vi x5), (7, vj x7), (9, vi x9), (10, vi x10), (11, vj x11), (13, vi x13), (14, vi x14)] [] M) {M : MM} {x5 : Int} {x7 : Int} {x9 : Int} {x10 : Int} {x11 : Int} {x13 : Int} {x14 : Int} (h : VX12_fit_149 E l D post J70 J136 J149 M x5 x7 x9 x10 x11 x13 x14) : Aj E l z 149 [(5, vi x5), (7, vj x7), (9, vi x9), (10, vi x10), (11, vj x11), (13, vi x13), (14, vi x14)] [] M := by
  unfold VX12_fit_149 at h
  refine v_iload (i := 6) C dX12_fit_149 rfl ?_
  refine v_bipush C dX12_fit_151 (by decide) ?_
  refine v_icmp_gt (tgt := 233) C h.1 (by decide) dX12_fit_153 (by decide) (fun c => ?_) (fun c => ?_)
  · have g56 := h.2.1 c
    obtain ⟨y58, hy58⟩ : ∃ y : Int, y = x13 + 1 := ⟨_, rfl⟩
    have g59 := g56 y58 hy58
    refine v_iinc (i := 5) (L' := [(13, vi y58), (5, vi x5), (7, vj x7), (9, vi x9), (10, vi x10), (11, vj x11), (14, vi x14)]) C dX12_fit_233 rfl (by decide) hy58 rfl ?_
    refine v_goto C dX12_fit_236 (tgt := 136) (by decide) ?_
    exact v_sub [1, 2, 3, 4, 5, 0] rfl (hJ136 _ _ _ _ _ _ _ g59)
  · have g57 := h.2.2 c
    refine v_lload (i := 1) C dX12_fit_156 rfl ?_
    refine v_iload (i := 5) C dX12_fit_158 rfl ?_
    refine v_i2l C g57.1 dX12_fit_160 ?_
    refine v_lrem C g57.2.1 g57.2.2.1 g57.2.2.2.1 dX12_fit_161 ?_
    refine v_lconst (x := 0) C dX12_fit_162 (by decide) ?_
    refine v_lif_ne (tgt := 227) C g57.2.2.2.2.1 (by decide) dX12_fit_163 dX12_fit_164 (by decide) (fun c => ?_) (fun c => ?_)
    · have g60 := g57.2.2.2.2.2.1 c
      obtain ⟨y62, hy62⟩ : ∃ y : Int, y = x14 + 1 := ⟨_, rfl⟩
      have g63 := g60 y62 hy62
      refine v_iinc (i := 6) (L' := [(14, vi y62), (5, vi x5), (7, vj x7), (9, vi x9), (10, vi x10), (11, vj x11), (13, vi x13)]) C dX12_fit_227 rfl (by decide) hy62 rfl ?_
      refine v_goto C dX12_fit_230 (tgt := 149) (by decide) ?_
      exact v_sub [1, 2, 3, 4, 5, 6, 0] rfl (hJ149 _ _ _ _ _ _ _ _ g63)
    · have g61 := g57.2.2.2.2.2.2 c
      refine v_lload (i := 1) C dX12_fit_167 rfl ?_
      refine v_iload (i := 6) C dX12_fit_169 rfl ?_
      refine v_i2l C g61.1 dX12_fit_171 ?_
      refine v_lrem C g61.2.1 g61.2.2.1 g61.2.2.2.1 dX12_fit_172 ?_
      refine v_lconst (x := 0) C dX12_fit_173 (by decide) ?_
      refine v_lif_ne (tgt := 227) C g61.2.2.2.2.1 (by decide) dX12_fit_174 dX12_fit_175 (by decide) (fun c => ?_) (fun c => ?_)
      · have g64 := g61.2.2.2.2.2.1 c
        obtain ⟨y66, hy66⟩ : ∃ y : Int, y = x14 + 1 := ⟨_, rfl⟩
        have g67 := g64 y66 hy66
        refine v_iinc (i := 6) (L' := [(14, vi y66), (5, vi x5), (7, vj x7), (9, vi x9), (10, vi x10), (11, vj x11), (13, vi x13)]) C dX12_fit_227 rfl (by decide) hy66 rfl ?_
        refine v_goto C dX12_fit_230 (tgt := 149) (by decide) ?_
        exact v_sub [1, 2, 3, 4, 5, 6, 0] rfl (hJ149 _ _ _ _ _ _ _ _ g67)
      · have g65 := g61.2.2.2.2.2.2 c
        refine v_iload (i := 5) C dX12_fit_178 rfl ?_
        refine v_i2l C g65.1 dX12_fit_180 ?_
        refine v_iload (i := 6) C dX12_fit_181 rfl ?_
        refine v_i2l C g65.2.1 dX12_fit_183 ?_
        refine v_callS (q := qX12_common) (As := [vj x13, vj x14]) (S := []) C co_yX12_common ml_RX12_52 st_yX12_common ini_RX12 hq_X12_common (by decide) (Nat.le_of_ble_eq_true rfl) rfl dX12_fit_184 (Con.mono g65.2.2 (fun rr M68 hr => ?_) (Nat.le_refl _))
        obtain ⟨y69, rfl, g70⟩ := hr
        show Aj E l z (184 + 3) [(5, vi x5), (7, vj x7), (9, vi x9), (10, vi x10), (11, vj x11), (13, vi x13), (14, vi x14)] [vj y69] M68
        refine v_lload (i := 4) C dX12_fit_187 rfl ?_
        refine v_lif_le (tgt := 204) C g70.1 g70.2.1 dX12_fit_189 dX12_fit_190 (by decide) (fun c => ?_) (fun c => ?_)
        · have g71 := g70.2.2.1 c
          refine v_iload (i := 3) C dX12_fit_204 rfl ?_
          exact v_sub [0, 1, 2, 4, 5, 6] rfl (SX12_fit_206 C r hJ70 hJ136 hJ149 g71)
        · have g72 := g70.2.2.2 c
          refine v_bipush C dX12_fit_193 (by decide) ?_
          refine v_iload (i := 5) C dX12_fit_195 rfl ?_
          refine v_imul C dX12_fit_197 ?_
          refine v_iload (i := 6) C dX12_fit_198 rfl ?_
          refine v_iadd C dX12_fit_200 ?_
          refine v_goto C dX12_fit_201 (tgt := 206) (by decide) ?_
          exact v_sub [0, 1, 2, 4, 5, 6] rfl (SX12_fit_206 C r hJ70 hJ136 hJ149 g72)
theorem RX12_fit {E : FX} {l : Launch} {D : Nat} {post : Option AV → MM → Prop} (I70 : MM → Int → Int → Int → Int → Int → Int → Prop) (m70 : MM → Int → Int → Int → Int → Int → Int → Nat) (I136 : MM → Int → Int → Int → Int → Int → Int → Prop) (m136 : MM → Int → Int → Int → Int → Int → Int → Nat) (I149 : MM → Int → Int → Int → Int → Int → Int → Int → Prop) (m149 : MM → Int → Int → Int → Int → Int → Int → Int → Nat) {M : MM} {x1 : Int} {x2 : Int} {x3 : Int} {x4 : Int} {x5 : Int} (h0 : VX12_fit_0 E l D post I70 I136 I149 M x1 x2 x3 x4 x5) (h70I : ∀ (M : MM) (x1 : Int) (x3 : Int) (x4 : Int) (x5 : Int) (x7 : Int) (x9 : Int), I70 M x1 x3 x4 x5 x7 x9 → VX12_fit_70 E l D post (fun M' x1' x3' x4' x5' x7' x9' => I70 M' x1' x3' x4' x5' x7' x9' ∧ m70 M' x1' x3' x4' x5' x7' x9' < m70 M x1 x3 x4 x5 x7 x9) (fun M' x5' x7' x9' x10' x11' x13' => I136 M' x5' x7' x9' x10' x11' x13' ∧ m136 M' x5' x7' x9' x10' x11' x13' < m70 M x1 x3 x4 x5 x7 x9) (fun M' x5' x7' x9' x10' x11' x13' x14' => I149 M' x5' x7' x9' x10' x11' x13' x14' ∧ m149 M' x5' x7' x9' x10' x11' x13' x14' < m70 M x1 x3 x4 x5 x7 x9) M x1 x3 x4 x5 x7 x9) (h136I : ∀ (M : MM) (x5 : Int) (x7 : Int) (x9 : Int) (x10 : Int) (x11 : Int) (x13 : Int), I136 M x5 x7 x9 x10 x11 x13 → VX12_fit_136 E l D post (fun M' x1' x3' x4' x5' x7' x9' => I70 M' x1' x3' x4' x5' x7' x9' ∧ m70 M' x1' x3' x4' x5' x7' x9' < m136 M x5 x7 x9 x10 x11 x13) (fun M' x5' x7' x9' x10' x11' x13' => I136 M' x5' x7' x9' x10' x11' x13' ∧ m136 M' x5' x7' x9' x10' x11' x13' < m136 M x5 x7 x9 x10 x11 x13) (fun M' x5' x7' x9' x10' x11' x13' x14' => I149 M' x5' x7' x9' x10' x11' x13' x14' ∧ m149 M' x5' x7' x9' x10' x11' x13' x14' < m136 M x5 x7 x9 x10 x11 x13) M x5 x7 x9 x10 x11 x13) (h149I : ∀ (M : MM) (x5 : Int) (x7 : Int) (x9 : Int) (x10 : Int) (x11 : Int) (x13 : Int) (x14 : Int), I149 M x5 x7 x9 x10 x11 x13 x14 → VX12_fit_149 E l D post (fun M' x1' x3' x4' x5' x7' x9' => I70 M' x1' x3' x4' x5' x7' x9' ∧ m70 M' x1' x3' x4' x5' x7' x9' < m149 M x5 x7 x9 x10 x11 x13 x14) (fun M' x5' x7' x9' x10' x11' x13' => I136 M' x5' x7' x9' x10' x11' x13' ∧ m136 M' x5' x7' x9' x10' x11' x13' < m149 M x5 x7 x9 x10 x11 x13 x14) (fun M' x5' x7' x9' x10' x11' x13' x14' => I149 M' x5' x7' x9' x10' x11' x13' x14' ∧ m149 M' x5' x7' x9' x10' x11' x13' x14' < m149 M x5 x7 x9 x10 x11 x13 x14) M x5 x7 x9 x10 x11 x13 x14) : Con E l (D + 1) qX12_fit [vr 44, vi x1, vi x2, vi x3, vi x4, vi x5] M post := by
  refine con_of (by decide +kernel) (Nat.le_of_ble_eq_true rfl) (fun z C r => ?_)
  have all : ∀ n : Nat, (∀ (M : MM) (x1 : Int) (x3 : Int) (x4 : Int) (x5 : Int) (x7 : Int) (x9 : Int), I70 M x1 x3 x4 x5 x7 x9 → m70 M x1 x3 x4 x5 x7 x9 < n → Aj E l z 70 [(0, vr 44), (1, vi x1), (3, vi x3), (4, vi x4), (5, vi x5), (7, vj x7), (9, vi x9)] [] M) ∧ (∀ (M : MM) (x5 : Int) (x7 : Int) (x9 : Int) (x10 : Int) (x11 : Int) (x13 : Int), I136 M x5 x7 x9 x10 x11 x13 → m136 M x5 x7 x9 x10 x11 x13 < n → Aj E l z 136 [(5, vi x5), (7, vj x7), (9, vi x9), (10, vi x10), (11, vj x11), (13, vi x13)] [] M) ∧ (∀ (M : MM) (x5 : Int) (x7 : Int) (x9 : Int) (x10 : Int) (x11 : Int) (x13 : Int) (x14 : Int), I149 M x5 x7 x9 x10 x11 x13 x14 → m149 M x5 x7 x9 x10 x11 x13 x14 < n → Aj E l z 149 [(5, vi x5), (7, vj x7), (9, vi x9), (10, vi x10), (11, vj x11), (13, vi x13), (14, vi x14)] [] M) := by
    intro n
    induction n with
    | zero => exact ⟨fun _ _ _ _ _ _ _ _ hm => absurd hm (Nat.not_lt_zero _), fun _ _ _ _ _ _ _ _ hm => absurd hm (Nat.not_lt_zero _), fun _ _ _ _ _ _ _ _ _ hm => absurd hm (Nat.not_lt_zero _)⟩
    | succ n ih => exact ⟨fun M x1 x3 x4 x5 x7 x9 hi hm => SX12_fit_70 C r (fun M' x1' x3' x4' x5' x7' x9' hj => ih.1 M' x1' x3' x4' x5' x7' x9' hj.1 (by omega)) (fun M' x5' x7' x9' x10' x11' x13' hj => ih.2.1 M' x5' x7' x9' x10' x11' x13' hj.1 (by omega)) (fun M' x5' x7' x9' x10' x11' x13' x14' hj => ih.2.2 M' x5' x7' x9' x10' x11' x13' x14' hj.1 (by omega)) (h70I M x1 x3 x4 x5 x7 x9 hi), fun M x5 x7 x9 x10 x11 x13 hi hm => SX12_fit_136 C r (fun M' x1' x3' x4' x5' x7' x9' hj => ih.1 M' x1' x3' x4' x5' x7' x9' hj.1 (by omega)) (fun M' x5' x7' x9' x10' x11' x13' hj => ih.2.1 M' x5' x7' x9' x10' x11' x13' hj.1 (by omega)) (fun M' x5' x7' x9' x10' x11' x13' x14' hj => ih.2.2 M' x5' x7' x9' x10' x11' x13' x14' hj.1 (by omega)) (h136I M x5 x7 x9 x10 x11 x13 hi), fun M x5 x7 x9 x10 x11 x13 x14 hi hm => SX12_fit_149 C r (fun M' x1' x3' x4' x5' x7' x9' hj => ih.1 M' x1' x3' x4' x5' x7' x9' hj.1 (by omega)) (fun M' x5' x7' x9' x10' x11' x13' hj => ih.2.1 M' x5' x7' x9' x10' x11' x13' hj.1 (by omega)) (fun M' x5' x7' x9' x10' x11' x13' x14' hj => ih.2.2 M' x5' x7' x9' x10' x11' x13' x14' hj.1 (by omega)) (h149I M x5 x7 x9 x10 x11 x13 x14 hi)⟩
  exact v_sub [0, 1, 2, 3, 4, 5] rfl (SX12_fit_0 C r (fun M' x1' x3' x4' x5' x7' x9' hj => (all _).1 M' x1' x3' x4' x5' x7' x9' hj (Nat.lt_succ_self _)) (fun M' x5' x7' x9' x10' x11' x13' hj => (all _).2.1 M' x5' x7' x9' x10' x11' x13' hj (Nat.lt_succ_self _)) (fun M' x5' x7' x9' x10' x11' x13' x14' hj => (all _).2.2 M' x5' x7' x9' x10' x11' x13' x14' hj (Nat.lt_succ_self _)) h0)
def VX12_film_19 (E : FX) (l : Launch) (D : Nat) (post : Option AV → MM → Prop) (J48 : MM → Int → Int → Int → Int → Prop) (M : MM) : Prop :=
  post (some (vi (-1))) M
set_option maxRecDepth 20000 in
theorem SX12_film_19 {E : FX} {l : Launch} {D : Nat} {post : Option AV → MM → Prop} {z : RT} {J48 : MM → Int → Int → Int → Int → Prop} (C : Cx E z D RX12 cX12_film 6) (r : Rt E z (some .int) post) (hJ48 : ∀ (M : MM) (x1 : Int) (x2 : Int) (x3 : Int) (x5 : Int), J48 M x1 x2 x3 x5 → Aj E l z 48 [(0, vr 44), (1, vi x1), (2, vi x2), (3, vi x3), (5, vi x5)] [] M) {M : MM} (h : VX12_film_19 E l D post J48 M) : Aj E l z 19 [] [] M := by
  unfold VX12_film_19 at h
  refine v_iconst C dX12_film_19 ?_
  exact v_iret C r dX12_film_20 h
def VX12_film_0 (E : FX) (l : Launch) (D : Nat) (post : Option AV → MM → Prop) (J48 : MM → Int → Int → Int → Int → Prop) (M : MM) (x1 : Int) (x2 : Int) (x3 : Int) : Prop :=
  Con E l D qX12_isSheet [vi x1] M (fun r M1 => ∃ y2 : Int, r = some (vi y2) ∧ (R32 y2 ∧ ((y2 = 0 → post (some (vi (-1))) M1) ∧ (¬ y2 = 0 → R32 x2 ∧ (Con E l D qX12_in [vj x2, vj 0, vj 2] M1 (fun r M6 => ∃ y7 : Int, r = some (vi y7) ∧ (R32 y7 ∧ ((¬ y7 = 0 → Con E l D qX12_bars [vr 44, vi x1, vi x2, vi x3, vi (M6 45 6)] M6 (fun r M11 => ∃ y12 : Int, r = some (vi y12) ∧ (R32 y12 ∧ ((y12 = 0 → J48 M11 x1 x2 x3 0) ∧ (¬ y12 = 0 → post (some (vi y12)) M11))))) ∧ (y7 = 0 → post (some (vi (-1))) M6)))))))))
set_option maxRecDepth 20000 in
theorem SX12_film_0 {E : FX} {l : Launch} {D : Nat} {post : Option AV → MM → Prop} {z : RT} {J48 : MM → Int → Int → Int → Int → Prop} (C : Cx E z D RX12 cX12_film 6) (r : Rt E z (some .int) post) (hJ48 : ∀ (M : MM) (x1 : Int) (x2 : Int) (x3 : Int) (x5 : Int), J48 M x1 x2 x3 x5 → Aj E l z 48 [(0, vr 44), (1, vi x1), (2, vi x2), (3, vi x3), (5, vi x5)] [] M) {M : MM} {x1 : Int} {x2 : Int} {x3 : Int} (h : VX12_film_0 E l D post J48 M x1 x2 x3) : Aj E l z 0 [(0, vr 44), (1, vi x1), (2, vi x2), (3, vi x3)] [] M := by
  unfold VX12_film_0 at h
  refine v_iload_n (i := 1) C dX12_film_0 rfl rfl ?_
  refine v_callS (q := qX12_isSheet) (As := [vi x1]) (S := []) C co_yX12_isSheet ml_RX12_207 st_yX12_isSheet ini_RX12 hq_X12_isSheet (by decide) (Nat.le_of_ble_eq_true rfl) rfl dX12_film_1 (Con.mono h (fun rr M1 hr => ?_) (Nat.le_refl _))
  obtain ⟨y2, rfl, g3⟩ := hr
  show Aj E l z (1 + 3) [(0, vr 44), (1, vi x1), (2, vi x2), (3, vi x3)] [vi y2] M1
  refine v_if_eq (tgt := 19) C g3.1 dX12_film_4 (by decide) (fun c => ?_) (fun c => ?_)
  · have g4 := g3.2.1 c
    refine v_iconst C dX12_film_19 ?_
    exact v_iret C r dX12_film_20 g4
  · have g5 := g3.2.2 c
    refine v_iload_n (i := 2) C dX12_film_7 rfl rfl ?_
    refine v_i2l C g5.1 dX12_film_8 ?_
    refine v_lconst (x := 0) C dX12_film_9 (by decide) ?_
    refine v_ldc2 (x := 2) C cs_RX12_69 (by decide) dX12_film_10 ?_
    refine v_callS (q := qX12_in) (As := [vj x2, vj 0, vj 2]) (S := []) C co_yX12_in ml_RX12_71 st_yX12_in ini_RX12 hq_X12_in (by decide) (Nat.le_of_ble_eq_true rfl) rfl dX12_film_13 (Con.mono g5.2 (fun rr M6 hr => ?_) (Nat.le_refl _))
    obtain ⟨y7, rfl, g8⟩ := hr
    show Aj E l z (13 + 3) [(0, vr 44), (1, vi x1), (2, vi x2), (3, vi x3)] [vi y7] M6
    refine v_if_ne (tgt := 21) C g8.1 dX12_film_16 (by decide) (fun c => ?_) (fun c => ?_)
    · have g9 := g8.2.1 c
      refine v_aload_n (i := 0) C dX12_film_21 rfl rfl ?_
      refine v_iload_n (i := 1) C dX12_film_22 rfl rfl ?_
      refine v_iload_n (i := 2) C dX12_film_23 rfl rfl ?_
      refine v_iload_n (i := 3) C dX12_film_24 rfl rfl ?_
      refine v_aload_n (i := 0) C dX12_film_25 rfl rfl ?_
      refine v_getf (k := 44) C fl_RX12_7 rfl rfl dX12_film_26 ?_
      show Aj E l z (26 + 3) [(0, vr 44), (1, vi x1), (2, vi x2), (3, vi x3)] [vr 45, vi x3, vi x2, vi x1, vr 44] M6
      refine v_bipush C dX12_film_29 (by decide) ?_
      refine v_iald (k := 45) C rfl (by decide) (by decide) dX12_film_31 ?_
      show Aj E l z (31 + 1) [(0, vr 44), (1, vi x1), (2, vi x2), (3, vi x3)] [vi (M6 45 6), vi x3, vi x2, vi x1, vr 44] M6
      refine v_callV (q := qX12_bars) (k := 44) (As := [vi x1, vi x2, vi x3, vi (M6 45 6)]) (S := []) C co_yX12_bars ml_RX12_210 im_yX12_bars se_yX12_bars ini_RX12 rfl rfl hq_X12_bars (by decide) (Nat.le_of_ble_eq_true rfl) rfl dX12_film_32 (Con.mono g9 (fun rr M11 hr => ?_) (Nat.le_refl _))
      obtain ⟨y12, rfl, g13⟩ := hr
      show Aj E l z (32 + 3) [(0, vr 44), (1, vi x1), (2, vi x2), (3, vi x3)] [vi y12] M11
      refine v_istore (L' := [(4, vi y12), (0, vr 44), (1, vi x1), (2, vi x2), (3, vi x3)]) C dX12_film_35 (by decide) rfl ?_
      refine v_iload (i := 0) C dX12_film_37 rfl ?_
      refine v_if_eq (tgt := 45) C g13.1 dX12_film_39 (by decide) (fun c => ?_) (fun c => ?_)
      · have g14 := g13.2.1 c
        refine v_iconst C dX12_film_45 ?_
        refine v_istore (L' := [(5, vi 0), (4, vi y12), (0, vr 44), (1, vi x1), (2, vi x2), (3, vi x3)]) C dX12_film_46 (by decide) rfl ?_
        exact v_sub [2, 3, 4, 5, 0] rfl (hJ48 _ _ _ _ _ g14)
      · have g15 := g13.2.2 c
        refine v_iload (i := 0) C dX12_film_42 rfl ?_
        exact v_iret C r dX12_film_44 g15
    · have g10 := g8.2.2 c
      refine v_iconst C dX12_film_19 ?_
      exact v_iret C r dX12_film_20 g10
def VX12_film_48 (E : FX) (l : Launch) (D : Nat) (post : Option AV → MM → Prop) (J48 : MM → Int → Int → Int → Int → Prop) (M : MM) (x1 : Int) (x2 : Int) (x3 : Int) (x5 : Int) : Prop :=
  R32 x5 ∧ (R32 (M 45 6) ∧ ((M 45 6 ≤ x5 → post (some (vi (M 45 6))) M) ∧ (¬ M 45 6 ≤ x5 → 0 ≤ 15 + x5 ∧ (15 + x5 < 140 ∧ (R32 (M 45 (15 + x5).toNat) ∧ (Con E l D qX12_cutTo [vi x2, vj (M 45 (15 + x5).toNat)] M (fun r M18 => ∃ y19 : Int, r = some (vj y19) ∧ (0 ≤ ((16 * x1) + x3) + x5 ∧ (((16 * x1) + x3) + x5 < 64 ∧ (∀ M21 : MM, M21 = up M18 54 (((16 * x1) + x3) + x5).toNat y19 → (∀ y23 : Int, y23 = x5 + 1 → (J48 M21 x1 x2 x3 y23))))))))))))
set_option maxRecDepth 20000 in
theorem SX12_film_48 {E : FX} {l : Launch} {D : Nat} {post : Option AV → MM → Prop} {z : RT} {J48 : MM → Int → Int → Int → Int → Prop} (C : Cx E z D RX12 cX12_film 6) (r : Rt E z (some .int) post) (hJ48 : ∀ (M : MM) (x1 : Int) (x2 : Int) (x3 : Int) (x5 : Int), J48 M x1 x2 x3 x5 → Aj E l z 48 [(0, vr 44), (1, vi x1), (2, vi x2), (3, vi x3), (5, vi x5)] [] M) {M : MM} {x1 : Int} {x2 : Int} {x3 : Int} {x5 : Int} (h : VX12_film_48 E l D post J48 M x1 x2 x3 x5) : Aj E l z 48 [(0, vr 44), (1, vi x1), (2, vi x2), (3, vi x3), (5, vi x5)] [] M := by
  unfold VX12_film_48 at h
  refine v_iload (i := 4) C dX12_film_48 rfl ?_
  refine v_aload_n (i := 0) C dX12_film_50 rfl rfl ?_
  refine v_getf (k := 44) C fl_RX12_7 rfl rfl dX12_film_51 ?_
  show Aj E l z (51 + 3) [(0, vr 44), (1, vi x1), (2, vi x2), (3, vi x3), (5, vi x5)] [vr 45, vi x5] M
  refine v_bipush C dX12_film_54 (by decide) ?_
  refine v_iald (k := 45) C rfl (by decide) (by decide) dX12_film_56 ?_
  show Aj E l z (56 + 1) [(0, vr 44), (1, vi x1), (2, vi x2), (3, vi x3), (5, vi x5)] [vi (M 45 6), vi x5] M
  refine v_icmp_ge (tgt := 95) C h.1 h.2.1 dX12_film_57 (by decide) (fun c => ?_) (fun c => ?_)
  · have g16 := h.2.2.1 c
    refine v_aload_n (i := 0) C dX12_film_95 rfl rfl ?_
    refine v_getf (k := 44) C fl_RX12_7 rfl rfl dX12_film_96 ?_
    show Aj E l z (96 + 3) [(0, vr 44), (1, vi x1), (2, vi x2), (3, vi x3), (5, vi x5)] [vr 45] M
    refine v_bipush C dX12_film_99 (by decide) ?_
    refine v_iald (k := 45) C rfl (by decide) (by decide) dX12_film_101 ?_
    show Aj E l z (101 + 1) [(0, vr 44), (1, vi x1), (2, vi x2), (3, vi x3), (5, vi x5)] [vi (M 45 6)] M
    exact v_iret C r dX12_film_102 g16
  · have g17 := h.2.2.2 c
    refine v_aload_n (i := 0) C dX12_film_60 rfl rfl ?_
    refine v_getf (k := 44) C fl_RX12_38 rfl rfl dX12_film_61 ?_
    show Aj E l z (61 + 3) [(0, vr 44), (1, vi x1), (2, vi x2), (3, vi x3), (5, vi x5)] [vr 54] M
    refine v_bipush C dX12_film_64 (by decide) ?_
    refine v_iload_n (i := 1) C dX12_film_66 rfl rfl ?_
    refine v_imul C dX12_film_67 ?_
    refine v_iload_n (i := 3) C dX12_film_68 rfl rfl ?_
    refine v_iadd C dX12_film_69 ?_
    refine v_iload (i := 4) C dX12_film_70 rfl ?_
    refine v_iadd C dX12_film_72 ?_
    refine v_iload_n (i := 2) C dX12_film_73 rfl rfl ?_
    refine v_aload_n (i := 0) C dX12_film_74 rfl rfl ?_
    refine v_getf (k := 44) C fl_RX12_7 rfl rfl dX12_film_75 ?_
    show Aj E l z (75 + 3) [(0, vr 44), (1, vi x1), (2, vi x2), (3, vi x3), (5, vi x5)] [vr 45, vi x2, vi (((16 * x1) + x3) + x5), vr 54] M
    refine v_bipush C dX12_film_78 (by decide) ?_
    refine v_iload (i := 4) C dX12_film_80 rfl ?_
    refine v_iadd C dX12_film_82 ?_
    refine v_iald (k := 45) C rfl g17.1 g17.2.1 dX12_film_83 ?_
    show Aj E l z (83 + 1) [(0, vr 44), (1, vi x1), (2, vi x2), (3, vi x3), (5, vi x5)] [vi (M 45 (15 + x5).toNat), vi x2, vi (((16 * x1) + x3) + x5), vr 54] M
    refine v_i2l C g17.2.2.1 dX12_film_84 ?_
    refine v_callS (q := qX12_cutTo) (As := [vi x2, vj (M 45 (15 + x5).toNat)]) (S := [vi (((16 * x1) + x3) + x5), vr 54]) C co_yX12_cutTo ml_RX12_216 st_yX12_cutTo ini_RX12 hq_X12_cutTo (by decide) (Nat.le_of_ble_eq_true rfl) rfl dX12_film_85 (Con.mono g17.2.2.2 (fun rr M18 hr => ?_) (Nat.le_refl _))
    obtain ⟨y19, rfl, g20⟩ := hr
    show Aj E l z (85 + 3) [(0, vr 44), (1, vi x1), (2, vi x2), (3, vi x3), (5, vi x5)] [vj y19, vi (((16 * x1) + x3) + x5), vr 54] M18
    refine v_last (k := 54) C rfl g20.1 g20.2.1 dX12_film_88 ?_
    obtain ⟨M21, hM21⟩ : ∃ X : MM, X = up M18 54 (((16 * x1) + x3) + x5).toNat y19 := ⟨_, rfl⟩
    refine v_eqM hM21 ?_
    have g22 := g20.2.2 M21 hM21
    obtain ⟨y23, hy23⟩ : ∃ y : Int, y = x5 + 1 := ⟨_, rfl⟩
    have g24 := g22 y23 hy23
    refine v_iinc (i := 4) (L' := [(5, vi y23), (0, vr 44), (1, vi x1), (2, vi x2), (3, vi x3)]) C dX12_film_89 rfl (by decide) hy23 rfl ?_
    refine v_goto C dX12_film_92 (tgt := 48) (by decide) ?_
    exact v_sub [1, 2, 3, 4, 0] rfl (hJ48 _ _ _ _ _ g24)
theorem RX12_film {E : FX} {l : Launch} {D : Nat} {post : Option AV → MM → Prop} (I48 : MM → Int → Int → Int → Int → Prop) (m48 : MM → Int → Int → Int → Int → Nat) {M : MM} {x1 : Int} {x2 : Int} {x3 : Int} (h0 : VX12_film_0 E l D post I48 M x1 x2 x3) (h48I : ∀ (M : MM) (x1 : Int) (x2 : Int) (x3 : Int) (x5 : Int), I48 M x1 x2 x3 x5 → VX12_film_48 E l D post (fun M' x1' x2' x3' x5' => I48 M' x1' x2' x3' x5' ∧ m48 M' x1' x2' x3' x5' < m48 M x1 x2 x3 x5) M x1 x2 x3 x5) : Con E l (D + 1) qX12_film [vr 44, vi x1, vi x2, vi x3] M post := by
  refine con_of (by decide +kernel) (Nat.le_of_ble_eq_true rfl) (fun z C r => ?_)
  have all : ∀ n : Nat, (∀ (M : MM) (x1 : Int) (x2 : Int) (x3 : Int) (x5 : Int), I48 M x1 x2 x3 x5 → m48 M x1 x2 x3 x5 < n → Aj E l z 48 [(0, vr 44), (1, vi x1), (2, vi x2), (3, vi x3), (5, vi x5)] [] M) := by
    intro n
    induction n with
    | zero => exact fun _ _ _ _ _ _ hm => absurd hm (Nat.not_lt_zero _)
    | succ n ih => exact fun M x1 x2 x3 x5 hi hm => SX12_film_48 C r (fun M' x1' x2' x3' x5' hj => ih M' x1' x2' x3' x5' hj.1 (by omega)) (h48I M x1 x2 x3 x5 hi)
  exact v_sub [0, 1, 2, 3] rfl (SX12_film_0 C r (fun M' x1' x2' x3' x5' hj => (all _) M' x1' x2' x3' x5' hj (Nat.lt_succ_self _)) h0)
def VX12_sheet_25 (E : FX) (l : Launch) (D : Nat) (post : Option AV → MM → Prop) (J51 : MM → Int → Int → Int → Prop) (M : MM) : Prop :=
  post (some (vi (-1))) M
set_option maxRecDepth 20000 in
theorem SX12_sheet_25 {E : FX} {l : Launch} {D : Nat} {post : Option AV → MM → Prop} {z : RT} {J51 : MM → Int → Int → Int → Prop} (C : Cx E z D RX12 cX12_sheet 5) (r : Rt E z (some .int) post) (hJ51 : ∀ (M : MM) (x1 : Int) (x3 : Int) (x4 : Int), J51 M x1 x3 x4 → Aj E l z 51 [(0, vr 44), (1, vi x1), (3, vi x3), (4, vi x4)] [] M) {M : MM} (h : VX12_sheet_25 E l D post J51 M) : Aj E l z 25 [] [] M := by
  unfold VX12_sheet_25 at h
  refine v_iconst C dX12_sheet_25 ?_
  exact v_iret C r dX12_sheet_26 h
def VX12_sheet_0 (E : FX) (l : Launch) (D : Nat) (post : Option AV → MM → Prop) (J51 : MM → Int → Int → Int → Prop) (M : MM) (x1 : Int) (x2 : Int) (x3 : Int) : Prop :=
  Con E l D qX12_isSheet [vi x1] M (fun r M1 => ∃ y2 : Int, r = some (vi y2) ∧ (R32 y2 ∧ ((y2 = 0 → post (some (vi (-1))) M1) ∧ (¬ y2 = 0 → R32 x2 ∧ (Con E l D qX12_in [vj x2, vj 0, vj 2] M1 (fun r M6 => ∃ y7 : Int, r = some (vi y7) ∧ (R32 y7 ∧ ((y7 = 0 → post (some (vi (-1))) M6) ∧ (¬ y7 = 0 → R32 x3 ∧ ((x3 ≤ 16 → R32 x3 ∧ ((0 ≤ x3 → 0 ≤ x1 ∧ (x1 < 4 ∧ (∀ M15 : MM, M15 = up M6 52 (x1).toNat x2 → (0 ≤ x1 ∧ (x1 < 4 ∧ (∀ M17 : MM, M17 = up M15 53 (x1).toNat x3 → (J51 M17 x1 x3 0))))))) ∧ (¬ 0 ≤ x3 → post (some (vi (-14))) M6))) ∧ (¬ x3 ≤ 16 → post (some (vi (-1))) M6)))))))))))
set_option maxRecDepth 20000 in
theorem SX12_sheet_0 {E : FX} {l : Launch} {D : Nat} {post : Option AV → MM → Prop} {z : RT} {J51 : MM → Int → Int → Int → Prop} (C : Cx E z D RX12 cX12_sheet 5) (r : Rt E z (some .int) post) (hJ51 : ∀ (M : MM) (x1 : Int) (x3 : Int) (x4 : Int), J51 M x1 x3 x4 → Aj E l z 51 [(0, vr 44), (1, vi x1), (3, vi x3), (4, vi x4)] [] M) {M : MM} {x1 : Int} {x2 : Int} {x3 : Int} (h : VX12_sheet_0 E l D post J51 M x1 x2 x3) : Aj E l z 0 [(0, vr 44), (1, vi x1), (2, vi x2), (3, vi x3)] [] M := by
  unfold VX12_sheet_0 at h
  refine v_iload_n (i := 1) C dX12_sheet_0 rfl rfl ?_
  refine v_callS (q := qX12_isSheet) (As := [vi x1]) (S := []) C co_yX12_isSheet ml_RX12_207 st_yX12_isSheet ini_RX12 hq_X12_isSheet (by decide) (Nat.le_of_ble_eq_true rfl) rfl dX12_sheet_1 (Con.mono h (fun rr M1 hr => ?_) (Nat.le_refl _))
  obtain ⟨y2, rfl, g3⟩ := hr
  show Aj E l z (1 + 3) [(0, vr 44), (1, vi x1), (2, vi x2), (3, vi x3)] [vi y2] M1
  refine v_if_eq (tgt := 25) C g3.1 dX12_sheet_4 (by decide) (fun c => ?_) (fun c => ?_)
  · have g4 := g3.2.1 c
    refine v_iconst C dX12_sheet_25 ?_
    exact v_iret C r dX12_sheet_26 g4
  · have g5 := g3.2.2 c
    refine v_iload_n (i := 2) C dX12_sheet_7 rfl rfl ?_
    refine v_i2l C g5.1 dX12_sheet_8 ?_
    refine v_lconst (x := 0) C dX12_sheet_9 (by decide) ?_
    refine v_ldc2 (x := 2) C cs_RX12_69 (by decide) dX12_sheet_10 ?_
    refine v_callS (q := qX12_in) (As := [vj x2, vj 0, vj 2]) (S := []) C co_yX12_in ml_RX12_71 st_yX12_in ini_RX12 hq_X12_in (by decide) (Nat.le_of_ble_eq_true rfl) rfl dX12_sheet_13 (Con.mono g5.2 (fun rr M6 hr => ?_) (Nat.le_refl _))
    obtain ⟨y7, rfl, g8⟩ := hr
    show Aj E l z (13 + 3) [(0, vr 44), (1, vi x1), (2, vi x2), (3, vi x3)] [vi y7] M6
    refine v_if_eq (tgt := 25) C g8.1 dX12_sheet_16 (by decide) (fun c => ?_) (fun c => ?_)
    · have g9 := g8.2.1 c
      refine v_iconst C dX12_sheet_25 ?_
      exact v_iret C r dX12_sheet_26 g9
    · have g10 := g8.2.2 c
      refine v_iload_n (i := 3) C dX12_sheet_19 rfl rfl ?_
      refine v_bipush C dX12_sheet_20 (by decide) ?_
      refine v_icmp_le (tgt := 27) C g10.1 (by decide) dX12_sheet_22 (by decide) (fun c => ?_) (fun c => ?_)
      · have g11 := g10.2.1 c
        refine v_iload_n (i := 3) C dX12_sheet_27 rfl rfl ?_
        refine v_if_ge (tgt := 34) C g11.1 dX12_sheet_28 (by decide) (fun c => ?_) (fun c => ?_)
        · have g13 := g11.2.1 c
          refine v_aload_n (i := 0) C dX12_sheet_34 rfl rfl ?_
          refine v_getf (k := 44) C fl_RX12_32 rfl rfl dX12_sheet_35 ?_
          show Aj E l z (35 + 3) [(0, vr 44), (1, vi x1), (2, vi x2), (3, vi x3)] [vr 52] M6
          refine v_iload_n (i := 1) C dX12_sheet_38 rfl rfl ?_
          refine v_iload_n (i := 2) C dX12_sheet_39 rfl rfl ?_
          refine v_iast (k := 52) C rfl g13.1 g13.2.1 dX12_sheet_40 ?_
          obtain ⟨M15, hM15⟩ : ∃ X : MM, X = up M6 52 (x1).toNat x2 := ⟨_, rfl⟩
          refine v_eqM hM15 ?_
          have g16 := g13.2.2 M15 hM15
          refine v_aload_n (i := 0) C dX12_sheet_41 rfl rfl ?_
          refine v_getf (k := 44) C fl_RX12_35 rfl rfl dX12_sheet_42 ?_
          show Aj E l z (42 + 3) [(0, vr 44), (1, vi x1), (2, vi x2), (3, vi x3)] [vr 53] M15
          refine v_iload_n (i := 1) C dX12_sheet_45 rfl rfl ?_
          refine v_iload_n (i := 3) C dX12_sheet_46 rfl rfl ?_
          refine v_iast (k := 53) C rfl g16.1 g16.2.1 dX12_sheet_47 ?_
          obtain ⟨M17, hM17⟩ : ∃ X : MM, X = up M15 53 (x1).toNat x3 := ⟨_, rfl⟩
          refine v_eqM hM17 ?_
          have g18 := g16.2.2 M17 hM17
          refine v_iconst C dX12_sheet_48 ?_
          refine v_istore (L' := [(4, vi 0), (0, vr 44), (1, vi x1), (2, vi x2), (3, vi x3)]) C dX12_sheet_49 (by decide) rfl ?_
          exact v_sub [1, 2, 4, 0] rfl (hJ51 _ _ _ _ g18)
        · have g14 := g11.2.2 c
          refine v_bipush C dX12_sheet_31 (by decide) ?_
          exact v_iret C r dX12_sheet_33 g14
      · have g12 := g10.2.2 c
        refine v_iconst C dX12_sheet_25 ?_
        exact v_iret C r dX12_sheet_26 g12
def VX12_sheet_51 (E : FX) (l : Launch) (D : Nat) (post : Option AV → MM → Prop) (J51 : MM → Int → Int → Int → Prop) (M : MM) (x1 : Int) (x3 : Int) (x4 : Int) : Prop :=
  R32 x4 ∧ ((16 ≤ x4 → post (some (vi x3)) M) ∧ (¬ 16 ≤ x4 → 0 ≤ (16 * x1) + x4 ∧ ((16 * x1) + x4 < 64 ∧ (∀ M21 : MM, M21 = up M 54 ((16 * x1) + x4).toNat 0 → (∀ y23 : Int, y23 = x4 + 1 → (J51 M21 x1 x3 y23))))))
set_option maxRecDepth 20000 in
theorem SX12_sheet_51 {E : FX} {l : Launch} {D : Nat} {post : Option AV → MM → Prop} {z : RT} {J51 : MM → Int → Int → Int → Prop} (C : Cx E z D RX12 cX12_sheet 5) (r : Rt E z (some .int) post) (hJ51 : ∀ (M : MM) (x1 : Int) (x3 : Int) (x4 : Int), J51 M x1 x3 x4 → Aj E l z 51 [(0, vr 44), (1, vi x1), (3, vi x3), (4, vi x4)] [] M) {M : MM} {x1 : Int} {x3 : Int} {x4 : Int} (h : VX12_sheet_51 E l D post J51 M x1 x3 x4) : Aj E l z 51 [(0, vr 44), (1, vi x1), (3, vi x3), (4, vi x4)] [] M := by
  unfold VX12_sheet_51 at h
  refine v_iload (i := 3) C dX12_sheet_51 rfl ?_
  refine v_bipush C dX12_sheet_53 (by decide) ?_
  refine v_icmp_ge (tgt := 77) C h.1 (by decide) dX12_sheet_55 (by decide) (fun c => ?_) (fun c => ?_)
  · have g19 := h.2.1 c
    refine v_iload_n (i := 2) C dX12_sheet_77 rfl rfl ?_
    exact v_iret C r dX12_sheet_78 g19
  · have g20 := h.2.2 c
    refine v_aload_n (i := 0) C dX12_sheet_58 rfl rfl ?_
    refine v_getf (k := 44) C fl_RX12_38 rfl rfl dX12_sheet_59 ?_
    show Aj E l z (59 + 3) [(0, vr 44), (1, vi x1), (3, vi x3), (4, vi x4)] [vr 54] M
    refine v_bipush C dX12_sheet_62 (by decide) ?_
    refine v_iload_n (i := 1) C dX12_sheet_64 rfl rfl ?_
    refine v_imul C dX12_sheet_65 ?_
    refine v_iload (i := 3) C dX12_sheet_66 rfl ?_
    refine v_iadd C dX12_sheet_68 ?_
    refine v_lconst (x := 0) C dX12_sheet_69 (by decide) ?_
    refine v_last (k := 54) C rfl g20.1 g20.2.1 dX12_sheet_70 ?_
    obtain ⟨M21, hM21⟩ : ∃ X : MM, X = up M 54 ((16 * x1) + x4).toNat 0 := ⟨_, rfl⟩
    refine v_eqM hM21 ?_
    have g22 := g20.2.2 M21 hM21
    obtain ⟨y23, hy23⟩ : ∃ y : Int, y = x4 + 1 := ⟨_, rfl⟩
    have g24 := g22 y23 hy23
    refine v_iinc (i := 3) (L' := [(4, vi y23), (0, vr 44), (1, vi x1), (3, vi x3)]) C dX12_sheet_71 rfl (by decide) hy23 rfl ?_
    refine v_goto C dX12_sheet_74 (tgt := 51) (by decide) ?_
    exact v_sub [1, 2, 3, 0] rfl (hJ51 _ _ _ _ g24)
theorem RX12_sheet {E : FX} {l : Launch} {D : Nat} {post : Option AV → MM → Prop} (I51 : MM → Int → Int → Int → Prop) (m51 : MM → Int → Int → Int → Nat) {M : MM} {x1 : Int} {x2 : Int} {x3 : Int} (h0 : VX12_sheet_0 E l D post I51 M x1 x2 x3) (h51I : ∀ (M : MM) (x1 : Int) (x3 : Int) (x4 : Int), I51 M x1 x3 x4 → VX12_sheet_51 E l D post (fun M' x1' x3' x4' => I51 M' x1' x3' x4' ∧ m51 M' x1' x3' x4' < m51 M x1 x3 x4) M x1 x3 x4) : Con E l (D + 1) qX12_sheet [vr 44, vi x1, vi x2, vi x3] M post := by
  refine con_of (by decide +kernel) (Nat.le_of_ble_eq_true rfl) (fun z C r => ?_)
  have all : ∀ n : Nat, (∀ (M : MM) (x1 : Int) (x3 : Int) (x4 : Int), I51 M x1 x3 x4 → m51 M x1 x3 x4 < n → Aj E l z 51 [(0, vr 44), (1, vi x1), (3, vi x3), (4, vi x4)] [] M) := by
    intro n
    induction n with
    | zero => exact fun _ _ _ _ _ hm => absurd hm (Nat.not_lt_zero _)
    | succ n ih => exact fun M x1 x3 x4 hi hm => SX12_sheet_51 C r (fun M' x1' x3' x4' hj => ih M' x1' x3' x4' hj.1 (by omega)) (h51I M x1 x3 x4 hi)
  exact v_sub [0, 1, 2, 3] rfl (SX12_sheet_0 C r (fun M' x1' x3' x4' hj => (all _) M' x1' x3' x4' hj (Nat.lt_succ_self _)) h0)
def VX12_drop_0 (E : FX) (l : Launch) (D : Nat) (post : Option AV → MM → Prop) (M : MM) (x1 : Int) : Prop :=
  Con E l D qX12_isSheet [vi x1] M (fun r M1 => ∃ y2 : Int, r = some (vi y2) ∧ (R32 y2 ∧ ((¬ y2 = 0 → 0 ≤ x1 ∧ (x1 < 4 ∧ (R32 (M1 52 (x1).toNat) ∧ ((0 ≤ M1 52 (x1).toNat → 0 ≤ x1 ∧ (x1 < 4 ∧ (∀ M8 : MM, M8 = up M1 52 (x1).toNat (-1) → (0 ≤ x1 ∧ (x1 < 4 ∧ (post (some (vi (M8 53 (x1).toNat))) M8)))))) ∧ (¬ 0 ≤ M1 52 (x1).toNat → post (some (vi (-11))) M1))))) ∧ (y2 = 0 → post (some (vi (-1))) M1))))
set_option maxRecDepth 20000 in
theorem SX12_drop_0 {E : FX} {l : Launch} {D : Nat} {post : Option AV → MM → Prop} {z : RT} (C : Cx E z D RX12 cX12_drop 2) (r : Rt E z (some .int) post) {M : MM} {x1 : Int} (h : VX12_drop_0 E l D post M x1) : Aj E l z 0 [(0, vr 44), (1, vi x1)] [] M := by
  unfold VX12_drop_0 at h
  refine v_iload_n (i := 1) C dX12_drop_0 rfl rfl ?_
  refine v_callS (q := qX12_isSheet) (As := [vi x1]) (S := []) C co_yX12_isSheet ml_RX12_207 st_yX12_isSheet ini_RX12 hq_X12_isSheet (by decide) (Nat.le_of_ble_eq_true rfl) rfl dX12_drop_1 (Con.mono h (fun rr M1 hr => ?_) (Nat.le_refl _))
  obtain ⟨y2, rfl, g3⟩ := hr
  show Aj E l z (1 + 3) [(0, vr 44), (1, vi x1)] [vi y2] M1
  refine v_if_ne (tgt := 9) C g3.1 dX12_drop_4 (by decide) (fun c => ?_) (fun c => ?_)
  · have g4 := g3.2.1 c
    refine v_aload_n (i := 0) C dX12_drop_9 rfl rfl ?_
    refine v_getf (k := 44) C fl_RX12_32 rfl rfl dX12_drop_10 ?_
    show Aj E l z (10 + 3) [(0, vr 44), (1, vi x1)] [vr 52] M1
    refine v_iload_n (i := 1) C dX12_drop_13 rfl rfl ?_
    refine v_iald (k := 52) C rfl g4.1 g4.2.1 dX12_drop_14 ?_
    show Aj E l z (14 + 1) [(0, vr 44), (1, vi x1)] [vi (M1 52 (x1).toNat)] M1
    refine v_if_ge (tgt := 21) C g4.2.2.1 dX12_drop_15 (by decide) (fun c => ?_) (fun c => ?_)
    · have g6 := g4.2.2.2.1 c
      refine v_aload_n (i := 0) C dX12_drop_21 rfl rfl ?_
      refine v_getf (k := 44) C fl_RX12_32 rfl rfl dX12_drop_22 ?_
      show Aj E l z (22 + 3) [(0, vr 44), (1, vi x1)] [vr 52] M1
      refine v_iload_n (i := 1) C dX12_drop_25 rfl rfl ?_
      refine v_iconst C dX12_drop_26 ?_
      refine v_iast (k := 52) C rfl g6.1 g6.2.1 dX12_drop_27 ?_
      obtain ⟨M8, hM8⟩ : ∃ X : MM, X = up M1 52 (x1).toNat (-1) := ⟨_, rfl⟩
      refine v_eqM hM8 ?_
      have g9 := g6.2.2 M8 hM8
      refine v_aload_n (i := 0) C dX12_drop_28 rfl rfl ?_
      refine v_getf (k := 44) C fl_RX12_35 rfl rfl dX12_drop_29 ?_
      show Aj E l z (29 + 3) [(0, vr 44), (1, vi x1)] [vr 53] M8
      refine v_iload_n (i := 1) C dX12_drop_32 rfl rfl ?_
      refine v_iald (k := 53) C rfl g9.1 g9.2.1 dX12_drop_33 ?_
      show Aj E l z (33 + 1) [(0, vr 44), (1, vi x1)] [vi (M8 53 (x1).toNat)] M8
      exact v_iret C r dX12_drop_34 g9.2.2
    · have g7 := g4.2.2.2.2 c
      refine v_bipush C dX12_drop_18 (by decide) ?_
      exact v_iret C r dX12_drop_20 g7
  · have g5 := g3.2.2 c
    refine v_iconst C dX12_drop_7 ?_
    exact v_iret C r dX12_drop_8 g5
theorem RX12_drop {E : FX} {l : Launch} {D : Nat} {post : Option AV → MM → Prop} {M : MM} {x1 : Int} (h0 : VX12_drop_0 E l D post M x1) : Con E l (D + 1) qX12_drop [vr 44, vi x1] M post := by
  refine con_of (by decide +kernel) (Nat.le_of_ble_eq_true rfl) (fun z C r => ?_)
  exact v_sub [0, 1] rfl (SX12_drop_0 C r h0)
def VX12_item_19 (E : FX) (l : Launch) (D : Nat) (post : Option AV → MM → Prop) (M : MM) : Prop :=
  post (some (vi (-1))) M
set_option maxRecDepth 20000 in
theorem SX12_item_19 {E : FX} {l : Launch} {D : Nat} {post : Option AV → MM → Prop} {z : RT} (C : Cx E z D RX12 cX12_item 7) (r : Rt E z (some .int) post) {M : MM} (h : VX12_item_19 E l D post M) : Aj E l z 19 [] [] M := by
  unfold VX12_item_19 at h
  refine v_iconst C dX12_item_19 ?_
  exact v_iret C r dX12_item_20 h
def VX12_item_0 (E : FX) (l : Launch) (D : Nat) (post : Option AV → MM → Prop) (M : MM) (x1 : Int) (x2 : Int) (x3 : Int) (x4 : Int) : Prop :=
  Con E l D qX12_isSheet [vi x1] M (fun r M1 => ∃ y2 : Int, r = some (vi y2) ∧ (R32 y2 ∧ ((y2 = 0 → post (some (vi (-1))) M1) ∧ (¬ y2 = 0 → R32 x2 ∧ (Con E l D qX12_in [vj x2, vj 0, vj 2] M1 (fun r M6 => ∃ y7 : Int, r = some (vi y7) ∧ (R32 y7 ∧ ((¬ y7 = 0 → Con E l D qX12_bars [vr 44, vi x1, vi x2, vi x3, vi 1] M6 (fun r M11 => ∃ y12 : Int, r = some (vi y12) ∧ (R32 y12 ∧ ((y12 = 0 → Con E l D qX12_cutTo [vi x2, vj x4] M11 (fun r M16 => ∃ y17 : Int, r = some (vj y17) ∧ (0 ≤ (16 * x1) + x3 ∧ ((16 * x1) + x3 < 64 ∧ (∀ M19 : MM, M19 = up M16 54 ((16 * x1) + x3).toNat y17 → (post (some (vi 1)) M19)))))) ∧ (¬ y12 = 0 → post (some (vi y12)) M11))))) ∧ (y7 = 0 → post (some (vi (-1))) M6)))))))))
set_option maxRecDepth 20000 in
theorem SX12_item_0 {E : FX} {l : Launch} {D : Nat} {post : Option AV → MM → Prop} {z : RT} (C : Cx E z D RX12 cX12_item 7) (r : Rt E z (some .int) post) {M : MM} {x1 : Int} {x2 : Int} {x3 : Int} {x4 : Int} (h : VX12_item_0 E l D post M x1 x2 x3 x4) : Aj E l z 0 [(0, vr 44), (1, vi x1), (2, vi x2), (3, vi x3), (4, vj x4)] [] M := by
  unfold VX12_item_0 at h
  refine v_iload_n (i := 1) C dX12_item_0 rfl rfl ?_
  refine v_callS (q := qX12_isSheet) (As := [vi x1]) (S := []) C co_yX12_isSheet ml_RX12_207 st_yX12_isSheet ini_RX12 hq_X12_isSheet (by decide) (Nat.le_of_ble_eq_true rfl) rfl dX12_item_1 (Con.mono h (fun rr M1 hr => ?_) (Nat.le_refl _))
  obtain ⟨y2, rfl, g3⟩ := hr
  show Aj E l z (1 + 3) [(0, vr 44), (1, vi x1), (2, vi x2), (3, vi x3), (4, vj x4)] [vi y2] M1
  refine v_if_eq (tgt := 19) C g3.1 dX12_item_4 (by decide) (fun c => ?_) (fun c => ?_)
  · have g4 := g3.2.1 c
    refine v_iconst C dX12_item_19 ?_
    exact v_iret C r dX12_item_20 g4
  · have g5 := g3.2.2 c
    refine v_iload_n (i := 2) C dX12_item_7 rfl rfl ?_
    refine v_i2l C g5.1 dX12_item_8 ?_
    refine v_lconst (x := 0) C dX12_item_9 (by decide) ?_
    refine v_ldc2 (x := 2) C cs_RX12_69 (by decide) dX12_item_10 ?_
    refine v_callS (q := qX12_in) (As := [vj x2, vj 0, vj 2]) (S := []) C co_yX12_in ml_RX12_71 st_yX12_in ini_RX12 hq_X12_in (by decide) (Nat.le_of_ble_eq_true rfl) rfl dX12_item_13 (Con.mono g5.2 (fun rr M6 hr => ?_) (Nat.le_refl _))
    obtain ⟨y7, rfl, g8⟩ := hr
    show Aj E l z (13 + 3) [(0, vr 44), (1, vi x1), (2, vi x2), (3, vi x3), (4, vj x4)] [vi y7] M6
    refine v_if_ne (tgt := 21) C g8.1 dX12_item_16 (by decide) (fun c => ?_) (fun c => ?_)
    · have g9 := g8.2.1 c
      refine v_aload_n (i := 0) C dX12_item_21 rfl rfl ?_
      refine v_iload_n (i := 1) C dX12_item_22 rfl rfl ?_
      refine v_iload_n (i := 2) C dX12_item_23 rfl rfl ?_
      refine v_iload_n (i := 3) C dX12_item_24 rfl rfl ?_
      refine v_iconst C dX12_item_25 ?_
      refine v_callV (q := qX12_bars) (k := 44) (As := [vi x1, vi x2, vi x3, vi 1]) (S := []) C co_yX12_bars ml_RX12_210 im_yX12_bars se_yX12_bars ini_RX12 rfl rfl hq_X12_bars (by decide) (Nat.le_of_ble_eq_true rfl) rfl dX12_item_26 (Con.mono g9 (fun rr M11 hr => ?_) (Nat.le_refl _))
      obtain ⟨y12, rfl, g13⟩ := hr
      show Aj E l z (26 + 3) [(0, vr 44), (1, vi x1), (2, vi x2), (3, vi x3), (4, vj x4)] [vi y12] M11
      refine v_istore (L' := [(6, vi y12), (0, vr 44), (1, vi x1), (2, vi x2), (3, vi x3), (4, vj x4)]) C dX12_item_29 (by decide) rfl ?_
      refine v_iload (i := 0) C dX12_item_31 rfl ?_
      refine v_if_eq (tgt := 39) C g13.1 dX12_item_33 (by decide) (fun c => ?_) (fun c => ?_)
      · have g14 := g13.2.1 c
        refine v_aload_n (i := 1) C dX12_item_39 rfl rfl ?_
        refine v_getf (k := 44) C fl_RX12_38 rfl rfl dX12_item_40 ?_
        show Aj E l z (40 + 3) [(6, vi y12), (0, vr 44), (1, vi x1), (2, vi x2), (3, vi x3), (4, vj x4)] [vr 54] M11
        refine v_bipush C dX12_item_43 (by decide) ?_
        refine v_iload_n (i := 2) C dX12_item_45 rfl rfl ?_
        refine v_imul C dX12_item_46 ?_
        refine v_iload_n (i := 4) C dX12_item_47 rfl rfl ?_
        refine v_iadd C dX12_item_48 ?_
        refine v_iload_n (i := 3) C dX12_item_49 rfl rfl ?_
        refine v_lload (i := 5) C dX12_item_50 rfl ?_
        refine v_callS (q := qX12_cutTo) (As := [vi x2, vj x4]) (S := [vi ((16 * x1) + x3), vr 54]) C co_yX12_cutTo ml_RX12_216 st_yX12_cutTo ini_RX12 hq_X12_cutTo (by decide) (Nat.le_of_ble_eq_true rfl) rfl dX12_item_52 (Con.mono g14 (fun rr M16 hr => ?_) (Nat.le_refl _))
        obtain ⟨y17, rfl, g18⟩ := hr
        show Aj E l z (52 + 3) [(6, vi y12), (0, vr 44), (1, vi x1), (2, vi x2), (3, vi x3), (4, vj x4)] [vj y17, vi ((16 * x1) + x3), vr 54] M16
        refine v_last (k := 54) C rfl g18.1 g18.2.1 dX12_item_55 ?_
        obtain ⟨M19, hM19⟩ : ∃ X : MM, X = up M16 54 ((16 * x1) + x3).toNat y17 := ⟨_, rfl⟩
        refine v_eqM hM19 ?_
        have g20 := g18.2.2 M19 hM19
        refine v_iconst C dX12_item_56 ?_
        exact v_iret C r dX12_item_57 g20
      · have g15 := g13.2.2 c
        refine v_iload (i := 0) C dX12_item_36 rfl ?_
        exact v_iret C r dX12_item_38 g15
    · have g10 := g8.2.2 c
      refine v_iconst C dX12_item_19 ?_
      exact v_iret C r dX12_item_20 g10
theorem RX12_item {E : FX} {l : Launch} {D : Nat} {post : Option AV → MM → Prop} {M : MM} {x1 : Int} {x2 : Int} {x3 : Int} {x4 : Int} (h0 : VX12_item_0 E l D post M x1 x2 x3 x4) : Con E l (D + 1) qX12_item [vr 44, vi x1, vi x2, vi x3, vj x4] M post := by
  refine con_of (by decide +kernel) (Nat.le_of_ble_eq_true rfl) (fun z C r => ?_)
  exact v_sub [0, 1, 2, 3, 4] rfl (SX12_item_0 C r h0)
def VX12_copy_34 (E : FX) (l : Launch) (D : Nat) (post : Option AV → MM → Prop) (J91 : MM → Int → Int → Int → Int → Int → Int → Prop) (J128 : MM → Int → Int → Int → Int → Prop) (M : MM) : Prop :=
  post (some (vi (-11))) M
set_option maxRecDepth 20000 in
theorem SX12_copy_34 {E : FX} {l : Launch} {D : Nat} {post : Option AV → MM → Prop} {z : RT} {J91 : MM → Int → Int → Int → Int → Int → Int → Prop} {J128 : MM → Int → Int → Int → Int → Prop} (C : Cx E z D RX12 cX12_copy 8) (r : Rt E z (some .int) post) (hJ91 : ∀ (M : MM) (x1 : Int) (x2 : Int) (x3 : Int) (x4 : Int) (x5 : Int) (x7 : Int), J91 M x1 x2 x3 x4 x5 x7 → Aj E l z 91 [(0, vr 44), (1, vi x1), (2, vi x2), (3, vi x3), (4, vi x4), (5, vi x5), (7, vi x7)] [] M) (hJ128 : ∀ (M : MM) (x3 : Int) (x4 : Int) (x5 : Int) (x7 : Int), J128 M x3 x4 x5 x7 → Aj E l z 128 [(0, vr 44), (3, vi x3), (4, vi x4), (5, vi x5), (7, vi x7)] [] M) {M : MM} (h : VX12_copy_34 E l D post J91 J128 M) : Aj E l z 34 [] [] M := by
  unfold VX12_copy_34 at h
  refine v_bipush C dX12_copy_34 (by decide) ?_
  exact v_iret C r dX12_copy_36 h
def VX12_copy_78 (E : FX) (l : Launch) (D : Nat) (post : Option AV → MM → Prop) (J91 : MM → Int → Int → Int → Int → Int → Int → Prop) (J128 : MM → Int → Int → Int → Int → Prop) (M : MM) (x1 : Int) (x2 : Int) (x3 : Int) (x4 : Int) (x5 : Int) (s0 : Int) : Prop :=
  R32 s0 ∧ ((s0 = 0 → J91 M x1 x2 x3 x4 x5 0) ∧ (¬ s0 = 0 → post (some (vi s0)) M))
set_option maxRecDepth 20000 in
theorem SX12_copy_78 {E : FX} {l : Launch} {D : Nat} {post : Option AV → MM → Prop} {z : RT} {J91 : MM → Int → Int → Int → Int → Int → Int → Prop} {J128 : MM → Int → Int → Int → Int → Prop} (C : Cx E z D RX12 cX12_copy 8) (r : Rt E z (some .int) post) (hJ91 : ∀ (M : MM) (x1 : Int) (x2 : Int) (x3 : Int) (x4 : Int) (x5 : Int) (x7 : Int), J91 M x1 x2 x3 x4 x5 x7 → Aj E l z 91 [(0, vr 44), (1, vi x1), (2, vi x2), (3, vi x3), (4, vi x4), (5, vi x5), (7, vi x7)] [] M) (hJ128 : ∀ (M : MM) (x3 : Int) (x4 : Int) (x5 : Int) (x7 : Int), J128 M x3 x4 x5 x7 → Aj E l z 128 [(0, vr 44), (3, vi x3), (4, vi x4), (5, vi x5), (7, vi x7)] [] M) {M : MM} {x1 : Int} {x2 : Int} {x3 : Int} {x4 : Int} {x5 : Int} {s0 : Int} (h : VX12_copy_78 E l D post J91 J128 M x1 x2 x3 x4 x5 s0) : Aj E l z 78 [(0, vr 44), (1, vi x1), (2, vi x2), (3, vi x3), (4, vi x4), (5, vi x5)] [vi s0] M := by
  unfold VX12_copy_78 at h
  refine v_istore (L' := [(6, vi s0), (0, vr 44), (1, vi x1), (2, vi x2), (3, vi x3), (4, vi x4), (5, vi x5)]) C dX12_copy_78 (by decide) rfl ?_
  refine v_iload (i := 0) C dX12_copy_80 rfl ?_
  refine v_if_eq (tgt := 88) C h.1 dX12_copy_82 (by decide) (fun c => ?_) (fun c => ?_)
  · have g1 := h.2.1 c
    refine v_iconst C dX12_copy_88 ?_
    refine v_istore (L' := [(7, vi 0), (6, vi s0), (0, vr 44), (1, vi x1), (2, vi x2), (3, vi x3), (4, vi x4), (5, vi x5)]) C dX12_copy_89 (by decide) rfl ?_
    exact v_sub [2, 3, 4, 5, 6, 7, 0] rfl (hJ91 _ _ _ _ _ _ _ g1)
  · have g2 := h.2.2 c
    refine v_iload (i := 0) C dX12_copy_85 rfl ?_
    exact v_iret C r dX12_copy_87 g2
def VX12_copy_14 (E : FX) (l : Launch) (D : Nat) (post : Option AV → MM → Prop) (J91 : MM → Int → Int → Int → Int → Int → Int → Prop) (J128 : MM → Int → Int → Int → Int → Prop) (M : MM) : Prop :=
  post (some (vi (-1))) M
set_option maxRecDepth 20000 in
theorem SX12_copy_14 {E : FX} {l : Launch} {D : Nat} {post : Option AV → MM → Prop} {z : RT} {J91 : MM → Int → Int → Int → Int → Int → Int → Prop} {J128 : MM → Int → Int → Int → Int → Prop} (C : Cx E z D RX12 cX12_copy 8) (r : Rt E z (some .int) post) (hJ91 : ∀ (M : MM) (x1 : Int) (x2 : Int) (x3 : Int) (x4 : Int) (x5 : Int) (x7 : Int), J91 M x1 x2 x3 x4 x5 x7 → Aj E l z 91 [(0, vr 44), (1, vi x1), (2, vi x2), (3, vi x3), (4, vi x4), (5, vi x5), (7, vi x7)] [] M) (hJ128 : ∀ (M : MM) (x3 : Int) (x4 : Int) (x5 : Int) (x7 : Int), J128 M x3 x4 x5 x7 → Aj E l z 128 [(0, vr 44), (3, vi x3), (4, vi x4), (5, vi x5), (7, vi x7)] [] M) {M : MM} (h : VX12_copy_14 E l D post J91 J128 M) : Aj E l z 14 [] [] M := by
  unfold VX12_copy_14 at h
  refine v_iconst C dX12_copy_14 ?_
  exact v_iret C r dX12_copy_15 h
def VX12_copy_0 (E : FX) (l : Launch) (D : Nat) (post : Option AV → MM → Prop) (J91 : MM → Int → Int → Int → Int → Int → Int → Prop) (J128 : MM → Int → Int → Int → Int → Prop) (M : MM) (x1 : Int) (x2 : Int) (x3 : Int) (x4 : Int) (x5 : Int) : Prop :=
  Con E l D qX12_isSheet [vi x1] M (fun r M3 => ∃ y4 : Int, r = some (vi y4) ∧ (R32 y4 ∧ ((y4 = 0 → post (some (vi (-1))) M3) ∧ (¬ y4 = 0 → Con E l D qX12_isSheet [vi x3] M3 (fun r M8 => ∃ y9 : Int, r = some (vi y9) ∧ (R32 y9 ∧ ((¬ y9 = 0 → 0 ≤ x1 ∧ (x1 < 4 ∧ (R32 (M8 52 (x1).toNat) ∧ ((M8 52 (x1).toNat < 0 → post (some (vi (-11))) M8) ∧ (¬ M8 52 (x1).toNat < 0 → 0 ≤ x3 ∧ (x3 < 4 ∧ (R32 (M8 52 (x3).toNat) ∧ ((0 ≤ M8 52 (x3).toNat → 0 ≤ x3 ∧ (x3 < 4 ∧ (Con E l D qX12_bars [vr 44, vi x1, vi (M8 52 (x3).toNat), vi x2, vi x5] M8 (fun r M17 => ∃ y18 : Int, r = some (vi y18) ∧ (R32 y18 ∧ ((¬ y18 = 0 → VX12_copy_78 E l D post J91 J128 M17 x1 x2 x3 x4 x5 y18) ∧ (y18 = 0 → 0 ≤ x1 ∧ (x1 < 4 ∧ (Con E l D qX12_bars [vr 44, vi x3, vi (M17 52 (x1).toNat), vi x4, vi x5] M17 (fun r M22 => ∃ y23 : Int, r = some (vi y23) ∧ (VX12_copy_78 E l D post J91 J128 M22 x1 x2 x3 x4 x5 y23))))))))))) ∧ (¬ 0 ≤ M8 52 (x3).toNat → post (some (vi (-11))) M8))))))))) ∧ (y9 = 0 → post (some (vi (-1))) M8))))))))
set_option maxRecDepth 20000 in
theorem SX12_copy_0 {E : FX} {l : Launch} {D : Nat} {post : Option AV → MM → Prop} {z : RT} {J91 : MM → Int → Int → Int → Int → Int → Int → Prop} {J128 : MM → Int → Int → Int → Int → Prop} (C : Cx E z D RX12 cX12_copy 8) (r : Rt E z (some .int) post) (hJ91 : ∀ (M : MM) (x1 : Int) (x2 : Int) (x3 : Int) (x4 : Int) (x5 : Int) (x7 : Int), J91 M x1 x2 x3 x4 x5 x7 → Aj E l z 91 [(0, vr 44), (1, vi x1), (2, vi x2), (3, vi x3), (4, vi x4), (5, vi x5), (7, vi x7)] [] M) (hJ128 : ∀ (M : MM) (x3 : Int) (x4 : Int) (x5 : Int) (x7 : Int), J128 M x3 x4 x5 x7 → Aj E l z 128 [(0, vr 44), (3, vi x3), (4, vi x4), (5, vi x5), (7, vi x7)] [] M) {M : MM} {x1 : Int} {x2 : Int} {x3 : Int} {x4 : Int} {x5 : Int} (h : VX12_copy_0 E l D post J91 J128 M x1 x2 x3 x4 x5) : Aj E l z 0 [(0, vr 44), (1, vi x1), (2, vi x2), (3, vi x3), (4, vi x4), (5, vi x5)] [] M := by
  unfold VX12_copy_0 at h
  refine v_iload_n (i := 1) C dX12_copy_0 rfl rfl ?_
  refine v_callS (q := qX12_isSheet) (As := [vi x1]) (S := []) C co_yX12_isSheet ml_RX12_207 st_yX12_isSheet ini_RX12 hq_X12_isSheet (by decide) (Nat.le_of_ble_eq_true rfl) rfl dX12_copy_1 (Con.mono h (fun rr M3 hr => ?_) (Nat.le_refl _))
  obtain ⟨y4, rfl, g5⟩ := hr
  show Aj E l z (1 + 3) [(0, vr 44), (1, vi x1), (2, vi x2), (3, vi x3), (4, vi x4), (5, vi x5)] [vi y4] M3
  refine v_if_eq (tgt := 14) C g5.1 dX12_copy_4 (by decide) (fun c => ?_) (fun c => ?_)
  · have g6 := g5.2.1 c
    refine v_iconst C dX12_copy_14 ?_
    exact v_iret C r dX12_copy_15 g6
  · have g7 := g5.2.2 c
    refine v_iload_n (i := 3) C dX12_copy_7 rfl rfl ?_
    refine v_callS (q := qX12_isSheet) (As := [vi x3]) (S := []) C co_yX12_isSheet ml_RX12_207 st_yX12_isSheet ini_RX12 hq_X12_isSheet (by decide) (Nat.le_of_ble_eq_true rfl) rfl dX12_copy_8 (Con.mono g7 (fun rr M8 hr => ?_) (Nat.le_refl _))
    obtain ⟨y9, rfl, g10⟩ := hr
    show Aj E l z (8 + 3) [(0, vr 44), (1, vi x1), (2, vi x2), (3, vi x3), (4, vi x4), (5, vi x5)] [vi y9] M8
    refine v_if_ne (tgt := 16) C g10.1 dX12_copy_11 (by decide) (fun c => ?_) (fun c => ?_)
    · have g11 := g10.2.1 c
      refine v_aload_n (i := 0) C dX12_copy_16 rfl rfl ?_
      refine v_getf (k := 44) C fl_RX12_32 rfl rfl dX12_copy_17 ?_
      show Aj E l z (17 + 3) [(0, vr 44), (1, vi x1), (2, vi x2), (3, vi x3), (4, vi x4), (5, vi x5)] [vr 52] M8
      refine v_iload_n (i := 1) C dX12_copy_20 rfl rfl ?_
      refine v_iald (k := 52) C rfl g11.1 g11.2.1 dX12_copy_21 ?_
      show Aj E l z (21 + 1) [(0, vr 44), (1, vi x1), (2, vi x2), (3, vi x3), (4, vi x4), (5, vi x5)] [vi (M8 52 (x1).toNat)] M8
      refine v_if_lt (tgt := 34) C g11.2.2.1 dX12_copy_22 (by decide) (fun c => ?_) (fun c => ?_)
      · have g13 := g11.2.2.2.1 c
        refine v_bipush C dX12_copy_34 (by decide) ?_
        exact v_iret C r dX12_copy_36 g13
      · have g14 := g11.2.2.2.2 c
        refine v_aload_n (i := 0) C dX12_copy_25 rfl rfl ?_
        refine v_getf (k := 44) C fl_RX12_32 rfl rfl dX12_copy_26 ?_
        show Aj E l z (26 + 3) [(0, vr 44), (1, vi x1), (2, vi x2), (3, vi x3), (4, vi x4), (5, vi x5)] [vr 52] M8
        refine v_iload_n (i := 3) C dX12_copy_29 rfl rfl ?_
        refine v_iald (k := 52) C rfl g14.1 g14.2.1 dX12_copy_30 ?_
        show Aj E l z (30 + 1) [(0, vr 44), (1, vi x1), (2, vi x2), (3, vi x3), (4, vi x4), (5, vi x5)] [vi (M8 52 (x3).toNat)] M8
        refine v_if_ge (tgt := 37) C g14.2.2.1 dX12_copy_31 (by decide) (fun c => ?_) (fun c => ?_)
        · have g15 := g14.2.2.2.1 c
          refine v_aload_n (i := 0) C dX12_copy_37 rfl rfl ?_
          refine v_iload_n (i := 1) C dX12_copy_38 rfl rfl ?_
          refine v_aload_n (i := 0) C dX12_copy_39 rfl rfl ?_
          refine v_getf (k := 44) C fl_RX12_32 rfl rfl dX12_copy_40 ?_
          show Aj E l z (40 + 3) [(0, vr 44), (1, vi x1), (2, vi x2), (3, vi x3), (4, vi x4), (5, vi x5)] [vr 52, vi x1, vr 44] M8
          refine v_iload_n (i := 3) C dX12_copy_43 rfl rfl ?_
          refine v_iald (k := 52) C rfl g15.1 g15.2.1 dX12_copy_44 ?_
          show Aj E l z (44 + 1) [(0, vr 44), (1, vi x1), (2, vi x2), (3, vi x3), (4, vi x4), (5, vi x5)] [vi (M8 52 (x3).toNat), vi x1, vr 44] M8
          refine v_iload_n (i := 2) C dX12_copy_45 rfl rfl ?_
          refine v_iload (i := 5) C dX12_copy_46 rfl ?_
          refine v_callV (q := qX12_bars) (k := 44) (As := [vi x1, vi (M8 52 (x3).toNat), vi x2, vi x5]) (S := []) C co_yX12_bars ml_RX12_210 im_yX12_bars se_yX12_bars ini_RX12 rfl rfl hq_X12_bars (by decide) (Nat.le_of_ble_eq_true rfl) rfl dX12_copy_48 (Con.mono g15.2.2 (fun rr M17 hr => ?_) (Nat.le_refl _))
          obtain ⟨y18, rfl, g19⟩ := hr
          show Aj E l z (48 + 3) [(0, vr 44), (1, vi x1), (2, vi x2), (3, vi x3), (4, vi x4), (5, vi x5)] [vi y18] M17
          refine v_istore (L' := [(6, vi y18), (0, vr 44), (1, vi x1), (2, vi x2), (3, vi x3), (4, vi x4), (5, vi x5)]) C dX12_copy_51 (by decide) rfl ?_
          refine v_iload (i := 0) C dX12_copy_53 rfl ?_
          refine v_if_ne (tgt := 76) C g19.1 dX12_copy_55 (by decide) (fun c => ?_) (fun c => ?_)
          · have g20 := g19.2.1 c
            refine v_iload (i := 0) C dX12_copy_76 rfl ?_
            exact v_sub [1, 2, 3, 4, 5, 6] rfl (SX12_copy_78 C r hJ91 hJ128 g20)
          · have g21 := g19.2.2 c
            refine v_aload_n (i := 1) C dX12_copy_58 rfl rfl ?_
            refine v_iload_n (i := 4) C dX12_copy_59 rfl rfl ?_
            refine v_aload_n (i := 1) C dX12_copy_60 rfl rfl ?_
            refine v_getf (k := 44) C fl_RX12_32 rfl rfl dX12_copy_61 ?_
            show Aj E l z (61 + 3) [(6, vi y18), (0, vr 44), (1, vi x1), (2, vi x2), (3, vi x3), (4, vi x4), (5, vi x5)] [vr 52, vi x3, vr 44] M17
            refine v_iload_n (i := 2) C dX12_copy_64 rfl rfl ?_
            refine v_iald (k := 52) C rfl g21.1 g21.2.1 dX12_copy_65 ?_
            show Aj E l z (65 + 1) [(6, vi y18), (0, vr 44), (1, vi x1), (2, vi x2), (3, vi x3), (4, vi x4), (5, vi x5)] [vi (M17 52 (x1).toNat), vi x3, vr 44] M17
            refine v_iload (i := 5) C dX12_copy_66 rfl ?_
            refine v_iload (i := 6) C dX12_copy_68 rfl ?_
            refine v_callV (q := qX12_bars) (k := 44) (As := [vi x3, vi (M17 52 (x1).toNat), vi x4, vi x5]) (S := []) C co_yX12_bars ml_RX12_210 im_yX12_bars se_yX12_bars ini_RX12 rfl rfl hq_X12_bars (by decide) (Nat.le_of_ble_eq_true rfl) rfl dX12_copy_70 (Con.mono g21.2.2 (fun rr M22 hr => ?_) (Nat.le_refl _))
            obtain ⟨y23, rfl, g24⟩ := hr
            show Aj E l z (70 + 3) [(6, vi y18), (0, vr 44), (1, vi x1), (2, vi x2), (3, vi x3), (4, vi x4), (5, vi x5)] [vi y23] M22
            refine v_goto C dX12_copy_73 (tgt := 78) (by decide) ?_
            exact v_sub [1, 2, 3, 4, 5, 6] rfl (SX12_copy_78 C r hJ91 hJ128 g24)
        · have g16 := g14.2.2.2.2 c
          refine v_bipush C dX12_copy_34 (by decide) ?_
          exact v_iret C r dX12_copy_36 g16
    · have g12 := g10.2.2 c
      refine v_iconst C dX12_copy_14 ?_
      exact v_iret C r dX12_copy_15 g12
def VX12_copy_91 (E : FX) (l : Launch) (D : Nat) (post : Option AV → MM → Prop) (J91 : MM → Int → Int → Int → Int → Int → Int → Prop) (J128 : MM → Int → Int → Int → Int → Prop) (M : MM) (x1 : Int) (x2 : Int) (x3 : Int) (x4 : Int) (x5 : Int) (x7 : Int) : Prop :=
  R32 x7 ∧ (R32 x5 ∧ ((x5 ≤ x7 → J128 M x3 x4 x5 0) ∧ (¬ x5 ≤ x7 → 0 ≤ ((16 * x1) + x2) + x7 ∧ (((16 * x1) + x2) + x7 < 64 ∧ (0 ≤ x7 ∧ (x7 < 16 ∧ (∀ M27 : MM, M27 = up M 55 (x7).toNat (M 54 (((16 * x1) + x2) + x7).toNat) → (∀ y29 : Int, y29 = x7 + 1 → (J91 M27 x1 x2 x3 x4 x5 y29)))))))))
set_option maxRecDepth 20000 in
theorem SX12_copy_91 {E : FX} {l : Launch} {D : Nat} {post : Option AV → MM → Prop} {z : RT} {J91 : MM → Int → Int → Int → Int → Int → Int → Prop} {J128 : MM → Int → Int → Int → Int → Prop} (C : Cx E z D RX12 cX12_copy 8) (r : Rt E z (some .int) post) (hJ91 : ∀ (M : MM) (x1 : Int) (x2 : Int) (x3 : Int) (x4 : Int) (x5 : Int) (x7 : Int), J91 M x1 x2 x3 x4 x5 x7 → Aj E l z 91 [(0, vr 44), (1, vi x1), (2, vi x2), (3, vi x3), (4, vi x4), (5, vi x5), (7, vi x7)] [] M) (hJ128 : ∀ (M : MM) (x3 : Int) (x4 : Int) (x5 : Int) (x7 : Int), J128 M x3 x4 x5 x7 → Aj E l z 128 [(0, vr 44), (3, vi x3), (4, vi x4), (5, vi x5), (7, vi x7)] [] M) {M : MM} {x1 : Int} {x2 : Int} {x3 : Int} {x4 : Int} {x5 : Int} {x7 : Int} (h : VX12_copy_91 E l D post J91 J128 M x1 x2 x3 x4 x5 x7) : Aj E l z 91 [(0, vr 44), (1, vi x1), (2, vi x2), (3, vi x3), (4, vi x4), (5, vi x5), (7, vi x7)] [] M := by
  unfold VX12_copy_91 at h
  refine v_iload (i := 6) C dX12_copy_91 rfl ?_
  refine v_iload (i := 5) C dX12_copy_93 rfl ?_
  refine v_icmp_ge (tgt := 125) C h.1 h.2.1 dX12_copy_95 (by decide) (fun c => ?_) (fun c => ?_)
  · have g25 := h.2.2.1 c
    refine v_iconst C dX12_copy_125 ?_
    refine v_istore (L' := [(7, vi 0), (0, vr 44), (1, vi x1), (2, vi x2), (3, vi x3), (4, vi x4), (5, vi x5)]) C dX12_copy_126 (by decide) rfl ?_
    exact v_sub [1, 4, 5, 6, 0] rfl (hJ128 _ _ _ _ _ g25)
  · have g26 := h.2.2.2 c
    refine v_aload_n (i := 0) C dX12_copy_98 rfl rfl ?_
    refine v_getf (k := 44) C fl_RX12_41 rfl rfl dX12_copy_99 ?_
    show Aj E l z (99 + 3) [(0, vr 44), (1, vi x1), (2, vi x2), (3, vi x3), (4, vi x4), (5, vi x5), (7, vi x7)] [vr 55] M
    refine v_iload (i := 6) C dX12_copy_102 rfl ?_
    refine v_aload_n (i := 0) C dX12_copy_104 rfl rfl ?_
    refine v_getf (k := 44) C fl_RX12_38 rfl rfl dX12_copy_105 ?_
    show Aj E l z (105 + 3) [(0, vr 44), (1, vi x1), (2, vi x2), (3, vi x3), (4, vi x4), (5, vi x5), (7, vi x7)] [vr 54, vi x7, vr 55] M
    refine v_bipush C dX12_copy_108 (by decide) ?_
    refine v_iload_n (i := 1) C dX12_copy_110 rfl rfl ?_
    refine v_imul C dX12_copy_111 ?_
    refine v_iload_n (i := 2) C dX12_copy_112 rfl rfl ?_
    refine v_iadd C dX12_copy_113 ?_
    refine v_iload (i := 6) C dX12_copy_114 rfl ?_
    refine v_iadd C dX12_copy_116 ?_
    refine v_lald (k := 54) C rfl g26.1 g26.2.1 dX12_copy_117 ?_
    show Aj E l z (117 + 1) [(0, vr 44), (1, vi x1), (2, vi x2), (3, vi x3), (4, vi x4), (5, vi x5), (7, vi x7)] [vj (M 54 (((16 * x1) + x2) + x7).toNat), vi x7, vr 55] M
    refine v_last (k := 55) C rfl g26.2.2.1 g26.2.2.2.1 dX12_copy_118 ?_
    obtain ⟨M27, hM27⟩ : ∃ X : MM, X = up M 55 (x7).toNat (M 54 (((16 * x1) + x2) + x7).toNat) := ⟨_, rfl⟩
    refine v_eqM hM27 ?_
    have g28 := g26.2.2.2.2 M27 hM27
    obtain ⟨y29, hy29⟩ : ∃ y : Int, y = x7 + 1 := ⟨_, rfl⟩
    have g30 := g28 y29 hy29
    refine v_iinc (i := 6) (L' := [(7, vi y29), (0, vr 44), (1, vi x1), (2, vi x2), (3, vi x3), (4, vi x4), (5, vi x5)]) C dX12_copy_119 rfl (by decide) hy29 rfl ?_
    refine v_goto C dX12_copy_122 (tgt := 91) (by decide) ?_
    exact v_sub [1, 2, 3, 4, 5, 6, 0] rfl (hJ91 _ _ _ _ _ _ _ g30)
def VX12_copy_128 (E : FX) (l : Launch) (D : Nat) (post : Option AV → MM → Prop) (J91 : MM → Int → Int → Int → Int → Int → Int → Prop) (J128 : MM → Int → Int → Int → Int → Prop) (M : MM) (x3 : Int) (x4 : Int) (x5 : Int) (x7 : Int) : Prop :=
  R32 x7 ∧ (R32 x5 ∧ ((x5 ≤ x7 → post (some (vi x5)) M) ∧ (¬ x5 ≤ x7 → 0 ≤ x7 ∧ (x7 < 16 ∧ (0 ≤ ((16 * x3) + x4) + x7 ∧ (((16 * x3) + x4) + x7 < 64 ∧ (∀ M33 : MM, M33 = up M 54 (((16 * x3) + x4) + x7).toNat (M 55 (x7).toNat) → (∀ y35 : Int, y35 = x7 + 1 → (J128 M33 x3 x4 x5 y35)))))))))
set_option maxRecDepth 20000 in
theorem SX12_copy_128 {E : FX} {l : Launch} {D : Nat} {post : Option AV → MM → Prop} {z : RT} {J91 : MM → Int → Int → Int → Int → Int → Int → Prop} {J128 : MM → Int → Int → Int → Int → Prop} (C : Cx E z D RX12 cX12_copy 8) (r : Rt E z (some .int) post) (hJ91 : ∀ (M : MM) (x1 : Int) (x2 : Int) (x3 : Int) (x4 : Int) (x5 : Int) (x7 : Int), J91 M x1 x2 x3 x4 x5 x7 → Aj E l z 91 [(0, vr 44), (1, vi x1), (2, vi x2), (3, vi x3), (4, vi x4), (5, vi x5), (7, vi x7)] [] M) (hJ128 : ∀ (M : MM) (x3 : Int) (x4 : Int) (x5 : Int) (x7 : Int), J128 M x3 x4 x5 x7 → Aj E l z 128 [(0, vr 44), (3, vi x3), (4, vi x4), (5, vi x5), (7, vi x7)] [] M) {M : MM} {x3 : Int} {x4 : Int} {x5 : Int} {x7 : Int} (h : VX12_copy_128 E l D post J91 J128 M x3 x4 x5 x7) : Aj E l z 128 [(0, vr 44), (3, vi x3), (4, vi x4), (5, vi x5), (7, vi x7)] [] M := by
  unfold VX12_copy_128 at h
  refine v_iload (i := 4) C dX12_copy_128 rfl ?_
  refine v_iload (i := 3) C dX12_copy_130 rfl ?_
  refine v_icmp_ge (tgt := 163) C h.1 h.2.1 dX12_copy_132 (by decide) (fun c => ?_) (fun c => ?_)
  · have g31 := h.2.2.1 c
    refine v_iload (i := 3) C dX12_copy_163 rfl ?_
    exact v_iret C r dX12_copy_165 g31
  · have g32 := h.2.2.2 c
    refine v_aload_n (i := 0) C dX12_copy_135 rfl rfl ?_
    refine v_getf (k := 44) C fl_RX12_38 rfl rfl dX12_copy_136 ?_
    show Aj E l z (136 + 3) [(0, vr 44), (3, vi x3), (4, vi x4), (5, vi x5), (7, vi x7)] [vr 54] M
    refine v_bipush C dX12_copy_139 (by decide) ?_
    refine v_iload_n (i := 1) C dX12_copy_141 rfl rfl ?_
    refine v_imul C dX12_copy_142 ?_
    refine v_iload (i := 2) C dX12_copy_143 rfl ?_
    refine v_iadd C dX12_copy_145 ?_
    refine v_iload (i := 4) C dX12_copy_146 rfl ?_
    refine v_iadd C dX12_copy_148 ?_
    refine v_aload_n (i := 0) C dX12_copy_149 rfl rfl ?_
    refine v_getf (k := 44) C fl_RX12_41 rfl rfl dX12_copy_150 ?_
    show Aj E l z (150 + 3) [(0, vr 44), (3, vi x3), (4, vi x4), (5, vi x5), (7, vi x7)] [vr 55, vi (((16 * x3) + x4) + x7), vr 54] M
    refine v_iload (i := 4) C dX12_copy_153 rfl ?_
    refine v_lald (k := 55) C rfl g32.1 g32.2.1 dX12_copy_155 ?_
    show Aj E l z (155 + 1) [(0, vr 44), (3, vi x3), (4, vi x4), (5, vi x5), (7, vi x7)] [vj (M 55 (x7).toNat), vi (((16 * x3) + x4) + x7), vr 54] M
    refine v_last (k := 54) C rfl g32.2.2.1 g32.2.2.2.1 dX12_copy_156 ?_
    obtain ⟨M33, hM33⟩ : ∃ X : MM, X = up M 54 (((16 * x3) + x4) + x7).toNat (M 55 (x7).toNat) := ⟨_, rfl⟩
    refine v_eqM hM33 ?_
    have g34 := g32.2.2.2.2 M33 hM33
    obtain ⟨y35, hy35⟩ : ∃ y : Int, y = x7 + 1 := ⟨_, rfl⟩
    have g36 := g34 y35 hy35
    refine v_iinc (i := 4) (L' := [(7, vi y35), (0, vr 44), (3, vi x3), (4, vi x4), (5, vi x5)]) C dX12_copy_157 rfl (by decide) hy35 rfl ?_
    refine v_goto C dX12_copy_160 (tgt := 128) (by decide) ?_
    exact v_sub [1, 2, 3, 4, 0] rfl (hJ128 _ _ _ _ _ g36)
theorem RX12_copy {E : FX} {l : Launch} {D : Nat} {post : Option AV → MM → Prop} (I91 : MM → Int → Int → Int → Int → Int → Int → Prop) (m91 : MM → Int → Int → Int → Int → Int → Int → Nat) (I128 : MM → Int → Int → Int → Int → Prop) (m128 : MM → Int → Int → Int → Int → Nat) {M : MM} {x1 : Int} {x2 : Int} {x3 : Int} {x4 : Int} {x5 : Int} (h0 : VX12_copy_0 E l D post I91 I128 M x1 x2 x3 x4 x5) (h91I : ∀ (M : MM) (x1 : Int) (x2 : Int) (x3 : Int) (x4 : Int) (x5 : Int) (x7 : Int), I91 M x1 x2 x3 x4 x5 x7 → VX12_copy_91 E l D post (fun M' x1' x2' x3' x4' x5' x7' => I91 M' x1' x2' x3' x4' x5' x7' ∧ m91 M' x1' x2' x3' x4' x5' x7' < m91 M x1 x2 x3 x4 x5 x7) (fun M' x3' x4' x5' x7' => I128 M' x3' x4' x5' x7' ∧ m128 M' x3' x4' x5' x7' < m91 M x1 x2 x3 x4 x5 x7) M x1 x2 x3 x4 x5 x7) (h128I : ∀ (M : MM) (x3 : Int) (x4 : Int) (x5 : Int) (x7 : Int), I128 M x3 x4 x5 x7 → VX12_copy_128 E l D post (fun M' x1' x2' x3' x4' x5' x7' => I91 M' x1' x2' x3' x4' x5' x7' ∧ m91 M' x1' x2' x3' x4' x5' x7' < m128 M x3 x4 x5 x7) (fun M' x3' x4' x5' x7' => I128 M' x3' x4' x5' x7' ∧ m128 M' x3' x4' x5' x7' < m128 M x3 x4 x5 x7) M x3 x4 x5 x7) : Con E l (D + 1) qX12_copy [vr 44, vi x1, vi x2, vi x3, vi x4, vi x5] M post := by
  refine con_of (by decide +kernel) (Nat.le_of_ble_eq_true rfl) (fun z C r => ?_)
  have all : ∀ n : Nat, (∀ (M : MM) (x1 : Int) (x2 : Int) (x3 : Int) (x4 : Int) (x5 : Int) (x7 : Int), I91 M x1 x2 x3 x4 x5 x7 → m91 M x1 x2 x3 x4 x5 x7 < n → Aj E l z 91 [(0, vr 44), (1, vi x1), (2, vi x2), (3, vi x3), (4, vi x4), (5, vi x5), (7, vi x7)] [] M) ∧ (∀ (M : MM) (x3 : Int) (x4 : Int) (x5 : Int) (x7 : Int), I128 M x3 x4 x5 x7 → m128 M x3 x4 x5 x7 < n → Aj E l z 128 [(0, vr 44), (3, vi x3), (4, vi x4), (5, vi x5), (7, vi x7)] [] M) := by
    intro n
    induction n with
    | zero => exact ⟨fun _ _ _ _ _ _ _ _ hm => absurd hm (Nat.not_lt_zero _), fun _ _ _ _ _ _ hm => absurd hm (Nat.not_lt_zero _)⟩
    | succ n ih => exact ⟨fun M x1 x2 x3 x4 x5 x7 hi hm => SX12_copy_91 C r (fun M' x1' x2' x3' x4' x5' x7' hj => ih.1 M' x1' x2' x3' x4' x5' x7' hj.1 (by omega)) (fun M' x3' x4' x5' x7' hj => ih.2 M' x3' x4' x5' x7' hj.1 (by omega)) (h91I M x1 x2 x3 x4 x5 x7 hi), fun M x3 x4 x5 x7 hi hm => SX12_copy_128 C r (fun M' x1' x2' x3' x4' x5' x7' hj => ih.1 M' x1' x2' x3' x4' x5' x7' hj.1 (by omega)) (fun M' x3' x4' x5' x7' hj => ih.2 M' x3' x4' x5' x7' hj.1 (by omega)) (h128I M x3 x4 x5 x7 hi)⟩
  exact v_sub [0, 1, 2, 3, 4, 5] rfl (SX12_copy_0 C r (fun M' x1' x2' x3' x4' x5' x7' hj => (all _).1 M' x1' x2' x3' x4' x5' x7' hj (Nat.lt_succ_self _)) (fun M' x3' x4' x5' x7' hj => (all _).2 M' x3' x4' x5' x7' hj (Nat.lt_succ_self _)) h0)
