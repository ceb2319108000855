def VX1_add_0 (E : FX) (l : Launch) (D : Nat) (post : Option AV → MM → Prop) (M : MM) (x1 : Int) : Prop :=
  Con E l D qX7_put [vr 10, vi (M 9 1), vi x1] M (fun r M1 => r = none ∧ (∀ M3 : MM, M3 = up M1 9 1 ((M1 9 1) + 1) → (post (some (vi (M1 9 1))) M3)))
set_option maxRecDepth 20000 in
theorem SX1_add_0 {E : FX} {l : Launch} {D : Nat} {post : Option AV → MM → Prop} {z : RT} (C : Cx E z D RX1 cX1_add 2) (r : Rt E z (some .int) post) {M : MM} {x1 : Int} (h : VX1_add_0 E l D post M x1) : Aj E l z 0 [(0, vr 9), (1, vi x1)] [] M := by
  unfold VX1_add_0 at h
  refine v_aload_n (i := 0) C dX1_add_0 rfl rfl ?_
  refine v_getf (k := 9) C fl_RX1_9 rfl rfl dX1_add_1 ?_
  show Aj E l z (1 + 3) [(0, vr 9), (1, vi x1)] [vr 10] M
  refine v_aload_n (i := 0) C dX1_add_4 rfl rfl ?_
  refine v_getf (k := 9) C fl_RX1_21 rfl rfl dX1_add_5 ?_
  show Aj E l z (5 + 3) [(0, vr 9), (1, vi x1)] [vi (M 9 1), vr 10] M
  refine v_iload_n (i := 1) C dX1_add_8 rfl rfl ?_
  refine v_callS (q := qX7_put) (As := [vr 10, vi (M 9 1), vi x1]) (S := []) C co_yX7_put ml_RX1_25 st_yX7_put ini_RX7 hq_X7_put (by decide) (Nat.le_of_ble_eq_true rfl) rfl dX1_add_9 (Con.mono h (fun rr M1 hr => ?_) (Nat.le_refl _))
  obtain ⟨rfl, g2⟩ := hr
  show Aj E l z (9 + 3) [(0, vr 9), (1, vi x1)] [] M1
  refine v_aload_n (i := 0) C dX1_add_12 rfl rfl ?_
  refine v_dup C rfl dX1_add_13 ?_
  refine v_getf (k := 9) C fl_RX1_21 rfl rfl dX1_add_14 ?_
  show Aj E l z (14 + 3) [(0, vr 9), (1, vi x1)] [vi (M1 9 1), vr 9] M1
  refine v_dup_x1 C rfl rfl dX1_add_17 ?_
  refine v_iconst C dX1_add_18 ?_
  refine v_iadd C dX1_add_19 ?_
  refine v_putf (k := 9) (x := (M1 9 1) + 1) (t := 0) C fp_RX1_21 rfl rfl (by decide) (by simp [fv, up]) rfl rfl dX1_add_20 ?_
  obtain ⟨M3, hM3⟩ : ∃ X : MM, X = up M1 9 1 ((M1 9 1) + 1) := ⟨_, rfl⟩
  refine v_eqM hM3 ?_
  have g4 := g2 M3 hM3
  exact v_iret C r dX1_add_23 g4
theorem RX1_add {E : FX} {l : Launch} {D : Nat} {post : Option AV → MM → Prop} {M : MM} {x1 : Int} (h0 : VX1_add_0 E l D post M x1) : Con E l (D + 1) qX1_add [vr 9, vi x1] M post := by
  refine con_of (by decide +kernel) (Nat.le_of_ble_eq_true rfl) (fun z C r => ?_)
  exact v_sub [0, 1] rfl (SX1_add_0 C r h0)
def VX1_everyone_0 (E : FX) (l : Launch) (D : Nat) (post : Option AV → MM → Prop) (M : MM) : Prop :=
  post (some (vi ((ishl 1 (M 9 1)) - 1))) M
set_option maxRecDepth 20000 in
theorem SX1_everyone_0 {E : FX} {l : Launch} {D : Nat} {post : Option AV → MM → Prop} {z : RT} (C : Cx E z D RX1 cX1_everyone 1) (r : Rt E z (some .int) post) {M : MM} (h : VX1_everyone_0 E l D post M) : Aj E l z 0 [(0, vr 9)] [] M := by
  unfold VX1_everyone_0 at h
  refine v_iconst C dX1_everyone_0 ?_
  refine v_aload_n (i := 0) C dX1_everyone_1 rfl rfl ?_
  refine v_getf (k := 9) C fl_RX1_21 rfl rfl dX1_everyone_2 ?_
  show Aj E l z (2 + 3) [(0, vr 9)] [vi (M 9 1), vi 1] M
  refine v_ishl C dX1_everyone_5 ?_
  refine v_iconst C dX1_everyone_6 ?_
  refine v_isub C dX1_everyone_7 ?_
  exact v_iret C r dX1_everyone_8 h
theorem RX1_everyone {E : FX} {l : Launch} {D : Nat} {post : Option AV → MM → Prop} {M : MM} (h0 : VX1_everyone_0 E l D post M) : Con E l (D + 1) qX1_everyone [vr 9] M post := by
  refine con_of (by decide +kernel) (Nat.le_of_ble_eq_true rfl) (fun z C r => ?_)
  exact v_sub [0] rfl (SX1_everyone_0 C r h0)
def VX1_wantedBy_0 (E : FX) (l : Launch) (D : Nat) (post : Option AV → MM → Prop) (J4 : MM → Int → Int → Int → Prop) (M : MM) (x1 : Int) : Prop :=
  J4 M x1 0 0
set_option maxRecDepth 20000 in
theorem SX1_wantedBy_0 {E : FX} {l : Launch} {D : Nat} {post : Option AV → MM → Prop} {z : RT} {J4 : MM → Int → Int → Int → Prop} (C : Cx E z D RX1 cX1_wantedBy 4) (r : Rt E z (some .int) post) (hJ4 : ∀ (M : MM) (x1 : Int) (x2 : Int) (x3 : Int), J4 M x1 x2 x3 → Aj E l z 4 [(0, vr 9), (1, vi x1), (2, vi x2), (3, vi x3)] [] M) {M : MM} {x1 : Int} (h : VX1_wantedBy_0 E l D post J4 M x1) : Aj E l z 0 [(0, vr 9), (1, vi x1)] [] M := by
  unfold VX1_wantedBy_0 at h
  refine v_iconst C dX1_wantedBy_0 ?_
  refine v_istore_n (L' := [(2, vi 0), (0, vr 9), (1, vi x1)]) C dX1_wantedBy_1 rfl (by decide) rfl ?_
  refine v_iconst C dX1_wantedBy_2 ?_
  refine v_istore_n (L' := [(3, vi 0), (2, vi 0), (0, vr 9), (1, vi x1)]) C dX1_wantedBy_3 rfl (by decide) rfl ?_
  exact v_sub [2, 3, 1, 0] rfl (hJ4 _ _ _ _ h)
def VX1_wantedBy_32 (E : FX) (l : Launch) (D : Nat) (post : Option AV → MM → Prop) (J4 : MM → Int → Int → Int → Prop) (M : MM) (x1 : Int) (x2 : Int) (x3 : Int) : Prop :=
  ∀ y1 : Int, y1 = x3 + 1 → (J4 M x1 x2 y1)
set_option maxRecDepth 20000 in
theorem SX1_wantedBy_32 {E : FX} {l : Launch} {D : Nat} {post : Option AV → MM → Prop} {z : RT} {J4 : MM → Int → Int → Int → Prop} (C : Cx E z D RX1 cX1_wantedBy 4) (r : Rt E z (some .int) post) (hJ4 : ∀ (M : MM) (x1 : Int) (x2 : Int) (x3 : Int), J4 M x1 x2 x3 → Aj E l z 4 [(0, vr 9), (1, vi x1), (2, vi x2), (3, vi x3)] [] M) {M : MM} {x1 : Int} {x2 : Int} {x3 : Int} (h : VX1_wantedBy_32 E l D post J4 M x1 x2 x3) : Aj E l z 32 [(0, vr 9), (1, vi x1), (2, vi x2), (3, vi x3)] [] M := by
  unfold VX1_wantedBy_32 at h
  obtain ⟨y1, hy1⟩ : ∃ y : Int, y = x3 + 1 := ⟨_, rfl⟩
  have g2 := h y1 hy1
  refine v_iinc (i := 3) (L' := [(3, vi y1), (0, vr 9), (1, vi x1), (2, vi x2)]) C dX1_wantedBy_32 rfl (by decide) hy1 rfl ?_
  refine v_goto C dX1_wantedBy_35 (tgt := 4) (by decide) ?_
  exact v_sub [1, 2, 3, 0] rfl (hJ4 _ _ _ _ g2)
def VX1_wantedBy_4 (E : FX) (l : Launch) (D : Nat) (post : Option AV → MM → Prop) (J4 : MM → Int → Int → Int → Prop) (M : MM) (x1 : Int) (x2 : Int) (x3 : Int) : Prop :=
  R32 x3 ∧ (R32 (M 9 1) ∧ ((M 9 1 ≤ x3 → post (some (vi x2)) M) ∧ (¬ M 9 1 ≤ x3 → R32 (iand (ishr x1 x3) 1) ∧ ((¬ iand (ishr x1 x3) 1 = 1 → ∀ y7 : Int, y7 = x3 + 1 → (J4 M x1 x2 y7)) ∧ (iand (ishr x1 x3) 1 = 1 → Con E l D qX7_at [vr 10, vi x3] M (fun r M9 => ∃ y10 : Int, r = some (vi y10) ∧ (∀ y12 : Int, y12 = x2 + y10 → (VX1_wantedBy_32 E l D post J4 M9 x1 y12 x3))))))))
set_option maxRecDepth 20000 in
theorem SX1_wantedBy_4 {E : FX} {l : Launch} {D : Nat} {post : Option AV → MM → Prop} {z : RT} {J4 : MM → Int → Int → Int → Prop} (C : Cx E z D RX1 cX1_wantedBy 4) (r : Rt E z (some .int) post) (hJ4 : ∀ (M : MM) (x1 : Int) (x2 : Int) (x3 : Int), J4 M x1 x2 x3 → Aj E l z 4 [(0, vr 9), (1, vi x1), (2, vi x2), (3, vi x3)] [] M) {M : MM} {x1 : Int} {x2 : Int} {x3 : Int} (h : VX1_wantedBy_4 E l D post J4 M x1 x2 x3) : Aj E l z 4 [(0, vr 9), (1, vi x1), (2, vi x2), (3, vi x3)] [] M := by
  unfold VX1_wantedBy_4 at h
  refine v_iload_n (i := 3) C dX1_wantedBy_4 rfl rfl ?_
  refine v_aload_n (i := 0) C dX1_wantedBy_5 rfl rfl ?_
  refine v_getf (k := 9) C fl_RX1_21 rfl rfl dX1_wantedBy_6 ?_
  show Aj E l z (6 + 3) [(0, vr 9), (1, vi x1), (2, vi x2), (3, vi x3)] [vi (M 9 1), vi x3] M
  refine v_icmp_ge (tgt := 38) C h.1 h.2.1 dX1_wantedBy_9 (by decide) (fun c => ?_) (fun c => ?_)
  · have g3 := h.2.2.1 c
    refine v_iload_n (i := 2) C dX1_wantedBy_38 rfl rfl ?_
    exact v_iret C r dX1_wantedBy_39 g3
  · have g4 := h.2.2.2 c
    refine v_iload_n (i := 1) C dX1_wantedBy_12 rfl rfl ?_
    refine v_iload_n (i := 3) C dX1_wantedBy_13 rfl rfl ?_
    refine v_ishr C dX1_wantedBy_14 ?_
    refine v_iconst C dX1_wantedBy_15 ?_
    refine v_iand C dX1_wantedBy_16 ?_
    refine v_iconst C dX1_wantedBy_17 ?_
    refine v_icmp_ne (tgt := 32) C g4.1 (by decide) dX1_wantedBy_18 (by decide) (fun c => ?_) (fun c => ?_)
    · have g5 := g4.2.1 c
      obtain ⟨y7, hy7⟩ : ∃ y : Int, y = x3 + 1 := ⟨_, rfl⟩
      have g8 := g5 y7 hy7
      refine v_iinc (i := 3) (L' := [(3, vi y7), (0, vr 9), (1, vi x1), (2, vi x2)]) C dX1_wantedBy_32 rfl (by decide) hy7 rfl ?_
      refine v_goto C dX1_wantedBy_35 (tgt := 4) (by decide) ?_
      exact v_sub [1, 2, 3, 0] rfl (hJ4 _ _ _ _ g8)
    · have g6 := g4.2.2 c
      refine v_iload_n (i := 2) C dX1_wantedBy_21 rfl rfl ?_
      refine v_aload_n (i := 0) C dX1_wantedBy_22 rfl rfl ?_
      refine v_getf (k := 9) C fl_RX1_9 rfl rfl dX1_wantedBy_23 ?_
      show Aj E l z (23 + 3) [(0, vr 9), (1, vi x1), (2, vi x2), (3, vi x3)] [vr 10, vi x2] M
      refine v_iload_n (i := 3) C dX1_wantedBy_26 rfl rfl ?_
      refine v_callS (q := qX7_at) (As := [vr 10, vi x3]) (S := [vi x2]) C co_yX7_at ml_RX1_29 st_yX7_at ini_RX7 hq_X7_at (by decide) (Nat.le_of_ble_eq_true rfl) rfl dX1_wantedBy_27 (Con.mono g6 (fun rr M9 hr => ?_) (Nat.le_refl _))
      obtain ⟨y10, rfl, g11⟩ := hr
      show Aj E l z (27 + 3) [(0, vr 9), (1, vi x1), (2, vi x2), (3, vi x3)] [vi y10, vi x2] M9
      refine v_iadd C dX1_wantedBy_30 ?_
      obtain ⟨y12, hy12⟩ : ∃ y : Int, y = x2 + y10 := ⟨_, rfl⟩
      have g13 := g11 y12 hy12
      refine v_eqi hy12 ?_
      refine v_istore_n (L' := [(2, vi y12), (0, vr 9), (1, vi x1), (3, vi x3)]) C dX1_wantedBy_31 rfl (by decide) rfl ?_
      exact v_sub [1, 2, 0, 3] rfl (SX1_wantedBy_32 C r hJ4 g13)
theorem RX1_wantedBy {E : FX} {l : Launch} {D : Nat} {post : Option AV → MM → Prop} (I4 : MM → Int → Int → Int → Prop) (m4 : MM → Int → Int → Int → Nat) {M : MM} {x1 : Int} (h0 : VX1_wantedBy_0 E l D post I4 M x1) (h4I : ∀ (M : MM) (x1 : Int) (x2 : Int) (x3 : Int), I4 M x1 x2 x3 → VX1_wantedBy_4 E l D post (fun M' x1' x2' x3' => I4 M' x1' x2' x3' ∧ m4 M' x1' x2' x3' < m4 M x1 x2 x3) M x1 x2 x3) : Con E l (D + 1) qX1_wantedBy [vr 9, vi x1] M post := by
  refine con_of (by decide +kernel) (Nat.le_of_ble_eq_true rfl) (fun z C r => ?_)
  have all : ∀ n : Nat, (∀ (M : MM) (x1 : Int) (x2 : Int) (x3 : Int), I4 M x1 x2 x3 → m4 M x1 x2 x3 < n → Aj E l z 4 [(0, vr 9), (1, vi x1), (2, vi x2), (3, vi x3)] [] M) := by
    intro n
    induction n with
    | zero => exact fun _ _ _ _ _ hm => absurd hm (Nat.not_lt_zero _)
    | succ n ih => exact fun M x1 x2 x3 hi hm => SX1_wantedBy_4 C r (fun M' x1' x2' x3' hj => ih M' x1' x2' x3' hj.1 (by omega)) (h4I M x1 x2 x3 hi)
  exact v_sub [0, 1] rfl (SX1_wantedBy_0 C r (fun M' x1' x2' x3' hj => (all _) M' x1' x2' x3' hj (Nat.lt_succ_self _)) h0)
def VX1_becomeLike_k_0 (E : FX) (l : Launch) (D : Nat) (post : Option AV → MM → Prop) (M : MM) : Prop :=
  Con E l D qX7_fill [vr 21, vr 10] M (fun r M1 => r = none ∧ (∀ M3 : MM, M3 = up M1 20 1 (M1 9 1) → (post none M3)))
set_option maxRecDepth 20000 in
theorem SX1_becomeLike_k_0 {E : FX} {l : Launch} {D : Nat} {post : Option AV → MM → Prop} {z : RT} (C : Cx E z D RX1 cX1_becomeLike 2) (r : Rt E z none post) {M : MM} (h : VX1_becomeLike_k_0 E l D post M) : Aj E l z 0 [(0, vr 20), (1, vr 9)] [] M := by
  unfold VX1_becomeLike_k_0 at h
  refine v_aload_n (i := 0) C dX1_becomeLike_0 rfl rfl ?_
  refine v_getf (k := 20) C fl_RX1_9 rfl rfl dX1_becomeLike_1 ?_
  show Aj E l z (1 + 3) [(0, vr 20), (1, vr 9)] [vr 21] M
  refine v_aload_n (i := 1) C dX1_becomeLike_4 rfl rfl ?_
  refine v_getf (k := 9) C fl_RX1_9 rfl rfl dX1_becomeLike_5 ?_
  show Aj E l z (5 + 3) [(0, vr 20), (1, vr 9)] [vr 10, vr 21] M
  refine v_callS (q := qX7_fill) (As := [vr 21, vr 10]) (S := []) C co_yX7_fill ml_RX1_15 st_yX7_fill ini_RX7 hq_X7_fill (by decide) (Nat.le_of_ble_eq_true rfl) rfl dX1_becomeLike_8 (Con.mono h (fun rr M1 hr => ?_) (Nat.le_refl _))
  obtain ⟨rfl, g2⟩ := hr
  show Aj E l z (8 + 3) [(0, vr 20), (1, vr 9)] [] M1
  refine v_aload_n (i := 0) C dX1_becomeLike_11 rfl rfl ?_
  refine v_aload_n (i := 1) C dX1_becomeLike_12 rfl rfl ?_
  refine v_getf (k := 9) C fl_RX1_21 rfl rfl dX1_becomeLike_13 ?_
  show Aj E l z (13 + 3) [(0, vr 20), (1, vr 9)] [vi (M1 9 1), vr 20] M1
  refine v_putf (k := 20) (x := M1 9 1) (t := 0) C fp_RX1_21 rfl rfl (by decide) (by simp [fv, up]) rfl rfl dX1_becomeLike_16 ?_
  obtain ⟨M3, hM3⟩ : ∃ X : MM, X = up M1 20 1 (M1 9 1) := ⟨_, rfl⟩
  refine v_eqM hM3 ?_
  have g4 := g2 M3 hM3
  exact v_vret C r dX1_becomeLike_19 g4
theorem RX1_becomeLike_k {E : FX} {l : Launch} {D : Nat} {post : Option AV → MM → Prop} {M : MM} (h0 : VX1_becomeLike_k_0 E l D post M) : Con E l (D + 1) qX1_becomeLike [vr 20, vr 9] M post := by
  refine con_of (by decide +kernel) (Nat.le_of_ble_eq_true rfl) (fun z C r => ?_)
  exact v_sub [0, 1] rfl (SX1_becomeLike_k_0 C r h0)
def VX1_becomeLike_m_0 (E : FX) (l : Launch) (D : Nat) (post : Option AV → MM → Prop) (M : MM) : Prop :=
  Con E l D qX7_fill [vr 10, vr 21] M (fun r M1 => r = none ∧ (∀ M3 : MM, M3 = up M1 9 1 (M1 20 1) → (post none M3)))
set_option maxRecDepth 20000 in
theorem SX1_becomeLike_m_0 {E : FX} {l : Launch} {D : Nat} {post : Option AV → MM → Prop} {z : RT} (C : Cx E z D RX1 cX1_becomeLike 2) (r : Rt E z none post) {M : MM} (h : VX1_becomeLike_m_0 E l D post M) : Aj E l z 0 [(0, vr 9), (1, vr 20)] [] M := by
  unfold VX1_becomeLike_m_0 at h
  refine v_aload_n (i := 0) C dX1_becomeLike_0 rfl rfl ?_
  refine v_getf (k := 9) C fl_RX1_9 rfl rfl dX1_becomeLike_1 ?_
  show Aj E l z (1 + 3) [(0, vr 9), (1, vr 20)] [vr 10] M
  refine v_aload_n (i := 1) C dX1_becomeLike_4 rfl rfl ?_
  refine v_getf (k := 20) C fl_RX1_9 rfl rfl dX1_becomeLike_5 ?_
  show Aj E l z (5 + 3) [(0, vr 9), (1, vr 20)] [vr 21, vr 10] M
  refine v_callS (q := qX7_fill) (As := [vr 10, vr 21]) (S := []) C co_yX7_fill ml_RX1_15 st_yX7_fill ini_RX7 hq_X7_fill (by decide) (Nat.le_of_ble_eq_true rfl) rfl dX1_becomeLike_8 (Con.mono h (fun rr M1 hr => ?_) (Nat.le_refl _))
  obtain ⟨rfl, g2⟩ := hr
  show Aj E l z (8 + 3) [(0, vr 9), (1, vr 20)] [] M1
  refine v_aload_n (i := 0) C dX1_becomeLike_11 rfl rfl ?_
  refine v_aload_n (i := 1) C dX1_becomeLike_12 rfl rfl ?_
  refine v_getf (k := 20) C fl_RX1_21 rfl rfl dX1_becomeLike_13 ?_
  show Aj E l z (13 + 3) [(0, vr 9), (1, vr 20)] [vi (M1 20 1), vr 9] M1
  refine v_putf (k := 9) (x := M1 20 1) (t := 0) C fp_RX1_21 rfl rfl (by decide) (by simp [fv, up]) rfl rfl dX1_becomeLike_16 ?_
  obtain ⟨M3, hM3⟩ : ∃ X : MM, X = up M1 9 1 (M1 20 1) := ⟨_, rfl⟩
  refine v_eqM hM3 ?_
  have g4 := g2 M3 hM3
  exact v_vret C r dX1_becomeLike_19 g4
theorem RX1_becomeLike_m {E : FX} {l : Launch} {D : Nat} {post : Option AV → MM → Prop} {M : MM} (h0 : VX1_becomeLike_m_0 E l D post M) : Con E l (D + 1) qX1_becomeLike [vr 9, vr 20] M post := by
  refine con_of (by decide +kernel) (Nat.le_of_ble_eq_true rfl) (fun z C r => ?_)
  exact v_sub [0, 1] rfl (SX1_becomeLike_m_0 C r h0)
