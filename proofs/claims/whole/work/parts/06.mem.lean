/-- a field that is linked: the pool's entry idx of the class own is the j-th field of the ci-th class -/
def FL (own : String) (idx ci j : Nat) : Prop := ∃ (C : String) (T : u_T) (N : Nat), vwCl[ci]? = some (C, T, N) ∧ j < N ∧ Cond.fieldLink own idx (T j).1 (T j).2.1 (T j).2.2.1 ∈ GW
/-- .. that may be written, of a type -/
def FP (own : String) (idx ci j : Nat) (ty : FieldType) : Prop := ∃ (C : String) (T : u_T) (N : Nat), vwCl[ci]? = some (C, T, N) ∧ j < N ∧ Cond.fieldLink own idx (T j).1 (T j).2.1 (T j).2.2.1 ∈ GW ∧ (T j).2.2.2 = false ∧ parseFieldDescriptor (T j).2.2.1 = some ty
def clsOk (q : vw_C) : Prop := (∀ w ∈ u_ws q.1 q.2.1 q.2.2, w ∈ GW) ∧ (∃ ty0 : Nat → FieldType, ∀ k, k < q.2.2 → parseFieldDescriptor (q.2.1 k).2.2.1 = some (ty0 k)) ∧ ∀ a, a < q.2.2 → ∀ b, b < q.2.2 → a ≠ b → (q.2.1 a).2.1 ≠ (q.2.1 b).2.1
theorem cls_ok : ∀ q ∈ vwCl, clsOk q :=
  List.forall_mem_cons.mpr ⟨⟨ly_RX0, ⟨_, tyX0_ok⟩, nmX0⟩, List.forall_mem_cons.mpr ⟨⟨ly_RX1, ⟨_, tyX1_ok⟩, nmX1⟩, List.forall_mem_cons.mpr ⟨⟨ly_RX3, ⟨_, tyX3_ok⟩, nmX3⟩, List.forall_mem_cons.mpr ⟨⟨ly_RX4, ⟨_, tyX4_ok⟩, nmX4⟩, List.forall_mem_cons.mpr ⟨⟨ly_RX5, ⟨_, tyX5_ok⟩, nmX5⟩, List.forall_mem_cons.mpr ⟨⟨ly_RX6, ⟨_, tyX6_ok⟩, nmX6⟩, List.forall_mem_cons.mpr ⟨⟨ly_RX8, ⟨_, tyX8_ok⟩, nmX8⟩, List.forall_mem_cons.mpr ⟨⟨ly_RX9, ⟨_, tyX9_ok⟩, nmX9⟩, List.forall_mem_cons.mpr ⟨⟨ly_RX10, ⟨_, tyX10_ok⟩, nmX10⟩, List.forall_mem_cons.mpr ⟨⟨ly_RX11, ⟨_, tyX11_ok⟩, nmX11⟩, List.forall_mem_cons.mpr ⟨⟨ly_RX12, ⟨_, tyX12_ok⟩, nmX12⟩, fun _ h => absurd h List.not_mem_nil⟩⟩⟩⟩⟩⟩⟩⟩⟩⟩⟩
theorem cel_ob {E : FX} {M : MM} {k ci : Nat} (h : kd k = (3, ci)) : cel E M k = .inr (ci, fls E.1 M k) := by
  unfold cel
  rw [h]
  rfl
theorem cel_i {E : FX} {M : MM} {k n : Nat} (h : kd k = (0, n)) : cel E M k = .inl (E.2.2.1, n, .inl (fun j => Int32.ofInt (M k j))) := by
  unfold cel
  rw [h]
  rfl
theorem cel_j {E : FX} {M : MM} {k n : Nat} (h : kd k = (1, n)) : cel E M k = .inl (E.2.2.2.1, n, .inr (.inl (fun j => Int64.ofInt (M k j)))) := by
  unfold cel
  rw [h]
  rfl
theorem cel_q {E : FX} {M : MM} {k n : Nat} (h : kd k = (2, n)) : cel E M k = .inl (E.2.2.2.2, n, .inr (.inr (.inr (.inr (fun j => some (E.1 (29 + j))))))) := by
  unfold cel
  rw [h]
  rfl
theorem kd_lt {k a b : Nat} (h : kd k = (a, b)) (ha : a < 4) : k < 56 := by
  apply Decidable.byContradiction
  intro hk
  unfold kd at h
  split at h <;> first | omega | (cases h; omega)
theorem nat_i32 {i : Int} {n : Nat} (h0 : 0 ≤ i) (h1 : i < n) (hn : n < 1000) : vp_in (Int32.ofInt i) n ∧ (Int32.ofInt i).toNatClampNeg = i.toNat := by
  have e := Int32.toNatClampNeg_ofInt_of_le (n := i) (by omega) (by omega)
  refine ⟨?_, e⟩
  unfold vp_in
  rw [e]
  intro q
  rcases q with q | q
  · have := (i32_lt (a := i) (b := 0) (by unfold R32; omega) (by decide)).mp q
    omega
  · omega
theorem kd_n {k a b : Nat} (h : kd k = (a, b)) (ha : a < 3) : b < 1000 := by
  unfold kd at h
  split at h <;> (cases h; omega)
section MEM
variable {E : FX} {l : Launch} {z : RT} {D : Nat} {own : String} {cc : ByteArray} {nL pc : Nat} {L : LV} {S : List AV} {M : MM}
theorem v_getf {idx ci j k t : Nat} (C : Cx E z D own cc nL) (f : FL own idx ci j) (hk : kd k = (3, ci)) (ht : (ft k)[j]? = some t) (d : decode cc pc = .ok (.getfield idx, 3)) (K : Aj E l z (pc + 3) L (fv M k j t :: S) M) : Aj E l z pc L (vr k :: S) M := by
  obtain ⟨A, p, e, R, s, m, args, below, meth, c, cells, slots, Q⟩ := z
  obtain ⟨Cn, T, N, hc, hj, hw⟩ := f
  intro H locs ls hP hS hL
  have hkl := kd_lt hk (by decide)
  exact va_get (D := E.2.1) C.1 C.2.1 C.2.2.2.2.1 (cls_ok _ (List.mem_of_getElem? hc)).1 C.2.2.2.1 C.2.2.2.2.2.1 hP k (by rw [wM_at E M hkl, cel_ob hk]) hc j hj (C.2.2.2.2.1 _ hw) (fun _ h => h) (fls_at E.1 M ht) d (K H locs ls hP hS hL)
theorem v_putf {idx ci j k t : Nat} {ty : FieldType} {x : Int} {v : AV} (C : Cx E z D own cc nL) (f : FP own idx ci j ty) (hk : kd k = (3, ci)) (ht : (ft k)[j]? = some t) (ht2 : t < 2) (hv : v = fv (up M k j x) k j t) (hn : narrow ty (xv E.1 v) = xv E.1 v) (hf : fits ty (xv E.1 v) = true) (d : decode cc pc = .ok (.putfield idx, 3)) (K : Aj E l z (pc + 3) L S (up M k j x)) : Aj E l z pc L (v :: vr k :: S) M := by
  obtain ⟨A, p, e, R, s, m, args, below, meth, c, cells, slots, Q⟩ := z
  obtain ⟨Cn, T, N, hc, hj, hw, hfin, hd⟩ := f
  intro H locs ls hP hS hL
  have hkl := kd_lt hk (by decide)
  obtain ⟨o1, ⟨ty0, o2⟩, o3⟩ := cls_ok _ (List.mem_of_getElem? hc)
  refine va_put (D := E.2.1) C.1 C.2.1 C.2.2.2.2.1 o1 ty0 o2 o3 C.2.2.2.1 C.2.2.2.2.2.1 hP (wM_D C.2.2.2.2.2.2.1 C.2.2.2.2.2.2.2.1 M) hS k (by rw [wM_at E M hkl, cel_ob hk]) hc j hj (C.2.2.2.2.1 _ hw) (fun _ h => h) hfin hd hn hf ?_ d (fun H1 locs1 hP1 _ hS1 => ?_)
  · have := (List.getElem?_eq_some_iff.mp (fls_at E.1 M ht)).1
    exact this
  · refine K H1 locs1 ls ?_ hS1 hL
    have e1 : (wM E M).set k (E.1 k, .inr (ci, (fls E.1 M k).set j (xv E.1 v))) = wM E (up M k j x) := by
      rw [← wM_up E M hkl, cel_ob hk, hv, fls_set E.1 M ht ht2]
    rw [← e1]
    exact hP1
theorem v_iald {k n : Nat} {i : Int} (C : Cx E z D own cc nL) (hk : kd k = (0, n)) (h0 : 0 ≤ i) (h1 : i < n) (d : decode cc pc = .ok (.iaload, 1)) (K : Aj E l z (pc + 1) L (vi (M k i.toNat) :: S) M) : Aj E l z pc L (vi i :: vr k :: S) M := by
  obtain ⟨A, p, e, R, s, m, args, below, meth, c, cells, slots, Q⟩ := z
  intro H locs ls hP hS hL
  have hkl := kd_lt hk (by decide)
  obtain ⟨g1, g2⟩ := nat_i32 h0 h1 (kd_n hk (by decide))
  have K1 := K H locs ls hP hS hL
  rw [← g2] at K1
  exact va_iald (D := E.2.1) (f := fun j => Int32.ofInt (M k j)) C.1 C.2.1 C.2.2.2.2.2.1 hP k 0 (by rw [wM_at E M hkl, cel_i hk]) rfl g1 d K1
theorem v_lald {k n : Nat} {i : Int} (C : Cx E z D own cc nL) (hk : kd k = (1, n)) (h0 : 0 ≤ i) (h1 : i < n) (d : decode cc pc = .ok (.laload, 1)) (K : Aj E l z (pc + 1) L (vj (M k i.toNat) :: S) M) : Aj E l z pc L (vi i :: vr k :: S) M := by
  obtain ⟨A, p, e, R, s, m, args, below, meth, c, cells, slots, Q⟩ := z
  intro H locs ls hP hS hL
  have hkl := kd_lt hk (by decide)
  obtain ⟨g1, g2⟩ := nat_i32 h0 h1 (kd_n hk (by decide))
  have K1 := K H locs ls hP hS hL
  rw [← g2] at K1
  exact va_lald (D := E.2.1) (f := fun j => Int64.ofInt (M k j)) C.1 C.2.1 C.2.2.2.2.2.1 hP k 1 (by rw [wM_at E M hkl, cel_j hk]) rfl g1 d K1
theorem v_aald {k n : Nat} {i : Int} (C : Cx E z D own cc nL) (hk : kd k = (2, n)) (h0 : 0 ≤ i) (h1 : i < n) (d : decode cc pc = .ok (.aaload, 1)) (K : Aj E l z (pc + 1) L (vr (29 + i.toNat) :: S) M) : Aj E l z pc L (vi i :: vr k :: S) M := by
  obtain ⟨A, p, e, R, s, m, args, below, meth, c, cells, slots, Q⟩ := z
  intro H locs ls hP hS hL
  have hkl := kd_lt hk (by decide)
  obtain ⟨g1, g2⟩ := nat_i32 h0 h1 (kd_n hk (by decide))
  have K1 := K H locs ls hP hS hL
  rw [← g2] at K1
  exact va_aldq (D := E.2.1) (f := fun j => some (E.1 (29 + j))) C.1 C.2.1 C.2.2.2.2.2.1 hP k 2 (by rw [wM_at E M hkl, cel_q hk]) rfl g1 d K1
theorem up_i (M : MM) (k i : Nat) (x : Int) : (fun j => Int32.ofInt (up M k i x k j)) = upd (fun j => Int32.ofInt (M k j)) i (Int32.ofInt x) := by
  funext j
  unfold upd up
  by_cases h : j = i <;> simp [h]
theorem up_j (M : MM) (k i : Nat) (x : Int) : (fun j => Int64.ofInt (up M k i x k j)) = vp_updL (fun j => Int64.ofInt (M k j)) i (Int64.ofInt x) := by
  funext j
  unfold vp_updL up
  by_cases h : j = i <;> simp [h]
theorem v_iast {k n : Nat} {i x : Int} (C : Cx E z D own cc nL) (hk : kd k = (0, n)) (h0 : 0 ≤ i) (h1 : i < n) (d : decode cc pc = .ok (.iastore, 1)) (K : Aj E l z (pc + 1) L S (up M k i.toNat x)) : Aj E l z pc L (vi x :: vi i :: vr k :: S) M := by
  obtain ⟨A, p, e, R, s, m, args, below, meth, c, cells, slots, Q⟩ := z
  intro H locs ls hP hS hL
  have hkl := kd_lt hk (by decide)
  obtain ⟨g1, g2⟩ := nat_i32 h0 h1 (kd_n hk (by decide))
  refine va_iast (D := E.2.1) C.1 C.2.1 C.2.2.2.2.2.1 hP (wM_D C.2.2.2.2.2.2.1 C.2.2.2.2.2.2.2.1 M) hS k 0 (by rw [wM_at E M hkl, cel_i hk]) rfl g1 d (fun H1 locs1 hP1 _ hS1 => ?_)
  refine K H1 locs1 ls ?_ hS1 hL
  have e1 : (wM E M).set k (E.1 k, .inl (E.2.2.1, n, .inl (upd (fun j => Int32.ofInt (M k j)) (Int32.ofInt i).toNatClampNeg (Int32.ofInt x)))) = wM E (up M k i.toNat x) := by
    rw [← wM_up E M hkl, cel_i hk, up_i, g2]
  rw [← e1]
  exact hP1
theorem v_last {k n : Nat} {i x : Int} (C : Cx E z D own cc nL) (hk : kd k = (1, n)) (h0 : 0 ≤ i) (h1 : i < n) (d : decode cc pc = .ok (.lastore, 1)) (K : Aj E l z (pc + 1) L S (up M k i.toNat x)) : Aj E l z pc L (vj x :: vi i :: vr k :: S) M := by
  obtain ⟨A, p, e, R, s, m, args, below, meth, c, cells, slots, Q⟩ := z
  intro H locs ls hP hS hL
  have hkl := kd_lt hk (by decide)
  obtain ⟨g1, g2⟩ := nat_i32 h0 h1 (kd_n hk (by decide))
  refine va_last (D := E.2.1) C.1 C.2.1 C.2.2.2.2.2.1 hP (wM_D C.2.2.2.2.2.2.1 C.2.2.2.2.2.2.2.1 M) hS k 1 (by rw [wM_at E M hkl, cel_j hk]) rfl g1 d (fun H1 locs1 hP1 _ hS1 => ?_)
  refine K H1 locs1 ls ?_ hS1 hL
  have e1 : (wM E M).set k (E.1 k, .inl (E.2.2.2.1, n, .inr (.inl (vp_updL (fun j => Int64.ofInt (M k j)) (Int32.ofInt i).toNatClampNeg (Int64.ofInt x))))) = wM E (up M k i.toNat x) := by
    rw [← wM_up E M hkl, cel_j hk, up_j, g2]
  rw [← e1]
  exact hP1
theorem v_alen {k a n : Nat} (C : Cx E z D own cc nL) (hk : kd k = (a, n)) (ha : a < 3) (d : decode cc pc = .ok (.arraylength, 1)) (K : Aj E l z (pc + 1) L (vi n :: S) M) : Aj E l z pc L (vr k :: S) M := by
  obtain ⟨A, p, e, R, s, m, args, below, meth, c, cells, slots, Q⟩ := z
  intro H locs ls hP hS hL
  have hkl := kd_lt hk (by omega)
  have K1 := K H locs ls hP hS hL
  have hn : Int32.ofNat n = Int32.ofInt (n : Int) := (Int32.ofInt_eq_ofNat (n := n)).symm
  match a, ha, hk with
  | 0, _, hk => exact va_alen (D := E.2.1) C.1 C.2.1 C.2.2.2.2.2.1 hP k 0 (by rw [wM_at E M hkl, cel_i hk]) rfl hn d K1
  | 1, _, hk => exact va_alen (D := E.2.1) C.1 C.2.1 C.2.2.2.2.2.1 hP k 1 (by rw [wM_at E M hkl, cel_j hk]) rfl hn d K1
  | 2, _, hk => exact va_alen (D := E.2.1) C.1 C.2.1 C.2.2.2.2.2.1 hP k 2 (by rw [wM_at E M hkl, cel_q hk]) rfl hn d K1
/-! the enum -/
theorem Cx.enum {A : Nat → Prop} {p : Program} {e : Env} {R : Room} {s : State} {m : MethodId} {args : Array Value} {below : List Frame} {meth : Method} {c : Code} {cells slots : Nat} {Q : State → Prop} (C : Cx E (A, p, e, R, s, m, args, below, meth, c, cells, slots, Q) D own cc nL) : EW E A s s.heap := C.2.2.2.2.2.2.2.2.2.1
theorem v_gCloths {idx : Nat} (C : Cx E z D own cc nL) (w : Cond.fieldLink own idx "WholeMarks" "CLOTHS" "[LWholeMarks$Cloth;" ∈ GW) (d : decode cc pc = .ok (.getstatic idx, 3)) (K : Aj E l z (pc + 3) L (vr 100 :: S) M) : Aj E l z pc L S M := by
  obtain ⟨A, p, e, R, s, m, args, below, meth, c, cells, slots, Q⟩ := z
  intro H locs ls hP hS hL
  exact va_gets C.1 C.2.1 C.enum.1 hS C.2.2.2.1 (C.2.2.2.2.1 _ w) (fun _ h => h) d (K H locs ls hP hS hL)
theorem v_gClothsN (C : Cx E z D RX0 cc nL) (d : decode cc pc = .ok (.getstatic 79, 3)) (K : Aj E l z (pc + 3) L (vr 100 :: S) M) : Aj E l z pc L S M := by
  obtain ⟨A, p, e, R, s, m, args, below, meth, c, cells, slots, Q⟩ := z
  intro H locs ls hP hS hL
  exact va_getsN C.1 C.2.1 C.enum.1 hS C.2.2.2.1 (va_Nw.use rfl C.enum.2.2.2.2.2) (fun _ h => h) d (K H locs ls hP hS hL)
theorem v_gLinen {idx : Nat} (C : Cx E z D own cc nL) (w : Cond.fieldLink own idx "WholeMarks$Cloth" "LINEN" "LWholeMarks$Cloth;" ∈ GW) (d : decode cc pc = .ok (.getstatic idx, 3)) (K : Aj E l z (pc + 3) L (vr 101 :: S) M) : Aj E l z pc L S M := by
  obtain ⟨A, p, e, R, s, m, args, below, meth, c, cells, slots, Q⟩ := z
  intro H locs ls hP hS hL
  exact va_gets C.1 C.2.1 C.enum.2.2.1 hS C.2.2.2.1 (C.2.2.2.2.1 _ w) (fun _ h => h) d (K H locs ls hP hS hL)
theorem v_clLen (C : Cx E z D own cc nL) (d : decode cc pc = .ok (.arraylength, 1)) (K : Aj E l z (pc + 1) L (vi 4 :: S) M) : Aj E l z pc L (vr 100 :: S) M := by
  obtain ⟨A, p, e, R, s, m, args, below, meth, c, cells, slots, Q⟩ := z
  intro H locs ls hP hS hL
  exact va_tlen C.1 C.2.1 C.enum.2.1 hS rfl d (K H locs ls hP hS hL)
theorem v_clAld {i : Int} (C : Cx E z D own cc nL) (h0 : 0 ≤ i) (h1 : i < 4) (d : decode cc pc = .ok (.aaload, 1)) (K : Aj E l z (pc + 1) L (vr (101 + i.toNat) :: S) M) : Aj E l z pc L (vi i :: vr 100 :: S) M := by
  obtain ⟨A, p, e, R, s, m, args, below, meth, c, cells, slots, Q⟩ := z
  intro H locs ls hP hS hL
  obtain ⟨g1, g2⟩ := nat_i32 (n := 4) h0 h1 (by decide)
  exact vb_tq C.1 C.2.1 C.enum.2.1 hS g1 (by rw [g2]; rfl) d (K H locs ls hP hS hL)
theorem v_clCut {idx i : Nat} (C : Cx E z D own cc nL) (hi : i < 4) (w : Cond.fieldLink own idx "WholeMarks$Cloth" "lostByCut" "I" ∈ GW) (d : decode cc pc = .ok (.getfield idx, 3)) (K : Aj E l z (pc + 3) L (vi (lbc i) :: S) M) : Aj E l z pc L (vr (101 + i) :: S) M := by
  obtain ⟨A, p, e, R, s, m, args, below, meth, c, cells, slots, Q⟩ := z
  intro H locs ls hP hS hL
  exact vk_getf C.1 C.2.1 (C.enum.2.2.2.1 i hi) hS C.2.2.2.1 (C.2.2.2.2.1 _ w) (fun _ h => h) d (K H locs ls hP hS hL)
theorem v_clSeam {idx i : Nat} (C : Cx E z D own cc nL) (hi : i < 4) (w : Cond.fieldLink own idx "WholeMarks$Cloth" "losesBySeam" "Z" ∈ GW) (d : decode cc pc = .ok (.getfield idx, 3)) (K : Aj E l z (pc + 3) L (vi (lbs i) :: S) M) : Aj E l z pc L (vr (101 + i) :: S) M := by
  obtain ⟨A, p, e, R, s, m, args, below, meth, c, cells, slots, Q⟩ := z
  intro H locs ls hP hS hL
  exact vk_getf C.1 C.2.1 (C.enum.2.2.2.2.1 i hi) hS C.2.2.2.1 (C.2.2.2.2.1 _ w) (fun _ h => h) d (K H locs ls hP hS hL)
end MEM
