abbrev R32 (a : Int) : Prop := -2147483648 ≤ a ∧ a ≤ 2147483647
abbrev R64 (a : Int) : Prop := -9223372036854775808 ≤ a ∧ a ≤ 9223372036854775807
theorem i32_lt {a b : Int} (ha : R32 a) (hb : R32 b) : Int32.ofInt a < Int32.ofInt b ↔ a < b := Int32.ofInt_lt_iff_lt ha.1 ha.2 hb.1 hb.2
theorem i32_le {a b : Int} (ha : R32 a) (hb : R32 b) : Int32.ofInt a ≤ Int32.ofInt b ↔ a ≤ b := Int32.ofInt_le_iff_le ha.1 ha.2 hb.1 hb.2
theorem i32_eq {a b : Int} (ha : R32 a) (hb : R32 b) : Int32.ofInt a = Int32.ofInt b ↔ a = b := by
  rw [← Int32.toInt_inj, Int32.toInt_ofInt_of_le ha.1 (by have := ha.2; omega), Int32.toInt_ofInt_of_le hb.1 (by have := hb.2; omega)]
theorem i64_lt {a b : Int} (ha : R64 a) (hb : R64 b) : Int64.ofInt a < Int64.ofInt b ↔ a < b := Int64.ofInt_lt_iff_lt ha.1 ha.2 hb.1 hb.2
theorem i64_eq {a b : Int} (ha : R64 a) (hb : R64 b) : Int64.ofInt a = Int64.ofInt b ↔ a = b := by
  rw [← Int64.toInt_inj, Int64.toInt_ofInt_of_le ha.1 (by have := ha.2; omega), Int64.toInt_ofInt_of_le hb.1 (by have := hb.2; omega)]
theorem i32_0 : (0 : Int32) = Int32.ofInt 0 := rfl
theorem r32_0 : R32 0 := by decide
/-! bits, by the machine's own words -/
def iand (a b : Int) : Int := (Int32.ofInt a &&& Int32.ofInt b).toInt
def ior (a b : Int) : Int := (Int32.ofInt a ||| Int32.ofInt b).toInt
def ishl (a b : Int) : Int := (Int32.ofInt a <<< (Int32.ofInt b &&& 31)).toInt
def ishr (a b : Int) : Int := (Int32.ofInt a >>> (Int32.ofInt b &&& 31)).toInt
def jand (a b : Int) : Int := (Int64.ofInt a &&& Int64.ofInt b).toInt
def jor (a b : Int) : Int := (Int64.ofInt a ||| Int64.ofInt b).toInt
def jshl (a b : Int) : Int := (Int64.ofInt a <<< ((Int32.ofInt b).toInt64 &&& 63)).toInt
def jshr (a b : Int) : Int := (Int64.ofInt a >>> ((Int32.ofInt b).toInt64 &&& 63)).toInt
def jushr (a b : Int) : Int := (((Int64.ofInt a).toUInt64 >>> ((Int32.ofInt b).toInt64.toUInt64 &&& Int64.toUInt64 63)).toInt64).toInt
/-- a long's low half; an int's low half -/
def w32 (a : Int) : Int := (Int32.ofInt a).toInt
def w16 (a : Int) : Int := (Int32.ofInt a).toInt16.toInt32.toInt
def lcI (a b : Int) : Int := if b < a then 1 else if a = b then 0 else -1
theorem w32_eq {a : Int} (h : R32 a) : w32 a = a := by
  unfold w32
  rw [Int32.toInt_ofInt_of_le h.1 (by have := h.2; omega)]
theorem w32_R (a : Int) : R32 (w32 a) := by
  have h1 := Int32.le_toInt (Int32.ofInt a)
  have h2 := Int32.toInt_lt (Int32.ofInt a)
  unfold w32 R32
  omega
section OPS
variable {E : FX} {l : Launch} {z : RT} {D : Nat} {own : String} {cc : ByteArray} {nL pc : Nat} {L : LV} {S : List AV} {M : MM} {a b : Int}
theorem v_iadd (C : Cx E z D own cc nL) (d : decode cc pc = .ok (.iadd, 1)) (K : Aj E l z (pc + 1) L (vi (a + b) :: S) M) : Aj E l z pc L (vi b :: vi a :: S) M := by
  obtain ⟨A, p, e, R, s, m, args, below, meth, c, cells, slots, Q⟩ := z
  intro H locs ls hP hS hL
  refine lv_iadd C.1 C.2.1 d ?_
  have K1 := K H locs ls hP hS hL
  simp only [List.map_cons, xv] at K1 ⊢
  rw [← Int32.ofInt_add]
  exact K1
theorem v_isub (C : Cx E z D own cc nL) (d : decode cc pc = .ok (.isub, 1)) (K : Aj E l z (pc + 1) L (vi (a - b) :: S) M) : Aj E l z pc L (vi b :: vi a :: S) M := by
  obtain ⟨A, p, e, R, s, m, args, below, meth, c, cells, slots, Q⟩ := z
  intro H locs ls hP hS hL
  refine lv_isub C.1 C.2.1 d ?_
  have K1 := K H locs ls hP hS hL
  simp only [List.map_cons, xv] at K1 ⊢
  rw [← Int32.ofInt_sub]
  exact K1
theorem v_imul (C : Cx E z D own cc nL) (d : decode cc pc = .ok (.imul, 1)) (K : Aj E l z (pc + 1) L (vi (a * b) :: S) M) : Aj E l z pc L (vi b :: vi a :: S) M := by
  obtain ⟨A, p, e, R, s, m, args, below, meth, c, cells, slots, Q⟩ := z
  intro H locs ls hP hS hL
  refine lv_imul C.1 C.2.1 d ?_
  have K1 := K H locs ls hP hS hL
  simp only [List.map_cons, xv] at K1 ⊢
  rw [← Int32.ofInt_mul]
  exact K1
theorem v_ladd (C : Cx E z D own cc nL) (d : decode cc pc = .ok (.ladd, 1)) (K : Aj E l z (pc + 1) L (vj (a + b) :: S) M) : Aj E l z pc L (vj b :: vj a :: S) M := by
  obtain ⟨A, p, e, R, s, m, args, below, meth, c, cells, slots, Q⟩ := z
  intro H locs ls hP hS hL
  refine lv_ladd C.1 C.2.1 d ?_
  have K1 := K H locs ls hP hS hL
  simp only [List.map_cons, xv] at K1 ⊢
  rw [← Int64.ofInt_add]
  exact K1
theorem v_lsub (C : Cx E z D own cc nL) (d : decode cc pc = .ok (.lsub, 1)) (K : Aj E l z (pc + 1) L (vj (a - b) :: S) M) : Aj E l z pc L (vj b :: vj a :: S) M := by
  obtain ⟨A, p, e, R, s, m, args, below, meth, c, cells, slots, Q⟩ := z
  intro H locs ls hP hS hL
  refine lv_lsub C.1 C.2.1 d ?_
  have K1 := K H locs ls hP hS hL
  simp only [List.map_cons, xv] at K1 ⊢
  rw [← Int64.ofInt_sub]
  exact K1
theorem v_lmul (C : Cx E z D own cc nL) (d : decode cc pc = .ok (.lmul, 1)) (K : Aj E l z (pc + 1) L (vj (a * b) :: S) M) : Aj E l z pc L (vj b :: vj a :: S) M := by
  obtain ⟨A, p, e, R, s, m, args, below, meth, c, cells, slots, Q⟩ := z
  intro H locs ls hP hS hL
  refine lv_lmul C.1 C.2.1 d ?_
  have K1 := K H locs ls hP hS hL
  simp only [List.map_cons, xv] at K1 ⊢
  rw [← Int64.ofInt_mul]
  exact K1
theorem v_iand (C : Cx E z D own cc nL) (d : decode cc pc = .ok (.iand, 1)) (K : Aj E l z (pc + 1) L (vi (iand a b) :: S) M) : Aj E l z pc L (vi b :: vi a :: S) M := by
  obtain ⟨A, p, e, R, s, m, args, below, meth, c, cells, slots, Q⟩ := z
  intro H locs ls hP hS hL
  refine lv_iand C.1 C.2.1 d ?_
  have K1 := K H locs ls hP hS hL
  simp only [List.map_cons, xv] at K1 ⊢
  rw [iand, Int32.ofInt_toInt] at K1
  exact K1
theorem v_ior (C : Cx E z D own cc nL) (d : decode cc pc = .ok (.ior, 1)) (K : Aj E l z (pc + 1) L (vi (ior a b) :: S) M) : Aj E l z pc L (vi b :: vi a :: S) M := by
  obtain ⟨A, p, e, R, s, m, args, below, meth, c, cells, slots, Q⟩ := z
  intro H locs ls hP hS hL
  refine lv_ior C.1 C.2.1 d ?_
  have K1 := K H locs ls hP hS hL
  simp only [List.map_cons, xv] at K1 ⊢
  rw [ior, Int32.ofInt_toInt] at K1
  exact K1
theorem v_ishl (C : Cx E z D own cc nL) (d : decode cc pc = .ok (.ishl, 1)) (K : Aj E l z (pc + 1) L (vi (ishl a b) :: S) M) : Aj E l z pc L (vi b :: vi a :: S) M := by
  obtain ⟨A, p, e, R, s, m, args, below, meth, c, cells, slots, Q⟩ := z
  intro H locs ls hP hS hL
  refine lv_ishl C.1 C.2.1 d ?_
  have K1 := K H locs ls hP hS hL
  simp only [List.map_cons, xv] at K1 ⊢
  rw [ishl, Int32.ofInt_toInt] at K1
  exact K1
theorem v_ishr (C : Cx E z D own cc nL) (d : decode cc pc = .ok (.ishr, 1)) (K : Aj E l z (pc + 1) L (vi (ishr a b) :: S) M) : Aj E l z pc L (vi b :: vi a :: S) M := by
  obtain ⟨A, p, e, R, s, m, args, below, meth, c, cells, slots, Q⟩ := z
  intro H locs ls hP hS hL
  refine lv_ishr C.1 C.2.1 d ?_
  have K1 := K H locs ls hP hS hL
  simp only [List.map_cons, xv] at K1 ⊢
  rw [ishr, Int32.ofInt_toInt] at K1
  exact K1
theorem v_land (C : Cx E z D own cc nL) (d : decode cc pc = .ok (.land, 1)) (K : Aj E l z (pc + 1) L (vj (jand a b) :: S) M) : Aj E l z pc L (vj b :: vj a :: S) M := by
  obtain ⟨A, p, e, R, s, m, args, below, meth, c, cells, slots, Q⟩ := z
  intro H locs ls hP hS hL
  refine lv_land C.1 C.2.1 d ?_
  have K1 := K H locs ls hP hS hL
  simp only [List.map_cons, xv] at K1 ⊢
  rw [jand, Int64.ofInt_toInt] at K1
  exact K1
theorem v_lor (C : Cx E z D own cc nL) (d : decode cc pc = .ok (.lor, 1)) (K : Aj E l z (pc + 1) L (vj (jor a b) :: S) M) : Aj E l z pc L (vj b :: vj a :: S) M := by
  obtain ⟨A, p, e, R, s, m, args, below, meth, c, cells, slots, Q⟩ := z
  intro H locs ls hP hS hL
  refine lv_lor C.1 C.2.1 d ?_
  have K1 := K H locs ls hP hS hL
  simp only [List.map_cons, xv] at K1 ⊢
  rw [jor, Int64.ofInt_toInt] at K1
  exact K1
theorem v_lshl (C : Cx E z D own cc nL) (d : decode cc pc = .ok (.lshl, 1)) (K : Aj E l z (pc + 1) L (vj (jshl a b) :: S) M) : Aj E l z pc L (vi b :: vj a :: S) M := by
  obtain ⟨A, p, e, R, s, m, args, below, meth, c, cells, slots, Q⟩ := z
  intro H locs ls hP hS hL
  refine lv_lshl C.1 C.2.1 d rfl ?_
  have K1 := K H locs ls hP hS hL
  simp only [List.map_cons, xv] at K1 ⊢
  rw [jshl, Int64.ofInt_toInt] at K1
  exact K1
theorem v_lshr (C : Cx E z D own cc nL) (d : decode cc pc = .ok (.lshr, 1)) (K : Aj E l z (pc + 1) L (vj (jshr a b) :: S) M) : Aj E l z pc L (vi b :: vj a :: S) M := by
  obtain ⟨A, p, e, R, s, m, args, below, meth, c, cells, slots, Q⟩ := z
  intro H locs ls hP hS hL
  refine lv_lshr C.1 C.2.1 d rfl ?_
  have K1 := K H locs ls hP hS hL
  simp only [List.map_cons, xv] at K1 ⊢
  rw [jshr, Int64.ofInt_toInt] at K1
  exact K1
theorem v_lushr (C : Cx E z D own cc nL) (d : decode cc pc = .ok (.lushr, 1)) (K : Aj E l z (pc + 1) L (vj (jushr a b) :: S) M) : Aj E l z pc L (vi b :: vj a :: S) M := by
  obtain ⟨A, p, e, R, s, m, args, below, meth, c, cells, slots, Q⟩ := z
  intro H locs ls hP hS hL
  refine lv_lushr C.1 C.2.1 d rfl ?_
  have K1 := K H locs ls hP hS hL
  simp only [List.map_cons, xv] at K1 ⊢
  rw [jushr, Int64.ofInt_toInt] at K1
  exact K1
theorem i32_ne0 {b : Int} (hb : R32 b) (h : b ≠ 0) : ¬ Int32.ofInt b = 0 := fun e => h ((i32_eq hb r32_0).mp e)
theorem i64_ne0 {b : Int} (hb : R64 b) (h : b ≠ 0) : ¬ Int64.ofInt b = 0 := fun e => h ((i64_eq hb (by decide)).mp e)
theorem v_idiv (C : Cx E z D own cc nL) (ha : R32 a) (hb : R32 b) (hb0 : 0 < b) (d : decode cc pc = .ok (.idiv, 1)) (K : Aj E l z (pc + 1) L (vi (a.tdiv b) :: S) M) : Aj E l z pc L (vi b :: vi a :: S) M := by
  obtain ⟨A, p, e, R, s, m, args, below, meth, c, cells, slots, Q⟩ := z
  intro H locs ls hP hS hL
  refine lv_idiv C.1 C.2.1 d (i32_ne0 hb (by omega)) ?_
  have K1 := K H locs ls hP hS hL
  simp only [List.map_cons, xv] at K1 ⊢
  rw [Int32.ofInt_tdiv ha.1 ha.2 hb.1 hb.2] at K1
  exact K1
theorem v_irem (C : Cx E z D own cc nL) (ha : R32 a) (hb : R32 b) (hb0 : 0 < b) (d : decode cc pc = .ok (.irem, 1)) (K : Aj E l z (pc + 1) L (vi (a.tmod b) :: S) M) : Aj E l z pc L (vi b :: vi a :: S) M := by
  obtain ⟨A, p, e, R, s, m, args, below, meth, c, cells, slots, Q⟩ := z
  intro H locs ls hP hS hL
  refine lv_irem C.1 C.2.1 d (i32_ne0 hb (by omega)) ?_
  have K1 := K H locs ls hP hS hL
  simp only [List.map_cons, xv] at K1 ⊢
  have e1 : a.tmod b = a - a.tdiv b * b := by rw [Int.tmod_def, Int.mul_comm]
  rw [e1, Int32.ofInt_sub, Int32.ofInt_mul, Int32.ofInt_tdiv ha.1 ha.2 hb.1 hb.2] at K1
  exact K1
theorem v_ineg (C : Cx E z D own cc nL) (d : decode cc pc = .ok (.ineg, 1)) (K : Aj E l z (pc + 1) L (vi (-a) :: S) M) : Aj E l z pc L (vi a :: S) M := by
  obtain ⟨A, p, e, R, s, m, args, below, meth, c, cells, slots, Q⟩ := z
  intro H locs ls hP hS hL
  refine lv_ineg C.1 C.2.1 d ?_
  have K1 := K H locs ls hP hS hL
  simp only [List.map_cons, xv] at K1 ⊢
  rw [← Int32.ofInt_neg]
  exact K1
theorem v_ldiv (C : Cx E z D own cc nL) (ha : R64 a) (hb : R64 b) (hb0 : 0 < b) (d : decode cc pc = .ok (.ldiv, 1)) (K : Aj E l z (pc + 1) L (vj (a.tdiv b) :: S) M) : Aj E l z pc L (vj b :: vj a :: S) M := by
  obtain ⟨A, p, e, R, s, m, args, below, meth, c, cells, slots, Q⟩ := z
  intro H locs ls hP hS hL
  refine lv_ldiv C.1 C.2.1 d (i64_ne0 hb (by omega)) ?_
  have K1 := K H locs ls hP hS hL
  simp only [List.map_cons, xv] at K1 ⊢
  rw [Int64.ofInt_tdiv ha.1 ha.2 hb.1 hb.2] at K1
  exact K1
theorem v_lrem (C : Cx E z D own cc nL) (ha : R64 a) (hb : R64 b) (hb0 : 0 < b) (d : decode cc pc = .ok (.lrem, 1)) (K : Aj E l z (pc + 1) L (vj (a.tmod b) :: S) M) : Aj E l z pc L (vj b :: vj a :: S) M := by
  obtain ⟨A, p, e, R, s, m, args, below, meth, c, cells, slots, Q⟩ := z
  intro H locs ls hP hS hL
  refine lv_lrem C.1 C.2.1 d (i64_ne0 hb (by omega)) ?_
  have K1 := K H locs ls hP hS hL
  simp only [List.map_cons, xv] at K1 ⊢
  have e1 : a.tmod b = a - a.tdiv b * b := by rw [Int.tmod_def, Int.mul_comm]
  rw [e1, Int64.ofInt_sub, Int64.ofInt_mul, Int64.ofInt_tdiv ha.1 ha.2 hb.1 hb.2] at K1
  exact K1
theorem v_lneg (C : Cx E z D own cc nL) (d : decode cc pc = .ok (.lneg, 1)) (K : Aj E l z (pc + 1) L (vj (-a) :: S) M) : Aj E l z pc L (vj a :: S) M := by
  obtain ⟨A, p, e, R, s, m, args, below, meth, c, cells, slots, Q⟩ := z
  intro H locs ls hP hS hL
  refine lv_lneg C.1 C.2.1 d ?_
  have K1 := K H locs ls hP hS hL
  simp only [List.map_cons, xv] at K1 ⊢
  rw [← Int64.ofInt_neg]
  exact K1
theorem v_i2l (C : Cx E z D own cc nL) (ha : R32 a) (d : decode cc pc = .ok (.i2l, 1)) (K : Aj E l z (pc + 1) L (vj a :: S) M) : Aj E l z pc L (vi a :: S) M := by
  obtain ⟨A, p, e, R, s, m, args, below, meth, c, cells, slots, Q⟩ := z
  intro H locs ls hP hS hL
  exact lv_i2l C.1 C.2.1 d (Int32.toInt64_ofInt ha.1 ha.2) (K H locs ls hP hS hL)
theorem v_l2i (C : Cx E z D own cc nL) (d : decode cc pc = .ok (.l2i, 1)) (K : Aj E l z (pc + 1) L (vi (w32 a) :: S) M) : Aj E l z pc L (vj a :: S) M := by
  obtain ⟨A, p, e, R, s, m, args, below, meth, c, cells, slots, Q⟩ := z
  intro H locs ls hP hS hL
  exact lv_l2i C.1 C.2.1 d (by rw [Int64.toInt32_ofInt, w32, Int32.ofInt_toInt]) (K H locs ls hP hS hL)
theorem v_i2s (C : Cx E z D own cc nL) (d : decode cc pc = .ok (.i2s, 1)) (K : Aj E l z (pc + 1) L (vi (w16 a) :: S) M) : Aj E l z pc L (vi a :: S) M := by
  obtain ⟨A, p, e, R, s, m, args, below, meth, c, cells, slots, Q⟩ := z
  intro H locs ls hP hS hL
  exact lv_i2s C.1 C.2.1 d (by rw [w16, Int32.ofInt_toInt]) (K H locs ls hP hS hL)
theorem lc_lcI {a b : Int} (ha : R64 a) (hb : R64 b) : lg_cmp (Int64.ofInt a) (Int64.ofInt b) = Int32.ofInt (lcI a b) := by
  unfold lg_cmp lcI
  simp only [gt_iff_lt, i64_lt hb ha, i64_eq ha hb]
  split
  · rfl
  · split <;> rfl
theorem v_lcmp (C : Cx E z D own cc nL) (ha : R64 a) (hb : R64 b) (d : decode cc pc = .ok (.lcmp, 1)) (K : Aj E l z (pc + 1) L (vi (lcI a b) :: S) M) : Aj E l z pc L (vj b :: vj a :: S) M := by
  obtain ⟨A, p, e, R, s, m, args, below, meth, c, cells, slots, Q⟩ := z
  intro H locs ls hP hS hL
  refine W.lcmp C.1 C.2.1 d ?_
  have K1 := K H locs ls hP hS hL
  simp only [List.map_cons, xv] at K1 ⊢
  rw [lc_lcI ha hb]
  exact K1
theorem lcI_R (a b : Int) : R32 (lcI a b) := by 
  unfold lcI R32
  split
  · decide
  · split <;> decide
theorem v_dup {v : AV} (C : Cx E z D own cc nL) (hv : xcat v = 1) (d : decode cc pc = .ok (.dup, 1)) (K : Aj E l z (pc + 1) L (v :: v :: S) M) : Aj E l z pc L (v :: S) M := by
  obtain ⟨A, p, e, R, s, m, args, below, meth, c, cells, slots, Q⟩ := z
  intro H locs ls hP hS hL
  exact lv_dup C.1 C.2.1 d (by rw [xv_cat]; exact hv) (K H locs ls hP hS hL)
theorem v_pop {v : AV} (C : Cx E z D own cc nL) (hv : xcat v = 1) (d : decode cc pc = .ok (.pop, 1)) (K : Aj E l z (pc + 1) L S M) : Aj E l z pc L (v :: S) M := by
  obtain ⟨A, p, e, R, s, m, args, below, meth, c, cells, slots, Q⟩ := z
  intro H locs ls hP hS hL
  exact lv_pop C.1 C.2.1 d (by rw [xv_cat]; exact hv) (K H locs ls hP hS hL)
theorem v_dup_x1 {v w : AV} (C : Cx E z D own cc nL) (hv : xcat v = 1) (hw : xcat w = 1) (d : decode cc pc = .ok (.dup_x1, 1)) (K : Aj E l z (pc + 1) L (v :: w :: v :: S) M) : Aj E l z pc L (v :: w :: S) M := by
  obtain ⟨A, p, e, R, s, m, args, below, meth, c, cells, slots, Q⟩ := z
  intro H locs ls hP hS hL
  exact lv_dup_x1 C.1 C.2.1 d (by rw [xv_cat]; exact hv) (by rw [xv_cat]; exact hw) (K H locs ls hP hS hL)
theorem v_dup2 {v w : AV} (C : Cx E z D own cc nL) (hv : xcat v = 1) (hw : xcat w = 1) (d : decode cc pc = .ok (.dup2, 1)) (K : Aj E l z (pc + 1) L (v :: w :: v :: w :: S) M) : Aj E l z pc L (v :: w :: S) M := by
  obtain ⟨A, p, e, R, s, m, args, below, meth, c, cells, slots, Q⟩ := z
  intro H locs ls hP hS hL
  exact lv_dup2_11 C.1 C.2.1 d (by rw [xv_cat]; exact hv) (by rw [xv_cat]; exact hw) (K H locs ls hP hS hL)
theorem v_aconst (C : Cx E z D own cc nL) (d : decode cc pc = .ok (.aconst_null, 1)) (K : Aj E l z (pc + 1) L (vn :: S) M) : Aj E l z pc L S M := by
  obtain ⟨A, p, e, R, s, m, args, below, meth, c, cells, slots, Q⟩ := z
  intro H locs ls hP hS hL
  exact lv_null C.1 C.2.1 d (K H locs ls hP hS hL)
theorem v_icmp_lt {off : Int} {tgt : Nat} (C : Cx E z D own cc nL) (ha : R32 a) (hb : R32 b) (d : decode cc pc = .ok (.if_icmp .lt off, 3)) (ht : (pc : Int) + off = (tgt : Int)) (kt : a < b → Aj E l z tgt L S M) (kf : ¬ (a < b) → Aj E l z (pc + 3) L S M) : Aj E l z pc L (vi b :: vi a :: S) M := by
  obtain ⟨A, p, e, R, s, m, args, below, meth, c, cells, slots, Q⟩ := z
  intro H locs ls hP hS hL
  exact lv_icmp_lt C.1 C.2.1 d ht (fun q => kt ((i32_lt ha hb).mp q) H locs ls hP hS hL) (fun q => kf (fun h => q ((i32_lt ha hb).mpr h)) H locs ls hP hS hL)
theorem v_icmp_ge {off : Int} {tgt : Nat} (C : Cx E z D own cc nL) (ha : R32 a) (hb : R32 b) (d : decode cc pc = .ok (.if_icmp .ge off, 3)) (ht : (pc : Int) + off = (tgt : Int)) (kt : b ≤ a → Aj E l z tgt L S M) (kf : ¬ (b ≤ a) → Aj E l z (pc + 3) L S M) : Aj E l z pc L (vi b :: vi a :: S) M := by
  obtain ⟨A, p, e, R, s, m, args, below, meth, c, cells, slots, Q⟩ := z
  intro H locs ls hP hS hL
  exact lv_icmp_ge C.1 C.2.1 d ht (fun q => kt ((i32_le hb ha).mp q) H locs ls hP hS hL) (fun q => kf (fun h => q ((i32_le hb ha).mpr h)) H locs ls hP hS hL)
theorem v_icmp_gt {off : Int} {tgt : Nat} (C : Cx E z D own cc nL) (ha : R32 a) (hb : R32 b) (d : decode cc pc = .ok (.if_icmp .gt off, 3)) (ht : (pc : Int) + off = (tgt : Int)) (kt : b < a → Aj E l z tgt L S M) (kf : ¬ (b < a) → Aj E l z (pc + 3) L S M) : Aj E l z pc L (vi b :: vi a :: S) M := by
  obtain ⟨A, p, e, R, s, m, args, below, meth, c, cells, slots, Q⟩ := z
  intro H locs ls hP hS hL
  exact lv_icmp_gt C.1 C.2.1 d ht (fun q => kt ((i32_lt hb ha).mp q) H locs ls hP hS hL) (fun q => kf (fun h => q ((i32_lt hb ha).mpr h)) H locs ls hP hS hL)
theorem v_icmp_le {off : Int} {tgt : Nat} (C : Cx E z D own cc nL) (ha : R32 a) (hb : R32 b) (d : decode cc pc = .ok (.if_icmp .le off, 3)) (ht : (pc : Int) + off = (tgt : Int)) (kt : a ≤ b → Aj E l z tgt L S M) (kf : ¬ (a ≤ b) → Aj E l z (pc + 3) L S M) : Aj E l z pc L (vi b :: vi a :: S) M := by
  obtain ⟨A, p, e, R, s, m, args, below, meth, c, cells, slots, Q⟩ := z
  intro H locs ls hP hS hL
  exact lv_icmp_le C.1 C.2.1 d ht (fun q => kt ((i32_le ha hb).mp q) H locs ls hP hS hL) (fun q => kf (fun h => q ((i32_le ha hb).mpr h)) H locs ls hP hS hL)
theorem v_icmp_eq {off : Int} {tgt : Nat} (C : Cx E z D own cc nL) (ha : R32 a) (hb : R32 b) (d : decode cc pc = .ok (.if_icmp .eq off, 3)) (ht : (pc : Int) + off = (tgt : Int)) (kt : a = b → Aj E l z tgt L S M) (kf : ¬ (a = b) → Aj E l z (pc + 3) L S M) : Aj E l z pc L (vi b :: vi a :: S) M := by
  obtain ⟨A, p, e, R, s, m, args, below, meth, c, cells, slots, Q⟩ := z
  intro H locs ls hP hS hL
  exact lv_icmp_eq C.1 C.2.1 d ht (fun q => kt ((i32_eq ha hb).mp q) H locs ls hP hS hL) (fun q => kf (fun h => q ((i32_eq ha hb).mpr h)) H locs ls hP hS hL)
theorem v_if_lt {off : Int} {tgt : Nat} (C : Cx E z D own cc nL) (ha : R32 a) (d : decode cc pc = .ok (.ifCond .lt off, 3)) (ht : (pc : Int) + off = (tgt : Int)) (kt : a < 0 → Aj E l z tgt L S M) (kf : ¬ (a < 0) → Aj E l z (pc + 3) L S M) : Aj E l z pc L (vi a :: S) M := by
  obtain ⟨A, p, e, R, s, m, args, below, meth, c, cells, slots, Q⟩ := z
  intro H locs ls hP hS hL
  exact lv_if_lt C.1 C.2.1 d ht (fun q => kt ((i32_lt ha r32_0).mp q) H locs ls hP hS hL) (fun q => kf (fun h => q ((i32_lt ha r32_0).mpr h)) H locs ls hP hS hL)
theorem v_if_ge {off : Int} {tgt : Nat} (C : Cx E z D own cc nL) (ha : R32 a) (d : decode cc pc = .ok (.ifCond .ge off, 3)) (ht : (pc : Int) + off = (tgt : Int)) (kt : 0 ≤ a → Aj E l z tgt L S M) (kf : ¬ (0 ≤ a) → Aj E l z (pc + 3) L S M) : Aj E l z pc L (vi a :: S) M := by
  obtain ⟨A, p, e, R, s, m, args, below, meth, c, cells, slots, Q⟩ := z
  intro H locs ls hP hS hL
  exact lv_if_ge C.1 C.2.1 d ht (fun q => kt ((i32_le r32_0 ha).mp q) H locs ls hP hS hL) (fun q => kf (fun h => q ((i32_le r32_0 ha).mpr h)) H locs ls hP hS hL)
theorem v_if_gt {off : Int} {tgt : Nat} (C : Cx E z D own cc nL) (ha : R32 a) (d : decode cc pc = .ok (.ifCond .gt off, 3)) (ht : (pc : Int) + off = (tgt : Int)) (kt : 0 < a → Aj E l z tgt L S M) (kf : ¬ (0 < a) → Aj E l z (pc + 3) L S M) : Aj E l z pc L (vi a :: S) M := by
  obtain ⟨A, p, e, R, s, m, args, below, meth, c, cells, slots, Q⟩ := z
  intro H locs ls hP hS hL
  exact lv_if_gt C.1 C.2.1 d ht (fun q => kt ((i32_lt r32_0 ha).mp q) H locs ls hP hS hL) (fun q => kf (fun h => q ((i32_lt r32_0 ha).mpr h)) H locs ls hP hS hL)
theorem v_if_le {off : Int} {tgt : Nat} (C : Cx E z D own cc nL) (ha : R32 a) (d : decode cc pc = .ok (.ifCond .le off, 3)) (ht : (pc : Int) + off = (tgt : Int)) (kt : a ≤ 0 → Aj E l z tgt L S M) (kf : ¬ (a ≤ 0) → Aj E l z (pc + 3) L S M) : Aj E l z pc L (vi a :: S) M := by
  obtain ⟨A, p, e, R, s, m, args, below, meth, c, cells, slots, Q⟩ := z
  intro H locs ls hP hS hL
  exact lv_if_le C.1 C.2.1 d ht (fun q => kt ((i32_le ha r32_0).mp q) H locs ls hP hS hL) (fun q => kf (fun h => q ((i32_le ha r32_0).mpr h)) H locs ls hP hS hL)
theorem v_if_eq {off : Int} {tgt : Nat} (C : Cx E z D own cc nL) (ha : R32 a) (d : decode cc pc = .ok (.ifCond .eq off, 3)) (ht : (pc : Int) + off = (tgt : Int)) (kt : a = 0 → Aj E l z tgt L S M) (kf : ¬ (a = 0) → Aj E l z (pc + 3) L S M) : Aj E l z pc L (vi a :: S) M := by
  obtain ⟨A, p, e, R, s, m, args, below, meth, c, cells, slots, Q⟩ := z
  intro H locs ls hP hS hL
  exact lv_if_eq C.1 C.2.1 d ht (fun q => kt ((i32_eq ha r32_0).mp q) H locs ls hP hS hL) (fun q => kf (fun h => q ((i32_eq ha r32_0).mpr h)) H locs ls hP hS hL)
theorem v_icmp_ne {off : Int} {tgt : Nat} (C : Cx E z D own cc nL) (ha : R32 a) (hb : R32 b) (d : decode cc pc = .ok (.if_icmp .ne off, 3)) (ht : (pc : Int) + off = (tgt : Int)) (kt : ¬ a = b → Aj E l z tgt L S M) (kf : a = b → Aj E l z (pc + 3) L S M) : Aj E l z pc L (vi b :: vi a :: S) M := by
  obtain ⟨A, p, e, R, s, m, args, below, meth, c, cells, slots, Q⟩ := z
  intro H locs ls hP hS hL
  exact lv_icmp_ne C.1 C.2.1 d ht (fun q => kt (fun h => q ((i32_eq ha hb).mpr h)) H locs ls hP hS hL) (fun q => kf ((i32_eq ha hb).mp q) H locs ls hP hS hL)
theorem v_if_ne {off : Int} {tgt : Nat} (C : Cx E z D own cc nL) (ha : R32 a) (d : decode cc pc = .ok (.ifCond .ne off, 3)) (ht : (pc : Int) + off = (tgt : Int)) (kt : ¬ a = 0 → Aj E l z tgt L S M) (kf : a = 0 → Aj E l z (pc + 3) L S M) : Aj E l z pc L (vi a :: S) M := by
  obtain ⟨A, p, e, R, s, m, args, below, meth, c, cells, slots, Q⟩ := z
  intro H locs ls hP hS hL
  exact lv_if_ne C.1 C.2.1 d ht (fun q => kt (fun h => q ((i32_eq ha r32_0).mpr h)) H locs ls hP hS hL) (fun q => kf ((i32_eq ha r32_0).mp q) H locs ls hP hS hL)
theorem v_icmp_same {off : Int} (C : Cx E z D own cc nL) (h : a = b) (d : decode cc pc = .ok (.if_icmp .eq off, 3)) {tgt : Nat} (ht : (pc : Int) + off = (tgt : Int)) (kt : Aj E l z tgt L S M) : Aj E l z pc L (vi b :: vi a :: S) M := by
  obtain ⟨A, p, e, R, s, m, args, below, meth, c, cells, slots, Q⟩ := z
  intro H locs ls hP hS hL
  subst h
  exact lv_icmp_eq C.1 C.2.1 d ht (fun _ => kt H locs ls hP hS hL) (fun q => absurd rfl q)
theorem v_lcmp_same (C : Cx E z D own cc nL) (h : a = b) (d : decode cc pc = .ok (.lcmp, 1)) (K : Aj E l z (pc + 1) L (vi 0 :: S) M) : Aj E l z pc L (vj b :: vj a :: S) M := by
  obtain ⟨A, p, e, R, s, m, args, below, meth, c, cells, slots, Q⟩ := z
  intro H locs ls hP hS hL
  subst h
  refine W.lcmp C.1 C.2.1 d ?_
  have K1 := K H locs ls hP hS hL
  have e0 : lg_cmp (Int64.ofInt a) (Int64.ofInt a) = Int32.ofInt 0 := by
    have h1 : ¬ Int64.ofInt a < Int64.ofInt a := Int64.lt_irrefl
    simp [lg_cmp, h1]
  simp only [List.map_cons, xv] at K1 ⊢
  rw [e0]
  exact K1
theorem lcI_lt {a b : Int} : lcI a b < 0 ↔ a < b := by
  unfold lcI
  by_cases h1 : b < a
  · rw [if_pos h1]; omega
  · rw [if_neg h1]
    by_cases h2 : a = b
    · rw [if_pos h2]; omega
    · rw [if_neg h2]; omega
theorem v_lif_lt {off : Int} {tgt : Nat} (C : Cx E z D own cc nL) (ha : R64 a) (hb : R64 b) (d : decode cc pc = .ok (.lcmp, 1)) (d2 : decode cc (pc + 1) = .ok (.ifCond .lt off, 3)) (ht : ((pc + 1 : Nat) : Int) + off = (tgt : Int)) (kt : a < b → Aj E l z tgt L S M) (kf : ¬ (a < b) → Aj E l z (pc + 4) L S M) : Aj E l z pc L (vj b :: vj a :: S) M :=
  v_lcmp C ha hb d (v_if_lt C (lcI_R a b) d2 ht (fun q => kt (lcI_lt.mp q)) (fun q => kf (fun h => q (lcI_lt.mpr h))))
theorem lcI_ge {a b : Int} : 0 ≤ lcI a b ↔ b ≤ a := by
  unfold lcI
  by_cases h1 : b < a
  · rw [if_pos h1]; omega
  · rw [if_neg h1]
    by_cases h2 : a = b
    · rw [if_pos h2]; omega
    · rw [if_neg h2]; omega
theorem v_lif_ge {off : Int} {tgt : Nat} (C : Cx E z D own cc nL) (ha : R64 a) (hb : R64 b) (d : decode cc pc = .ok (.lcmp, 1)) (d2 : decode cc (pc + 1) = .ok (.ifCond .ge off, 3)) (ht : ((pc + 1 : Nat) : Int) + off = (tgt : Int)) (kt : b ≤ a → Aj E l z tgt L S M) (kf : ¬ (b ≤ a) → Aj E l z (pc + 4) L S M) : Aj E l z pc L (vj b :: vj a :: S) M :=
  v_lcmp C ha hb d (v_if_ge C (lcI_R a b) d2 ht (fun q => kt (lcI_ge.mp q)) (fun q => kf (fun h => q (lcI_ge.mpr h))))
theorem lcI_gt {a b : Int} : 0 < lcI a b ↔ b < a := by
  unfold lcI
  by_cases h1 : b < a
  · rw [if_pos h1]; omega
  · rw [if_neg h1]
    by_cases h2 : a = b
    · rw [if_pos h2]; omega
    · rw [if_neg h2]; omega
theorem v_lif_gt {off : Int} {tgt : Nat} (C : Cx E z D own cc nL) (ha : R64 a) (hb : R64 b) (d : decode cc pc = .ok (.lcmp, 1)) (d2 : decode cc (pc + 1) = .ok (.ifCond .gt off, 3)) (ht : ((pc + 1 : Nat) : Int) + off = (tgt : Int)) (kt : b < a → Aj E l z tgt L S M) (kf : ¬ (b < a) → Aj E l z (pc + 4) L S M) : Aj E l z pc L (vj b :: vj a :: S) M :=
  v_lcmp C ha hb d (v_if_gt C (lcI_R a b) d2 ht (fun q => kt (lcI_gt.mp q)) (fun q => kf (fun h => q (lcI_gt.mpr h))))
theorem lcI_le {a b : Int} : lcI a b ≤ 0 ↔ a ≤ b := by
  unfold lcI
  by_cases h1 : b < a
  · rw [if_pos h1]; omega
  · rw [if_neg h1]
    by_cases h2 : a = b
    · rw [if_pos h2]; omega
    · rw [if_neg h2]; omega
theorem v_lif_le {off : Int} {tgt : Nat} (C : Cx E z D own cc nL) (ha : R64 a) (hb : R64 b) (d : decode cc pc = .ok (.lcmp, 1)) (d2 : decode cc (pc + 1) = .ok (.ifCond .le off, 3)) (ht : ((pc + 1 : Nat) : Int) + off = (tgt : Int)) (kt : a ≤ b → Aj E l z tgt L S M) (kf : ¬ (a ≤ b) → Aj E l z (pc + 4) L S M) : Aj E l z pc L (vj b :: vj a :: S) M :=
  v_lcmp C ha hb d (v_if_le C (lcI_R a b) d2 ht (fun q => kt (lcI_le.mp q)) (fun q => kf (fun h => q (lcI_le.mpr h))))
theorem lcI_eq {a b : Int} : lcI a b = 0 ↔ a = b := by
  unfold lcI
  by_cases h1 : b < a
  · rw [if_pos h1]; omega
  · rw [if_neg h1]
    by_cases h2 : a = b
    · rw [if_pos h2]; omega
    · rw [if_neg h2]; omega
theorem v_lif_eq {off : Int} {tgt : Nat} (C : Cx E z D own cc nL) (ha : R64 a) (hb : R64 b) (d : decode cc pc = .ok (.lcmp, 1)) (d2 : decode cc (pc + 1) = .ok (.ifCond .eq off, 3)) (ht : ((pc + 1 : Nat) : Int) + off = (tgt : Int)) (kt : a = b → Aj E l z tgt L S M) (kf : ¬ (a = b) → Aj E l z (pc + 4) L S M) : Aj E l z pc L (vj b :: vj a :: S) M :=
  v_lcmp C ha hb d (v_if_eq C (lcI_R a b) d2 ht (fun q => kt (lcI_eq.mp q)) (fun q => kf (fun h => q (lcI_eq.mpr h))))
theorem lcI_ne {a b : Int} : ¬ lcI a b = 0 ↔ ¬ a = b := by
  unfold lcI
  by_cases h1 : b < a
  · rw [if_pos h1]; omega
  · rw [if_neg h1]
    by_cases h2 : a = b
    · rw [if_pos h2]; omega
    · rw [if_neg h2]; omega
theorem v_lif_ne {off : Int} {tgt : Nat} (C : Cx E z D own cc nL) (ha : R64 a) (hb : R64 b) (d : decode cc pc = .ok (.lcmp, 1)) (d2 : decode cc (pc + 1) = .ok (.ifCond .ne off, 3)) (ht : ((pc + 1 : Nat) : Int) + off = (tgt : Int)) (kt : ¬ a = b → Aj E l z tgt L S M) (kf : a = b → Aj E l z (pc + 4) L S M) : Aj E l z pc L (vj b :: vj a :: S) M :=
  v_lcmp C ha hb d (v_if_ne C (lcI_R a b) d2 ht (fun q => kt (lcI_ne.mp q)) (fun q => kf (lcI_eq.mp q)))
theorem v_goto {off : Int} {tgt : Nat} (C : Cx E z D own cc nL) (d : decode cc pc = .ok (.goto off, 3)) (ht : (pc : Int) + off = (tgt : Int)) (K : Aj E l z tgt L S M) : Aj E l z pc L S M := by
  obtain ⟨A, p, e, R, s, m, args, below, meth, c, cells, slots, Q⟩ := z
  intro H locs ls hP hS hL
  exact lv_goto C.1 C.2.1 d ht (K H locs ls hP hS hL)
theorem v_ifnull {o : Option Nat} {off : Int} {tgt : Nat} (C : Cx E z D own cc nL) (d : decode cc pc = .ok (.ifnull off, 3)) (ht : (pc : Int) + off = (tgt : Int)) (kt : o = none → Aj E l z tgt L S M) (kf : ∀ t, o = some t → Aj E l z (pc + 3) L S M) : Aj E l z pc L (vo o :: S) M := by
  obtain ⟨A, p, e, R, s, m, args, below, meth, c, cells, slots, Q⟩ := z
  intro H locs ls hP hS hL
  cases o with
  | none => exact lv_ifnullN C.1 C.2.1 d ht (kt rfl H locs ls hP hS hL)
  | some x => exact lv_ifnull C.1 C.2.1 d (kf x rfl H locs ls hP hS hL)
theorem v_ifnonnull {o : Option Nat} {off : Int} {tgt : Nat} (C : Cx E z D own cc nL) (d : decode cc pc = .ok (.ifnonnull off, 3)) (ht : (pc : Int) + off = (tgt : Int)) (kt : ∀ t, o = some t → Aj E l z tgt L S M) (kf : o = none → Aj E l z (pc + 3) L S M) : Aj E l z pc L (vo o :: S) M := by
  obtain ⟨A, p, e, R, s, m, args, below, meth, c, cells, slots, Q⟩ := z
  intro H locs ls hP hS hL
  cases o with
  | none => exact lv_ifnonnullN C.1 C.2.1 d (kf rfl H locs ls hP hS hL)
  | some x => exact lv_ifnonnull C.1 C.2.1 d ht (kt x rfl H locs ls hP hS hL)
end OPS
