def iushr (a b : Int) : Int := ((Int32.ofInt a).toUInt32 >>> ((Int32.ofInt b).toUInt32 &&& Int32.toUInt32 31)).toInt32.toInt
section MORE
variable {E : FX} {l : Launch} {z : RT} {D : Nat} {own : String} {cc : ByteArray} {nL pc : Nat} {L : LV} {S : List AV} {M : MM} {a b x y : Int}
theorem v_eqi (e : y = x) (K : Aj E l z pc L (vi y :: S) M) : Aj E l z pc L (vi x :: S) M := e ▸ K
theorem v_eqj (e : y = x) (K : Aj E l z pc L (vj y :: S) M) : Aj E l z pc L (vj x :: S) M := e ▸ K
theorem v_eqM {M1 M2 : MM} (e : M1 = M2) (K : Aj E l z pc L S M1) : Aj E l z pc L S M2 := e ▸ K
theorem v_iushr (C : Cx E z D own cc nL) (d : decode cc pc = .ok (.iushr, 1)) (K : Aj E l z (pc + 1) L (vi (iushr a b) :: S) M) : Aj E l z pc L (vi b :: vi a :: S) M := by
  obtain ⟨A, p, e, R, s, m, args, below, meth, c, cells, slots, Q⟩ := z
  intro H locs ls hP hS hL
  refine lv_iushr C.1 C.2.1 d rfl ?_
  have K1 := K H locs ls hP hS hL
  simp only [List.map_cons, xv] at K1 ⊢
  rw [iushr, Int32.ofInt_toInt] at K1
  exact K1
theorem v_tswOut {dflt lo hi : Int} {offs : Array Int} {len tgt : Nat} (C : Cx E z D own cc nL) (ha : R32 a) (d : decode cc pc = .ok (.tableswitch dflt lo hi offs, len)) (h : a < lo ∨ hi < a) (ht : (pc : Int) + dflt = (tgt : Int)) (K : Aj E l z tgt L S M) : Aj E l z pc L (vi a :: S) M := by
  obtain ⟨A, p, e, R, s, m, args, below, meth, c, cells, slots, Q⟩ := z
  intro H locs ls hP hS hL
  have e1 : (Int32.ofInt a).toInt = a := Int32.toInt_ofInt_of_le ha.1 (by have := ha.2; omega)
  exact lv_tableOut C.1 C.2.1 d (by rw [e1]; exact h) ht (K H locs ls hP hS hL)
theorem v_tswIn {dflt lo hi off : Int} {offs : Array Int} {len tgt : Nat} (C : Cx E z D own cc nL) (ha : R32 a) (d : decode cc pc = .ok (.tableswitch dflt lo hi offs, len)) (h1 : lo ≤ a) (h2 : a ≤ hi) (ho : offs[(a - lo).toNat]? = some off) (ht : (pc : Int) + off = (tgt : Int)) (K : Aj E l z tgt L S M) : Aj E l z pc L (vi a :: S) M := by
  obtain ⟨A, p, e, R, s, m, args, below, meth, c, cells, slots, Q⟩ := z
  intro H locs ls hP hS hL
  have e1 : (Int32.ofInt a).toInt = a := Int32.toInt_ofInt_of_le ha.1 (by have := ha.2; omega)
  exact lv_tableIn C.1 C.2.1 d (by rw [e1]; omega) (by rw [e1]; omega) (by rw [e1]; exact ho) ht (K H locs ls hP hS hL)
end MORE
