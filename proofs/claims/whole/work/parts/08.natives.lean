section NATIVES
variable {E : FX} {l : Launch} {z : RT} {D : Nat} {own : String} {cc : ByteArray} {nL pc : Nat} {L : LV} {S : List AV} {M : MM} {a b : Int}
theorem v_max {idx : Nat} (C : Cx E z D own cc nL) (hD : 1 ≤ D) (w : Cond.methodLink own idx yJ9_max_7cf53 ∈ GW) (hcat : (S.map xcat).sum ≤ 8) (ha : R32 a) (hb : R32 b) (d : decode cc pc = .ok (.invokestatic idx, 3)) (K : Aj E l z (pc + 3) L (vi (if a < b then b else a) :: S) M) : Aj E l z pc L (vi b :: vi a :: S) M := by
  obtain ⟨A, p, e, R, s, m, args, below, meth, c, cells, slots, Q⟩ := z
  intro H locs ls hP hS hL
  have hR := C.2.2.2.2.2.2.2.2.2.2
  have hts := C.2.2.2.2.1
  have co : Cond.code Lib.Math.max.name Lib.Math.max.code 2 (some .int) ∈ GW := co_yJ9_max_7cf53
  have sm := room_c (E := E) hcat
  refine va_mmax (own := own) C.1 C.2.1 hL.1.symm C.2.2.2.1 (hts _ w) (hts _ st_yJ9_max_7cf53) (hts _ ini_RJ9) (hts _ co) (by have := hR.1.1; omega) (by have := hR.1.2; omega) hR.2.1 hR.2.2 d ?_
  have K1 := K H locs ls hP hS hL
  have e1 : (if Int32.ofInt a < Int32.ofInt b then Int32.ofInt b else Int32.ofInt a) = Int32.ofInt (if a < b then b else a) := by
    simp only [i32_lt ha hb]
    split <;> rfl
  rw [e1]
  exact K1
theorem v_min {idx : Nat} (C : Cx E z D own cc nL) (hD : 1 ≤ D) (w : Cond.methodLink own idx yJ9_min_7cf53 ∈ GW) (hcat : (S.map xcat).sum ≤ 8) (ha : R32 a) (hb : R32 b) (d : decode cc pc = .ok (.invokestatic idx, 3)) (K : Aj E l z (pc + 3) L (vi (if b < a then b else a) :: S) M) : Aj E l z pc L (vi b :: vi a :: S) M := by
  obtain ⟨A, p, e, R, s, m, args, below, meth, c, cells, slots, Q⟩ := z
  intro H locs ls hP hS hL
  have hR := C.2.2.2.2.2.2.2.2.2.2
  have hts := C.2.2.2.2.1
  have co : Cond.code Lib.Math.min.name Lib.Math.min.code 2 (some .int) ∈ GW := co_yJ9_min_7cf53
  have sm := room_c (E := E) hcat
  refine va_mmin (own := own) C.1 C.2.1 hL.1.symm C.2.2.2.1 (hts _ w) (hts _ st_yJ9_min_7cf53) (hts _ ini_RJ9) (hts _ co) (by have := hR.1.1; omega) (by have := hR.1.2; omega) hR.2.1 hR.2.2 d ?_
  have K1 := K H locs ls hP hS hL
  have e1 : (if Int32.ofInt b < Int32.ofInt a then Int32.ofInt b else Int32.ofInt a) = Int32.ofInt (if b < a then b else a) := by
    simp only [i32_lt hb ha]
    split <;> rfl
  rw [e1]
  exact K1
theorem v_maxl {idx : Nat} (C : Cx E z D own cc nL) (hD : 1 ≤ D) (w : Cond.methodLink own idx yJ9_max_f86c9 ∈ GW) (hcat : (S.map xcat).sum ≤ 8) (ha : R64 a) (hb : R64 b) (d : decode cc pc = .ok (.invokestatic idx, 3)) (K : Aj E l z (pc + 3) L (vj (if b < a then a else b) :: S) M) : Aj E l z pc L (vj b :: vj a :: S) M := by
  obtain ⟨A, p, e, R, s, m, args, below, meth, c, cells, slots, Q⟩ := z
  intro H locs ls hP hS hL
  have hR := C.2.2.2.2.2.2.2.2.2.2
  have hts := C.2.2.2.2.1
  have co : Cond.code Lib.MathLoose.max_long.x Lib.MathLoose.max_long.code 4 (some .long) ∈ GW := co_yJ9_max_f86c9
  have sm := room_c (E := E) hcat
  refine va_mmax_long (own := own) C.1 C.2.1 hL.1.symm C.2.2.2.1 (hts _ w) (hts _ st_yJ9_max_f86c9) (hts _ ini_RJ9) (hts _ co) (by have := hR.1.1; omega) (by have := hR.1.2; omega) hR.2.1 hR.2.2 d ?_
  have K1 := K H locs ls hP hS hL
  have e1 : (if Int64.ofInt b < Int64.ofInt a then Int64.ofInt a else Int64.ofInt b) = Int64.ofInt (if b < a then a else b) := by
    simp only [i64_lt hb ha]
    split <;> rfl
  rw [e1]
  exact K1
theorem v_minl {idx : Nat} (C : Cx E z D own cc nL) (hD : 1 ≤ D) (w : Cond.methodLink own idx yJ9_min_f86c9 ∈ GW) (hcat : (S.map xcat).sum ≤ 8) (ha : R64 a) (hb : R64 b) (d : decode cc pc = .ok (.invokestatic idx, 3)) (K : Aj E l z (pc + 3) L (vj (if b < a then b else a) :: S) M) : Aj E l z pc L (vj b :: vj a :: S) M := by
  obtain ⟨A, p, e, R, s, m, args, below, meth, c, cells, slots, Q⟩ := z
  intro H locs ls hP hS hL
  have hR := C.2.2.2.2.2.2.2.2.2.2
  have hts := C.2.2.2.2.1
  have co : Cond.code Lib.MathLoose.min_long.x Lib.MathLoose.min_long.code 4 (some .long) ∈ GW := co_yJ9_min_f86c9
  have sm := room_c (E := E) hcat
  refine va_mmin_long (own := own) C.1 C.2.1 hL.1.symm C.2.2.2.1 (hts _ w) (hts _ st_yJ9_min_f86c9) (hts _ ini_RJ9) (hts _ co) (by have := hR.1.1; omega) (by have := hR.1.2; omega) hR.2.1 hR.2.2 d ?_
  have K1 := K H locs ls hP hS hL
  have e1 : (if Int64.ofInt b < Int64.ofInt a then Int64.ofInt b else Int64.ofInt a) = Int64.ofInt (if b < a then b else a) := by
    simp only [i64_lt hb ha]
    split <;> rfl
  rw [e1]
  exact K1
/-- n places of k0 from sp on come to k1 from dp on, as they were -/
def cpM (M : MM) (k0 sp k1 dp n : Nat) : MM := fun k j => if k = k1 ∧ dp ≤ j ∧ j < dp + n then M k0 (sp + (j - dp)) else M k j
theorem cel_cp (E : FX) (M : MM) {k0 sp k1 dp n : Nat} (k' : Nat) (h : k' ≠ k1) : cel E (cpM M k0 sp k1 dp n) k' = cel E M k' := by
  have hf : fls E.1 (cpM M k0 sp k1 dp n) k' = fls E.1 M k' := by
    unfold fls
    apply List.ext_getElem?
    intro i
    simp only [List.getElem?_mapIdx]
    cases (ft k')[i]? with
    | none => rfl
    | some t =>
      rcases t with _ | _ | t <;> simp [fv, cpM, h]
  unfold cel
  split <;> first | (simp [cpM, h]; done) | (rw [hf])
theorem i32_nn {a : Int} (ha : R32 a) (h : 0 ≤ a) : ¬ Int32.ofInt a < 0 ∧ (Int32.ofInt a).toNatClampNeg = a.toNat := by
  refine ⟨fun q => ?_, Int32.toNatClampNeg_ofInt_of_le (by have := ha.1; omega) (by have := ha.2; omega)⟩
  have := (i32_lt ha r32_0).mp q
  omega
theorem v_copyi {idx k0 k1 n0 n1 : Nat} {sp dp n : Int} (C : Cx E z D own cc nL) (hD : 1 ≤ D) (w : Cond.methodLink own idx arraycopyName ∈ GW) (hcat : (S.map xcat).sum ≤ 8) (hk0 : kd k0 = (0, n0)) (hk1 : kd k1 = (0, n1)) (h1 : 0 ≤ sp) (h2 : 0 ≤ dp) (h3 : 0 ≤ n) (h4 : sp + n ≤ n0) (h5 : dp + n ≤ n1) (d : decode cc pc = .ok (.invokestatic idx, 3)) (K : Aj E l z (pc + 3) L S (cpM M k0 sp.toNat k1 dp.toNat n.toNat)) : Aj E l z pc L (vi n :: vi dp :: vr k1 :: vi sp :: vr k0 :: S) M := by
  obtain ⟨A, p, e, R, s, m, args, below, meth, c, cells, slots, Q⟩ := z
  intro H locs ls hP hS hL
  have hR := C.2.2.2.2.2.2.2.2.2.2
  have hts := C.2.2.2.2.1
  have sm := room_c (E := E) hcat
  have hl0 := kd_lt hk0 (by decide)
  have hl1 := kd_lt hk1 (by decide)
  have hn0 := kd_n hk0 (by decide)
  have hn1 := kd_n hk1 (by decide)
  obtain ⟨s1, s2⟩ := i32_nn (a := sp) (by unfold R32; omega) h1
  obtain ⟨d1, d2⟩ := i32_nn (a := dp) (by unfold R32; omega) h2
  obtain ⟨m1, m2⟩ := i32_nn (a := n) (by unfold R32; omega) h3
  have e0 : nativeFrameWords "java/lang/System" "arraycopy" 5 ≤ 40 := by decide +kernel
  refine va_copyi (D := E.2.1) (f := fun j => Int32.ofInt (M k0 j)) (g := fun j => Int32.ofInt (M k1 j)) (own := own) C.1 C.2.1 hL.1.symm C.2.2.2.1 (hts _ w) (hts _ na_arraycopy) (hts _ st_arraycopyName) (hts _ ini_RJ10) C.2.2.2.2.2.1 hP (wM_D C.2.2.2.2.2.2.1 C.2.2.2.2.2.2.2.1 M) hS k0 k1 0 0 (by rw [wM_at E M hl0, cel_i hk0]) (by rw [wM_at E M hl1, cel_i hk1]) rfl rfl rfl s1 d1 m1 (by rw [s2, m2]; omega) (by rw [d2, m2]; omega) (fun _ _ => rfl) (by have := hR.1.1; omega) (by have := hR.1.2; omega) d (fun H1 locs1 hP1 _ hS1 => ?_)
  refine K H1 locs1 ls ?_ hS1 hL
  have e1 : (wM E M).set k1 (E.1 k1, .inl (E.2.2.1, n1, .inl (va_cpy (fun j => Int32.ofInt (M k0 j)) (fun j => Int32.ofInt (M k1 j)) (Int32.ofInt sp).toNatClampNeg (Int32.ofInt dp).toNatClampNeg (Int32.ofInt n).toNatClampNeg))) = wM E (cpM M k0 sp.toNat k1 dp.toNat n.toNat) := by
    rw [← wM_set E M (cpM M k0 sp.toNat k1 dp.toNat n.toNat) hl1 (fun k' _ hk => cel_cp E M k' hk), cel_i hk1, s2, d2, m2]
    have ef : va_cpy (fun j => Int32.ofInt (M k0 j)) (fun j => Int32.ofInt (M k1 j)) sp.toNat dp.toNat n.toNat = fun j => Int32.ofInt (cpM M k0 sp.toNat k1 dp.toNat n.toNat k1 j) := by
      funext j
      unfold va_cpy cpM
      by_cases h : dp.toNat ≤ j ∧ j < dp.toNat + n.toNat
      · rw [if_pos h, if_pos ⟨rfl, h⟩]
      · rw [if_neg h, if_neg (fun q => h q.2)]
    rw [ef]
  rw [← e1]
  exact hP1
theorem v_copyj {idx k0 k1 n0 n1 : Nat} {sp dp n : Int} (C : Cx E z D own cc nL) (hD : 1 ≤ D) (w : Cond.methodLink own idx arraycopyName ∈ GW) (hcat : (S.map xcat).sum ≤ 8) (hk0 : kd k0 = (1, n0)) (hk1 : kd k1 = (1, n1)) (h1 : 0 ≤ sp) (h2 : 0 ≤ dp) (h3 : 0 ≤ n) (h4 : sp + n ≤ n0) (h5 : dp + n ≤ n1) (d : decode cc pc = .ok (.invokestatic idx, 3)) (K : Aj E l z (pc + 3) L S (cpM M k0 sp.toNat k1 dp.toNat n.toNat)) : Aj E l z pc L (vi n :: vi dp :: vr k1 :: vi sp :: vr k0 :: S) M := by
  obtain ⟨A, p, e, R, s, m, args, below, meth, c, cells, slots, Q⟩ := z
  intro H locs ls hP hS hL
  have hR := C.2.2.2.2.2.2.2.2.2.2
  have hts := C.2.2.2.2.1
  have sm := room_c (E := E) hcat
  have hl0 := kd_lt hk0 (by decide)
  have hl1 := kd_lt hk1 (by decide)
  have hn0 := kd_n hk0 (by decide)
  have hn1 := kd_n hk1 (by decide)
  obtain ⟨s1, s2⟩ := i32_nn (a := sp) (by unfold R32; omega) h1
  obtain ⟨d1, d2⟩ := i32_nn (a := dp) (by unfold R32; omega) h2
  obtain ⟨m1, m2⟩ := i32_nn (a := n) (by unfold R32; omega) h3
  have e0 : nativeFrameWords "java/lang/System" "arraycopy" 5 ≤ 40 := by decide +kernel
  refine va_copyl (D := E.2.1) (f := fun j => Int64.ofInt (M k0 j)) (g := fun j => Int64.ofInt (M k1 j)) (own := own) C.1 C.2.1 hL.1.symm C.2.2.2.1 (hts _ w) (hts _ na_arraycopy) (hts _ st_arraycopyName) (hts _ ini_RJ10) C.2.2.2.2.2.1 hP (wM_D C.2.2.2.2.2.2.1 C.2.2.2.2.2.2.2.1 M) hS k0 k1 1 1 (by rw [wM_at E M hl0, cel_j hk0]) (by rw [wM_at E M hl1, cel_j hk1]) rfl rfl rfl s1 d1 m1 (by rw [s2, m2]; omega) (by rw [d2, m2]; omega) (fun _ _ => rfl) (by have := hR.1.1; omega) (by have := hR.1.2; omega) d (fun H1 locs1 hP1 _ hS1 => ?_)
  refine K H1 locs1 ls ?_ hS1 hL
  have e1 : (wM E M).set k1 (E.1 k1, .inl (E.2.2.2.1, n1, .inr (.inl (va_cpy (fun j => Int64.ofInt (M k0 j)) (fun j => Int64.ofInt (M k1 j)) (Int32.ofInt sp).toNatClampNeg (Int32.ofInt dp).toNatClampNeg (Int32.ofInt n).toNatClampNeg)))) = wM E (cpM M k0 sp.toNat k1 dp.toNat n.toNat) := by
    rw [← wM_set E M (cpM M k0 sp.toNat k1 dp.toNat n.toNat) hl1 (fun k' _ hk => cel_cp E M k' hk), cel_j hk1, s2, d2, m2]
    have ef : va_cpy (fun j => Int64.ofInt (M k0 j)) (fun j => Int64.ofInt (M k1 j)) sp.toNat dp.toNat n.toNat = fun j => Int64.ofInt (cpM M k0 sp.toNat k1 dp.toNat n.toNat k1 j) := by
      funext j
      unfold va_cpy cpM
      by_cases h : dp.toNat ≤ j ∧ j < dp.toNat + n.toNat
      · rw [if_pos h, if_pos ⟨rfl, h⟩]
      · rw [if_neg h, if_neg (fun q => h q.2)]
    rw [ef]
  rw [← e1]
  exact hP1
end NATIVES
