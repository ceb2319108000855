/-! THE LAW'S BODY: the script's rows, and from the world made to the picture -/
theorem wM_born {D : va_G} {T : T3} {b cl : Nat} {e q : Nat → Nat} {H : Heap} (hP : va_P D vwCl (bornW T q) H) : va_P D vwCl (wM (adr b cl e q, D, T) M0) H := by
  intro k x hx
  have hk : k < 56 := by
    have := (List.getElem?_eq_some_iff.mp hx).1
    simpa [wM] using this
  rw [wM_at _ _ hk] at hx
  cases hx
  have h := congrArg (fun r => r[k]?) (born_at (b := b) (cl := cl) (e := e) (q := q) (G := D) (T := T))
  simp only [List.getElem?_map, List.getElem?_range hk, Option.map_some] at h
  have h2 := hP _ _ (Option.some.inj h)
  by_cases c : k = 28
  · subst c
    rw [if_pos rfl] at h2
    refine Eq.trans (show H[q 28]? = some (vp_cell T.2.2 (4, .inr (.inr (.inr (.inr (va_up (va_up (va_up (va_up (fun _ => none) 0 (some (q 36))) 1 (some (q 38))) 2 (some (q 40))) 3 (some (q 42)))))))) from h2) (congrArg some (rf_cell fun j hj => ?_))
    rcases (show j = 0 ∨ j = 1 ∨ j = 2 ∨ j = 3 by omega) with rfl | rfl | rfl | rfl <;> rfl
  · rw [if_neg c] at h2
    exact h2
theorem born_Apt {D : va_G} {T : T3} {b cl : Nat} {e q : Nat → Nat} {A : Nat → Prop} (hD : va_D A (bornW T q)) : Apt (adr b cl e q, D, T) ∧ ∀ k, k < 56 → A (adr b cl e q k) := by
  have key : ∀ k, k < 56 → ∃ x, (bornW T q)[posn k]? = some (adr b cl e q k, x) := by
    intro k hk
    have h := congrArg (fun r => r[k]?) (born_at (b := b) (cl := cl) (e := e) (q := q) (G := D) (T := T))
    simp only [List.getElem?_map, List.getElem?_range hk, Option.map_some] at h
    exact ⟨_, Option.some.inj h⟩
  refine ⟨fun i j hi hj hij => ?_, fun k hk => ?_⟩
  · obtain ⟨x, hx⟩ := key i hi
    obtain ⟨y, hy⟩ := key j hj
    exact posn_inj i hi j hj (hD.1 _ _ _ _ hx hy hij)
  · obtain ⟨x, hx⟩ := key k hk
    exact hD.2 _ _ hx
def XS (E : FX) (z : RT) (N : Nat) (xs : Nat → Int32) : Prop := match z with
  | (A, _, _, _, s, _, _, _, _, _, _, _, _) => va_X (E.1 99) N xs s s.heap ∧ E.1 99 < s.heap.size ∧ ¬ A (E.1 99)
def L4 (i : Int) : LV := [(0, vr 99), (1, vr 0), (2, vr 44), (3, vi i)]
/-- the script's number, k behind i -/
def sx (xs : Nat → Int32) (i : Int) (k : Int) : Int := (xs (i + k).toNat).toInt
theorem sx32 {xs : Nat → Int32} {i k : Int} : R32 (sx xs i k) := by
  have h1 := Int32.le_toInt (xs (i + k).toNat)
  have h2 := Int32.toInt_lt (xs (i + k).toNat)
  unfold R32 sx
  omega
theorem jor64 {a b : Int} : R64 (jor a b) := by
  have h1 := Int64.le_toInt (Int64.ofInt a ||| Int64.ofInt b)
  have h2 := Int64.toInt_lt (Int64.ofInt a ||| Int64.ofInt b)
  unfold R64 jor
  omega
section LROWS
variable {E : FX} {l : Launch} {z : RT} {D : Nat} {own : String} {cc : ByteArray} {nL pc : Nat} {L : LV} {S : List AV} {M : MM} {N : Nat} {xs : Nat → Int32}
theorem v_slen (C : Cx E z D own cc nL) (X : XS E z N xs) (d : decode cc pc = .ok (.arraylength, 1)) (K : Aj E l z (pc + 1) L (vi N :: S) M) : Aj E l z pc L (vr 99 :: S) M := by
  obtain ⟨A, p, e, R, s, m, args, below, meth, c, cells, slots, Q⟩ := z
  intro H locs ls hP hS hL
  have hn : Int32.ofNat N = Int32.ofInt (N : Int) := (Int32.ofInt_eq_ofNat (n := N)).symm
  refine va_slen C.1 C.2.1 X.1 X.2.1 X.2.2 hS d ?_
  rw [hn]
  exact K H locs ls hP hS hL
theorem v_sld {x : Int} (C : Cx E z D own cc nL) (X : XS E z N xs) (hN : N ≤ 3072) (h0 : 0 ≤ x) (h1 : x < N) (d : decode cc pc = .ok (.iaload, 1)) (K : Aj E l z (pc + 1) L (vi (xs x.toNat).toInt :: S) M) : Aj E l z pc L (vi x :: vr 99 :: S) M := by
  obtain ⟨A, p, e, R, s, m, args, below, meth, c, cells, slots, Q⟩ := z
  intro H locs ls hP hS hL
  obtain ⟨n1, n2⟩ := i32_nn (a := x) (by unfold R32; omega) h0
  have hin : vp_in (Int32.ofInt x) N := by
    rintro (q | q)
    · exact n1 q
    · rw [n2] at q
      omega
  refine va_sld C.1 C.2.1 X.1 X.2.1 X.2.2 hS hin d ?_
  rw [n2]
  have hx : Int32.ofInt (xs x.toNat).toInt = xs x.toNat := Int32.ofInt_toInt _
  have K1 := K H locs ls hP hS hL
  simp only [List.map_cons, xv, hx] at K1
  exact K1
theorem v_icmpS {a b off : Int} {tgt : Nat} (C : Cx E z D own cc nL) (h : a = b) (d : decode cc pc = .ok (.if_icmp .eq off, 3)) (ht : (pc : Int) + off = (tgt : Int)) (K : Aj E l z tgt L S M) : Aj E l z pc L (vi b :: vi a :: S) M := by
  obtain ⟨A, p, e, R, s, m, args, below, meth, c, cells, slots, Q⟩ := z
  subst h
  intro H locs ls hP hS hL
  exact lv_icmp_eq C.1 C.2.1 d ht (fun _ => K H locs ls hP hS hL) (fun q => absurd rfl q)
end LROWS
section LARG
variable {E : FX} {l : Launch} {z : RT} {pc : Nat} {S : List AV} {M : MM} {N : Nat} {xs : Nat → Int32} {i : Int}
theorem v_arg {k : Int} (C : Cx E z 20 RL cL_law 4) (X : XS E z N xs) (hN : N ≤ 3072) (h0 : 0 ≤ i) (h6 : i + 6 ≤ N) (hk : 0 ≤ k ∧ k < 6) (d0 : decode cL_law pc = .ok (.aload_n 0, 1)) (d1 : decode cL_law (pc + 1) = .ok (.iload_n 3, 1)) (d2 : decode cL_law (pc + 1 + 1) = .ok (.iconst k, 1)) (d3 : decode cL_law (pc + 1 + 1 + 1) = .ok (.iadd, 1)) (d4 : decode cL_law (pc + 1 + 1 + 1 + 1) = .ok (.iaload, 1)) (K : Aj E l z (pc + 1 + 1 + 1 + 1 + 1) (L4 i) (vi (sx xs i k) :: S) M) : Aj E l z pc (L4 i) S M := by
  refine v_aload_n (i := 0) C d0 rfl rfl ?_
  refine v_iload_n (i := 3) C d1 rfl rfl ?_
  refine v_iconst C d2 ?_
  refine v_iadd C d3 ?_
  exact v_sld C X hN (by omega) (by omega) d4 K
/-- a case of the law: class and reference are asked, and answer alike -/
def LC (E : FX) (l : Launch) (z : RT) (N : Nat) (pc : Nat) : Prop := ∀ (i : Int) (M : MM), 0 ≤ i → i + 6 ≤ N → Rel0 M → GI M → (∀ M', Rel0 M' → GI M' → Aj E l z 1260 (L4 i) [] M') → Aj E l z pc (L4 i) [] M
end LARG
