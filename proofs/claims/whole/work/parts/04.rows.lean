abbrev RT : Type := (Nat → Prop) × Program × Env × Room × State × MethodId × Array Value × List Frame × Method × Code × Nat × Nat × (State → Prop)
abbrev LV : Type := List (Nat × AV)
def xl (ad : Nat → Nat) (L : LV) : List (Nat × Value) := L.map (fun q => (q.1, xv ad q.2))
/-- the machine, at pc with locals L, stack S and heap M, comes to its end -/
def Aj (E : FX) (l : Launch) (z : RT) (pc : Nat) (L : LV) (S : List AV) (M : MM) : Prop :=
  match z with
  | (A, p, e, R, s, m, args, below, meth, c, cells, slots, Q) => ∀ (H : Heap) (locs : List Loc) (ls : Array Slot), va_P E.2.1 vwCl (wM E M) H → va_S A s.heap H locs → lv_has ls c.maxLocals (xl E.1 L) → W p l e R s m args below meth c H locs cells slots Q (F0 m pc ls (S.map (xv E.1)))
/-- what holds all along a method's run -/
def Cx (E : FX) (z : RT) (D : Nat) (own : String) (cc : ByteArray) (nL : Nat) : Prop :=
  match z with
  | (A, p, _, R, s, m, args, _, _, c, cells, slots, _) => p.tables.exec = Jvm.exec ∧ c.code = cc ∧ c.maxLocals = nL ∧ s.vm.findClass own = some m.cls ∧ (∀ w ∈ GW, w.before args s = true) ∧ va_K E.2.1 vwCl (tyl E) s ∧ Apt E ∧ (∀ k, k < 56 → A (E.1 k)) ∧ (∀ q, s.heap.size ≤ q → A q) ∧ EW E A s s.heap ∧ (D ≤ R.frames ∧ 60 * D ≤ R.locals) ∧ cells ≤ R.cells ∧ slots ≤ R.slots
def CQ (E : FX) (post : Option AV → MM → Prop) (A : Nat → Prop) : Array Value → State → Outcome → State → Prop := fun _ st o t =>
  (∃ (r : Option AV) (M' : MM), o = .returned (r.map (xv E.1)) ∧ post r M' ∧ va_P E.2.1 vwCl (wM E M') t.heap) ∧ va_F A st t
def CP (E : FX) (As : List AV) (M : MM) (sz : Nat) : Array Value → State → Prop :=
  va_Pc (As.map (xv E.1)) (fun U => U.heap.size = sz ∧ va_P E.2.1 vwCl (wM E M) U.heap ∧ va_K E.2.1 vwCl (tyl E) U ∧ Apt E ∧ EW E (AW E sz) U U.heap)
def rmD (d : Nat) : Room := { frames := d, cells := 0, slots := 0, locals := 60 * d }
def mw (q : MI) : List Cond := .code q.1 q.2.1 q.2.2.1 q.2.2.2 :: GW
/-- a method's contract: from heap M with arguments As it returns, and post holds of its answer and heap -/
def Con (E : FX) (l : Launch) (D : Nat) (q : MI) (As : List AV) (M : MM) (post : Option AV → MM → Prop) : Prop :=
  ∃ (d : Nat) (P0 : Option AV → MM → Prop), d < D ∧ (∀ r M', P0 r M' → post r M') ∧ ∀ sz, Met l q.1 (mw q) (rmD d) (CP E As M sz) (CQ E P0 (AW E sz)) 0 0 (AW E sz)
theorem Con.up {E : FX} {l : Launch} {D D' : Nat} {q : MI} {As : List AV} {M : MM} {post : Option AV → MM → Prop} (h : Con E l D q As M post) (hD : D ≤ D') : Con E l D' q As M post := by
  obtain ⟨d, P0, h1, h2, h3⟩ := h
  exact ⟨d, P0, Nat.lt_of_lt_of_le h1 hD, h2, h3⟩
theorem Con.mono {E : FX} {l : Launch} {D D' : Nat} {q : MI} {As : List AV} {M : MM} {post post' : Option AV → MM → Prop} (h : Con E l D q As M post) (k : ∀ r M', post r M' → post' r M') (hD : D ≤ D' := by decide) : Con E l D' q As M post' := by
  obtain ⟨d, P0, h1, h2, h3⟩ := h
  exact ⟨d, P0, Nat.lt_of_lt_of_le h1 hD, fun r M' hp => k r M' (h2 r M' hp), h3⟩
/-- a contract that says which answer and which heap -/
theorem Con.fn {E : FX} {l : Launch} {D D' : Nat} {q : MI} {As : List AV} {M M0 : MM} {r0 : Option AV} {post : Option AV → MM → Prop} (h : Con E l D q As M (fun r M' => r = r0 ∧ M' = M0)) (k : post r0 M0) (hD : D ≤ D' := by decide) : Con E l D' q As M post :=
  h.mono (fun r M' e => by rw [e.1, e.2]; exact k) hD
/-- how a method's run ends -/
def Rt (E : FX) (z : RT) (ret : Option FieldType) (post : Option AV → MM → Prop) : Prop :=
  match z with
  | (A, _, _, _, s, _, args, below, meth, _, cells, slots, Q) => meth.sig.returnType = ret ∧ meth.locks = false ∧ A = AW E s.heap.size ∧ cells = 0 ∧ slots = 0 ∧ Q = MQ below (CQ E post A) args s 0 0 A
theorem FrameBlind_CP {E : FX} {As : List AV} {M : MM} {sz : Nat} : FrameBlind (CP E As M sz) := by
  intro a U g mk q
  obtain ⟨q0, q1, qP, qK, qA, qE⟩ := q
  refine ⟨q0, q1, qP, va_K.moved (u := U) (U := U.calling g mk a) (Vm.Alike.refl U.vm) qK, qA, ?_⟩
  exact ⟨qE.1.moved (Vm.Alike.refl U.vm), qE.2.1.moved (Vm.Alike.refl U.vm), qE.2.2.1.moved (Vm.Alike.refl U.vm), qE.2.2.2.1.moved (Vm.Alike.refl U.vm), qE.2.2.2.2.1.moved (Vm.Alike.refl U.vm), qE.2.2.2.2.2⟩
section ROWS
variable {E : FX} {l : Launch} {z : RT} {D : Nat} {own : String} {cc : ByteArray} {nL pc : Nat} {L : LV} {S : List AV} {M : MM}
theorem xl_at {ad : Nat → Nat} {L : LV} {i n : Nat} {v : AV} (h : L[i]? = some (n, v)) : (xl ad L)[i]? = some (n, xv ad v) := by
  simp [xl, h]
/-- a local is stored anew -/
def stL (i : Nat) (v : AV) (L : LV) : LV := (i, v) :: L.filter (fun q => !(q.1 == i) && !(q.1 + 1 == i && xcat q.2 == 2))
def stL2 (i : Nat) (v : AV) (L : LV) : LV := (i, v) :: L.filter (fun q => !(q.1 == i) && (!(q.1 == i + 1) && !(q.1 + 1 == i && xcat q.2 == 2)))
theorem xl_st {ad : Nat → Nat} {i : Nat} {v : AV} {L : LV} : (i, xv ad v) :: (xl ad L).filter (fun q => !(q.1 == i) && !(q.1 + 1 == i && q.2.category == 2)) = xl ad (stL i v L) := by
  simp only [xl, stL, List.map_cons, List.filter_map]
  congr 2
  apply List.filter_congr
  intro q _
  simp only [Function.comp, xv_cat]
theorem xl_st2 {ad : Nat → Nat} {i : Nat} {v : AV} {L : LV} : (i, xv ad v) :: (xl ad L).filter (fun q => !(q.1 == i) && (!(q.1 == i + 1) && !(q.1 + 1 == i && q.2.category == 2))) = xl ad (stL2 i v L) := by
  simp only [xl, stL2, List.map_cons, List.filter_map]
  congr 2
  apply List.filter_congr
  intro q _
  simp only [Function.comp, xv_cat]
/-- fewer locals are spoken of -/
theorem v_sub {L' : LV} (ks : List Nat) (h : ks.filterMap (fun k => L[k]?) = L') (K : Aj E l z pc L' S M) : Aj E l z pc L S M := by
  obtain ⟨A, p, e, R, s, m, args, below, meth, c, cells, slots, Q⟩ := z
  intro H locs ls hP hS hl
  refine K H locs ls hP hS (lv_sub hl ks ?_)
  subst h
  simp only [lv_pick, xl, List.map_filterMap, List.getElem?_map]
theorem v_iload {i n : Nat} {x : Int} (C : Cx E z D own cc nL) (d : decode cc pc = .ok (.iload n, 2)) (hl : L[i]? = some (n, vi x)) (K : Aj E l z (pc + 2) L (vi x :: S) M) : Aj E l z pc L S M := by
  obtain ⟨A, p, e, R, s, m, args, below, meth, c, cells, slots, Q⟩ := z
  intro H locs ls hP hS hL
  exact lv_iload C.1 C.2.1 d (lv_at hL i (xl_at hl)) (K H locs ls hP hS hL)
theorem v_iload_n {i n : Nat} {k : Fin 4} {x : Int} (C : Cx E z D own cc nL) (d : decode cc pc = .ok (.iload_n k, 1)) (hk : (k : Nat) = n) (hl : L[i]? = some (n, vi x)) (K : Aj E l z (pc + 1) L (vi x :: S) M) : Aj E l z pc L S M := by
  obtain ⟨A, p, e, R, s, m, args, below, meth, c, cells, slots, Q⟩ := z
  intro H locs ls hP hS hL
  exact lv_iload_n C.1 C.2.1 d hk (lv_at hL i (xl_at hl)) (K H locs ls hP hS hL)
theorem v_lload {i n : Nat} {x : Int} (C : Cx E z D own cc nL) (d : decode cc pc = .ok (.lload n, 2)) (hl : L[i]? = some (n, vj x)) (K : Aj E l z (pc + 2) L (vj x :: S) M) : Aj E l z pc L S M := by
  obtain ⟨A, p, e, R, s, m, args, below, meth, c, cells, slots, Q⟩ := z
  intro H locs ls hP hS hL
  exact lv_lload C.1 C.2.1 d (lv_at hL i (xl_at hl)) (K H locs ls hP hS hL)
theorem v_lload_n {i n : Nat} {k : Fin 4} {x : Int} (C : Cx E z D own cc nL) (d : decode cc pc = .ok (.lload_n k, 1)) (hk : (k : Nat) = n) (hl : L[i]? = some (n, vj x)) (K : Aj E l z (pc + 1) L (vj x :: S) M) : Aj E l z pc L S M := by
  obtain ⟨A, p, e, R, s, m, args, below, meth, c, cells, slots, Q⟩ := z
  intro H locs ls hP hS hL
  exact lv_lload_n C.1 C.2.1 d hk (lv_at hL i (xl_at hl)) (K H locs ls hP hS hL)
theorem v_aload {i n : Nat} {o : Option Nat} (C : Cx E z D own cc nL) (d : decode cc pc = .ok (.aload n, 2)) (hl : L[i]? = some (n, vo o)) (K : Aj E l z (pc + 2) L (vo o :: S) M) : Aj E l z pc L S M := by
  obtain ⟨A, p, e, R, s, m, args, below, meth, c, cells, slots, Q⟩ := z
  intro H locs ls hP hS hL
  cases o with
  | none => exact lv_aloadN C.1 C.2.1 d (lv_at hL i (xl_at hl)) (K H locs ls hP hS hL)
  | some x => exact lv_aload C.1 C.2.1 d (lv_at hL i (xl_at hl)) (K H locs ls hP hS hL)
theorem v_aload_n {i n : Nat} {k : Fin 4} {o : Option Nat} (C : Cx E z D own cc nL) (d : decode cc pc = .ok (.aload_n k, 1)) (hk : (k : Nat) = n) (hl : L[i]? = some (n, vo o)) (K : Aj E l z (pc + 1) L (vo o :: S) M) : Aj E l z pc L S M := by
  obtain ⟨A, p, e, R, s, m, args, below, meth, c, cells, slots, Q⟩ := z
  intro H locs ls hP hS hL
  cases o with
  | none => exact lv_aload_nN C.1 C.2.1 d hk (lv_at hL i (xl_at hl)) (K H locs ls hP hS hL)
  | some x => exact lv_aload_n C.1 C.2.1 d hk (lv_at hL i (xl_at hl)) (K H locs ls hP hS hL)
theorem v_istore {n : Nat} {x : Int} {L' : LV} (C : Cx E z D own cc nL) (d : decode cc pc = .ok (.istore n, 2)) (hn : n < nL) (hl : stL n (vi x) L = L') (K : Aj E l z (pc + 2) L' S M) : Aj E l z pc L (vi x :: S) M := by
  obtain ⟨A, p, e, R, s, m, args, below, meth, c, cells, slots, Q⟩ := z
  intro H locs ls hP hS hL
  subst hl
  exact lv_istore C.1 C.2.1 d hL (by rw [C.2.2.1]; exact hn) (xl_st (ad := E.1) (v := vi x) (L := L)) (fun ls' hL' => K H locs ls' hP hS hL')
theorem v_istore_n {n : Nat} {k : Fin 4} {x : Int} {L' : LV} (C : Cx E z D own cc nL) (d : decode cc pc = .ok (.istore_n k, 1)) (hk : (k : Nat) = n) (hn : n < nL) (hl : stL n (vi x) L = L') (K : Aj E l z (pc + 1) L' S M) : Aj E l z pc L (vi x :: S) M := by
  obtain ⟨A, p, e, R, s, m, args, below, meth, c, cells, slots, Q⟩ := z
  intro H locs ls hP hS hL
  subst hl
  exact lv_istore_n C.1 C.2.1 d hk hL (by rw [C.2.2.1]; exact hn) (xl_st (ad := E.1) (v := vi x) (L := L)) (fun ls' hL' => K H locs ls' hP hS hL')
theorem v_astore {n : Nat} {o : Option Nat} {L' : LV} (C : Cx E z D own cc nL) (d : decode cc pc = .ok (.astore n, 2)) (hn : n < nL) (hl : stL n (vo o) L = L') (K : Aj E l z (pc + 2) L' S M) : Aj E l z pc L (vo o :: S) M := by
  obtain ⟨A, p, e, R, s, m, args, below, meth, c, cells, slots, Q⟩ := z
  intro H locs ls hP hS hL
  subst hl
  cases o with
  | none => exact lv_astoreN C.1 C.2.1 d hL (by rw [C.2.2.1]; exact hn) (xl_st (ad := E.1) (v := vn) (L := L)) (fun ls' hL' => K H locs ls' hP hS hL')
  | some x => exact lv_astore C.1 C.2.1 d hL (by rw [C.2.2.1]; exact hn) (xl_st (ad := E.1) (v := vr x) (L := L)) (fun ls' hL' => K H locs ls' hP hS hL')
theorem v_astore_n {n : Nat} {k : Fin 4} {o : Option Nat} {L' : LV} (C : Cx E z D own cc nL) (d : decode cc pc = .ok (.astore_n k, 1)) (hk : (k : Nat) = n) (hn : n < nL) (hl : stL n (vo o) L = L') (K : Aj E l z (pc + 1) L' S M) : Aj E l z pc L (vo o :: S) M := by
  obtain ⟨A, p, e, R, s, m, args, below, meth, c, cells, slots, Q⟩ := z
  intro H locs ls hP hS hL
  subst hl
  cases o with
  | none => exact lv_astore_nN C.1 C.2.1 d hk hL (by rw [C.2.2.1]; exact hn) (xl_st (ad := E.1) (v := vn) (L := L)) (fun ls' hL' => K H locs ls' hP hS hL')
  | some x => exact lv_astore_n C.1 C.2.1 d hk hL (by rw [C.2.2.1]; exact hn) (xl_st (ad := E.1) (v := vr x) (L := L)) (fun ls' hL' => K H locs ls' hP hS hL')
theorem v_lstore {n : Nat} {x : Int} {L' : LV} (C : Cx E z D own cc nL) (d : decode cc pc = .ok (.lstore n, 2)) (hn : n + 1 < nL) (hl : stL2 n (vj x) L = L') (K : Aj E l z (pc + 2) L' S M) : Aj E l z pc L (vj x :: S) M := by
  obtain ⟨A, p, e, R, s, m, args, below, meth, c, cells, slots, Q⟩ := z
  intro H locs ls hP hS hL
  subst hl
  exact lv_lstore C.1 C.2.1 d hL (by rw [C.2.2.1]; exact hn) (xl_st2 (ad := E.1) (v := vj x) (L := L)) (fun ls' hL' => K H locs ls' hP hS hL')
theorem v_lstore_n {n : Nat} {k : Fin 4} {x : Int} {L' : LV} (C : Cx E z D own cc nL) (d : decode cc pc = .ok (.lstore_n k, 1)) (hk : (k : Nat) = n) (hn : n + 1 < nL) (hl : stL2 n (vj x) L = L') (K : Aj E l z (pc + 1) L' S M) : Aj E l z pc L (vj x :: S) M := by
  obtain ⟨A, p, e, R, s, m, args, below, meth, c, cells, slots, Q⟩ := z
  intro H locs ls hP hS hL
  subst hl
  exact lv_lstore_n C.1 C.2.1 d hk hL (by rw [C.2.2.1]; exact hn) (xl_st2 (ad := E.1) (v := vj x) (L := L)) (fun ls' hL' => K H locs ls' hP hS hL')
theorem v_iinc {i n : Nat} {k x y : Int} {L' : LV} (C : Cx E z D own cc nL) (d : decode cc pc = .ok (.iinc n k, 3)) (hi : L[i]? = some (n, vi x)) (hn : n < nL) (e : y = x + k) (hl : stL n (vi y) L = L') (K : Aj E l z (pc + 3) L' S M) : Aj E l z pc L S M := by
  obtain ⟨A, p, ee, R, s, m, args, below, meth, c, cells, slots, Q⟩ := z
  intro H locs ls hP hS hL
  subst hl
  subst e
  exact lv_iinc (k := i) (x := Int32.ofInt x) (v := Int32.ofInt (x + k)) C.1 C.2.1 d hL (xl_at hi) (Int32.ofInt_add x k).symm (by rw [C.2.2.1]; exact hn) (xl_st (ad := E.1) (v := vi (x + k)) (L := L)) (fun ls' hL' => K H locs ls' hP hS hL')
/-! constants -/
theorem v_iconst {n : Int} (C : Cx E z D own cc nL) (d : decode cc pc = .ok (.iconst n, 1)) (K : Aj E l z (pc + 1) L (vi n :: S) M) : Aj E l z pc L S M := by
  obtain ⟨A, p, e, R, s, m, args, below, meth, c, cells, slots, Q⟩ := z
  intro H locs ls hP hS hL
  exact lv_iconst C.1 C.2.1 d rfl (K H locs ls hP hS hL)
theorem v_bipush {n : Int} (C : Cx E z D own cc nL) (d : decode cc pc = .ok (.bipush n, 2)) (hn : (Int8.ofInt n).toInt32 = Int32.ofInt n) (K : Aj E l z (pc + 2) L (vi n :: S) M) : Aj E l z pc L S M := by
  obtain ⟨A, p, e, R, s, m, args, below, meth, c, cells, slots, Q⟩ := z
  intro H locs ls hP hS hL
  exact lv_bipush C.1 C.2.1 d hn (K H locs ls hP hS hL)
theorem v_sipush {n : Int} (C : Cx E z D own cc nL) (d : decode cc pc = .ok (.sipush n, 3)) (hn : (Int16.ofInt n).toInt32 = Int32.ofInt n) (K : Aj E l z (pc + 3) L (vi n :: S) M) : Aj E l z pc L S M := by
  obtain ⟨A, p, e, R, s, m, args, below, meth, c, cells, slots, Q⟩ := z
  intro H locs ls hP hS hL
  exact lv_sipush C.1 C.2.1 d hn (K H locs ls hP hS hL)
theorem v_lconst {n : Fin 2} {x : Int} (C : Cx E z D own cc nL) (d : decode cc pc = .ok (.lconst n, 1)) (hn : Int64.ofNat (n : Nat) = Int64.ofInt x) (K : Aj E l z (pc + 1) L (vj x :: S) M) : Aj E l z pc L S M := by
  obtain ⟨A, p, e, R, s, m, args, below, meth, c, cells, slots, Q⟩ := z
  intro H locs ls hP hS hL
  exact lv_lconst C.1 C.2.1 d hn (K H locs ls hP hS hL)
theorem v_ldc {i : Nat} {v : Int32} {x : Int} (C : Cx E z D own cc nL) (w : Cond.constant own i v ∈ GW) (hv : v = Int32.ofInt x) (d : decode cc pc = .ok (.ldc i, 2)) (K : Aj E l z (pc + 2) L (vi x :: S) M) : Aj E l z pc L S M := by
  obtain ⟨A, p, e, R, s, m, args, below, meth, c, cells, slots, Q⟩ := z
  intro H locs ls hP hS hL
  subst hv
  exact lv_ldc C.1 C.2.1 C.2.2.2.1 (C.2.2.2.2.1 _ w) d (K H locs ls hP hS hL)
theorem v_ldcw {i : Nat} {v : Int32} {x : Int} (C : Cx E z D own cc nL) (w : Cond.constant own i v ∈ GW) (hv : v = Int32.ofInt x) (d : decode cc pc = .ok (.ldc_w i, 3)) (K : Aj E l z (pc + 3) L (vi x :: S) M) : Aj E l z pc L S M := by
  obtain ⟨A, p, e, R, s, m, args, below, meth, c, cells, slots, Q⟩ := z
  intro H locs ls hP hS hL
  subst hv
  exact lv_ldcw C.1 C.2.1 C.2.2.2.1 (C.2.2.2.2.1 _ w) d (K H locs ls hP hS hL)
theorem v_ldc2 {i : Nat} {v : Int64} {x : Int} (C : Cx E z D own cc nL) (w : Cond.constantLong own i v ∈ GW) (hv : v = Int64.ofInt x) (d : decode cc pc = .ok (.ldc2_w i, 3)) (K : Aj E l z (pc + 3) L (vj x :: S) M) : Aj E l z pc L S M := by
  obtain ⟨A, p, e, R, s, m, args, below, meth, c, cells, slots, Q⟩ := z
  intro H locs ls hP hS hL
  subst hv
  exact lv_ldc2 C.1 C.2.1 C.2.2.2.1 (C.2.2.2.2.1 _ w) d (K H locs ls hP hS hL)
end ROWS
