/-! THE ABSTRACT MACHINE: values are mathematical ints; the heap is ONE function M : cell -> place -> Int; which cells there are, and what stands where in them, is fixed (kd, ft): nothing is made behind the constructors. -/
abbrev AV : Type := Int ⊕ Int ⊕ Option Nat
abbrev MM : Type := Nat → Nat → Int
abbrev FX : Type := (Nat → Nat) × va_G × ClassId × ClassId × ClassId
abbrev MI : Type := MethodName × ByteArray × Nat × Option FieldType
abbrev vi (x : Int) : AV := .inl x
abbrev vj (x : Int) : AV := .inr (.inl x)
abbrev vo (o : Option Nat) : AV := .inr (.inr o)
abbrev vr (k : Nat) : AV := .inr (.inr (some k))
abbrev vn : AV := .inr (.inr none)
def xv (ad : Nat → Nat) : AV → Value
  | .inl x => .int (Int32.ofInt x)
  | .inr (.inl x) => .long (Int64.ofInt x)
  | .inr (.inr none) => .null
  | .inr (.inr (some k)) => .ref (ad k)
def xcat : AV → Nat
  | .inl _ => 1
  | .inr (.inl _) => 2
  | .inr (.inr _) => 1
theorem xv_cat (ad : Nat → Nat) (v : AV) : (xv ad v).category = xcat v := by
  rcases v with x | x | _ | x <;> rfl
/-- a cell's kind: 0 ints, 1 longs, 2 references (each with its length), 3 an object (with its class's place in vwCl) -/
def kd (k : Nat) : Nat × Nat := match k with
  | 0 => (3, 9) | 1 => (3, 4) | 2 => (3, 4)
  | 3 => (3, 8) | 4 => (0, 3) | 5 => (3, 0) | 6 => (0, 8) | 7 => (0, 8) | 8 => (0, 8) | 9 => (3, 1) | 10 => (0, 6) | 11 => (3, 2) | 12 => (0, 16) | 13 => (0, 16)
  | 14 => (3, 8) | 15 => (0, 3) | 16 => (3, 0) | 17 => (0, 8) | 18 => (0, 8) | 19 => (0, 8) | 20 => (3, 1) | 21 => (0, 6) | 22 => (3, 2) | 23 => (0, 16) | 24 => (0, 16)
  | 25 => (3, 7) | 26 => (0, 40) | 27 => (0, 3)
  | 28 => (2, 4) | 29 => (3, 6) | 30 => (3, 6) | 31 => (3, 6) | 32 => (3, 6) | 33 => (1, 16) | 34 => (1, 16) | 35 => (1, 16) | 36 => (1, 16)
  | 37 => (3, 5) | 38 => (1, 3)
  | 39 => (3, 3) | 40 => (1, 256) | 41 => (0, 8) | 42 => (0, 8) | 43 => (0, 8)
  | 44 => (3, 10) | 45 => (0, 140) | 46 => (0, 40) | 47 => (1, 3) | 48 => (0, 3) | 49 => (0, 8) | 50 => (0, 8) | 51 => (0, 8) | 52 => (0, 4) | 53 => (0, 4) | 54 => (1, 64) | 55 => (1, 16)
  | _ => (4, 0)
/-- an object's fields: 0 an int, 1 a long, t + 2 the cell t -/
def ft (k : Nat) : List Nat := match k with
  | 0 => [3, 4, 0, 27, 30, 39, 41]
  | 1 => [5, 7, 11, 13] | 2 => [16, 18, 22, 24]
  | 3 => [6, 0, 0] | 5 => [8, 9, 10, 0, 0, 0] | 9 => [12, 0] | 11 => [14, 15]
  | 14 => [17, 0, 0] | 16 => [19, 20, 21, 0, 0, 0] | 20 => [23, 0] | 22 => [25, 26]
  | 25 => [28, 0, 0, 29, 0, 0]
  | 29 => [35, 0, 0, 0] | 30 => [36, 0, 0, 0] | 31 => [37, 0, 0, 0] | 32 => [38, 0, 0, 0]
  | 37 => [40, 0, 1]
  | 39 => [42, 43, 44, 45, 0, 0, 0, 0, 1]
  | 44 => [47, 0, 48, 0, 49, 0, 1, 0, 50, 0, 0, 51, 52, 0, 53, 54, 55, 56, 57]
  | _ => []
/-- a field's value -/
def fv (M : MM) (k j t : Nat) : AV := match t with
  | 0 => vi (M k j)
  | 1 => vj (M k j)
  | t + 2 => vr t
def fls (ad : Nat → Nat) (M : MM) (k : Nat) : List Value := (ft k).mapIdx (fun j t => xv ad (fv M k j t))
def cel (E : FX) (M : MM) (k : Nat) : va_E := match kd k with
  | (0, n) => .inl (E.2.2.1, n, .inl (fun j => Int32.ofInt (M k j)))
  | (1, n) => .inl (E.2.2.2.1, n, .inr (.inl (fun j => Int64.ofInt (M k j))))
  | (2, n) => .inl (E.2.2.2.2, n, .inr (.inr (.inr (.inr (fun j => some (E.1 (29 + j)))))))
  | (_, ci) => .inr (ci, fls E.1 M k)
def wM (E : FX) (M : MM) : va_W := (List.range 56).map (fun k => (E.1 k, cel E M k))
def tyl (E : FX) : List (ClassId × FieldType) := [(E.2.2.1, .int), (E.2.2.2.1, .long), (E.2.2.2.2, .object "WholeMarks$Sheet")]
/-- the heap with one place anew -/
def up (M : MM) (k j : Nat) (x : Int) : MM := fun k' j' => if k' = k ∧ j' = j then x else M k' j'
theorem wM_at (E : FX) (M : MM) {k : Nat} (h : k < 56) : (wM E M)[k]? = some (E.1 k, cel E M k) := by
  simp [wM, h]
theorem wM_set (E : FX) (M M' : MM) {k : Nat} (h : k < 56) (hk : ∀ k', k' < 56 → k' ≠ k → cel E M' k' = cel E M k') : (wM E M).set k (E.1 k, cel E M' k) = wM E M' := by
  apply List.ext_getElem?
  intro i
  by_cases hi : i < 56
  · rw [List.getElem?_set, wM_at E M' hi]
    by_cases hik : k = i
    · subst hik
      simp [wM, h]
    · rw [if_neg hik, wM_at E M hi, hk i hi (fun e => hik e.symm)]
  · have h1 : (wM E M').length ≤ i := by simp [wM]; omega
    have h2 : ((wM E M).set k (E.1 k, cel E M' k)).length ≤ i := by simp [wM]; omega
    rw [List.getElem?_eq_none h1, List.getElem?_eq_none h2]
theorem fls_up (ad : Nat → Nat) (M : MM) {k k' j : Nat} {x : Int} (h : k' ≠ k) : fls ad (up M k j x) k' = fls ad M k' := by
  unfold fls
  apply List.ext_getElem?
  intro i
  simp only [List.getElem?_mapIdx]
  cases (ft k')[i]? with
  | none => rfl
  | some t =>
    rcases t with _ | _ | t <;> simp [fv, up, h]
theorem cel_up (E : FX) (M : MM) {k j : Nat} {x : Int} (k' : Nat) (h : k' ≠ k) : cel E (up M k j x) k' = cel E M k' := by
  unfold cel
  split <;> first | (simp [up, h]; done) | (rw [fls_up E.1 M h])
theorem wM_up (E : FX) (M : MM) {k j : Nat} {x : Int} (h : k < 56) : (wM E M).set k (E.1 k, cel E (up M k j x) k) = wM E (up M k j x) :=
  wM_set E M _ h (fun k' _ hk => cel_up E M k' hk)
theorem fls_at (ad : Nat → Nat) (M : MM) {k j t : Nat} (h : (ft k)[j]? = some t) : (fls ad M k)[j]? = some (xv ad (fv M k j t)) := by
  simp [fls, List.getElem?_mapIdx, h]
theorem fls_set (ad : Nat → Nat) (M : MM) {k j t : Nat} {x : Int} (h : (ft k)[j]? = some t) (ht : t < 2) : (fls ad M k).set j (xv ad (fv (up M k j x) k j t)) = fls ad (up M k j x) k := by
  unfold fls
  apply List.ext_getElem?
  intro i
  rw [List.getElem?_set]
  simp only [List.getElem?_mapIdx, List.length_mapIdx]
  by_cases hij : j = i
  · subst hij
    rw [if_pos rfl, if_pos (List.getElem?_eq_some_iff.mp h).1, h]
    rfl
  · rw [if_neg hij]
    cases (ft k)[i]? with
    | none => rfl
    | some t' =>
      have h2 : ¬ (i = j) := fun e => hij e.symm
      rcases t' with _ | _ | t' <;> simp [fv, up, h2]
/-- the addresses are apart -/
def Apt (E : FX) : Prop := ∀ i j, i < 56 → j < 56 → E.1 i = E.1 j → i = j
def AW (E : FX) (sz : Nat) : Nat → Prop := fun q => (∃ k, k < 56 ∧ q = E.1 k) ∨ sz ≤ q
theorem wM_D {E : FX} {A : Nat → Prop} (hE : Apt E) (hA : ∀ k, k < 56 → A (E.1 k)) (M : MM) : va_D A (wM E M) := by
  refine ⟨fun i j p q hp hq h => ?_, fun k q hq => ?_⟩
  · have hi : i < 56 := by
      have := (List.getElem?_eq_some_iff.mp hp).1
      simpa [wM] using this
    have hj : j < 56 := by
      have := (List.getElem?_eq_some_iff.mp hq).1
      simpa [wM] using this
    rw [wM_at E M hi] at hp
    rw [wM_at E M hj] at hq
    cases hp
    cases hq
    exact hE i j hi hj h
  · have hk : k < 56 := by
      have := (List.getElem?_eq_some_iff.mp hq).1
      simpa [wM] using this
    rw [wM_at E M hk] at hq
    cases hq
    exact hA k hk
theorem wM_A {E : FX} {M : MM} {sz : Nat} : ∀ q, AW E sz q ↔ va_A (wM E M) sz q := by
  intro q
  constructor
  · rintro (⟨k, hk, rfl⟩ | h)
    · exact Or.inl ⟨k, cel E M k, wM_at E M hk⟩
    · exact Or.inr h
  · rintro (⟨k, e, h⟩ | h)
    · have hk : k < 56 := by
        have := (List.getElem?_eq_some_iff.mp h).1
        simpa [wM] using this
      rw [wM_at E M hk] at h
      cases h
      exact Or.inl ⟨k, hk, rfl⟩
    · exact Or.inr h
/-- the enum: cell 100 is CLOTHS, 101 .. 104 its constants -/
def lbc (i : Nat) : Int := if i = 1 ∨ i = 3 then 1 else 0
def lbs (i : Nat) : Int := if i < 2 then 1 else 0
def EW (E : FX) (A : Nat → Prop) (U : State) (H : Heap) : Prop :=
  va_Z "WholeMarks" "CLOTHS" "[LWholeMarks$Cloth;" (.ref (E.1 100)) A U H ∧
  va_T (.object "WholeMarks$Cloth") (E.1 100) 4 (fun i => .ref (E.1 (101 + i))) A U H ∧
  va_Z "WholeMarks$Cloth" "LINEN" "LWholeMarks$Cloth;" (.ref (E.1 101)) A U H ∧
  va_Ef 4 "WholeMarks$Cloth" "lostByCut" "I" (fun i => .int (Int32.ofInt (lbc i))) (fun i => E.1 (101 + i)) A U H ∧
  va_Ef 4 "WholeMarks$Cloth" "losesBySeam" "Z" (fun i => .int (Int32.ofInt (lbs i))) (fun i => E.1 (101 + i)) A U H ∧
  va_Nw (.fieldLinkNest RX0 79 "WholeMarks" "CLOTHS" "[LWholeMarks$Cloth;" "WholeMarks") U
theorem EW.kept {E : FX} {A : Nat → Prop} {U : State} {H H1 : Heap} (h : EW E A U H) (hq : ∀ a : Nat, a < H.size → ¬ A a → H1[a]? = H[a]?) : EW E A U H1 :=
  ⟨h.1.kept hq, h.2.1.kept hq, h.2.2.1.kept hq, h.2.2.2.1.kept hq, h.2.2.2.2.1.kept hq, h.2.2.2.2.2⟩
theorem EW.narrow {E : FX} {A B : Nat → Prop} {U : State} {H : Heap} (h : EW E A U H) (hAB : ∀ q, B q → A q) : EW E B U H :=
  ⟨h.1.narrow hAB, h.2.1.narrow hAB, h.2.2.1.narrow hAB, h.2.2.2.1.narrow hAB, h.2.2.2.2.1.narrow hAB, h.2.2.2.2.2⟩
theorem EW.moved {E : FX} {A : Nat → Prop} {u U : State} {H : Heap} (hW : u.WarmedH U.vm) (h : EW E A u H) : EW E A U H :=
  ⟨h.1.moved hW.alike, h.2.1.moved hW.alike, h.2.2.1.moved hW.alike, h.2.2.2.1.moved hW.alike, h.2.2.2.2.1.moved hW.alike, h.2.2.2.2.2.warmF hW⟩
