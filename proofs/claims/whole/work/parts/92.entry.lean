/-! AT THE LAW'S ENTRY: what the tables and the start give -/
theorem tb1 {w : Cond} (i : Nat) (h : tables_1_1[i]? = some w) : w ∈ lw_tbl := List.mem_append_right _ (List.mem_append_left _ (List.mem_of_getElem? h))
theorem tb2 {w : Cond} (i : Nat) (h : tables_1_2[i]? = some w) : w ∈ lw_tbl := List.mem_append_right _ (List.mem_append_right _ (List.mem_append_left _ (List.mem_of_getElem? h)))
theorem tb5 {w : Cond} (i : Nat) (h : tables_1_5[i]? = some w) : w ∈ lw_tbl := List.mem_append_right _ (List.mem_append_right _ (List.mem_append_right _ (List.mem_append_right _ (List.mem_append_right _ (List.mem_of_getElem? h)))))
theorem cls_in : ∀ q ∈ vwCl, ∃ n, Cond.instantiable q.1 n ∈ GW := List.forall_mem_cons.mpr ⟨⟨_, in_RX0⟩, List.forall_mem_cons.mpr ⟨⟨_, in_RX1⟩, List.forall_mem_cons.mpr ⟨⟨_, in_RX3⟩, List.forall_mem_cons.mpr ⟨⟨_, in_RX4⟩, List.forall_mem_cons.mpr ⟨⟨_, in_RX5⟩, List.forall_mem_cons.mpr ⟨⟨_, in_RX6⟩, List.forall_mem_cons.mpr ⟨⟨_, in_RX8⟩, List.forall_mem_cons.mpr ⟨⟨_, in_RX9⟩, List.forall_mem_cons.mpr ⟨⟨_, in_RX10⟩, List.forall_mem_cons.mpr ⟨⟨_, in_RX11⟩, List.forall_mem_cons.mpr ⟨⟨_, in_RX12⟩, fun _ h => absurd h List.not_mem_nil⟩⟩⟩⟩⟩⟩⟩⟩⟩⟩⟩
theorem ent_K {args : Array Value} {s : State} (hG : ∀ w ∈ GW, w.before args s = true) (hO : (Cond.arrayOver (.object "WholeMarks$Sheet")).before args s = true) : ∃ (D : va_G) (T : T3), va_K D vwCl (ty3 T) s := by
  have k1 : ∀ c : Nat, ∃ (cC : ClassId) (iS : Nat → Nat), ∀ q : vw_C, vwCl[c]? = some q → u_Kn s q.1 q.2.1 q.2.2 cC iS := by
    intro c
    by_cases hc : c < vwCl.length
    · have hm : vwCl[c]? = some vwCl[c] := List.getElem?_eq_getElem hc
      obtain ⟨n, hn⟩ := cls_in vwCl[c] (List.getElem_mem hc)
      obtain ⟨cC, iS, hk⟩ := u_known (C := vwCl[c].1) (T := vwCl[c].2.1) (N := vwCl[c].2.2) (n := n) hG (cls_ok _ (List.getElem_mem hc)).1 (hG _ hn)
      refine ⟨cC, iS, fun q hq => ?_⟩
      rw [hm] at hq
      rw [← Option.some.inj hq]
      exact hk
    · refine ⟨0, fun _ => 0, fun q hq => ?_⟩
      exact absurd (List.getElem?_eq_some_iff.mp hq).1 hc
  obtain ⟨c1, kA1, m1, f1, f2, f3⟩ := Cond.arrayClass_spec (hG _ ac_int)
  obtain ⟨c2, kA2, m2, g1, g2, g3⟩ := Cond.arrayClass_spec (hG _ ac_long)
  obtain ⟨m3, c3, kA3, h1, h2, h3, h4, h5⟩ := Cond.arrayOver_spec hO
  refine ⟨⟨fun c => (k1 c).choose, fun c => (k1 c).choose_spec.choose⟩, ⟨c1, c2, c3⟩, ⟨fun c q hq => (k1 c).choose_spec.choose_spec q hq, fun k q hk => ?_⟩⟩
  match k, hk with
  | 0, hk =>
    rw [← Option.some.inj hk]
    exact ⟨fun n z => ⟨fun k h => (by cases h), kA1, f2, m1, f3⟩, f1⟩
  | 1, hk =>
    rw [← Option.some.inj hk]
    exact ⟨fun n z => ⟨fun k h => (by cases h), kA2, g2, m2, g3⟩, g1⟩
  | 2, hk =>
    rw [← Option.some.inj hk]
    exact ⟨fun n z => ⟨fun k h => (by cases h), kA3, h3, m3, h4⟩, kA3, m3, h3, h4, h1, h5⟩
  | n + 3, hk => cases hk
theorem ent_NW {args : Array Value} {s : State} (hts : ∀ w ∈ lw_tbl, w.before args s = true) : NW s :=
  ⟨va_Nw.of rfl (hts _ (tb1 28 (by decide +kernel))), va_Nw.of rfl (hts _ (tb1 34 (by decide +kernel))), va_Nw.of rfl (hts _ (tb1 54 (by decide +kernel))), va_Nw.of rfl (hts _ (tb1 84 (by decide +kernel))), va_Nw.of rfl (hts _ (tb1 131 (by decide +kernel))), va_Nw.of rfl (hts _ (tb1 162 (by decide +kernel))), va_Nw.of rfl (hts _ (tb1 179 (by decide +kernel))), va_Nw.of rfl (hts _ (tb1 215 (by decide +kernel))), va_AO.of (hts _ (tb1 159 (by decide +kernel)))⟩
theorem in4 {P : Nat → Prop} (h0 : P 0) (h1 : P 1) (h2 : P 2) (h3 : P 3) : ∀ i, i < 4 → P i := by
  intro i hi
  rcases (show i = 0 ∨ i = 1 ∨ i = 2 ∨ i = 3 by omega) with rfl | rfl | rfl | rfl
  · exact h0
  · exact h1
  · exact h2
  · exact h3
abbrev clNm : List String := ["LINEN", "WOOL", "SILK", "FELT"]
abbrev clSt (i : Nat) : Term := .static "WholeMarks$Cloth" (clNm.getD i "") "LWholeMarks$Cloth;"
abbrev clTb : Term := .static "WholeMarks" "CLOTHS" "[LWholeMarks$Cloth;"
theorem ent_E {b : Nat} {s : State} (hts : ∀ w ∈ lw_tbl, w.before #[Value.ref b] s = true) (hgv : (Jvm.Cond.and given_1 narrow_1).before #[Value.ref b] s = true) : ∃ (cl : Nat) (e : Nat → Nat), ∀ (q : Nat → Nat) (D : va_G) (T : T3), EW (adr b cl e q, D, T) (fun x => s.heap.size ≤ x) s s.heap := by
  have hs := flat_of_before _ hgv
  have hA : ∀ a : Nat, a < s.heap.size → ¬ (fun x => s.heap.size ≤ x) a := fun a h => Nat.not_le.mpr h
  have hini : (Cond.initialized "WholeMarks$Cloth").before #[Value.ref b] s = true := hts _ (tb1 16 (by decide +kernel))
  have hini0 : (Cond.initialized "WholeMarks").before #[Value.ref b] s = true := hts _ (tb1 1 (by decide +kernel))
  have hl : ∀ i, i < 4 → (Cond.laysStatic "WholeMarks$Cloth" (clNm.getD i "") "LWholeMarks$Cloth;").before #[Value.ref b] s = true := in4 (hts _ (tb2 151 (by decide +kernel))) (hts _ (tb5 78 (by decide +kernel))) (hts _ (tb5 79 (by decide +kernel))) (hts _ (tb5 80 (by decide +kernel)))
  have hex : ∀ i, i < 4 → (Cond.exactly (clSt i) "WholeMarks$Cloth").before #[Value.ref b] s = true := in4 (hs _ (by decide +kernel)) (hs _ (by decide +kernel)) (hs _ (by decide +kernel)) (hs _ (by decide +kernel))
  have hf1 : ∀ i, i < 4 → (Cond.eq (.field (clSt i) "WholeMarks$Cloth" "lostByCut" "I") (.int ([0, 1, 0, 1].getD i 0))).before #[Value.ref b] s = true := in4 (hs _ (by decide +kernel)) (hs _ (by decide +kernel)) (hs _ (by decide +kernel)) (hs _ (by decide +kernel))
  have hf2 : ∀ i, i < 4 → (Cond.eq (.field (clSt i) "WholeMarks$Cloth" "losesBySeam" "Z") (.int ([1, 1, 0, 0].getD i 0))).before #[Value.ref b] s = true := in4 (hs _ (by decide +kernel)) (hs _ (by decide +kernel)) (hs _ (by decide +kernel)) (hs _ (by decide +kernel))
  have hne : ∀ i j, i < 4 → j < 4 → i < j → (Cond.not (.eq (clSt i) (clSt j))).before #[Value.ref b] s = true := by
    intro i j hi hj hij
    rcases (show (i = 0 ∧ j = 1) ∨ (i = 0 ∧ j = 2) ∨ (i = 0 ∧ j = 3) ∨ (i = 1 ∧ j = 2) ∨ (i = 1 ∧ j = 3) ∨ (i = 2 ∧ j = 3) by omega) with ⟨rfl, rfl⟩ | ⟨rfl, rfl⟩ | ⟨rfl, rfl⟩ | ⟨rfl, rfl⟩ | ⟨rfl, rfl⟩ | ⟨rfl, rfl⟩
    · exact hs _ (by decide +kernel)
    · exact hs _ (by decide +kernel)
    · exact hs _ (by decide +kernel)
    · exact hs _ (by decide +kernel)
    · exact hs _ (by decide +kernel)
    · exact hs _ (by decide +kernel)
  obtain ⟨e, hEn, hev⟩ := va_Enof2 (E := "WholeMarks$Cloth") (d := "LWholeMarks$Cloth;") (nm := clNm) (F := [("WholeMarks$Cloth", "lostByCut", "I", [0, 1, 0, 1]), ("WholeMarks$Cloth", "losesBySeam", "Z", [1, 1, 0, 0])]) (A := fun x => s.heap.size ≤ x) hl hini hex
    (List.forall_mem_cons.mpr ⟨hf1, List.forall_mem_cons.mpr ⟨hf2, fun _ h => absurd h List.not_mem_nil⟩⟩)
    (fun i j hi hj hij => if c : i < j then Or.inl (hne i j hi hj c) else Or.inr (hne j i hj hi (by omega))) hA
  have hel : ∀ j : Nat, j < 4 → (Term.elem clTb (.int (Int32.ofNat j))).eval #[Value.ref b] s none [] s = some (.ref (e j)) := in4 (va_eqv (u := clSt 0) (hs _ (by decide +kernel)) (hev 0 (by decide))) (va_eqv (u := clSt 1) (hs _ (by decide +kernel)) (hev 1 (by decide))) (va_eqv (u := clSt 2) (hs _ (by decide +kernel)) (hev 2 (by decide))) (va_eqv (u := clSt 3) (hs _ (by decide +kernel)) (hev 3 (by decide)))
  have hlen : (Cond.eq (.length clTb) (.int 4)).before #[Value.ref b] s = true := hs _ (by decide +kernel)
  obtain ⟨cl, hcl, hT⟩ := va_Tof (tm := clTb) (ty := .object "WholeMarks$Cloth") (N := 4) (f := fun i => .ref (e i)) (A := fun x => s.heap.size ≤ x) (by decide) (hs _ (by decide +kernel)) (va_eqt hlen) hel hA
  refine ⟨cl, e, fun q D T => ⟨va_Zof (hts _ (tb2 110 (by decide +kernel))) hini0 hcl hA, ?_, ?_, ?_, ?_, va_Nw.of rfl (hts _ (tb2 149 (by decide +kernel)))⟩⟩
  · simp only [adr_e]
    exact hT
  · exact (hEn.1 0 (by decide)).1
  · intro i hi
    simp only [adr_e]
    have h := (hEn.1 i hi).2.2 _ List.mem_cons_self
    have hv : ∀ i, i < 4 → ([0, 1, 0, 1] : List Int32).getD i 0 = Int32.ofInt (lbc i) := by decide +kernel
    rw [← hv i hi]
    exact h
  · intro i hi
    simp only [adr_e]
    have h := (hEn.1 i hi).2.2 _ (List.mem_cons_of_mem _ List.mem_cons_self)
    have hv : ∀ i, i < 4 → ([1, 1, 0, 0] : List Int32).getD i 0 = Int32.ofInt (lbs i) := by decide +kernel
    rw [← hv i hi]
    exact h
