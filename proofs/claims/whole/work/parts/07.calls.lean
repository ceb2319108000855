section RET
variable {E : FX} {l : Launch} {z : RT} {D : Nat} {own : String} {cc : ByteArray} {nL pc : Nat} {L : LV} {S : List AV} {M : MM} {post : Option AV → MM → Prop}
theorem v_iret {a : Int} (C : Cx E z D own cc nL) (r : Rt E z (some .int) post) (d : decode cc pc = .ok (.ireturn, 1)) (h : post (some (vi a)) M) : Aj E l z pc L [vi a] M := by
  obtain ⟨A, p, e, R, s, m, args, below, meth, c, cells, slots, Q⟩ := z
  obtain ⟨hr, hlocks, hA, rfl, rfl, rfl⟩ := r
  intro H locs ls hP hS hL
  exact W.iret C.1 C.2.1 hr (fun t ht _ => ⟨⟨some (vi a), M, rfl, h, by rw [ht]; exact hP⟩, hS.F ht⟩) hS.2.2 d hlocks
theorem v_zret {a : Int} (C : Cx E z D own cc nL) (r : Rt E z (some .boolean) post) (ha : a = 0 ∨ a = 1) (d : decode cc pc = .ok (.ireturn, 1)) (h : post (some (vi a)) M) : Aj E l z pc L [vi a] M := by
  obtain ⟨A, p, e, R, s, m, args, below, meth, c, cells, slots, Q⟩ := z
  obtain ⟨hr, hlocks, hA, rfl, rfl, rfl⟩ := r
  intro H locs ls hP hS hL
  exact W.zret C.1 C.2.1 hr (by rcases ha with rfl | rfl <;> decide) (fun t ht _ => ⟨⟨some (vi a), M, rfl, h, by rw [ht]; exact hP⟩, hS.F ht⟩) hS.2.2 d hlocks
theorem v_lret {a : Int} (C : Cx E z D own cc nL) (r : Rt E z (some .long) post) (d : decode cc pc = .ok (.lreturn, 1)) (h : post (some (vj a)) M) : Aj E l z pc L [vj a] M := by
  obtain ⟨A, p, e, R, s, m, args, below, meth, c, cells, slots, Q⟩ := z
  obtain ⟨hr, hlocks, hA, rfl, rfl, rfl⟩ := r
  intro H locs ls hP hS hL
  exact W.lret C.1 C.2.1 hr (fun t ht _ => ⟨⟨some (vj a), M, rfl, h, by rw [ht]; exact hP⟩, hS.F ht⟩) hS.2.2 d hlocks
theorem v_aret {o : Option Nat} {cn : String} (C : Cx E z D own cc nL) (r : Rt E z (some (.object cn)) post) (d : decode cc pc = .ok (.areturn, 1)) (h : post (some (vo o)) M) : Aj E l z pc L [vo o] M := by
  obtain ⟨A, p, e, R, s, m, args, below, meth, c, cells, slots, Q⟩ := z
  obtain ⟨hr, hlocks, hA, rfl, rfl, rfl⟩ := r
  intro H locs ls hP hS hL
  refine W.aret (v := xv E.1 (vo o)) C.1 C.2.1 hr (Or.inl ⟨cn, rfl⟩) ?_ (fun t ht _ => ⟨⟨some (vo o), M, rfl, h, by rw [ht]; exact hP⟩, hS.F ht⟩) hS.2.2 d hlocks
  cases o with
  | none => exact Or.inl rfl
  | some x => exact Or.inr ⟨_, rfl⟩
theorem v_vret (C : Cx E z D own cc nL) (r : Rt E z none post) (d : decode cc pc = .ok (.return_, 1)) (h : post none M) : Aj E l z pc L [] M := by
  obtain ⟨A, p, e, R, s, m, args, below, meth, c, cells, slots, Q⟩ := z
  obtain ⟨hr, hlocks, hA, rfl, rfl, rfl⟩ := r
  intro H locs ls hP hS hL
  exact W.vret C.1 C.2.1 hr (fun t ht _ => ⟨⟨none, M, rfl, h, by rw [ht]; exact hP⟩, hS.F ht⟩) hS.2.2 d hlocks
end RET
/-- the locals at a method's entry -/
def avA : Nat → List AV → LV
  | _, [] => []
  | i, v :: vs => (i, v) :: avA (if xcat v = 2 then i + 2 else i + 1) vs
theorem avA_xl (ad : Nat → Nat) : ∀ (As : List AV) (i : Nat), lv_args i (As.map (xv ad)) = xl ad (avA i As)
  | [], _ => rfl
  | v :: vs, i => by
    simp only [List.map_cons, lv_args, avA, xl, xv_cat]
    rw [avA_xl ad vs]
    rfl
theorem sl_len (ad : Nat → Nat) : ∀ As : List AV, (lg_sl (As.map (xv ad))).length = (As.map xcat).sum
  | [] => rfl
  | v :: vs => by
    have h := sl_len ad vs
    unfold lg_sl at h ⊢
    simp only [List.map_cons, List.flatMap_cons, List.length_append, List.sum_cons, h, xv_cat]
    rcases v with x | x | x <;> rfl
theorem GoodIn_mw {q : MI} (co : Cond.code q.1 q.2.1 q.2.2.1 q.2.2.2 ∈ GW) : GoodIn GW (mw q) := by
  intro w hw
  rcases List.mem_cons.mp hw with h | h
  · subst h
    exact ⟨co, gw_good _ co⟩
  · exact ⟨h, gw_good _ h⟩
theorem con_of {E : FX} {l : Launch} {D : Nat} {q : MI} {As : List AV} {M : MM} {post : Option AV → MM → Prop} (hy : plainName q.1.cls = true) (hlen : (As.map xcat).sum ≤ q.2.2.1)
    (body : ∀ z : RT, Cx E z D q.1.cls q.2.1 q.2.2.1 → Rt E z q.2.2.2 post → Aj E l z 0 (avA 0 As) [] M) : Con E l (D + 1) q As M post := by
  refine ⟨D, post, Nat.lt_succ_self D, fun _ _ h => h, fun sz => ?_⟩
  refine Met.ofW (cc := q.2.1) (maxL := q.2.2.1) (ret := q.2.2.2) hy rfl ?_
  intro p e s m args below meth c s₁ B hml hv
  obtain ⟨rfl, hsz, hP, hK, hApt, hE⟩ := hv
  subst hsz
  have hts : ∀ w ∈ GW, w.before (As.map (xv E.1)).toArray s = true := fun w hw => atoms_spec (ws := mw q) B.pre w (List.mem_cons_of_mem _ hw)
  have hb := body (AW E s.heap.size, p, e, rmD D, s, m, (As.map (xv E.1)).toArray, below, meth, c, 0, 0, MQ below (CQ E post (AW E s.heap.size)) (As.map (xv E.1)).toArray s 0 0 (AW E s.heap.size)) ⟨B.exec, B.bytes, hml, findClass_of_methodNamed B.named, hts, hK, hApt, fun k hk => Or.inl ⟨k, hk, rfl⟩, fun _ h => Or.inr h, hE, ⟨Nat.le_refl _, Nat.le_refl _⟩, Nat.le_refl _, Nat.le_refl _⟩ ⟨B.returns, B.notSynchronized, rfl, rfl, rfl, rfl⟩
  rw [lg_entry_eq]
  refine hb s.heap [] _ hP va_S.rf ?_
  rw [← avA_xl, hml]
  exact lv_entry _ (by rw [sl_len]; exact hlen)
section CALL
variable {E : FX} {l : Launch} {z : RT} {D : Nat} {own : String} {cc : ByteArray} {nL pc : Nat} {L : LV} {S : List AV} {M : MM}
theorem CP_at {A : Nat → Prop} {p : Program} {e : Env} {R : Room} {s : State} {m : MethodId} {args : Array Value} {below : List Frame} {meth : Method} {c : Code} {cells slots : Nat} {Q : State → Prop} {H : Heap} {locs : List Loc} {As : List AV} (C : Cx E (A, p, e, R, s, m, args, below, meth, c, cells, slots, Q) D own cc nL) (hP : va_P E.2.1 vwCl (wM E M) H) (hS : va_S A s.heap H locs) (U : State) (hU : U.heap = H) (hW : s.WarmedH U.vm) : CP E As M H.size (As.map (xv E.1)).toArray U := by
  refine ⟨rfl, by rw [hU], by rw [hU]; exact hP, va_K.moved hW.alike C.2.2.2.2.2.1, C.2.2.2.2.2.2.1, ?_⟩
  rw [hU]
  refine EW.narrow (A := A) (EW.moved hW (C.enum.kept hS.2.1)) (fun q hq => ?_)
  rcases hq with ⟨k, hk, rfl⟩ | h
  · exact C.2.2.2.2.2.2.2.1 k hk
  · exact C.2.2.2.2.2.2.2.2.1 q (Nat.le_trans hS.1 h)
theorem AW_A {A : Nat → Prop} {p : Program} {e : Env} {R : Room} {s : State} {m : MethodId} {args : Array Value} {below : List Frame} {meth : Method} {c : Code} {cells slots : Nat} {Q : State → Prop} {H : Heap} {locs : List Loc} (C : Cx E (A, p, e, R, s, m, args, below, meth, c, cells, slots, Q) D own cc nL) (hS : va_S A s.heap H locs) : ∀ q, AW E H.size q → A q := by
  intro q hq
  rcases hq with ⟨k, hk, rfl⟩ | h
  · exact C.2.2.2.2.2.2.2.1 k hk
  · exact C.2.2.2.2.2.2.2.2.1 q (Nat.le_trans hS.1 h)
theorem run_on {A : Nat → Prop} {p : Program} {e : Env} {R : Room} {s : State} {m : MethodId} {args a : Array Value} {below : List Frame} {meth : Method} {c : Code} {cells slots : Nat} {Q : State → Prop} {H : Heap} {locs : List Loc} {ls : Array Slot} {st0 : List Value} {S : List AV} {P0 : Option AV → MM → Prop} (C : Cx E (A, p, e, R, s, m, args, below, meth, c, cells, slots, Q) D own cc nL) (hS : va_S A s.heap H locs) (hL : lv_has ls c.maxLocals (xl E.1 L))
    (hr : va_Run p l e R s m args below meth c H locs cells slots 0 0 (F0 m pc ls st0) (S.map (xv E.1)) (CQ E P0 (AW E H.size) a) (AW E H.size)) (hk0 : ∀ r M', P0 r M' → Aj E l (A, p, e, R, s, m, args, below, meth, c, cells, slots, Q) (pc + 3) L (r.toList ++ S) M') : W p l e R s m args below meth c H locs cells slots Q (F0 m pc ls st0) := by
  intro T hT X
  obtain ⟨v, st₀, t, T', L', h0, X', hL', e1, e2, ⟨⟨r, M', hv, hp, hP'⟩, hz, hk⟩, st⟩ := hr T hT X
  cases hv
  rw [h0] at hz hk
  have hA := AW_A C hS
  obtain ⟨t2, a1, b1⟩ := hk0 r M' hp T'.heap (locs ++ L') ls (by rw [e1]; exact hP') ⟨Nat.le_trans hS.1 (by rw [e1]; exact hz), fun q h1 h2 => by rw [e1, hk q (Nat.lt_of_lt_of_le h1 hS.1) (fun zz => h2 (hA q zz))]; exact hS.2.1 q h1 h2, fun q hq => by
      rcases List.mem_append.mp hq with h | h
      · exact hS.2.2 q h
      · exact hA _ (hL' q h)⟩ hL T' rfl X'
  have es : (r.toList ++ S).map (xv E.1) = (r.map (xv E.1)).toList ++ S.map (xv E.1) := by
    cases r <;> simp
  rw [es] at a1
  exact ⟨t2, st t2 a1, b1⟩
theorem room_c {S : List AV} (h : (S.map xcat).sum ≤ 8) : ((S.map (xv E.1)).map fun v => v.category).sum ≤ 8 := by
  rw [List.map_map]
  have e : ((fun v : Value => v.category) ∘ xv E.1) = xcat := by
    funext v
    exact xv_cat E.1 v
  rw [e]
  exact h
theorem v_callS {idx : Nat} {q : MI} {As : List AV} {St : List AV} (C : Cx E z D own cc nL) (co : Cond.code q.1 q.2.1 q.2.2.1 q.2.2.2 ∈ GW) (ml : Cond.methodLink own idx q.1 ∈ GW) (st : Cond.static q.1 ∈ GW) (ini : Cond.initialized q.1.cls ∈ GW) (hd : q.1.cls ≠ "java/lang/invoke/MethodHandle" ∧ q.1.cls ≠ "java/lang/invoke/VarHandle" ∧ (parseMethodDescriptor q.1.desc).map (fun d => d.parameters.length) = some As.length) (hmax : q.2.2.1 ≤ 40) (hcat : (S.map xcat).sum ≤ 8) (hst : St = As.reverse ++ S) (d : decode cc pc = .ok (.invokestatic idx, 3))
    (K : Con E l D q As M (fun r M' => Aj E l z (pc + 3) L (r.toList ++ S) M')) : Aj E l z pc L St M := by
  obtain ⟨A, p, e, R, s, m, args, below, meth, c, cells, slots, Q⟩ := z
  obtain ⟨dd, P0, hdd, hP0, hM⟩ := K
  intro H locs ls hP hS hL
  have hts := C.2.2.2.2.1
  have hR := C.2.2.2.2.2.2.2.2.2.2
  refine run_on C hS hL (va_runS (cc := cc) (nL := c.maxLocals) (Ts := GW) (own := own) (As := As.map (xv E.1)) ⟨C.1, C.2.1, rfl, C.2.2.2.1, hts⟩ (hM H.size) ⟨callB_of (Ts := GW) (ws := mw q) As.length hts (GoodIn_mw co) rfl rfl rfl (hts _ ini) (hts _ ml) hd ⟨?_, ?_⟩, hts _ st⟩ ⟨FrameBlind_CP, fun U hU hW => CP_at C hP hS U hU hW⟩ rfl (List.length_map ..) hL.1 ?_ (lv_room (room_c hcat)) d ⟨hR.2.1, hR.2.2⟩) hP0
  · show dd + 1 ≤ R.frames
    have := hR.1.1
    omega
  · show 8 + (q.2.2.1 + 11) + 60 * dd ≤ R.locals
    have := hR.1.2
    omega
  · subst hst
    show List.map (xv E.1) (As.reverse ++ S) = _
    rw [List.map_append, List.map_reverse]
theorem v_callV {idx k ci : Nat} {q : MI} {As : List AV} {St : List AV} (C : Cx E z D own cc nL) (co : Cond.code q.1 q.2.1 q.2.2.1 q.2.2.2 ∈ GW) (ml : Cond.methodLink own idx q.1 ∈ GW) (im : Cond.instanceMethod q.1 ∈ GW) (se : Cond.selects q.1.cls q.1 q.1 ∈ GW) (ini : Cond.initialized q.1.cls ∈ GW) (hk : kd k = (3, ci)) (hci : (vwCl[ci]?).map (fun x => x.1) = some q.1.cls) (hd : q.1.cls ≠ "java/lang/invoke/MethodHandle" ∧ q.1.cls ≠ "java/lang/invoke/VarHandle" ∧ (parseMethodDescriptor q.1.desc).map (fun d => d.parameters.length) = some As.length) (hmax : q.2.2.1 ≤ 40) (hcat : (S.map xcat).sum ≤ 8) (hst : St = As.reverse ++ vr k :: S) (d : decode cc pc = .ok (.invokevirtual idx, 3))
    (K : Con E l D q (vr k :: As) M (fun r M' => Aj E l z (pc + 3) L (r.toList ++ S) M')) : Aj E l z pc L St M := by
  obtain ⟨A, p, e, R, s, m, args, below, meth, c, cells, slots, Q⟩ := z
  obtain ⟨dd, P0, hdd, hP0, hM⟩ := K
  intro H locs ls hP hS hL
  have hts := C.2.2.2.2.1
  have hR := C.2.2.2.2.2.2.2.2.2.2
  have hkl := kd_lt hk (by decide)
  obtain ⟨qc, hq1, hq2⟩ : ∃ qc, vwCl[ci]? = some qc ∧ qc.1 = q.1.cls := by
    cases hv : vwCl[ci]? with
    | none => rw [hv] at hci; cases hci
    | some qc => rw [hv] at hci; exact ⟨qc, rfl, Option.some.inj hci⟩
  refine run_on C hS hL (va_runV (cc := cc) (nL := c.maxLocals) (Ts := GW) (own := own) (C := q.1.cls) (b := E.1 k) (As := As.map (xv E.1)) (n := As.length) ⟨C.1, C.2.1, rfl, C.2.2.2.1, hts⟩ (hM H.size) ⟨callB_of (Ts := GW) (ws := mw q) As.length hts (GoodIn_mw co) rfl rfl rfl (hts _ ini) (hts _ ml) hd ⟨?_, ?_⟩, hts _ im, hts _ se⟩ ⟨FrameBlind_CP, ?_, fun U hU hW => CP_at C hP hS U hU hW⟩ rfl (List.length_map ..) hL.1 ?_ (lv_room (room_c hcat)) d ⟨hR.2.1, hR.2.2⟩) hP0
  · show dd + 1 ≤ R.frames
    have := hR.1.1
    omega
  · show 8 + (q.2.2.1 + 11) + 60 * dd ≤ R.locals
    have := hR.1.2
    omega
  · rw [← hq2]
    exact va_recv C.2.2.2.2.2.1 hP hq1 (q0 := k) (fs := fls E.1 M k) (by rw [wM_at E M hkl, cel_ob hk])
  · subst hst
    show List.map (xv E.1) (As.reverse ++ vr k :: S) = _
    rw [List.map_append, List.map_reverse]
    rfl
end CALL
