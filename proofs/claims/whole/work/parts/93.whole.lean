/-! THE CLAIM OUT OF ONE WALK OF THE LAW'S BODY. Your part is whole_start (and what it stands on); all else here is the same for every law, but numbers. -/
def R_law : String := "WholeMarksLaw"
def lw_P (b : Addr) (xs : List Int32) (args : Array Value) (s : State) : Prop := args = #[.ref b] ∧ s.IntsAt b xs ∧ xs.length ≤ 3072 ∧ (Jvm.Cond.and given_1 narrow_1).before args s = true
def lw_Q (_ : Array Value) (s : State) (o : Outcome) (t : State) : Prop := o = .returned (some (.int 1)) ∧ Framed s o t [] 600000 7302250
def lw_Z (below : List Frame) (a : Array Value) (s : State) : State → Prop := fun t => ∃ o, t.status = .running ∧ Ended t below o ∧ lw_Q a s o t
/-- the law's own end, with 1 on the stack, nothing written that was there before, its room as the claim has it -/
theorem lw_ret {p : Program} {l : Launch} {e : Env} {s : State} {m : MethodId} {below : List Frame} {meth : Method} {c : Code} {b : Nat} (hx : p.tables.exec = Jvm.exec) (hb : c.code = code) (hr : meth.sig.returnType = ret) (hlocks : meth.locks = false) {pc : Nat} {H : Heap} {ls : Array Slot} (hdg : decode code pc = .ok (.ireturn, 1)) : W p l e room_1 s m #[Value.ref b] below meth c H [] 600000 7302250 (lw_Z below #[Value.ref b] s) (F0 m pc ls [.int 1]) := by
  intro T hT X
  obtain ⟨fs, hret, hrun, hended, hW, hframe⟩ := X.leave (v := some (.int 1)) (hlocks := hlocks) (fun h => by rw [hr] at h; cases h)
  have hmeth' : T.vm.method? m = some meth := X.method'
  refine ⟨T.setFrames fs, ?_, .returned (some (.int 1)), hrun, hended, rfl, ⟨_, rfl⟩, hW, hframe⟩
  jvm_step X.here [X.here.top, hx, hb, hdg, hmeth', hr, ret, narrow_b1]
  (try refine ⟨rfl, ?_⟩); (try refine ⟨rfl, ?_⟩)
  first | (intro acts; rw [hret _ acts rfl rfl rfl]) | rw [hret _ _ rfl rfl rfl]
  exact Steps.refl _
/-- what holds at the law's entry: the machine, the code, the tables' words (any of lw_tbl by 'hts w (by decide +kernel)'), the script of L ints xs at the cell b, what the Statement gives of the start (any of its parts by flat_of_before) -/
def lw_At (p : Program) (s : State) (m : MethodId) (meth : Method) (c : Code) (b L : Nat) (xs : Nat → Int32) : Prop :=
  p.tables.exec = Jvm.exec ∧ c.code = code ∧ meth.sig.returnType = ret ∧ c.maxLocals = 4 ∧ s.vm.findClass R_law = some m.cls ∧ (∀ w ∈ lw_tbl, w.before #[Value.ref b] s = true) ∧ va_X b L xs s s.heap ∧ b < s.heap.size ∧ meth.locks = false ∧ (Jvm.Cond.and given_1 narrow_1).before #[Value.ref b] s = true
theorem b_go {D : va_G} {T : T3} {l : Launch} {A : Nat → Prop} {p : Program} {e : Env} {R : Room} {s : State} {m : MethodId} {args : Array Value} {below : List Frame} {meth : Method} {c : Code} {Q : State → Prop} {pc nc ns b cl : Nat} {ev q : Nat → Nat} {L : LV} {S : List AV} {L1 : VL} {S1 : List Value} (hL1 : L1 = xl (adr b cl ev q) L) (hS1 : S1 = S.map (xv (adr b cl ev q)))
    (K : Apt (adr b cl ev q, D, T) → (∀ k, k < 56 → A (adr b cl ev q k)) → Aj (adr b cl ev q, D, T) l (A, p, e, R, s, m, args, below, meth, c, nc, ns, Q) pc L S M0) : Bj D l (A, p, e, R, s, m, args, below, meth, c, Q) pc L1 S1 (bornW T q) nc ns := by
  subst hL1
  subst hS1
  intro H locs ls hP hD hS hL
  obtain ⟨a1, a2⟩ := born_Apt (b := b) (cl := cl) (e := ev) (T := T) (D := D) hD
  exact K a1 a2 H locs ls (wM_born hP) hS hL
section LLOOP
variable {E : FX} {l : Launch} {z : RT} {N : Nat} {xs : Nat → Int32}
theorem law_head {i : Int} {M : MM} (C : Cx E z 20 RL cL_law 4) (X : XS E z N xs) (hN : N ≤ 3072) (h0 : 0 ≤ i) (hi : i ≤ N) (kt : Aj E l z 1266 (L4 i) [] M) (kf : i + 6 ≤ N → Aj E l z 27 (L4 i) [] M) : Aj E l z 18 (L4 i) [] M := by
  refine v_iload_n (i := 3) C dL_law_18 rfl rfl ?_
  refine v_aload_n (i := 0) C dL_law_19 rfl rfl ?_
  refine v_slen C X dL_law_20 ?_
  refine v_bipush C dL_law_21 (by decide) ?_
  refine v_isub C dL_law_23 ?_
  exact v_icmp_gt C (by unfold R32; omega) (by unfold R32; omega) dL_law_24 (tgt := 1266) rfl (fun _ => kt) (fun q => kf (by omega))
theorem law_loop (C : Cx E z 20 RL cL_law 4) (X : XS E z N xs) (hN : N ≤ 3072) (hret : ∀ L M, Aj E l z 1267 L [vi 1] M) : ∀ (n : Nat) (i : Int) (M : MM), 0 ≤ i → i ≤ N → (N : Int) - i ≤ n → Rel0 M → GI M → Aj E l z 18 (L4 i) [] M := by
  intro n
  induction n with
  | zero =>
    intro i M h0 hi hn hR hG
    exact law_head C X hN h0 hi (v_iconst C dL_law_1266 (hret _ _)) (fun h6 => absurd hn (by omega))
  | succ n ih =>
    intro i M h0 hi hn hR hG
    refine law_head C X hN h0 hi (v_iconst C dL_law_1266 (hret _ _)) (fun h6 => ?_)
    refine lc_sw C X hN i M h0 h6 hR hG (fun M1 hR1 hG1 => ?_)
    refine v_iinc (i := 3) (x := i) (y := i + 6) (L' := [(3, vi (i + 6)), (0, vr 99), (1, vr 0), (2, vr 44)]) C dL_law_1260 rfl (by decide) rfl rfl ?_
    refine v_sub (L' := L4 (i + 6)) [1, 2, 3, 0] rfl ?_
    exact v_goto C dL_law_1263 (tgt := 18) rfl (ih (i + 6) M1 (by omega) h6 (by omega) hR1 hG1)
end LLOOP
set_option maxRecDepth 20000 in
theorem law_born {p : Program} {e : Env} {s : State} {m : MethodId} {below : List Frame} {meth : Method} {c : Code} (l : Launch) {b N cl : Nat} {ev : Nat → Nat} {xs : Nat → Int32} {D : va_G} {T : T3} {R : Room} {Q : State → Prop} (hN : N ≤ 3072) (hX : va_X b N xs s s.heap) (hbl : b < s.heap.size) (hE : ∀ (q : Nat → Nat) (D : va_G) (T : T3), EW (adr b cl ev q, D, T) (fun x => s.heap.size ≤ x) s s.heap)
    (CB : Bx D T (fun x => s.heap.size ≤ x, p, e, R, s, m, #[Value.ref b], below, meth, c, Q) 20 600000 7302250 RL cL_law 4)
    (hret : ∀ (nc ns : Nat) (q : Nat → Nat), nc ≤ 600000 → ns ≤ 7302250 → ∀ L M, Aj (adr b cl ev q, D, T) l (fun x => s.heap.size ≤ x, p, e, R, s, m, #[Value.ref b], below, meth, c, nc, ns, Q) 1267 L [vi 1] M) : Bj D l (fun x => s.heap.size ≤ x, p, e, R, s, m, #[Value.ref b], below, meth, c, Q) 0 [(0, .ref b)] [] [] 0 0 := by
  refine b_new (ci := 9) (N := 7) (Cn := RX11) (Tt := TX11) (ty := tyX11) (fs := [.null, .null, vI 0, .null, .null, .null, .null]) CB dL_law_0 rfl tyX11_ok cl_RL_7 in_RX11 ini_RX11 (fun j hj => by rcases (show j = 0 ∨ j = 1 ∨ j = 2 ∨ j = 3 ∨ j = 4 ∨ j = 5 ∨ j = 6 by omega) with rfl | rfl | rfl | rfl | rfl | rfl | rfl <;> rfl) (by decide) (by decide) (fun h => ?_)
  refine b_dup CB dL_law_3 rfl ?_
  refine b_ctorP (wr := []) CB dL_law_4 (by decide) co_yX11_init ml_RL_9 im_yX11_init ini_RX11 rfl (by decide +kernel) (by decide) ct_RX11 (Nat.le_of_ble_eq_true rfl) (by decide) (by decide) (fun w1 hw1 => ?_)
  refine b_astore_n (n := 1) CB dL_law_7 rfl (by decide) (L' := [(1, .ref h), (0, .ref b)]) rfl ?_
  refine b_new (ci := 10) (N := 19) (Cn := RX12) (Tt := TX12) (ty := tyX12) (fs := [.null, vI 0, .null, vI 0, .null, vI 0, vJ 0, vI 0, .null, vI 0, vI 0, .null, .null, vI 0, .null, .null, .null, .null, .null]) CB dL_law_8 rfl tyX12_ok cl_RL_10 in_RX12 ini_RX12 (fun j hj => by rcases (show j = 0 ∨ j = 1 ∨ j = 2 ∨ j = 3 ∨ j = 4 ∨ j = 5 ∨ j = 6 ∨ j = 7 ∨ j = 8 ∨ j = 9 ∨ j = 10 ∨ j = 11 ∨ j = 12 ∨ j = 13 ∨ j = 14 ∨ j = 15 ∨ j = 16 ∨ j = 17 ∨ j = 18 by omega) with rfl | rfl | rfl | rfl | rfl | rfl | rfl | rfl | rfl | rfl | rfl | rfl | rfl | rfl | rfl | rfl | rfl | rfl | rfl <;> rfl) (by decide) (by decide) (fun g => ?_)
  refine b_dup CB dL_law_11 rfl ?_
  refine b_ctorP (wr := [] ++ w1) CB dL_law_12 (by decide) co_yX12_init ml_RL_12 im_yX12_init ini_RX12 rfl (by decide +kernel) (by decide) ct_RX12 (Nat.le_of_ble_eq_true rfl) (by decide) (by decide) (fun w2 hw2 => ?_)
  refine b_astore_n (n := 2) CB dL_law_15 rfl (by decide) (L' := [(2, .ref g), (1, .ref h), (0, .ref b)]) rfl ?_
  refine b_iconst CB dL_law_16 ?_
  refine b_istore_n (n := 3) CB dL_law_17 rfl (by decide) (L' := [(3, vI 0), (2, .ref g), (1, .ref h), (0, .ref b)]) rfl ?_
  obtain ⟨q1, q2, q3, q4, q5, q6, q7, q8, q9, q10, q11, q12, q13, q14, q15, q16, q17, q18, q19, q20, q21, q22, q23, q24, q25, q26, q27, q28, q29, q30, q31, q32, q33, q34, q35, q36, q37, q38, q39, q40, q41, q42, q43, rfl⟩ := hw1
  obtain ⟨p1, p2, p3, p4, p5, p6, p7, p8, p9, p10, p11, rfl⟩ := hw2
  refine b_w (ws' := bornW T (fun k => [h, q1, q2, q3, q4, q5, q6, q7, q8, q9, q10, q11, q12, q13, q14, q15, q16, q17, q18, q19, q20, q21, q22, q23, q24, q25, q26, q27, q28, q29, q30, q31, q32, q33, q34, q35, q36, q37, q38, q39, q40, q41, q42, q43, g, p1, p2, p3, p4, p5, p6, p7, p8, p9, p10, p11].getD k 0)) rfl ?_
  refine b_go (b := b) (cl := cl) (ev := ev) (L := [(3, vi 0), (2, vr 44), (1, vr 0), (0, vr 99)]) (S := []) rfl rfl (fun hAp hAd => ?_)
  obtain ⟨c1, c2, c3, c4, c5, c6, c7, c8, c9, c10, c11⟩ := CB
  refine v_sub (L' := L4 0) [3, 2, 1, 0] rfl ?_
  refine law_loop (N := N) (xs := xs) ?_ ?_ hN (hret _ _ _ (by decide) (by decide)) N 0 M0 (by omega) (by omega) (by omega) rel_M0 gi_M0
  · exact ⟨c1, c2, c3, c4, c5, c6, hAp, hAd, c7, hE _ _ _, c9, Nat.le_trans (show (0 + 1 + 43 + 1 + 11 : Nat) ≤ 600000 by decide) c10, Nat.le_trans (show (0 + 7 + 592 + 19 + 298 : Nat) ≤ 7302250 by decide) c11⟩
  · exact ⟨hX, hbl, Nat.not_le.mpr hbl⟩
/-- from the entry, for every script of at most 3072 ints, the law comes to its end with true -/
theorem whole_start {p : Program} {e : Env} {s : State} {m : MethodId} {below : List Frame} {meth : Method} {c : Code} (l : Launch) (hflags : l.flags = flags0) {b L : Nat} {xs : Nat → Int32} (hL : L ≤ 3072) (C0 : lw_At p s m meth c b L xs) : W p l e room_1 s m #[Value.ref b] below meth c s.heap [] 0 0 (lw_Z below #[Value.ref b] s) (entryFrame m ([Value.ref b] : List Value).toArray 4) := by
  obtain ⟨hexec, hcode, hret, hml, hown, hts, hX, hbl, hlocks, hgv⟩ := C0
  have hG : ∀ w ∈ GW, w.before #[Value.ref b] s = true := fun w h => hts w (gw_tbl w h)
  obtain ⟨D, T, hK⟩ := ent_K hG (hts _ (tb1 159 (by decide +kernel)))
  obtain ⟨cl, ev, hE⟩ := ent_E hts hgv
  have CB : Bx D T (fun x => s.heap.size ≤ x, p, e, room_1, s, m, #[Value.ref b], below, meth, c, lw_Z below #[Value.ref b] s) 20 600000 7302250 RL cL_law 4 := ⟨hexec, hcode, hml, hown, hG, hK, fun _ h => h, ent_NW hts, ⟨by decide, by decide⟩, Nat.le_refl _, Nat.le_refl _⟩
  have key := law_born l hL hX hbl hE CB (fun nc ns q h1 h2 L1 M1 => by
    intro H locs ls hP hS hLs
    refine va_forget (fun x hx => hS.2.2 x hx) ?_
    refine W.widen (k := 600000) (n := 7302250) h1 h2 ?_
    have h01 : Int32.ofInt 1 = 1 := by decide
    show W p l e room_1 s m #[Value.ref b] below meth c H [] 600000 7302250 (lw_Z below #[Value.ref b] s) (F0 m 1267 ls [.int (Int32.ofInt 1)])
    rw [h01]
    exact lw_ret hexec hcode hret hlocks dL_law_1267)
  rw [lg_entry_eq]
  refine key s.heap [] _ (fun _ _ h => (by cases h)) ⟨fun _ _ _ _ h => (by cases h), fun _ _ h => (by cases h)⟩ va_S.rf ?_
  rw [hml]
  exact lv_entry [.ref b] (Nat.le_of_ble_eq_true rfl)
set_option maxHeartbeats 4000000 in
theorem lw_walk (l : Launch) (hflags : l.flags = flags0) (b : Addr) (xs : List Int32) : MetFree l x (headSpec (Jvm.Cond.code x code maxLocals ret :: tables_1) room_1) (lw_P b xs) (fun _ _ _ _ _ => True) lw_Q := by
  refine MetFree.of_bodyS (code := code) (maxLocals := maxLocals) (ret := ret) (by decide) ?_ ?_
  · intro args s m h hn
    obtain ⟨meth, c, h1, h2, h3, h4, h5, h6, -, -⟩ := Cond.code_spec hn (atoms_spec (ws := Jvm.Cond.code x code maxLocals ret :: tables_1) h _ List.mem_cons_self)
    exact ⟨meth, c, h1, h2, h3, h4, h5, h6⟩
  · intro p e s m args below meth c s₁ B hml0 hP _
    obtain ⟨rfl, hx, hbd, hgv⟩ := hP
    obtain ⟨scr, harrAt, hlist, hof, hsmall⟩ := hx
    obtain ⟨hcb, hkn, -, -⟩ := State.arrayAt?_spec harrAt
    have hown : s.vm.findClass R_law = some m.cls := findClass_of_methodNamed B.named
    have hts0 : ∀ c ∈ (Jvm.Cond.code x code maxLocals ret :: tables_1), c.before #[Value.ref b] s = true := atoms_spec (ws := Jvm.Cond.code x code maxLocals ret :: tables_1) B.pre
    have hts : ∀ w ∈ lw_tbl, w.before #[Value.ref b] s = true := k2_hts_sels lw_privs (fun w hw => hts0 w (List.mem_cons_of_mem _ hw)) lw_privs_ok
    have hml : c.maxLocals = 4 := B.maxLocals_eq (hts0 _ List.mem_cons_self)
    have X₀ : Stand p l e room_1 s m #[Value.ref b] below meth c s₁ [] 0 0 := Stand.of_body B
    have hh0 : s₁.heap = s.heap := by rw [B.state]; rfl
    have hsz : scr.slots.size = xs.length := by rw [← Array.length_toList, hlist, List.length_map]
    have hval : ∀ j : Nat, j < xs.length → scr.slots[j]? = some (.int (xs.getD j 0)) := fun j hj => by
      rw [← Array.getElem?_toList, hlist]
      simp [hj]
    have hbl : b < s.heap.size := (Array.getElem?_eq_some_iff.mp hcb).1
    have hX : va_X b xs.length (fun j => xs.getD j 0) s s.heap := ⟨scr, hcb, hof, hkn, hsz, hval⟩
    have K : W p l e room_1 s m #[Value.ref b] below meth c s₁.heap [] 0 0 (lw_Z below #[Value.ref b] s) (entryFrame m ([Value.ref b] : List Value).toArray 4) := by
      rw [hh0]
      exact whole_start l hflags hbd ⟨B.exec, B.bytes, B.returns, hml, hown, hts, hX, hbl, B.notSynchronized, hgv⟩
    obtain ⟨t, a1, o, b1, b2, b3⟩ := K s₁ rfl X₀
    exact ⟨t, o, a1, b1, b2, b3⟩
theorem lw_pre_spec {args : Array Value} {s : State} (h : (Jvm.Cond.and given_1 narrow_1).before args s = true) (hr : rest_1_c.before args s = true) : ∃ (b : Addr) (xs : List Int32), lw_P b xs args s := by
  have hs := flat_of_before _ h
  have hq := flat_of_before _ hr
  have hc : (Cond.count 1).before args s = true := hs _ (by decide +kernel)
  have harr : (Cond.arrayOf (.arg 0) .int).before args s = true := hs _ (by decide +kernel)
  have hle : (Cond.le (.length (.arg 0)) (.int 3072)).before args s = true := hs _ (by decide +kernel)
  have hlen : (Cond.isInt (.length (.arg 0))).before args s = true := hq _ (by decide +kernel)
  have hall : (Cond.all (.arg 0) (.isInt (.elem (.arg 0) (.index 0)))).before args s = true := hq _ (by decide +kernel)
  obtain ⟨b, xs, hb, hx⟩ := State.ints_of_pre rfl harr hlen hall
  have hsm : xs.length < 2 ^ 31 := hx.choose_spec.2.2.2
  have hev : (Term.length (.arg 0)).eval args s none [] s = some (.int xs.length.toInt32) := hx.length_eval hb
  have hv := Cond.le_ints hev (show (Term.int 3072).eval args s none [] s = some (.int 3072) from rfl)
  have hd : xs.length.toInt32 ≤ 3072 := by
    simpa [Cond.before, Cond.holds, hv] using hle
  have hN : xs.length ≤ 3072 := (Int32.ofNat_le_ofNat hsm (by decide)).mp (show Int32.ofNat xs.length ≤ Int32.ofNat 3072 from hd)
  exact ⟨b, xs, Cond.one_arg hc (show args[0]? = some (.ref b) from hb), hx, hN, h⟩
theorem lw_comes (l : Launch) (hflags : l.flags = flags0) : Comes l x (Jvm.Cond.code x code maxLocals ret :: tables_1) room_1 (fun tb e args s => Calls_1 tb e args s ∧ rest_1 tb e args s ∧ Pre_1 tb e args s)
    (fun _ _ args s o t => lw_Q args s o t) := by
  intro p e ha hc hk s m args below hf hfit hheap happ hpre
  obtain ⟨b, xs, hP⟩ := lw_pre_spec hpre.2.2 hpre.2.1
  obtain ⟨k, o, h1, h2, h3, hQ⟩ := lw_walk l hflags b xs p e ha hc hk s m args below hf ((Spec.applies_iff_loose hf).mp happ).1 hP trivial
  exact ⟨k, o, h1, h2, h3, hQ⟩
theorem lw_frame {s t : State} {o : Outcome} {args : Array Value} (h : Framed s o t [] 600000 7302250) :
    Framed s o t (fieldLocs frame_1_writes args s ++ arrayLocs frame_1_arrays args s ++ staticLocs frame_1_statics s) 600000 7302250 := h
theorem lw_limb (L : Cond) (hL : ∀ (args : Array Value) (s t : State), L.after args s (.returned (some (.int 1))) t = true) :
    ArmFor flags0 classFile x code maxLocals ret World_1 tables_1 room_1 Calls_1 rest_1 Pre_1
      (fun tb e a s o t => postC L tb e a s o t ∧ Framed s o t (fieldLocs frame_1_writes a s ++ arrayLocs frame_1_arrays a s ++ staticLocs frame_1_statics s) 600000 7302250) := by
  intro l hflags _ _ p e ha hc hk s m args below hf hfit hheap happ hpre
  obtain ⟨k, o, h1, h2, h3, rfl, hF⟩ := lw_comes l hflags p e ha hc hk s m args below hf hfit hheap happ hpre
  exact ⟨k, _, h1, h2, h3, hL args s _, lw_frame hF⟩
theorem i_vc : Claimed_1_1 ∧ Claimed_1_2 := ⟨lw_limb limb_1_1 (fun args s t => by simp [limb_1_1, Cond.after, Cond.holds, Cond.value]), lw_limb limb_1_2 (fun args s t => Cond.after_iff.mpr (by
  first | (rw [show limb_1_2 = Cond.eq .result (.int 1) from rfl, Cond.eq_ints (x := 1) (y := 1) rfl rfl]; simp; done) | (simp [limb_1_2, Cond.value, Term.eval]; done)))⟩
