/-! BIRTH: constructors, in worlds that grow -/
abbrev VL : Type := List (Nat × Value)
abbrev RB : Type := (Nat → Prop) × Program × Env × Room × State × MethodId × Array Value × List Frame × Method × Code × (State → Prop)
abbrev T3 : Type := ClassId × ClassId × ClassId
def ty3 (T : T3) : List (ClassId × FieldType) := [(T.1, .int), (T.2.1, .long), (T.2.2, .object "WholeMarks$Sheet")]
def NW (U : State) : Prop := va_Nw (.methodLinkNest RX11 9 yX5_init "WholeMarks") U ∧ va_Nw (.methodLinkNest RX5 9 yX10_init "WholeMarks") U ∧ va_Nw (.methodLinkNest RX5 18 yX0_init "WholeMarks") U ∧ va_Nw (.methodLinkNest RX5 25 yX1_init "WholeMarks") U ∧ va_Nw (.methodLinkNest RX11 21 yX9_init "WholeMarks") U ∧ va_Nw (.methodLinkNest RX11 34 yX6_init "WholeMarks") U ∧ va_Nw (.methodLinkNest RX11 41 yX4_init "WholeMarks") U ∧ va_Nw (.methodLinkNest RX11 46 yX8_init "WholeMarks") U ∧ va_AO RX8 U
theorem NW.warm {s U : State} (hW : s.WarmedH U.vm) (h : NW s) : NW U := ⟨va_Nw.warmM hW h.1, va_Nw.warmM hW h.2.1, va_Nw.warmM hW h.2.2.1, va_Nw.warmM hW h.2.2.2.1, va_Nw.warmM hW h.2.2.2.2.1, va_Nw.warmM hW h.2.2.2.2.2.1, va_Nw.warmM hW h.2.2.2.2.2.2.1, va_Nw.warmM hW h.2.2.2.2.2.2.2.1, va_AO.moved hW.alike h.2.2.2.2.2.2.2.2⟩
theorem NW.same {s U : State} (e : s.vm = U.vm) (h : NW s) : NW U := ⟨va_Nw.same rfl e h.1, va_Nw.same rfl e h.2.1, va_Nw.same rfl e h.2.2.1, va_Nw.same rfl e h.2.2.2.1, va_Nw.same rfl e h.2.2.2.2.1, va_Nw.same rfl e h.2.2.2.2.2.1, va_Nw.same rfl e h.2.2.2.2.2.2.1, va_Nw.same rfl e h.2.2.2.2.2.2.2.1, va_AO.moved (e ▸ Vm.Alike.refl s.vm) h.2.2.2.2.2.2.2.2⟩
theorem ac_int : Cond.arrayClass .int ∈ GW := gw1 51 (by decide +kernel) rfl
theorem ac_long : Cond.arrayClass .long ∈ GW := gw1 176 (by decide +kernel) rfl
theorem ob_im : Cond.instanceMethod Lib.objectInit ∈ GW := gw1 24 (by decide +kernel) rfl
theorem ob_co : Cond.code Lib.objectInit ⟨#[0xb1]⟩ 1 none ∈ GW := gw1 25 rfl rfl
def Bx (D : va_G) (T : T3) (z : RB) (d mc ms : Nat) (own : String) (cc : ByteArray) (nL : Nat) : Prop := match z with
  | (A, p, _, R, s, m, args, _, _, c, _) => p.tables.exec = Jvm.exec ∧ c.code = cc ∧ c.maxLocals = nL ∧ s.vm.findClass own = some m.cls ∧ (∀ w ∈ GW, w.before args s = true) ∧ va_K D vwCl (ty3 T) s ∧ (∀ q, s.heap.size ≤ q → A q) ∧ NW s ∧ (d ≤ R.frames ∧ 60 * d ≤ R.locals) ∧ mc ≤ R.cells ∧ ms ≤ R.slots
def Bi (z : RB) : Prop := match z with
  | (_, _, _, _, _, _, _, _, meth, _, _) => meth.name = "<init>"
/-- the machine, at pc with locals L, stack S and cells ws, nc cells of ns slots made, comes to its end -/
def Bj (D : va_G) (l : Launch) (z : RB) (pc : Nat) (L : VL) (S : List Value) (ws : va_W) (nc ns : Nat) : Prop := match z with
  | (A, p, e, R, s, m, args, below, meth, c, Q) => ∀ (H : Heap) (locs : List Loc) (ls : Array Slot), va_P D vwCl ws H → va_D A ws → va_S A s.heap H locs → lv_has ls c.maxLocals L → W p l e R s m args below meth c H locs nc ns Q (F0 m pc ls S)
def Rb (D : va_G) (z : RB) (P : va_W → Prop) (mc ms : Nat) : Prop := match z with
  | (A, _, _, _, s, _, args, below, meth, _, Q) => meth.sig.returnType = none ∧ meth.locks = false ∧ Q = MQ below (va_Qv P (fun w t => va_P D vwCl w t.heap ∧ va_D A w) A) args s mc ms A
def BP (D : va_G) (T : T3) (ws : va_W) (As : List Value) (sz : Nat) : Array Value → State → Prop := va_Pc As (fun U => U.heap.size = sz ∧ va_P D vwCl ws U.heap ∧ va_K D vwCl (ty3 T) U ∧ va_D (fun _ => True) ws ∧ NW U)
theorem FrameBlind_BP {D : va_G} {T : T3} {ws : va_W} {As : List Value} {sz : Nat} : FrameBlind (BP D T ws As sz) := by
  intro a U g mk q
  obtain ⟨q0, q1, qP, qK, qD, qN⟩ := q
  exact ⟨q0, q1, qP, va_K.moved (u := U) (U := U.calling g mk a) (Vm.Alike.refl U.vm) qK, qD, NW.same rfl qN⟩
def rmB (d mc ms : Nat) : Room := { frames := d, cells := mc, slots := ms, locals := 60 * d }
/-- a constructor's contract: of an object that holds fs at h it makes a world of which post holds -/
def Ct (D : va_G) (T : T3) (l : Launch) (y : MethodName) (bytes : ByteArray) (maxL : Nat) (d mc ms ci : Nat) (fs : List Value) (post : Nat → va_W → Prop) : Prop := ∀ h sz, Met l y (mw (y, bytes, maxL, none)) (rmB d mc ms) (BP D T [(h, .inr (ci, fs))] [.ref h] sz) (va_Qv (post h) (fun w t => va_P D vwCl w t.heap ∧ va_D (va_A [(h, .inr (ci, fs))] sz) w) (va_A [(h, .inr (ci, fs))] sz)) mc ms (va_A [(h, .inr (ci, fs))] sz)
theorem ct_of {D : va_G} {T : T3} {l : Launch} {y : MethodName} {bytes : ByteArray} {maxL d mc ms ci : Nat} {fs : List Value} {post : Nat → va_W → Prop} (hy : plainName y.cls = true) (hn : y.name = "<init>") (hl : 1 ≤ maxL)
    (body : ∀ (h : Nat) (z : RB), Bx D T z d mc ms y.cls bytes maxL → Bi z → Rb D z (post h) mc ms → Bj D l z 0 [(0, .ref h)] [] [(h, .inr (ci, fs))] 0 0) : Ct D T l y bytes maxL d mc ms ci fs post := by
  intro h sz
  refine Met.ofW (cc := bytes) (maxL := maxL) (ret := none) hy rfl ?_
  intro p e s m args below meth c s₁ B hml hv
  obtain ⟨rfl, hsz, hP, hK, hD0, hN⟩ := hv
  subst hsz
  have hts : ∀ w ∈ GW, w.before ([Value.ref h] : List Value).toArray s = true := fun w hw => atoms_spec (ws := mw (y, bytes, maxL, none)) B.pre w (List.mem_cons_of_mem _ hw)
  have hin : meth.name = "<init>" := ((name_of_methodNamed B.named B.method).1).trans hn
  have hb := body h (va_A [(h, .inr (ci, fs))] s.heap.size, p, e, rmB d mc ms, s, m, ([Value.ref h] : List Value).toArray, below, meth, c, MQ below (va_Qv (post h) (fun w t => va_P D vwCl w t.heap ∧ va_D (va_A [(h, .inr (ci, fs))] s.heap.size) w) (va_A [(h, .inr (ci, fs))] s.heap.size)) ([Value.ref h] : List Value).toArray s mc ms (va_A [(h, .inr (ci, fs))] s.heap.size)) ⟨B.exec, B.bytes, hml, findClass_of_methodNamed B.named, hts, hK, fun _ q => Or.inr q, hN, ⟨Nat.le_refl _, Nat.le_refl _⟩, Nat.le_refl _, Nat.le_refl _⟩ hin ⟨B.returns, B.notSynchronized, rfl⟩
  rw [lg_entry_eq]
  refine hb s.heap [] _ hP hD0.self va_S.rf ?_
  rw [hml]
  exact lv_entry [.ref h] (Nat.le_trans (Nat.le_of_ble_eq_true rfl) hl)
theorem join_last {A0 : Nat → Prop} {D : va_G} {cl : List vw_C} {wr w1 : va_W} {x : Nat × va_E} {H H1 : Heap} (hP : va_P D cl (wr ++ [x]) H) (hD : va_D A0 (wr ++ [x])) (hk : ∀ q : Nat, q < H.size → ¬ va_A [x] H.size q → H1[q]? = H[q]?) (hF : ∀ q, va_A [x] H.size q → A0 q) (hP1 : va_P D cl w1 H1) (hD1 : va_D (va_A [x] H.size) w1) : va_P D cl (wr ++ w1) H1 ∧ va_D A0 (wr ++ w1) := by
  have gl : ∀ (k : Nat) (q : Nat × va_E), wr[k]? = some q → (wr ++ [x])[k]? = some q := fun k q h => by
    rw [List.getElem?_append_left (List.getElem?_eq_some_iff.mp h).1]
    exact h
  have gx : (wr ++ [x])[wr.length]? = some x := by simp
  have apart : ∀ (k : Nat) (q : Nat × va_E), wr[k]? = some q → q.1 < H.size ∧ ¬ va_A [x] H.size q.1 := by
    intro k q h
    have hl := (hP k q (gl k q h)).lt
    refine ⟨hl, fun hh => ?_⟩
    rcases hh with ⟨j, e, hj⟩ | hh
    · have hj0 : j < 1 := (List.getElem?_eq_some_iff.mp hj).1
      have hj1 : j = 0 := by omega
      subst hj1
      have hx : x = (q.1, e) := Option.some.inj hj
      have hkl := hD.1 k wr.length q x (gl k q h) gx (by rw [hx])
      have := (List.getElem?_eq_some_iff.mp h).1
      omega
    · omega
  refine ⟨va_P.app (fun k q h => (hP k q (gl k q h)).kept (hk q.1 (apart k q h).1 (apart k q h).2)) hP1, va_D.app ⟨fun i j p q hp hq e => hD.1 i j p q (gl i p hp) (gl j q hq) e, fun k q h => hD.2 k q (gl k q h)⟩ (hD1.weaken (fun k q _ h => hF q.1 h)) (fun i j p q hp hq e => (apart i p hp).2 (by rw [e]; exact hD1.2 j q hq))⟩
theorem join_set {A0 : Nat → Prop} {D : va_G} {cl : List vw_C} {ws : va_W} {k a : Nat} {x y : va_E} {H H1 : Heap} (hP : va_P D cl ws H) (hD : va_D A0 ws) (he : ws[k]? = some (a, x)) (hk : ∀ q : Nat, q < H.size → ¬ va_A [(a, x)] H.size q → H1[q]? = H[q]?) (hP1 : va_P D cl [(a, y)] H1) : va_P D cl (ws.set k (a, y)) H1 ∧ va_D A0 (ws.set k (a, y)) := by
  refine ⟨fun j q hj => ?_, hD.set he⟩
  rw [List.getElem?_set] at hj
  by_cases c : k = j
  · rw [if_pos c] at hj
    have hlt : k < ws.length := (List.getElem?_eq_some_iff.mp he).1
    rw [if_pos hlt] at hj
    rw [← Option.some.inj hj]
    exact hP1 0 (a, y) rfl
  · rw [if_neg c] at hj
    refine (hP j q hj).kept (hk q.1 ((hP j q hj).lt) (fun hh => ?_))
    rcases hh with ⟨i, e, hi⟩ | hh
    · have hi0 : i < 1 := (List.getElem?_eq_some_iff.mp hi).1
      have hi1 : i = 0 := by omega
      subst hi1
      have hx : (a, x) = (q.1, e) := Option.some.inj hi
      exact c (hD.1 k j (a, x) q he hj (by rw [hx]))
    · have := (hP j q hj).lt
      omega
section ROWSB
variable {D : va_G} {T : T3} {l : Launch} {z : RB} {d mc ms : Nat} {own : String} {cc : ByteArray} {nL pc : Nat} {L L' : VL} {S : List Value} {ws : va_W} {nc ns : Nat}
theorem b_aload_n {i n a : Nat} {k : Fin 4} (C : Bx D T z d mc ms own cc nL) (hd : decode cc pc = .ok (.aload_n k, 1)) (hk : (k : Nat) = n) (hl : L[i]? = some (n, .ref a)) (K : Bj D l z (pc + 1) L (.ref a :: S) ws nc ns) : Bj D l z pc L S ws nc ns := by
  obtain ⟨A, p, e, R, s, m, args, below, meth, c, Q⟩ := z
  intro H locs ls hP hD hS hL
  exact lv_aload_n C.1 C.2.1 hd hk (lv_at hL i hl) (K H locs ls hP hD hS hL)
theorem b_iload_n {i n : Nat} {k : Fin 4} {x : Int32} (C : Bx D T z d mc ms own cc nL) (hd : decode cc pc = .ok (.iload_n k, 1)) (hk : (k : Nat) = n) (hl : L[i]? = some (n, .int x)) (K : Bj D l z (pc + 1) L (.int x :: S) ws nc ns) : Bj D l z pc L S ws nc ns := by
  obtain ⟨A, p, e, R, s, m, args, below, meth, c, Q⟩ := z
  intro H locs ls hP hD hS hL
  exact lv_iload_n C.1 C.2.1 hd hk (lv_at hL i hl) (K H locs ls hP hD hS hL)
theorem b_istore_n {n : Nat} {k : Fin 4} {x : Int32} (C : Bx D T z d mc ms own cc nL) (hd : decode cc pc = .ok (.istore_n k, 1)) (hk : (k : Nat) = n) (hn : n < nL) (hl : (n, Value.int x) :: L.filter (fun q => !(q.1 == n) && !(q.1 + 1 == n && q.2.category == 2)) = L') (K : Bj D l z (pc + 1) L' S ws nc ns) : Bj D l z pc L (.int x :: S) ws nc ns := by
  obtain ⟨A, p, e, R, s, m, args, below, meth, c, Q⟩ := z
  intro H locs ls hP hD hS hL
  exact lv_istore_n C.1 C.2.1 hd hk hL (by rw [C.2.2.1]; exact hn) hl (fun ls' hL' => K H locs ls' hP hD hS hL')
theorem b_astore_n {n a : Nat} {k : Fin 4} (C : Bx D T z d mc ms own cc nL) (hd : decode cc pc = .ok (.astore_n k, 1)) (hk : (k : Nat) = n) (hn : n < nL) (hl : (n, Value.ref a) :: L.filter (fun q => !(q.1 == n) && !(q.1 + 1 == n && q.2.category == 2)) = L') (K : Bj D l z (pc + 1) L' S ws nc ns) : Bj D l z pc L (.ref a :: S) ws nc ns := by
  obtain ⟨A, p, e, R, s, m, args, below, meth, c, Q⟩ := z
  intro H locs ls hP hD hS hL
  exact lv_astore_n C.1 C.2.1 hd hk hL (by rw [C.2.2.1]; exact hn) hl (fun ls' hL' => K H locs ls' hP hD hS hL')
theorem b_iinc {i n : Nat} {k : Int} {x y : Int32} (C : Bx D T z d mc ms own cc nL) (hd : decode cc pc = .ok (.iinc n k, 3)) (hi : L[i]? = some (n, .int x)) (hn : n < nL) (hy : x + Int32.ofInt k = y) (hl : (n, Value.int y) :: L.filter (fun q => !(q.1 == n) && !(q.1 + 1 == n && q.2.category == 2)) = L') (K : Bj D l z (pc + 3) L' S ws nc ns) : Bj D l z pc L S ws nc ns := by
  obtain ⟨A, p, e, R, s, m, args, below, meth, c, Q⟩ := z
  intro H locs ls hP hD hS hL
  exact lv_iinc (k := i) (x := x) (v := y) C.1 C.2.1 hd hL hi hy (by rw [C.2.2.1]; exact hn) hl (fun ls' hL' => K H locs ls' hP hD hS hL')
theorem b_goto {off : Int} {tgt : Nat} (C : Bx D T z d mc ms own cc nL) (hd : decode cc pc = .ok (.goto off, 3)) (ht : (pc : Int) + off = (tgt : Int)) (K : Bj D l z tgt L S ws nc ns) : Bj D l z pc L S ws nc ns := by
  obtain ⟨A, p, e, R, s, m, args, below, meth, c, Q⟩ := z
  intro H locs ls hP hD hS hL
  exact lv_goto C.1 C.2.1 hd ht (K H locs ls hP hD hS hL)
theorem b_icmp_ge {x y : Int32} {off : Int} {tgt : Nat} (C : Bx D T z d mc ms own cc nL) (hd : decode cc pc = .ok (.if_icmp .ge off, 3)) (ht : (pc : Int) + off = (tgt : Int)) (kt : y ≤ x → Bj D l z tgt L S ws nc ns) (kf : ¬ y ≤ x → Bj D l z (pc + 3) L S ws nc ns) : Bj D l z pc L (.int y :: .int x :: S) ws nc ns := by
  obtain ⟨A, p, e, R, s, m, args, below, meth, c, Q⟩ := z
  intro H locs ls hP hD hS hL
  exact lv_icmp_ge C.1 C.2.1 hd ht (fun q => kt q H locs ls hP hD hS hL) (fun q => kf q H locs ls hP hD hS hL)
theorem b_iconst {n : Int} (C : Bx D T z d mc ms own cc nL) (hd : decode cc pc = .ok (.iconst n, 1)) (K : Bj D l z (pc + 1) L (.int (Int32.ofInt n) :: S) ws nc ns) : Bj D l z pc L S ws nc ns := by
  obtain ⟨A, p, e, R, s, m, args, below, meth, c, Q⟩ := z
  intro H locs ls hP hD hS hL
  exact lv_iconst C.1 C.2.1 hd rfl (K H locs ls hP hD hS hL)
theorem b_bipush {n : Int} (C : Bx D T z d mc ms own cc nL) (hd : decode cc pc = .ok (.bipush n, 2)) (hn : (Int8.ofInt n).toInt32 = Int32.ofInt n) (K : Bj D l z (pc + 2) L (.int (Int32.ofInt n) :: S) ws nc ns) : Bj D l z pc L S ws nc ns := by
  obtain ⟨A, p, e, R, s, m, args, below, meth, c, Q⟩ := z
  intro H locs ls hP hD hS hL
  exact lv_bipush C.1 C.2.1 hd hn (K H locs ls hP hD hS hL)
theorem b_sipush {n : Int} (C : Bx D T z d mc ms own cc nL) (hd : decode cc pc = .ok (.sipush n, 3)) (hn : (Int16.ofInt n).toInt32 = Int32.ofInt n) (K : Bj D l z (pc + 3) L (.int (Int32.ofInt n) :: S) ws nc ns) : Bj D l z pc L S ws nc ns := by
  obtain ⟨A, p, e, R, s, m, args, below, meth, c, Q⟩ := z
  intro H locs ls hP hD hS hL
  exact lv_sipush C.1 C.2.1 hd hn (K H locs ls hP hD hS hL)
theorem b_dup {v : Value} (C : Bx D T z d mc ms own cc nL) (hd : decode cc pc = .ok (.dup, 1)) (hv : v.category = 1) (K : Bj D l z (pc + 1) L (v :: v :: S) ws nc ns) : Bj D l z pc L (v :: S) ws nc ns := by
  obtain ⟨A, p, e, R, s, m, args, below, meth, c, Q⟩ := z
  intro H locs ls hP hD hS hL
  exact lv_dup C.1 C.2.1 hd hv (K H locs ls hP hD hS hL)
theorem b_iadd {x y : Int32} (C : Bx D T z d mc ms own cc nL) (hd : decode cc pc = .ok (.iadd, 1)) (K : Bj D l z (pc + 1) L (.int (x + y) :: S) ws nc ns) : Bj D l z pc L (.int y :: .int x :: S) ws nc ns := by
  obtain ⟨A, p, e, R, s, m, args, below, meth, c, Q⟩ := z
  intro H locs ls hP hD hS hL
  exact lv_iadd C.1 C.2.1 hd (K H locs ls hP hD hS hL)
theorem b_obj {index a : Nat} (C : Bx D T z d mc ms own cc nL) (hd : decode cc pc = .ok (.invokespecial index, 3)) (ml : Cond.methodLink own index Lib.objectInit ∈ GW) (h1 : 1 ≤ d) (hcat : (S.map fun v => v.category).sum ≤ 8) (K : Bj D l z (pc + 3) L S ws nc ns) : Bj D l z pc L (.ref a :: S) ws nc ns := by
  obtain ⟨A, p, e, R, s, m, args, below, meth, c, Q⟩ := z
  intro H locs ls hP hD hS hL
  obtain ⟨c1, c2, c3, c4, c5, c6, c7, c8, c9, c10, c11⟩ := C
  have hr := lv_room (m := m) (pc := pc) (ls := ls) (rest := .ref a :: S) hcat
  refine W.objInit c1 c2 c4 (c5 _ ml) (c5 _ ob_im) (c5 _ ob_co) rfl hL.1 rfl hd (by omega) (by omega) ?_
  exact K H locs ls hP hD hS hL
theorem b_alen {q0 t0 a n : Nat} {x : vp_A} {cA : ClassId} {ty : FieldType} (C : Bx D T z d mc ms own cc nL) (hd : decode cc pc = .ok (.arraylength, 1)) (ha : ws[q0]? = some (a, .inl (cA, x))) (ht : (ty3 T)[t0]? = some (cA, ty)) (hx : x.1 = n) (K : Bj D l z (pc + 1) L (.int (Int32.ofInt n) :: S) ws nc ns) : Bj D l z pc L (.ref a :: S) ws nc ns := by
  obtain ⟨A, p, e, R, s, m, args, below, meth, c, Q⟩ := z
  intro H locs ls hP hD hS hL
  obtain ⟨c1, c2, c3, c4, c5, c6, c7, c8, c9, c10, c11⟩ := C
  exact va_alen c1 c2 c6 hP q0 t0 ha ht (by rw [hx]; exact (Int32.ofInt_eq_ofNat (n := n)).symm) hd (K H locs ls hP hD hS hL)
theorem b_iast {q0 a n : Nat} {f : Nat → Int32} {i x : Int32} (C : Bx D T z d mc ms own cc nL) (hd : decode cc pc = .ok (.iastore, 1)) (ha : ws[q0]? = some (a, .inl (T.1, n, .inl f))) (hin : vp_in i n) (K : Bj D l z (pc + 1) L S (ws.set q0 (a, .inl (T.1, n, .inl (upd f i.toNatClampNeg x)))) nc ns) : Bj D l z pc L (.int x :: .int i :: .ref a :: S) ws nc ns := by
  obtain ⟨A, p, e, R, s, m, args, below, meth, c, Q⟩ := z
  intro H locs ls hP hD hS hL
  obtain ⟨c1, c2, c3, c4, c5, c6, c7, c8, c9, c10, c11⟩ := C
  exact va_iast c1 c2 c6 hP hD hS q0 0 ha rfl hin hd (fun H1 locs1 hP1 hD1 hS1 => K H1 locs1 ls hP1 hD1 hS1 hL)
theorem b_newai {n : Nat} (C : Bx D T z d mc ms own cc nL) (hd : decode cc pc = .ok (.newarray .int, 2)) (hn : n < 1000) (h1 : nc + 1 ≤ mc) (h2 : ns + n ≤ ms) (K : ∀ q, Bj D l z (pc + 2) L (.ref q :: S) (ws ++ [(q, .inl (T.1, n, .inl (fun _ => Int32.ofInt 0)))]) (nc + 1) (ns + n)) : Bj D l z pc L (.int (Int32.ofInt n) :: S) ws nc ns := by
  obtain ⟨A, p, e, R, s, m, args, below, meth, c, Q⟩ := z
  intro H locs ls hP hD hS hL
  obtain ⟨c1, c2, c3, c4, c5, c6, c7, c8, c9, c10, c11⟩ := C
  obtain ⟨n1, n2⟩ := i32_nn (a := n) (by unfold R32; omega) (by omega)
  refine va_newa (atype := .int) (ty := .int) (N' := n) (a0 := (n, .inl (fun _ => Int32.ofInt 0))) c1 c2 (c5 _ ac_int) rfl c6 hP hD hS c7 (fun cA => rfl) n1 (by rw [n2]; omega) (by show n * 4 ≤ 536870912; omega) (by omega) (by omega) hd (fun q cA H1 hK1 hP1 hD1 hS1 => ?_)
  have e0 : s.vm.findClass ("[" ++ FieldType.int.toString) = some T.1 := (hK1.2 0 (T.1, .int) rfl).2
  have e3 : s.vm.findClass ("[" ++ FieldType.int.toString) = some cA := (hK1.2 3 (cA, .int) rfl).2
  have ec : T.1 = cA := Option.some.inj (e0.symm.trans e3)
  subst ec
  exact K q H1 locs ls hP1 hD1 hS1 hL
theorem b_newaj {n : Nat} (C : Bx D T z d mc ms own cc nL) (hd : decode cc pc = .ok (.newarray .long, 2)) (hn : n < 1000) (h1 : nc + 1 ≤ mc) (h2 : ns + n ≤ ms) (K : ∀ q, Bj D l z (pc + 2) L (.ref q :: S) (ws ++ [(q, .inl (T.2.1, n, .inr (.inl (fun _ => Int64.ofInt 0))))]) (nc + 1) (ns + n)) : Bj D l z pc L (.int (Int32.ofInt n) :: S) ws nc ns := by
  obtain ⟨A, p, e, R, s, m, args, below, meth, c, Q⟩ := z
  intro H locs ls hP hD hS hL
  obtain ⟨c1, c2, c3, c4, c5, c6, c7, c8, c9, c10, c11⟩ := C
  obtain ⟨n1, n2⟩ := i32_nn (a := n) (by unfold R32; omega) (by omega)
  refine va_newa (atype := .long) (ty := .long) (N' := n) (a0 := (n, .inr (.inl (fun _ => Int64.ofInt 0)))) c1 c2 (c5 _ ac_long) rfl c6 hP hD hS c7 (fun cA => rfl) n1 (by rw [n2]; omega) (by show n * 8 ≤ 536870912; omega) (by omega) (by omega) hd (fun q cA H1 hK1 hP1 hD1 hS1 => ?_)
  have e0 : s.vm.findClass ("[" ++ FieldType.long.toString) = some T.2.1 := (hK1.2 1 (T.2.1, .long) rfl).2
  have e3 : s.vm.findClass ("[" ++ FieldType.long.toString) = some cA := (hK1.2 3 (cA, .long) rfl).2
  have ec : T.2.1 = cA := Option.some.inj (e0.symm.trans e3)
  subst ec
  exact K q H1 locs ls hP1 hD1 hS1 hL
theorem b_newq {n index : Nat} (C : Bx D T z d mc ms own cc nL) (hd : decode cc pc = .ok (.anewarray index, 3)) (hcl : Cond.classLink own index RX8 ∈ GW) (hn : n < 1000) (h1 : nc + 1 ≤ mc) (h2 : ns + n ≤ ms) (K : ∀ q, Bj D l z (pc + 3) L (.ref q :: S) (ws ++ [(q, .inl (T.2.2, n, .inr (.inr (.inr (.inr (fun _ => none))))))]) (nc + 1) (ns + n)) : Bj D l z pc L (.int (Int32.ofInt n) :: S) ws nc ns := by
  obtain ⟨A, p, e, R, s, m, args, below, meth, c, Q⟩ := z
  intro H locs ls hP hD hS hL
  obtain ⟨c1, c2, c3, c4, c5, c6, c7, c8, c9, c10, c11⟩ := C
  obtain ⟨n1, n2⟩ := i32_nn (a := n) (by unfold R32; omega) (by omega)
  refine va_newq (C := RX8) (N' := n) c1 c2 c4 (c5 _ hcl) c8.2.2.2.2.2.2.2.2 c6 hP hD hS c7 n1 (by rw [n2]; omega) (by omega) (by omega) (by omega) hd (fun q cA H1 hK1 hP1 hD1 hS1 => ?_)
  have e0 : s.vm.findClass ("[" ++ (FieldType.object "WholeMarks$Sheet").toString) = some T.2.2 := by
    obtain ⟨_, _, _, _, _, h4⟩ := (hK1.2 2 (T.2.2, .object "WholeMarks$Sheet") rfl).2
    exact h4
  have e3 : s.vm.findClass ("[" ++ (FieldType.object "WholeMarks$Sheet").toString) = some cA := by
    obtain ⟨_, _, _, _, _, h4⟩ := (hK1.2 3 (cA, .object "WholeMarks$Sheet") rfl).2
    exact h4
  have ec : T.2.2 = cA := Option.some.inj (e0.symm.trans e3)
  subst ec
  exact K q H1 locs ls hP1 hD1 hS1 hL
theorem b_new {index ci N : Nat} {Cn : String} {Tt : u_T} {ty : Nat → FieldType} {fs : List Value} (C : Bx D T z d mc ms own cc nL) (hd : decode cc pc = .ok (.new index, 3)) (hc : vwCl[ci]? = some (Cn, Tt, N)) (hty : ∀ k, k < N → parseFieldDescriptor (Tt k).2.2.1 = some (ty k)) (hcl : Cond.classLink own index Cn ∈ GW) (hinst : Cond.instantiable Cn N ∈ GW) (hini : Cond.initialized Cn ∈ GW) (hfs : ∀ j, j < N → defaultValue (ty j) = vp_V fs j) (h1 : nc + 1 ≤ mc) (h2 : ns + N ≤ ms) (K : ∀ q, Bj D l z (pc + 3) L (.ref q :: S) (ws ++ [(q, .inr (ci, fs))]) (nc + 1) (ns + N)) : Bj D l z pc L S ws nc ns := by
  obtain ⟨A, p, e, R, s, m, args, below, meth, c, Q⟩ := z
  intro H locs ls hP hD hS hL
  obtain ⟨c1, c2, c3, c4, c5, c6, c7, c8, c9, c10, c11⟩ := C
  exact va_new (ci := ci) (fs := fs) (C := Cn) (T := Tt) (N := N) c1 c2 c5 (cls_ok _ (List.mem_of_getElem? hc)).1 ty hty c4 (c5 _ hcl) (c5 _ hinst) (c5 _ hini) c6 hP hD hS c7 hc hfs (by omega) (by omega) hd (fun q H1 hP1 hD1 hS1 => K q H1 locs ls hP1 hD1 hS1 hL)
theorem b_putF {index ci N k q0 a : Nat} {Cn : String} {Tt : u_T} {ty : FieldType} {fs : List Value} {v : Value} (C : Bx D T z d mc ms own cc nL) (I : Bi z) (hd : decode cc pc = .ok (.putfield index, 3)) (hc : vwCl[ci]? = some (Cn, Tt, N)) (hk : k < N) (hw : Cond.fieldLink own index (Tt k).1 (Tt k).2.1 (Tt k).2.2.1 ∈ GW) (hfin : (Tt k).2.2.2 = true) (hdecl : (Tt k).1 = own) (hp : parseFieldDescriptor (Tt k).2.2.1 = some ty) (hn : narrow ty v = v) (hf : fits ty v = true) (he : ws[q0]? = some (a, .inr (ci, fs))) (hl : k < fs.length) (K : Bj D l z (pc + 3) L S (ws.set q0 (a, .inr (ci, fs.set k v))) nc ns) : Bj D l z pc L (v :: .ref a :: S) ws nc ns := by
  obtain ⟨A, p, e, R, s, m, args, below, meth, c, Q⟩ := z
  intro H locs ls hP hD hS hL
  obtain ⟨c1, c2, c3, c4, c5, c6, c7, c8, c9, c10, c11⟩ := C
  obtain ⟨o1, ⟨ty0, o2⟩, o3⟩ := cls_ok _ (List.mem_of_getElem? hc)
  exact va_putF (D := D) c1 c2 c5 o1 ty0 o2 o3 c4 c6 hP hD hS q0 he hc k hk (c5 _ hw) (fun _ h => h) hfin I hdecl hp hn hf hl hd (fun H1 locs1 hP1 hD1 hS1 => K H1 locs1 ls hP1 hD1 hS1 hL)
theorem b_put {index ci N k q0 a : Nat} {Cn : String} {Tt : u_T} {ty : FieldType} {fs : List Value} {v : Value} (C : Bx D T z d mc ms own cc nL) (hd : decode cc pc = .ok (.putfield index, 3)) (hc : vwCl[ci]? = some (Cn, Tt, N)) (hk : k < N) (hw : Cond.fieldLink own index (Tt k).1 (Tt k).2.1 (Tt k).2.2.1 ∈ GW) (hfin : (Tt k).2.2.2 = false) (hp : parseFieldDescriptor (Tt k).2.2.1 = some ty) (hn : narrow ty v = v) (hf : fits ty v = true) (he : ws[q0]? = some (a, .inr (ci, fs))) (hl : k < fs.length) (K : Bj D l z (pc + 3) L S (ws.set q0 (a, .inr (ci, fs.set k v))) nc ns) : Bj D l z pc L (v :: .ref a :: S) ws nc ns := by
  obtain ⟨A, p, e, R, s, m, args, below, meth, c, Q⟩ := z
  intro H locs ls hP hD hS hL
  obtain ⟨c1, c2, c3, c4, c5, c6, c7, c8, c9, c10, c11⟩ := C
  obtain ⟨o1, ⟨ty0, o2⟩, o3⟩ := cls_ok _ (List.mem_of_getElem? hc)
  exact va_put (D := D) c1 c2 c5 o1 ty0 o2 o3 c4 c6 hP hD hS q0 he hc k hk (c5 _ hw) (fun _ h => h) hfin hp hn hf hl hd (fun H1 locs1 hP1 hD1 hS1 => K H1 locs1 ls hP1 hD1 hS1 hL)
theorem b_getf {index ci N k q0 a : Nat} {Cn : String} {Tt : u_T} {fs : List Value} {v : Value} (C : Bx D T z d mc ms own cc nL) (hd : decode cc pc = .ok (.getfield index, 3)) (hc : vwCl[ci]? = some (Cn, Tt, N)) (hk : k < N) (hw : Cond.fieldLink own index (Tt k).1 (Tt k).2.1 (Tt k).2.2.1 ∈ GW) (he : ws[q0]? = some (a, .inr (ci, fs))) (hv : fs[k]? = some v) (K : Bj D l z (pc + 3) L (v :: S) ws nc ns) : Bj D l z pc L (.ref a :: S) ws nc ns := by
  obtain ⟨A, p, e, R, s, m, args, below, meth, c, Q⟩ := z
  intro H locs ls hP hD hS hL
  obtain ⟨c1, c2, c3, c4, c5, c6, c7, c8, c9, c10, c11⟩ := C
  exact va_get (D := D) c1 c2 c5 (cls_ok _ (List.mem_of_getElem? hc)).1 c4 c6 hP q0 he hc k hk (c5 _ hw) (fun _ h => h) hv hd (K H locs ls hP hD hS hL)
theorem b_astq {q0 qk a v n : Nat} {vs : List Value} {f : Nat → Option Nat} {i : Int32} (C : Bx D T z d mc ms own cc nL) (hd : decode cc pc = .ok (.aastore, 1)) (ha : ws[q0]? = some (a, .inl (T.2.2, n, .inr (.inr (.inr (.inr f)))))) (hv : ws[qk]? = some (v, .inr (6, vs))) (hin : vp_in i n) (K : Bj D l z (pc + 1) L S (ws.set q0 (a, .inl (T.2.2, n, .inr (.inr (.inr (.inr (va_up f i.toNatClampNeg (some v)))))))) nc ns) : Bj D l z pc L (.ref v :: .int i :: .ref a :: S) ws nc ns := by
  obtain ⟨A, p, e, R, s, m, args, below, meth, c, Q⟩ := z
  intro H locs ls hP hD hS hL
  obtain ⟨c1, c2, c3, c4, c5, c6, c7, c8, c9, c10, c11⟩ := C
  exact va_astq (r := (RX8, TX8, 4)) c1 c2 c6 hP hD hS q0 2 qk 6 ha rfl hv rfl hin hd (fun H1 locs1 hP1 hD1 hS1 => K H1 locs1 ls hP1 hD1 hS1 hL)
theorem b_w {ws' : va_W} (e : ws = ws') (K : Bj D l z pc L S ws' nc ns) : Bj D l z pc L S ws nc ns := e ▸ K
theorem b_ret {P : va_W → Prop} (C : Bx D T z d mc ms own cc nL) (r : Rb D z P mc ms) (hd : decode cc pc = .ok (.return_, 1)) (h1 : nc ≤ mc) (h2 : ns ≤ ms) (hp : P ws) : Bj D l z pc L [] ws nc ns := by
  obtain ⟨A, p, e, R, s, m, args, below, meth, c, Q⟩ := z
  intro H locs ls hP hD hS hL
  obtain ⟨c1, c2, c3, c4, c5, c6, c7, c8, c9, c10, c11⟩ := C
  obtain ⟨hr, hlocks, rfl⟩ := r
  refine W.widen (k := mc) (n := ms) h1 h2 ?_
  exact W.vret c1 c2 hr (fun t ht _ => ⟨⟨ws, rfl, hp, by rw [ht]; exact hP, hD⟩, hS.F ht⟩) hS.2.2 hd hlocks
theorem b_ctor {index : Nat} {y : MethodName} {bytes : ByteArray} {maxL d' mc' ms' ci b : Nat} {fs : List Value} {post : Nat → va_W → Prop} {wr : va_W} (C : Bx D T z d mc ms own cc nL) (hd : decode cc pc = .ok (.invokespecial index, 3)) (hdd : d' + 1 ≤ d) (co : Cond.code y bytes maxL none ∈ GW) (nest : ∀ U, NW U → va_Nw (.methodLinkNest own index y "WholeMarks") U) (im : Cond.instanceMethod y ∈ GW) (ini : Cond.initialized y.cls ∈ GW) (hy1 : y.name = "<init>") (hy : y.cls ≠ "java/lang/invoke/MethodHandle" ∧ y.cls ≠ "java/lang/invoke/VarHandle" ∧ (parseMethodDescriptor y.desc).map (fun d => d.parameters.length) = some 0) (hmax : maxL ≤ 40) (ct : Ct D T l y bytes maxL d' mc' ms' ci fs post) (hcat : (S.map fun v => v.category).sum ≤ 8) (h1 : nc + mc' ≤ mc) (h2 : ns + ms' ≤ ms) (K : ∀ w1, post b w1 → Bj D l z (pc + 3) L S (wr ++ w1) (nc + mc') (ns + ms')) : Bj D l z pc L (.ref b :: S) (wr ++ [(b, .inr (ci, fs))]) nc ns := by
  obtain ⟨A, p, e, R, s, m, args, below, meth, c, Q⟩ := z
  intro H locs ls hP hD hS hL
  obtain ⟨c1, c2, c3, c4, c5, c6, c7, c8, c9, c10, c11⟩ := C
  have hwc : (wr ++ [(b, Sum.inr (ci, fs))])[wr.length]? = some (b, Sum.inr (ci, fs)) := by simp
  have hPc : va_P D vwCl [(b, .inr (ci, fs))] H := fun k q hk => by
    have hk0 : k < 1 := (List.getElem?_eq_some_iff.mp hk).1
    have hk1 : k = 0 := by omega
    subst hk1
    rw [← Option.some.inj hk]
    exact hP _ _ hwc
  have hDc : va_D (fun _ => True) [(b, Sum.inr (ci, fs))] := ⟨fun i j _ _ hi hj _ => by
    have := (List.getElem?_eq_some_iff.mp hi).1
    have := (List.getElem?_eq_some_iff.mp hj).1
    simp only [List.length_cons, List.length_nil] at *
    omega, fun _ _ _ => trivial⟩
  have hF : ∀ q, va_A [(b, Sum.inr (ci, fs))] H.size q → A q := fun q h => by
    rcases h with ⟨k, e2, h⟩ | h
    · have hk0 : k < 1 := (List.getElem?_eq_some_iff.mp h).1
      have hk1 : k = 0 := by omega
      subst hk1
      have := Option.some.inj h
      have h3 := hD.2 _ _ hwc
      rw [this] at h3
      exact h3
    · exact c7 q (Nat.le_trans hS.1 h)
  refine va_callv (va_runIN (cc := cc) (nL := c.maxLocals) (Ts := GW) (own := own) (As := []) (rest := S) ⟨c1, c2, rfl, c4, c5⟩ (ct b H.size) ⟨va_cnB (Ts := GW) (ws := mw (y, bytes, maxL, none)) 0 c5 (GoodIn_mw co) rfl rfl rfl (nest s c8) (c5 _ ini) hy ⟨by show d' + 1 ≤ R.frames; omega, by show 8 + (maxL + 11) + 60 * d' ≤ R.locals; omega⟩, hy1, c5 _ im⟩ ⟨FrameBlind_BP, fun U hU hW => ⟨rfl, by rw [hU], by rw [hU]; exact hPc, va_K.moved hW.alike c6, hDc, c8.warm hW⟩⟩ rfl rfl hL.1 rfl (lv_room hcat) hd ⟨by omega, by omega⟩) hS (fun q _ h => hF q h) hF (fun w1 t H1 locs1 ht hvm hw hB hz1 hk1 hS1 => ?_)
  obtain ⟨hP1, hD1⟩ := hB
  rw [ht] at hP1
  obtain ⟨hP2, hD2⟩ := join_last hP hD hk1 hF hP1 hD1
  exact K w1 hw H1 locs1 ls hP2 hD2 hS1 hL
theorem b_ctorP {index : Nat} {y : MethodName} {bytes : ByteArray} {maxL d' mc' ms' ci b : Nat} {fs : List Value} {post : Nat → va_W → Prop} {wr : va_W} (C : Bx D T z d mc ms own cc nL) (hd : decode cc pc = .ok (.invokespecial index, 3)) (hdd : d' + 1 ≤ d) (co : Cond.code y bytes maxL none ∈ GW) (ml : Cond.methodLink own index y ∈ GW) (im : Cond.instanceMethod y ∈ GW) (ini : Cond.initialized y.cls ∈ GW) (hy1 : y.name = "<init>") (hy : y.cls ≠ "java/lang/invoke/MethodHandle" ∧ y.cls ≠ "java/lang/invoke/VarHandle" ∧ (parseMethodDescriptor y.desc).map (fun d => d.parameters.length) = some 0) (hmax : maxL ≤ 40) (ct : Ct D T l y bytes maxL d' mc' ms' ci fs post) (hcat : (S.map fun v => v.category).sum ≤ 8) (h1 : nc + mc' ≤ mc) (h2 : ns + ms' ≤ ms) (K : ∀ w1, post b w1 → Bj D l z (pc + 3) L S (wr ++ w1) (nc + mc') (ns + ms')) : Bj D l z pc L (.ref b :: S) (wr ++ [(b, .inr (ci, fs))]) nc ns := by
  obtain ⟨A, p, e, R, s, m, args, below, meth, c, Q⟩ := z
  intro H locs ls hP hD hS hL
  obtain ⟨c1, c2, c3, c4, c5, c6, c7, c8, c9, c10, c11⟩ := C
  have hwc : (wr ++ [(b, Sum.inr (ci, fs))])[wr.length]? = some (b, Sum.inr (ci, fs)) := by simp
  have hPc : va_P D vwCl [(b, .inr (ci, fs))] H := fun k q hk => by
    have hk0 : k < 1 := (List.getElem?_eq_some_iff.mp hk).1
    have hk1 : k = 0 := by omega
    subst hk1
    rw [← Option.some.inj hk]
    exact hP _ _ hwc
  have hDc : va_D (fun _ => True) [(b, Sum.inr (ci, fs))] := ⟨fun i j _ _ hi hj _ => by
    have := (List.getElem?_eq_some_iff.mp hi).1
    have := (List.getElem?_eq_some_iff.mp hj).1
    simp only [List.length_cons, List.length_nil] at *
    omega, fun _ _ _ => trivial⟩
  have hF : ∀ q, va_A [(b, Sum.inr (ci, fs))] H.size q → A q := fun q h => by
    rcases h with ⟨k, e2, h⟩ | h
    · have hk0 : k < 1 := (List.getElem?_eq_some_iff.mp h).1
      have hk1 : k = 0 := by omega
      subst hk1
      have := Option.some.inj h
      have h3 := hD.2 _ _ hwc
      rw [this] at h3
      exact h3
    · exact c7 q (Nat.le_trans hS.1 h)
  refine va_callv (va_runI (cc := cc) (nL := c.maxLocals) (Ts := GW) (own := own) (As := []) (rest := S) ⟨c1, c2, rfl, c4, c5⟩ (ct b H.size) ⟨callB_of (Ts := GW) (ws := mw (y, bytes, maxL, none)) 0 c5 (GoodIn_mw co) rfl rfl rfl (c5 _ ini) (c5 _ ml) hy ⟨by show d' + 1 ≤ R.frames; omega, by show 8 + (maxL + 11) + 60 * d' ≤ R.locals; omega⟩, hy1, c5 _ im⟩ ⟨FrameBlind_BP, fun U hU hW => ⟨rfl, by rw [hU], by rw [hU]; exact hPc, va_K.moved hW.alike c6, hDc, c8.warm hW⟩⟩ rfl rfl hL.1 rfl (lv_room hcat) hd ⟨by omega, by omega⟩) hS (fun q _ h => hF q h) hF (fun w1 t H1 locs1 ht hvm hw hB hz1 hk1 hS1 => ?_)
  obtain ⟨hP1, hD1⟩ := hB
  rw [ht] at hP1
  obtain ⟨hP2, hD2⟩ := join_last hP hD hk1 hF hP1 hD1
  exact K w1 hw H1 locs1 ls hP2 hD2 hS1 hL
end ROWSB
