/-! the constructors: with loops -/
theorem c_putB {D : va_G} {T : T3} {l : Launch} {n : Nat} {f : Nat → Int} {i v : Int} (h0 : 0 ≤ i) (h1 : i < n) (hn : n < 1000) : ∀ a sz, Met l yX7_put (mw qX7_put) (rmB 0 0 0) (BP D T [cI T a n f] [.ref a, vI i, vI v] sz) (va_Qv (fun w => w = [cI T a n (fun j => if j = i.toNat then v else f j)]) (fun w t => va_P D vwCl w t.heap ∧ va_D (va_A [cI T a n f] sz) w) (va_A [cI T a n f] sz)) 0 0 (va_A [cI T a n f] sz) := by
  intro a sz
  obtain ⟨g1, g2⟩ := nat_i32 h0 h1 hn
  have ri : R32 i := by unfold R32; omega
  refine Met.ofW (cc := cX7_put) (maxL := 3) (ret := none) (by decide) rfl ?_
  intro p e s m args below meth c s₁ B hml hv
  obtain ⟨rfl, hsz, hP, hK, hD0, hN⟩ := hv
  subst hsz
  have hts : ∀ w ∈ GW, w.before ([Value.ref a, vI i, vI v] : List Value).toArray s = true := fun w hw => atoms_spec (ws := mw qX7_put) B.pre w (List.mem_cons_of_mem _ hw)
  have hx := B.exec
  have hb := B.bytes
  have hS : va_S (va_A [cI T a n f] s.heap.size) s.heap s.heap [] := va_S.rf
  have hD := hD0.self (sz := s.heap.size)
  have hl := lv_entry ([.ref a, vI i, vI v]) (n := 3) (Nat.le_of_ble_eq_true rfl)
  rw [lg_entry_eq]
  generalize (lg_sl ([.ref a, vI i, vI v]) ++ List.replicate (3 - (lg_sl ([.ref a, vI i, vI v])).length) Slot.unset).toArray = ls at hl ⊢
  have hl : lv_has ls 3 [(0, .ref a), (1, vI i), (2, vI v)] := hl
  have hlen : Int32.ofNat n = Int32.ofInt (n : Int) := (Int32.ofInt_eq_ofNat (n := n)).symm
  refine lv_iload_n hx hb dX7_put_0 rfl (lv_at hl 1 rfl) ?_
  refine lv_if_lt (tgt := 14) hx hb dX7_put_1 (by decide) (fun q => ?_) (fun _ => ?_)
  · have := (i32_lt ri r32_0).mp q
    omega
  refine lv_iload_n hx hb dX7_put_4 rfl (lv_at hl 1 rfl) ?_
  refine lv_aload_n hx hb dX7_put_5 rfl (lv_at hl 0 rfl) ?_
  refine va_alen hx hb hK hP 0 0 (cA := T.1) (x := (n, .inl (fun j => Int32.ofInt (f j)))) rfl rfl hlen dX7_put_6 ?_
  refine lv_icmp_ge (tgt := 14) hx hb dX7_put_7 (by decide) (fun q => ?_) (fun _ => ?_)
  · have := (i32_le (by unfold R32; omega) ri).mp q
    omega
  refine lv_aload_n hx hb dX7_put_10 rfl (lv_at hl 0 rfl) ?_
  refine lv_iload_n hx hb dX7_put_11 rfl (lv_at hl 1 rfl) ?_
  refine lv_iload_n hx hb dX7_put_12 rfl (lv_at hl 2 rfl) ?_
  refine va_iast (D := D) hx hb hK hP hD hS 0 0 (cA := T.1) (n := n) (f := fun j => Int32.ofInt (f j)) rfl rfl g1 dX7_put_13 (fun H1 locs1 hP1 hD1 hS1 => ?_)
  rw [g2, upd_I] at hP1 hD1
  exact W.vret hx hb B.returns (fun t ht _ => ⟨⟨_, rfl, rfl, by rw [ht]; exact hP1, hD1⟩, hS1.F ht⟩) hS1.2.2 dX7_put_14 B.notSynchronized
theorem b_callput {D : va_G} {T : T3} {l : Launch} {z : RB} {d mc ms : Nat} {own : String} {cc : ByteArray} {nL pc : Nat} {L : VL} {S : List Value} {ws : va_W} {nc ns index k a n : Nat} {f : Nat → Int} {i v : Int} (C : Bx D T z d mc ms own cc nL) (hd : decode cc pc = .ok (.invokestatic index, 3)) (hdd : 1 ≤ d) (ml : Cond.methodLink own index yX7_put ∈ GW) (h0 : 0 ≤ i) (h1 : i < n) (hn : n < 1000) (ha : ws[k]? = some (cI T a n f)) (hcat : (S.map fun v => v.category).sum ≤ 8) (hc : nc ≤ mc) (hs : ns ≤ ms) (K : Bj D l z (pc + 3) L S (ws.set k (cI T a n (fun j => if j = i.toNat then v else f j))) nc ns) : Bj D l z pc L (vI v :: vI i :: .ref a :: S) ws nc ns := by
  obtain ⟨A, p, e, R, s, m, args, below, meth, c, Q⟩ := z
  intro H locs ls hP hD hS hL
  obtain ⟨c1, c2, c3, c4, c5, c6, c7, c8, c9, c10, c11⟩ := C
  have hPc : va_P D vwCl [cI T a n f] H := fun j q hk => by
    have hk0 : j < 1 := (List.getElem?_eq_some_iff.mp hk).1
    have hk1 : j = 0 := by omega
    subst hk1
    rw [← Option.some.inj hk]
    exact hP _ _ ha
  have hDc : va_D (fun _ => True) [cI T a n f] := ⟨fun i j _ _ hi hj _ => by
    have := (List.getElem?_eq_some_iff.mp hi).1
    have := (List.getElem?_eq_some_iff.mp hj).1
    simp only [List.length_cons, List.length_nil] at *
    omega, fun _ _ _ => trivial⟩
  have hF : ∀ q, va_A [cI T a n f] H.size q → A q := fun q h => by
    rcases h with ⟨j, e2, h⟩ | h
    · have hk0 : j < 1 := (List.getElem?_eq_some_iff.mp h).1
      have hk1 : j = 0 := by omega
      subst hk1
      have := Option.some.inj h
      have h3 := hD.2 _ _ ha
      rw [this] at h3
      exact h3
    · exact c7 q (Nat.le_trans hS.1 h)
  refine va_callv (va_runS (cc := cc) (nL := c.maxLocals) (Ts := GW) (own := own) (As := [.ref a, vI i, vI v]) (rest := S) ⟨c1, c2, rfl, c4, c5⟩ (c_putB h0 h1 hn a H.size) ⟨callB_of (Ts := GW) (ws := mw qX7_put) 3 c5 (GoodIn_mw co_yX7_put) rfl rfl rfl (c5 _ ini_RX7) (c5 _ ml) (by decide +kernel) ⟨by show 0 + 1 ≤ R.frames; omega, by show 8 + (3 + 11) + 60 * 0 ≤ R.locals; omega⟩, c5 _ st_yX7_put⟩ ⟨FrameBlind_BP, fun U hU hW => ⟨rfl, by rw [hU], by rw [hU]; exact hPc, va_K.moved hW.alike c6, hDc, c8.warm hW⟩⟩ rfl rfl hL.1 rfl (lv_room hcat) hd ⟨by omega, by omega⟩) hS (fun q _ h => hF q h) hF (fun w1 t H1 locs1 ht hvm hw hB hz1 hk1 hS1 => ?_)
  obtain ⟨hP1, hD1⟩ := hB
  rw [ht, hw] at hP1
  obtain ⟨hP2, hD2⟩ := join_set hP hD ha hk1 hP1
  exact K H1 locs1 ls hP2 hD2 hS1 hL
theorem fCo_s (k : Nat) : (fun j => if j = ((k : Nat) : Int).toNat then (1 : Int) else fCo k j) = fCo (k + 1) := by
  funext j
  rw [Int.toNat_natCast]
  show (if j = k then (1 : Int) else if j < k then 1 else 0) = if j < k + 1 then 1 else 0
  by_cases h : j = k
  · rw [if_pos h, if_pos (by omega)]
  · rw [if_neg h]
    by_cases h2 : j < k
    · rw [if_pos h2, if_pos (by omega)]
    · rw [if_neg h2, if_neg (by omega)]
def pRX3 (T : T3) (h : Nat) (w : va_W) : Prop := ∃ q1 q2 : Nat, w = [cO h 2 [.ref q1, .ref q2], cI T q1 16 (fCo 16), cI T q2 16 (fCo 16)]
set_option maxRecDepth 20000 in
theorem ct_RX3 {D : va_G} {T : T3} {l : Launch} : Ct D T l yX3_init cX3_init 2 2 2 32 2 [.null, .null] (pRX3 T) := by
  refine ct_of (by decide) rfl (by decide) (fun h z C J r => ?_)
  refine b_aload_n (i := 0) C dX3_init_0 rfl rfl ?_
  refine b_obj C dX3_init_1 mo_RX3 (by decide) (Nat.le_of_ble_eq_true rfl) ?_
  refine b_aload_n (i := 0) C dX3_init_4 rfl rfl ?_
  refine b_bipush C dX3_init_5 (by decide) ?_
  refine b_newai (n := 16) C dX3_init_7 (by decide) (by decide) (by decide) (fun a1 => ?_)
  refine b_w (ws' := [cO h 2 [.null, .null], cI T a1 16 (fun _ => 0)]) rfl ?_
  refine b_putF (ci := 2) (N := 2) (k := 0) (q0 := 0) (Cn := RX3) (Tt := TX3) C J dX3_init_9 rfl (by decide) fk_RX3_9 rfl rfl (tyX3_ok 0 (by decide)) rfl rfl rfl (Nat.le_of_ble_eq_true rfl) ?_
  refine b_w (ws' := [cO h 2 [.ref a1, .null], cI T a1 16 (fun _ => 0)]) rfl ?_
  refine b_aload_n (i := 0) C dX3_init_12 rfl rfl ?_
  refine b_bipush C dX3_init_13 (by decide) ?_
  refine b_newai (n := 16) C dX3_init_15 (by decide) (by decide) (by decide) (fun a2 => ?_)
  refine b_w (ws' := [cO h 2 [.ref a1, .null], cI T a1 16 (fun _ => 0), cI T a2 16 (fun _ => 0)]) rfl ?_
  refine b_putF (ci := 2) (N := 2) (k := 1) (q0 := 0) (Cn := RX3) (Tt := TX3) C J dX3_init_17 rfl (by decide) fk_RX3_15 rfl rfl (tyX3_ok 1 (by decide)) rfl rfl rfl (Nat.le_of_ble_eq_true rfl) ?_
  refine b_w (ws' := [cO h 2 [.ref a1, .ref a2], cI T a1 16 (fun _ => 0), cI T a2 16 (fun _ => 0)]) rfl ?_
  refine b_iconst C dX3_init_20 ?_
  refine b_istore_n (L' := [(1, vI 0), (0, .ref h)]) C dX3_init_21 rfl (by decide) rfl ?_
  have loop : ∀ n k : Nat, k + n = 16 → Bj D l z 22 [(1, vI k), (0, .ref h)] [] [cO h 2 [.ref a1, .ref a2], cI T a1 16 (fCo k), cI T a2 16 (fCo k)] 2 32 := by
    intro n
    induction n with
    | zero =>
      intro k hk
      have hk16 : k = 16 := by omega
      subst hk16
      refine b_iload_n (i := 0) C dX3_init_22 rfl rfl ?_
      refine b_bipush C dX3_init_23 (by decide) ?_
      refine b_icmp_ge (tgt := 52) C dX3_init_25 (by decide) (fun _ => b_ret C r dX3_init_52 (by decide) (by decide) ⟨a1, a2, rfl⟩) (fun q => absurd ?_ q)
      exact (i32_le (by decide) (by decide)).mpr (by decide)
    | succ n ih =>
      intro k hk
      refine b_iload_n (i := 0) C dX3_init_22 rfl rfl ?_
      refine b_bipush C dX3_init_23 (by decide) ?_
      refine b_icmp_ge (tgt := 52) C dX3_init_25 (by decide) (fun q => ?_) (fun _ => ?_)
      · have := (i32_le (by decide) (by unfold R32; omega)).mp q
        omega
      refine b_aload_n (i := 1) C dX3_init_28 rfl rfl ?_
      refine b_getf (ci := 2) (N := 2) (k := 0) (q0 := 0) (Cn := RX3) (Tt := TX3) C dX3_init_29 rfl (by decide) fk_RX3_9 rfl rfl ?_
      refine b_iload_n (i := 0) C dX3_init_32 rfl rfl ?_
      refine b_iconst C dX3_init_33 ?_
      refine b_callput (k := 1) (n := 16) C dX3_init_34 (by decide) ml_RX3_18 (by omega) (by omega) (by decide) rfl (Nat.le_of_ble_eq_true rfl) (by decide) (by decide) ?_
      rw [fCo_s]
      refine b_w (ws' := [cO h 2 [.ref a1, .ref a2], cI T a1 16 (fCo (k + 1)), cI T a2 16 (fCo k)]) rfl ?_
      refine b_aload_n (i := 1) C dX3_init_37 rfl rfl ?_
      refine b_getf (ci := 2) (N := 2) (k := 1) (q0 := 0) (Cn := RX3) (Tt := TX3) C dX3_init_38 rfl (by decide) fk_RX3_15 rfl rfl ?_
      refine b_iload_n (i := 0) C dX3_init_41 rfl rfl ?_
      refine b_iconst C dX3_init_42 ?_
      refine b_callput (k := 2) (n := 16) C dX3_init_43 (by decide) ml_RX3_18 (by omega) (by omega) (by decide) rfl (Nat.le_of_ble_eq_true rfl) (by decide) (by decide) ?_
      rw [fCo_s]
      refine b_w (ws' := [cO h 2 [.ref a1, .ref a2], cI T a1 16 (fCo (k + 1)), cI T a2 16 (fCo (k + 1))]) rfl ?_
      refine b_iinc (i := 0) (y := Int32.ofInt ((k + 1 : Nat) : Int)) (L' := [(1, vI ((k + 1 : Nat) : Int)), (0, .ref h)]) C dX3_init_46 rfl (by decide) (by rw [← Int32.ofInt_add]; rfl) rfl ?_
      refine b_goto (tgt := 22) C dX3_init_49 (by decide) ?_
      exact ih (k + 1) (by omega)
  exact loop 16 0 rfl
def pRX5 (T : T3) (h : Nat) (w : va_W) : Prop := ∃ q1 q2 q3 q4 q5 q6 q7 q8 q9 q10 q11 : Nat, w = [cO h 4 [.ref q1, .ref q3, .ref q7, .ref q9], cO q1 8 [.ref q2, vI 3, vI 0], cI T q2 3 fTw, cO q3 0 [.ref q4, .ref q5, .ref q6, vI 0, vI 0, vI 2], cI T q4 8 (fun _ => 0), cI T q5 8 (fun _ => 0), cI T q6 8 (fun _ => 0), cO q7 1 [.ref q8, vI 0], cI T q8 6 (fun _ => 0), cO q9 2 [.ref q10, .ref q11], cI T q10 16 (fCo 16), cI T q11 16 (fCo 16)]
set_option maxRecDepth 20000 in
theorem ct_RX5 {D : va_G} {T : T3} {l : Launch} : Ct D T l yX5_init cX5_init 1 3 11 78 4 [.null, .null, .null, .null] (pRX5 T) := by
  refine ct_of (by decide) rfl (by decide) (fun h z C J r => ?_)
  refine b_aload_n (i := 0) C dX5_init_0 rfl rfl ?_
  refine b_obj C dX5_init_1 mo_RX5 (by decide) (Nat.le_of_ble_eq_true rfl) ?_
  refine b_aload_n (i := 0) C dX5_init_4 rfl rfl ?_
  refine b_new (ci := 8) (N := 3) (Cn := RX10) (Tt := TX10) (ty := tyX10) (fs := [.null, vI 0, vI 0]) C dX5_init_5 rfl tyX10_ok cl_RX5_7 in_RX10 ini_RX10 (fun j hj => by rcases (show j = 0 ∨ j = 1 ∨ j = 2 by omega) with rfl | rfl | rfl <;> rfl) (by decide) (by decide) (fun a1 => ?_)
  refine b_dup C dX5_init_8 rfl ?_
  refine b_ctor (wr := [cO h 4 [.null, .null, .null, .null]]) C dX5_init_9 (by decide) co_yX10_init (fun _ h => h.2.1) im_yX10_init ini_RX10 rfl (by decide +kernel) (by decide) ct_RX10 (Nat.le_of_ble_eq_true rfl) (by decide) (by decide) (fun w1 hw1 => ?_)
  obtain ⟨a2, rfl⟩ := hw1
  refine b_w (ws' := [cO h 4 [.null, .null, .null, .null], cO a1 8 [.ref a2, vI 3, vI 0], cI T a2 3 fTw]) rfl ?_
  refine b_putF (ci := 4) (N := 4) (k := 0) (q0 := 0) (Cn := RX5) (Tt := TX5) C J dX5_init_12 rfl (by decide) fk_RX5_10 rfl rfl (tyX5_ok 0 (by decide)) rfl rfl rfl (Nat.le_of_ble_eq_true rfl) ?_
  refine b_w (ws' := [cO h 4 [.ref a1, .null, .null, .null], cO a1 8 [.ref a2, vI 3, vI 0], cI T a2 3 fTw]) rfl ?_
  refine b_aload_n (i := 0) C dX5_init_15 rfl rfl ?_
  refine b_new (ci := 0) (N := 6) (Cn := RX0) (Tt := TX0) (ty := tyX0) (fs := [.null, .null, .null, vI 0, vI 0, vI 0]) C dX5_init_16 rfl tyX0_ok cl_RX5_16 in_RX0 ini_RX0 (fun j hj => by rcases (show j = 0 ∨ j = 1 ∨ j = 2 ∨ j = 3 ∨ j = 4 ∨ j = 5 by omega) with rfl | rfl | rfl | rfl | rfl | rfl <;> rfl) (by decide) (by decide) (fun a3 => ?_)
  refine b_dup C dX5_init_19 rfl ?_
  refine b_ctor (wr := [cO h 4 [.ref a1, .null, .null, .null], cO a1 8 [.ref a2, vI 3, vI 0], cI T a2 3 fTw]) C dX5_init_20 (by decide) co_yX0_init (fun _ h => h.2.2.1) im_yX0_init ini_RX0 rfl (by decide +kernel) (by decide) ct_RX0 (Nat.le_of_ble_eq_true rfl) (by decide) (by decide) (fun w1 hw1 => ?_)
  obtain ⟨a4, a5, a6, rfl⟩ := hw1
  refine b_w (ws' := [cO h 4 [.ref a1, .null, .null, .null], cO a1 8 [.ref a2, vI 3, vI 0], cI T a2 3 fTw, cO a3 0 [.ref a4, .ref a5, .ref a6, vI 0, vI 0, vI 2], cI T a4 8 (fun _ => 0), cI T a5 8 (fun _ => 0), cI T a6 8 (fun _ => 0)]) rfl ?_
  refine b_putF (ci := 4) (N := 4) (k := 1) (q0 := 0) (Cn := RX5) (Tt := TX5) C J dX5_init_23 rfl (by decide) fk_RX5_19 rfl rfl (tyX5_ok 1 (by decide)) rfl rfl rfl (Nat.le_of_ble_eq_true rfl) ?_
  refine b_w (ws' := [cO h 4 [.ref a1, .ref a3, .null, .null], cO a1 8 [.ref a2, vI 3, vI 0], cI T a2 3 fTw, cO a3 0 [.ref a4, .ref a5, .ref a6, vI 0, vI 0, vI 2], cI T a4 8 (fun _ => 0), cI T a5 8 (fun _ => 0), cI T a6 8 (fun _ => 0)]) rfl ?_
  refine b_aload_n (i := 0) C dX5_init_26 rfl rfl ?_
  refine b_new (ci := 1) (N := 2) (Cn := RX1) (Tt := TX1) (ty := tyX1) (fs := [.null, vI 0]) C dX5_init_27 rfl tyX1_ok cl_RX5_23 in_RX1 ini_RX1 (fun j hj => by rcases (show j = 0 ∨ j = 1 by omega) with rfl | rfl <;> rfl) (by decide) (by decide) (fun a7 => ?_)
  refine b_dup C dX5_init_30 rfl ?_
  refine b_ctor (wr := [cO h 4 [.ref a1, .ref a3, .null, .null], cO a1 8 [.ref a2, vI 3, vI 0], cI T a2 3 fTw, cO a3 0 [.ref a4, .ref a5, .ref a6, vI 0, vI 0, vI 2], cI T a4 8 (fun _ => 0), cI T a5 8 (fun _ => 0), cI T a6 8 (fun _ => 0)]) C dX5_init_31 (by decide) co_yX1_init (fun _ h => h.2.2.2.1) im_yX1_init ini_RX1 rfl (by decide +kernel) (by decide) ct_RX1 (Nat.le_of_ble_eq_true rfl) (by decide) (by decide) (fun w1 hw1 => ?_)
  obtain ⟨a8, rfl⟩ := hw1
  refine b_w (ws' := [cO h 4 [.ref a1, .ref a3, .null, .null], cO a1 8 [.ref a2, vI 3, vI 0], cI T a2 3 fTw, cO a3 0 [.ref a4, .ref a5, .ref a6, vI 0, vI 0, vI 2], cI T a4 8 (fun _ => 0), cI T a5 8 (fun _ => 0), cI T a6 8 (fun _ => 0), cO a7 1 [.ref a8, vI 0], cI T a8 6 (fun _ => 0)]) rfl ?_
  refine b_putF (ci := 4) (N := 4) (k := 2) (q0 := 0) (Cn := RX5) (Tt := TX5) C J dX5_init_34 rfl (by decide) fk_RX5_26 rfl rfl (tyX5_ok 2 (by decide)) rfl rfl rfl (Nat.le_of_ble_eq_true rfl) ?_
  refine b_w (ws' := [cO h 4 [.ref a1, .ref a3, .ref a7, .null], cO a1 8 [.ref a2, vI 3, vI 0], cI T a2 3 fTw, cO a3 0 [.ref a4, .ref a5, .ref a6, vI 0, vI 0, vI 2], cI T a4 8 (fun _ => 0), cI T a5 8 (fun _ => 0), cI T a6 8 (fun _ => 0), cO a7 1 [.ref a8, vI 0], cI T a8 6 (fun _ => 0)]) rfl ?_
  refine b_aload_n (i := 0) C dX5_init_37 rfl rfl ?_
  refine b_new (ci := 2) (N := 2) (Cn := RX3) (Tt := TX3) (ty := tyX3) (fs := [.null, .null]) C dX5_init_38 rfl tyX3_ok cl_RX5_30 in_RX3 ini_RX3 (fun j hj => by rcases (show j = 0 ∨ j = 1 by omega) with rfl | rfl <;> rfl) (by decide) (by decide) (fun a9 => ?_)
  refine b_dup C dX5_init_41 rfl ?_
  refine b_ctorP (wr := [cO h 4 [.ref a1, .ref a3, .ref a7, .null], cO a1 8 [.ref a2, vI 3, vI 0], cI T a2 3 fTw, cO a3 0 [.ref a4, .ref a5, .ref a6, vI 0, vI 0, vI 2], cI T a4 8 (fun _ => 0), cI T a5 8 (fun _ => 0), cI T a6 8 (fun _ => 0), cO a7 1 [.ref a8, vI 0], cI T a8 6 (fun _ => 0)]) C dX5_init_42 (by decide) co_yX3_init ml_RX5_32 im_yX3_init ini_RX3 rfl (by decide +kernel) (by decide) ct_RX3 (Nat.le_of_ble_eq_true rfl) (by decide) (by decide) (fun w1 hw1 => ?_)
  obtain ⟨a10, a11, rfl⟩ := hw1
  refine b_w (ws' := [cO h 4 [.ref a1, .ref a3, .ref a7, .null], cO a1 8 [.ref a2, vI 3, vI 0], cI T a2 3 fTw, cO a3 0 [.ref a4, .ref a5, .ref a6, vI 0, vI 0, vI 2], cI T a4 8 (fun _ => 0), cI T a5 8 (fun _ => 0), cI T a6 8 (fun _ => 0), cO a7 1 [.ref a8, vI 0], cI T a8 6 (fun _ => 0), cO a9 2 [.ref a10, .ref a11], cI T a10 16 (fCo 16), cI T a11 16 (fCo 16)]) rfl ?_
  refine b_putF (ci := 4) (N := 4) (k := 3) (q0 := 0) (Cn := RX5) (Tt := TX5) C J dX5_init_45 rfl (by decide) fk_RX5_33 rfl rfl (tyX5_ok 3 (by decide)) rfl rfl rfl (Nat.le_of_ble_eq_true rfl) ?_
  refine b_w (ws' := [cO h 4 [.ref a1, .ref a3, .ref a7, .ref a9], cO a1 8 [.ref a2, vI 3, vI 0], cI T a2 3 fTw, cO a3 0 [.ref a4, .ref a5, .ref a6, vI 0, vI 0, vI 2], cI T a4 8 (fun _ => 0), cI T a5 8 (fun _ => 0), cI T a6 8 (fun _ => 0), cO a7 1 [.ref a8, vI 0], cI T a8 6 (fun _ => 0), cO a9 2 [.ref a10, .ref a11], cI T a10 16 (fCo 16), cI T a11 16 (fCo 16)]) rfl ?_
  exact b_ret C r dX5_init_48 (by decide) (by decide) ⟨a1, a2, a3, a4, a5, a6, a7, a8, a9, a10, a11, rfl⟩
