/-! the constructors: straight ones -/
abbrev vI (x : Int) : Value := .int (Int32.ofInt x)
abbrev vJ (x : Int) : Value := .long (Int64.ofInt x)
abbrev cO (h ci : Nat) (fs : List Value) : Nat × va_E := (h, .inr (ci, fs))
abbrev cI (T : T3) (q n : Nat) (f : Nat → Int) : Nat × va_E := (q, .inl (T.1, n, .inl (fun j => Int32.ofInt (f j))))
abbrev cJ (T : T3) (q n : Nat) (f : Nat → Int) : Nat × va_E := (q, .inl (T.2.1, n, .inr (.inl (fun j => Int64.ofInt (f j)))))
abbrev cQ (T : T3) (q n : Nat) (f : Nat → Option Nat) : Nat × va_E := (q, .inl (T.2.2, n, .inr (.inr (.inr (.inr f)))))
abbrev fTw : Nat → Int := fun j => if j = 2 then 45 else if j = 1 then 30 else if j = 0 then 36 else 0
abbrev fCo (k : Nat) : Nat → Int := fun j => if j < k then 1 else 0
theorem upd_I (f : Nat → Int) (i : Nat) (x : Int) : upd (fun j => Int32.ofInt (f j)) i (Int32.ofInt x) = fun j => Int32.ofInt (if j = i then x else f j) := by
  funext j
  unfold upd
  by_cases h : j = i <;> simp [h]
theorem b_iastI {D : va_G} {T : T3} {l : Launch} {z : RB} {d mc ms : Nat} {own : String} {cc : ByteArray} {nL pc : Nat} {L : VL} {S : List Value} {ws : va_W} {nc ns q0 a n : Nat} {f : Nat → Int} {i x : Int} (C : Bx D T z d mc ms own cc nL) (hd : decode cc pc = .ok (.iastore, 1)) (ha : ws[q0]? = some (cI T a n f)) (h0 : 0 ≤ i) (h1 : i < n) (hn : n < 1000) (K : Bj D l z (pc + 1) L S (ws.set q0 (cI T a n (fun j => if j = i.toNat then x else f j))) nc ns) : Bj D l z pc L (vI x :: vI i :: .ref a :: S) ws nc ns := by
  obtain ⟨g1, g2⟩ := nat_i32 h0 h1 hn
  refine b_iast C hd ha g1 ?_
  rw [g2, upd_I]
  exact K
theorem mo_RX11 : Cond.methodLink RX11 1 Lib.objectInit ∈ GW := gw1 23 (by decide +kernel) rfl
theorem mo_RX5 : Cond.methodLink RX5 1 Lib.objectInit ∈ GW := gw1 31 (by decide +kernel) rfl
theorem mo_RX10 : Cond.methodLink RX10 3 Lib.objectInit ∈ GW := gw1 37 (by decide +kernel) rfl
theorem mo_RX0 : Cond.methodLink RX0 3 Lib.objectInit ∈ GW := gw1 57 (by decide +kernel) rfl
theorem mo_RX1 : Cond.methodLink RX1 3 Lib.objectInit ∈ GW := gw1 87 (by decide +kernel) rfl
theorem mo_RX3 : Cond.methodLink RX3 3 Lib.objectInit ∈ GW := gw1 101 (by decide +kernel) rfl
theorem mo_RX9 : Cond.methodLink RX9 3 Lib.objectInit ∈ GW := gw1 134 (by decide +kernel) rfl
theorem mo_RX6 : Cond.methodLink RX6 3 Lib.objectInit ∈ GW := gw1 165 (by decide +kernel) rfl
theorem mo_RX4 : Cond.methodLink RX4 3 Lib.objectInit ∈ GW := gw1 182 (by decide +kernel) rfl
theorem mo_RX8 : Cond.methodLink RX8 3 Lib.objectInit ∈ GW := gw1 218 (by decide +kernel) rfl
theorem mo_RX12 : Cond.methodLink RX12 1 Lib.objectInit ∈ GW := gw4 2 (by decide +kernel) rfl
def pRX10 (T : T3) (h : Nat) (w : va_W) : Prop := ∃ q1 : Nat, w = [cO h 8 [.ref q1, vI 3, vI 0], cI T q1 3 fTw]
set_option maxRecDepth 20000 in
theorem ct_RX10 {D : va_G} {T : T3} {l : Launch} : Ct D T l yX10_init cX10_init 1 1 1 3 8 [.null, vI 0, vI 0] (pRX10 T) := by
  refine ct_of (by decide) rfl (by decide) (fun h z C J r => ?_)
  refine b_aload_n (i := 0) C dX10_init_0 rfl rfl ?_
  refine b_obj C dX10_init_1 mo_RX10 (by decide) (Nat.le_of_ble_eq_true rfl) ?_
  refine b_aload_n (i := 0) C dX10_init_4 rfl rfl ?_
  refine b_iconst C dX10_init_5 ?_
  refine b_newai (n := 3) C dX10_init_6 (by decide) (by decide) (by decide) (fun a1 => ?_)
  refine b_w (ws' := [cO h 8 [.null, vI 0, vI 0], cI T a1 3 (fun _ => 0)]) rfl ?_
  refine b_dup C dX10_init_8 rfl ?_
  refine b_iconst C dX10_init_9 ?_
  refine b_bipush C dX10_init_10 (by decide) ?_
  refine b_iastI (q0 := 1) (i := 0) (x := 36) C dX10_init_12 rfl (by decide) (by decide) (by decide) ?_
  refine b_w (ws' := [cO h 8 [.null, vI 0, vI 0], cI T a1 3 (fun j => if j = 0 then 36 else (fun _ => 0) j)]) rfl ?_
  refine b_dup C dX10_init_13 rfl ?_
  refine b_iconst C dX10_init_14 ?_
  refine b_bipush C dX10_init_15 (by decide) ?_
  refine b_iastI (q0 := 1) (i := 1) (x := 30) C dX10_init_17 rfl (by decide) (by decide) (by decide) ?_
  refine b_w (ws' := [cO h 8 [.null, vI 0, vI 0], cI T a1 3 (fun j => if j = 1 then 30 else (fun j => if j = 0 then 36 else (fun _ => 0) j) j)]) rfl ?_
  refine b_dup C dX10_init_18 rfl ?_
  refine b_iconst C dX10_init_19 ?_
  refine b_bipush C dX10_init_20 (by decide) ?_
  refine b_iastI (q0 := 1) (i := 2) (x := 45) C dX10_init_22 rfl (by decide) (by decide) (by decide) ?_
  refine b_w (ws' := [cO h 8 [.null, vI 0, vI 0], cI T a1 3 (fun j => if j = 2 then 45 else (fun j => if j = 1 then 30 else (fun j => if j = 0 then 36 else (fun _ => 0) j) j) j)]) rfl ?_
  refine b_putF (ci := 8) (N := 3) (k := 0) (q0 := 0) (Cn := RX10) (Tt := TX10) C J dX10_init_23 rfl (by decide) fk_RX10_9 rfl rfl (tyX10_ok 0 (by decide)) rfl rfl rfl (Nat.le_of_ble_eq_true rfl) ?_
  refine b_w (ws' := [cO h 8 [.ref a1, vI 0, vI 0], cI T a1 3 (fun j => if j = 2 then 45 else (fun j => if j = 1 then 30 else (fun j => if j = 0 then 36 else (fun _ => 0) j) j) j)]) rfl ?_
  refine b_aload_n (i := 0) C dX10_init_26 rfl rfl ?_
  refine b_iconst C dX10_init_27 ?_
  refine b_put (ci := 8) (N := 3) (k := 1) (q0 := 0) (Cn := RX10) (Tt := TX10) C dX10_init_28 rfl (by decide) fk_RX10_15 rfl (tyX10_ok 1 (by decide)) rfl rfl rfl (Nat.le_of_ble_eq_true rfl) ?_
  refine b_w (ws' := [cO h 8 [.ref a1, vI 3, vI 0], cI T a1 3 (fun j => if j = 2 then 45 else (fun j => if j = 1 then 30 else (fun j => if j = 0 then 36 else (fun _ => 0) j) j) j)]) rfl ?_
  exact b_ret C r dX10_init_31 (by decide) (by decide) ⟨a1, rfl⟩
def pRX0 (T : T3) (h : Nat) (w : va_W) : Prop := ∃ q1 q2 q3 : Nat, w = [cO h 0 [.ref q1, .ref q2, .ref q3, vI 0, vI 0, vI 2], cI T q1 8 (fun _ => 0), cI T q2 8 (fun _ => 0), cI T q3 8 (fun _ => 0)]
set_option maxRecDepth 20000 in
theorem ct_RX0 {D : va_G} {T : T3} {l : Launch} : Ct D T l yX0_init cX0_init 1 1 3 24 0 [.null, .null, .null, vI 0, vI 0, vI 0] (pRX0 T) := by
  refine ct_of (by decide) rfl (by decide) (fun h z C J r => ?_)
  refine b_aload_n (i := 0) C dX0_init_0 rfl rfl ?_
  refine b_obj C dX0_init_1 mo_RX0 (by decide) (Nat.le_of_ble_eq_true rfl) ?_
  refine b_aload_n (i := 0) C dX0_init_4 rfl rfl ?_
  refine b_bipush C dX0_init_5 (by decide) ?_
  refine b_newai (n := 8) C dX0_init_7 (by decide) (by decide) (by decide) (fun a1 => ?_)
  refine b_w (ws' := [cO h 0 [.null, .null, .null, vI 0, vI 0, vI 0], cI T a1 8 (fun _ => 0)]) rfl ?_
  refine b_putF (ci := 0) (N := 6) (k := 0) (q0 := 0) (Cn := RX0) (Tt := TX0) C J dX0_init_9 rfl (by decide) fk_RX0_9 rfl rfl (tyX0_ok 0 (by decide)) rfl rfl rfl (Nat.le_of_ble_eq_true rfl) ?_
  refine b_w (ws' := [cO h 0 [.ref a1, .null, .null, vI 0, vI 0, vI 0], cI T a1 8 (fun _ => 0)]) rfl ?_
  refine b_aload_n (i := 0) C dX0_init_12 rfl rfl ?_
  refine b_bipush C dX0_init_13 (by decide) ?_
  refine b_newai (n := 8) C dX0_init_15 (by decide) (by decide) (by decide) (fun a2 => ?_)
  refine b_w (ws' := [cO h 0 [.ref a1, .null, .null, vI 0, vI 0, vI 0], cI T a1 8 (fun _ => 0), cI T a2 8 (fun _ => 0)]) rfl ?_
  refine b_putF (ci := 0) (N := 6) (k := 1) (q0 := 0) (Cn := RX0) (Tt := TX0) C J dX0_init_17 rfl (by decide) fk_RX0_15 rfl rfl (tyX0_ok 1 (by decide)) rfl rfl rfl (Nat.le_of_ble_eq_true rfl) ?_
  refine b_w (ws' := [cO h 0 [.ref a1, .ref a2, .null, vI 0, vI 0, vI 0], cI T a1 8 (fun _ => 0), cI T a2 8 (fun _ => 0)]) rfl ?_
  refine b_aload_n (i := 0) C dX0_init_20 rfl rfl ?_
  refine b_bipush C dX0_init_21 (by decide) ?_
  refine b_newai (n := 8) C dX0_init_23 (by decide) (by decide) (by decide) (fun a3 => ?_)
  refine b_w (ws' := [cO h 0 [.ref a1, .ref a2, .null, vI 0, vI 0, vI 0], cI T a1 8 (fun _ => 0), cI T a2 8 (fun _ => 0), cI T a3 8 (fun _ => 0)]) rfl ?_
  refine b_putF (ci := 0) (N := 6) (k := 2) (q0 := 0) (Cn := RX0) (Tt := TX0) C J dX0_init_25 rfl (by decide) fk_RX0_18 rfl rfl (tyX0_ok 2 (by decide)) rfl rfl rfl (Nat.le_of_ble_eq_true rfl) ?_
  refine b_w (ws' := [cO h 0 [.ref a1, .ref a2, .ref a3, vI 0, vI 0, vI 0], cI T a1 8 (fun _ => 0), cI T a2 8 (fun _ => 0), cI T a3 8 (fun _ => 0)]) rfl ?_
  refine b_aload_n (i := 0) C dX0_init_28 rfl rfl ?_
  refine b_iconst C dX0_init_29 ?_
  refine b_put (ci := 0) (N := 6) (k := 5) (q0 := 0) (Cn := RX0) (Tt := TX0) C dX0_init_30 rfl (by decide) fk_RX0_21 rfl (tyX0_ok 5 (by decide)) rfl rfl rfl (Nat.le_of_ble_eq_true rfl) ?_
  refine b_w (ws' := [cO h 0 [.ref a1, .ref a2, .ref a3, vI 0, vI 0, vI 2], cI T a1 8 (fun _ => 0), cI T a2 8 (fun _ => 0), cI T a3 8 (fun _ => 0)]) rfl ?_
  exact b_ret C r dX0_init_33 (by decide) (by decide) ⟨a1, a2, a3, rfl⟩
def pRX1 (T : T3) (h : Nat) (w : va_W) : Prop := ∃ q1 : Nat, w = [cO h 1 [.ref q1, vI 0], cI T q1 6 (fun _ => 0)]
set_option maxRecDepth 20000 in
theorem ct_RX1 {D : va_G} {T : T3} {l : Launch} : Ct D T l yX1_init cX1_init 1 1 1 6 1 [.null, vI 0] (pRX1 T) := by
  refine ct_of (by decide) rfl (by decide) (fun h z C J r => ?_)
  refine b_aload_n (i := 0) C dX1_init_0 rfl rfl ?_
  refine b_obj C dX1_init_1 mo_RX1 (by decide) (Nat.le_of_ble_eq_true rfl) ?_
  refine b_aload_n (i := 0) C dX1_init_4 rfl rfl ?_
  refine b_bipush C dX1_init_5 (by decide) ?_
  refine b_newai (n := 6) C dX1_init_7 (by decide) (by decide) (by decide) (fun a1 => ?_)
  refine b_w (ws' := [cO h 1 [.null, vI 0], cI T a1 6 (fun _ => 0)]) rfl ?_
  refine b_putF (ci := 1) (N := 2) (k := 0) (q0 := 0) (Cn := RX1) (Tt := TX1) C J dX1_init_9 rfl (by decide) fk_RX1_9 rfl rfl (tyX1_ok 0 (by decide)) rfl rfl rfl (Nat.le_of_ble_eq_true rfl) ?_
  refine b_w (ws' := [cO h 1 [.ref a1, vI 0], cI T a1 6 (fun _ => 0)]) rfl ?_
  exact b_ret C r dX1_init_12 (by decide) (by decide) ⟨a1, rfl⟩
def pRX9 (T : T3) (h : Nat) (w : va_W) : Prop := ∃ q1 q2 : Nat, w = [cO h 7 [.ref q1, vI 0, vI 0, .ref q2, vI 0, vI 0], cI T q1 40 (fun _ => 0), cI T q2 3 (fun _ => 0)]
set_option maxRecDepth 20000 in
theorem ct_RX9 {D : va_G} {T : T3} {l : Launch} : Ct D T l yX9_init cX9_init 1 1 2 43 7 [.null, vI 0, vI 0, .null, vI 0, vI 0] (pRX9 T) := by
  refine ct_of (by decide) rfl (by decide) (fun h z C J r => ?_)
  refine b_aload_n (i := 0) C dX9_init_0 rfl rfl ?_
  refine b_obj C dX9_init_1 mo_RX9 (by decide) (Nat.le_of_ble_eq_true rfl) ?_
  refine b_aload_n (i := 0) C dX9_init_4 rfl rfl ?_
  refine b_bipush C dX9_init_5 (by decide) ?_
  refine b_newai (n := 40) C dX9_init_7 (by decide) (by decide) (by decide) (fun a1 => ?_)
  refine b_w (ws' := [cO h 7 [.null, vI 0, vI 0, .null, vI 0, vI 0], cI T a1 40 (fun _ => 0)]) rfl ?_
  refine b_putF (ci := 7) (N := 6) (k := 0) (q0 := 0) (Cn := RX9) (Tt := TX9) C J dX9_init_9 rfl (by decide) fk_RX9_9 rfl rfl (tyX9_ok 0 (by decide)) rfl rfl rfl (Nat.le_of_ble_eq_true rfl) ?_
  refine b_w (ws' := [cO h 7 [.ref a1, vI 0, vI 0, .null, vI 0, vI 0], cI T a1 40 (fun _ => 0)]) rfl ?_
  refine b_aload_n (i := 0) C dX9_init_12 rfl rfl ?_
  refine b_iconst C dX9_init_13 ?_
  refine b_newai (n := 3) C dX9_init_14 (by decide) (by decide) (by decide) (fun a2 => ?_)
  refine b_w (ws' := [cO h 7 [.ref a1, vI 0, vI 0, .null, vI 0, vI 0], cI T a1 40 (fun _ => 0), cI T a2 3 (fun _ => 0)]) rfl ?_
  refine b_putF (ci := 7) (N := 6) (k := 3) (q0 := 0) (Cn := RX9) (Tt := TX9) C J dX9_init_16 rfl (by decide) fk_RX9_15 rfl rfl (tyX9_ok 3 (by decide)) rfl rfl rfl (Nat.le_of_ble_eq_true rfl) ?_
  refine b_w (ws' := [cO h 7 [.ref a1, vI 0, vI 0, .ref a2, vI 0, vI 0], cI T a1 40 (fun _ => 0), cI T a2 3 (fun _ => 0)]) rfl ?_
  exact b_ret C r dX9_init_19 (by decide) (by decide) ⟨a1, a2, rfl⟩
def pRX8 (T : T3) (h : Nat) (w : va_W) : Prop := ∃ q1 : Nat, w = [cO h 6 [.ref q1, vI 0, vI 0, vI 0], cJ T q1 16 (fun _ => 0)]
set_option maxRecDepth 20000 in
theorem ct_RX8 {D : va_G} {T : T3} {l : Launch} : Ct D T l yX8_init cX8_init 1 1 1 16 6 [.null, vI 0, vI 0, vI 0] (pRX8 T) := by
  refine ct_of (by decide) rfl (by decide) (fun h z C J r => ?_)
  refine b_aload_n (i := 0) C dX8_init_0 rfl rfl ?_
  refine b_obj C dX8_init_1 mo_RX8 (by decide) (Nat.le_of_ble_eq_true rfl) ?_
  refine b_aload_n (i := 0) C dX8_init_4 rfl rfl ?_
  refine b_bipush C dX8_init_5 (by decide) ?_
  refine b_newaj (n := 16) C dX8_init_7 (by decide) (by decide) (by decide) (fun a1 => ?_)
  refine b_w (ws' := [cO h 6 [.null, vI 0, vI 0, vI 0], cJ T a1 16 (fun _ => 0)]) rfl ?_
  refine b_putF (ci := 6) (N := 4) (k := 0) (q0 := 0) (Cn := RX8) (Tt := TX8) C J dX8_init_9 rfl (by decide) fk_RX8_9 rfl rfl (tyX8_ok 0 (by decide)) rfl rfl rfl (Nat.le_of_ble_eq_true rfl) ?_
  refine b_w (ws' := [cO h 6 [.ref a1, vI 0, vI 0, vI 0], cJ T a1 16 (fun _ => 0)]) rfl ?_
  exact b_ret C r dX8_init_12 (by decide) (by decide) ⟨a1, rfl⟩
def pRX6 (T : T3) (h : Nat) (w : va_W) : Prop := ∃ q1 : Nat, w = [cO h 5 [.ref q1, vI 0, vJ 0], cJ T q1 3 (fun _ => 0)]
set_option maxRecDepth 20000 in
theorem ct_RX6 {D : va_G} {T : T3} {l : Launch} : Ct D T l yX6_init cX6_init 1 1 1 3 5 [.null, vI 0, vJ 0] (pRX6 T) := by
  refine ct_of (by decide) rfl (by decide) (fun h z C J r => ?_)
  refine b_aload_n (i := 0) C dX6_init_0 rfl rfl ?_
  refine b_obj C dX6_init_1 mo_RX6 (by decide) (Nat.le_of_ble_eq_true rfl) ?_
  refine b_aload_n (i := 0) C dX6_init_4 rfl rfl ?_
  refine b_iconst C dX6_init_5 ?_
  refine b_newaj (n := 3) C dX6_init_6 (by decide) (by decide) (by decide) (fun a1 => ?_)
  refine b_w (ws' := [cO h 5 [.null, vI 0, vJ 0], cJ T a1 3 (fun _ => 0)]) rfl ?_
  refine b_putF (ci := 5) (N := 3) (k := 0) (q0 := 0) (Cn := RX6) (Tt := TX6) C J dX6_init_8 rfl (by decide) fk_RX6_9 rfl rfl (tyX6_ok 0 (by decide)) rfl rfl rfl (Nat.le_of_ble_eq_true rfl) ?_
  refine b_w (ws' := [cO h 5 [.ref a1, vI 0, vJ 0], cJ T a1 3 (fun _ => 0)]) rfl ?_
  exact b_ret C r dX6_init_11 (by decide) (by decide) ⟨a1, rfl⟩
def pRX4 (T : T3) (h : Nat) (w : va_W) : Prop := ∃ q1 q2 q3 q4 : Nat, w = [cO h 3 [.ref q1, .ref q2, .ref q3, .ref q4, vI 0, vI 0, vI 0, vI 0, vJ 0], cJ T q1 256 (fun _ => 0), cI T q2 8 (fun _ => 0), cI T q3 8 (fun _ => 0), cI T q4 8 (fun _ => 0)]
set_option maxRecDepth 20000 in
theorem ct_RX4 {D : va_G} {T : T3} {l : Launch} : Ct D T l yX4_init cX4_init 1 1 4 280 3 [.null, .null, .null, .null, vI 0, vI 0, vI 0, vI 0, vJ 0] (pRX4 T) := by
  refine ct_of (by decide) rfl (by decide) (fun h z C J r => ?_)
  refine b_aload_n (i := 0) C dX4_init_0 rfl rfl ?_
  refine b_obj C dX4_init_1 mo_RX4 (by decide) (Nat.le_of_ble_eq_true rfl) ?_
  refine b_aload_n (i := 0) C dX4_init_4 rfl rfl ?_
  refine b_sipush C dX4_init_5 (by decide) ?_
  refine b_newaj (n := 256) C dX4_init_8 (by decide) (by decide) (by decide) (fun a1 => ?_)
  refine b_w (ws' := [cO h 3 [.null, .null, .null, .null, vI 0, vI 0, vI 0, vI 0, vJ 0], cJ T a1 256 (fun _ => 0)]) rfl ?_
  refine b_putF (ci := 3) (N := 9) (k := 0) (q0 := 0) (Cn := RX4) (Tt := TX4) C J dX4_init_10 rfl (by decide) fk_RX4_9 rfl rfl (tyX4_ok 0 (by decide)) rfl rfl rfl (Nat.le_of_ble_eq_true rfl) ?_
  refine b_w (ws' := [cO h 3 [.ref a1, .null, .null, .null, vI 0, vI 0, vI 0, vI 0, vJ 0], cJ T a1 256 (fun _ => 0)]) rfl ?_
  refine b_aload_n (i := 0) C dX4_init_13 rfl rfl ?_
  refine b_bipush C dX4_init_14 (by decide) ?_
  refine b_newai (n := 8) C dX4_init_16 (by decide) (by decide) (by decide) (fun a2 => ?_)
  refine b_w (ws' := [cO h 3 [.ref a1, .null, .null, .null, vI 0, vI 0, vI 0, vI 0, vJ 0], cJ T a1 256 (fun _ => 0), cI T a2 8 (fun _ => 0)]) rfl ?_
  refine b_putF (ci := 3) (N := 9) (k := 1) (q0 := 0) (Cn := RX4) (Tt := TX4) C J dX4_init_18 rfl (by decide) fk_RX4_15 rfl rfl (tyX4_ok 1 (by decide)) rfl rfl rfl (Nat.le_of_ble_eq_true rfl) ?_
  refine b_w (ws' := [cO h 3 [.ref a1, .ref a2, .null, .null, vI 0, vI 0, vI 0, vI 0, vJ 0], cJ T a1 256 (fun _ => 0), cI T a2 8 (fun _ => 0)]) rfl ?_
  refine b_aload_n (i := 0) C dX4_init_21 rfl rfl ?_
  refine b_bipush C dX4_init_22 (by decide) ?_
  refine b_newai (n := 8) C dX4_init_24 (by decide) (by decide) (by decide) (fun a3 => ?_)
  refine b_w (ws' := [cO h 3 [.ref a1, .ref a2, .null, .null, vI 0, vI 0, vI 0, vI 0, vJ 0], cJ T a1 256 (fun _ => 0), cI T a2 8 (fun _ => 0), cI T a3 8 (fun _ => 0)]) rfl ?_
  refine b_putF (ci := 3) (N := 9) (k := 2) (q0 := 0) (Cn := RX4) (Tt := TX4) C J dX4_init_26 rfl (by decide) fk_RX4_19 rfl rfl (tyX4_ok 2 (by decide)) rfl rfl rfl (Nat.le_of_ble_eq_true rfl) ?_
  refine b_w (ws' := [cO h 3 [.ref a1, .ref a2, .ref a3, .null, vI 0, vI 0, vI 0, vI 0, vJ 0], cJ T a1 256 (fun _ => 0), cI T a2 8 (fun _ => 0), cI T a3 8 (fun _ => 0)]) rfl ?_
  refine b_aload_n (i := 0) C dX4_init_29 rfl rfl ?_
  refine b_bipush C dX4_init_30 (by decide) ?_
  refine b_newai (n := 8) C dX4_init_32 (by decide) (by decide) (by decide) (fun a4 => ?_)
  refine b_w (ws' := [cO h 3 [.ref a1, .ref a2, .ref a3, .null, vI 0, vI 0, vI 0, vI 0, vJ 0], cJ T a1 256 (fun _ => 0), cI T a2 8 (fun _ => 0), cI T a3 8 (fun _ => 0), cI T a4 8 (fun _ => 0)]) rfl ?_
  refine b_putF (ci := 3) (N := 9) (k := 3) (q0 := 0) (Cn := RX4) (Tt := TX4) C J dX4_init_34 rfl (by decide) fk_RX4_22 rfl rfl (tyX4_ok 3 (by decide)) rfl rfl rfl (Nat.le_of_ble_eq_true rfl) ?_
  refine b_w (ws' := [cO h 3 [.ref a1, .ref a2, .ref a3, .ref a4, vI 0, vI 0, vI 0, vI 0, vJ 0], cJ T a1 256 (fun _ => 0), cI T a2 8 (fun _ => 0), cI T a3 8 (fun _ => 0), cI T a4 8 (fun _ => 0)]) rfl ?_
  exact b_ret C r dX4_init_37 (by decide) (by decide) ⟨a1, a2, a3, a4, rfl⟩
