/-! turn -/
def dlt (k t coin j : Nat) : Nat := if j = k - 1 then coin else t / 2 ^ (2 * (k - 2 - j)) % 4
theorem dlt_lt {k t coin j : Nat} (h : coin < 4) : dlt k t coin j < 4 := by
  unfold dlt
  split
  · exact h
  · exact Nat.mod_lt _ (by decide)
theorem dg_dlt {k t coin j : Nat} (hc : coin < 4) (hj : j < k) : dg (4 * t + coin) k j = dlt k t coin j := by
  unfold dg dlt
  by_cases h : j = k - 1
  · rw [if_pos h, show k - 1 - j = 0 by omega]
    simp
    omega
  · rw [if_neg h, show 2 * (k - 1 - j) = 2 + 2 * (k - 2 - j) by omega, Nat.pow_add, ← Nat.div_div_eq_div_mul]
    congr 2
    omega
/-- what n of a coin are behind j changes, the coin then, and whether each was to another one -/
def tv (W : Nat → Int) (d : Nat → Nat) (n : Int) (coin : Nat) : Nat → Int × Nat × Bool
  | 0 => (n, coin, true)
  | j + 1 => (Int.tdiv ((tv W d n coin j).1 * W (31 + 2 * (4 * (tv W d n coin j).2.1 + d j))) (W (32 + 2 * (4 * (tv W d n coin j).2.1 + d j))), d j, (tv W d n coin j).2.2 && decide (d j ≠ (tv W d n coin j).2.1))
theorem tv_s (W : Nat → Int) (d : Nat → Nat) (n : Int) (coin j : Nat) : tv W d n coin (j + 1) = (Int.tdiv ((tv W d n coin j).1 * W (31 + 2 * (4 * (tv W d n coin j).2.1 + d j))) (W (32 + 2 * (4 * (tv W d n coin j).2.1 + d j))), d j, (tv W d n coin j).2.2 && decide (d j ≠ (tv W d n coin j).2.1)) := rfl
theorem tv_cong {W : Nat → Int} {d d' : Nat → Nat} {n : Int} {coin : Nat} : ∀ k, (∀ j, j < k → d j = d' j) → tv W d n coin k = tv W d' n coin k
  | 0, _ => rfl
  | k + 1, h => by rw [tv_s, tv_s, tv_cong k (fun j hj => h j (by omega)), h k (by omega)]
theorem tv_f {W : Nat → Int} {d : Nat → Nat} {n : Int} {coin j : Nat} (h : (tv W d n coin j).2.2 = false) : ∀ m, (tv W d n coin (j + m)).2.2 = false
  | 0 => h
  | m + 1 => by
    rw [show j + (m + 1) = (j + m) + 1 by omega, tv_s, tv_f h m]
    rfl
theorem tv_b {W : Nat → Int} (hW : IW W) {d : Nat → Nat} (hd : ∀ j, d j < 4) {n : Int} (hn : 0 ≤ n ∧ n ≤ 999999) {coin : Nat} (hc : coin < 4) : ∀ j, (0 ≤ (tv W d n coin j).1 ∧ (tv W d n coin j).1 ≤ 999999 * 99 ^ j) ∧ (tv W d n coin j).2.1 < 4
  | 0 => ⟨by show 0 ≤ n ∧ n ≤ 999999 * 99 ^ 0; omega, hc⟩
  | j + 1 => by
    obtain ⟨⟨h1, h2⟩, h3⟩ := tv_b hW hd hn hc j
    have h4 := hd j
    obtain ⟨x, hx⟩ : ∃ x, x = 4 * (tv W d n coin j).2.1 + d j := ⟨_, rfl⟩
    have hx16 : x < 16 := by omega
    have i1 := hW.ra hx16
    have i2 := hW.rb hx16
    rw [tv_s, ← hx]
    refine ⟨?_, h4⟩
    show 0 ≤ Int.tdiv _ _ ∧ Int.tdiv _ _ ≤ _
    have p1 : 0 ≤ (tv W d n coin j).1 * W (31 + 2 * x) := Int.mul_nonneg h1 (by omega)
    have p2 : (tv W d n coin j).1 * W (31 + 2 * x) ≤ 999999 * 99 ^ j * 99 := Int.mul_le_mul h2 i1.2 (by omega) (by omega)
    rw [Int.tdiv_eq_ediv_of_nonneg p1]
    refine ⟨Int.ediv_nonneg p1 (by omega), ?_⟩
    have p3 : (tv W d n coin j).1 * W (31 + 2 * x) / W (32 + 2 * x) ≤ (tv W d n coin j).1 * W (31 + 2 * x) := Int.ediv_le_self _ p1
    rw [Int.pow_succ, ← Int.mul_assoc]
    omega
/-- the best of the first T rows, if there is one -/
def mF (W : Nat → Int) (k coin : Nat) (n : Int) : Nat → Option (Int × Nat)
  | 0 => none
  | T + 1 => if (tv W (dlt k T coin) n coin k).2.2 = true then (match mF W k coin n T with
      | none => some ((tv W (dlt k T coin) n coin k).1, T)
      | some p => if p.1 < (tv W (dlt k T coin) n coin k).1 then some ((tv W (dlt k T coin) n coin k).1, T) else some p) else mF W k coin n T
theorem mF_s (W : Nat → Int) (k coin : Nat) (n : Int) (T : Nat) : mF W k coin n (T + 1) = if (tv W (dlt k T coin) n coin k).2.2 = true then (match mF W k coin n T with
      | none => some ((tv W (dlt k T coin) n coin k).1, T)
      | some p => if p.1 < (tv W (dlt k T coin) n coin k).1 then some ((tv W (dlt k T coin) n coin k).1, T) else some p) else mF W k coin n T := rfl
theorem mF_b {W : Nat → Int} (hW : IW W) {k coin : Nat} (hc : coin < 4) {n : Int} (hn : 0 ≤ n ∧ n ≤ 999999) : ∀ T p, mF W k coin n T = some p → 0 ≤ p.1 ∧ p.1 ≤ 999999 * 99 ^ k ∧ p.2 < T
  | 0, _, h => by cases h
  | T + 1, p, h => by
    have hb := (tv_b hW (fun j => dlt_lt (k := k) (t := T) (j := j) hc) hn hc k).1
    rw [mF_s] at h
    split at h
    · cases hm : mF W k coin n T with
      | none =>
        rw [hm] at h
        cases h
        exact ⟨hb.1, hb.2, by show T < T + 1; omega⟩
      | some q =>
        rw [hm] at h
        have ih := mF_b hW hc hn T q hm
        dsimp only at h
        split at h
        · cases h
          exact ⟨hb.1, hb.2, by show T < T + 1; omega⟩
        · cases h
          exact ⟨ih.1, ih.2.1, by omega⟩
    · have ih := mF_b hW hc hn T p h
      exact ⟨ih.1, ih.2.1, by omega⟩
/-- each change is to another coin -/
def vld (d : Nat → Nat) (coin : Nat) : Nat → Nat × Bool
  | 0 => (coin, true)
  | j + 1 => (d j, (vld d coin j).2 && decide (d j ≠ (vld d coin j).1))
theorem tv_vld (W : Nat → Int) (d : Nat → Nat) (n : Int) (coin : Nat) : ∀ j, (tv W d n coin j).2 = vld d coin j
  | 0 => rfl
  | j + 1 => by
    have h := tv_vld W d n coin j
    rw [tv_s]
    show (d j, (tv W d n coin j).2.2 && decide (d j ≠ (tv W d n coin j).2.1)) = (d j, (vld d coin j).2 && decide (d j ≠ (vld d coin j).1))
    rw [h]
theorem mF_some {W : Nat → Int} {k coin : Nat} {n : Int} {T0 : Nat} (h : (vld (dlt k T0 coin) coin k).2 = true) : ∀ T, T0 < T → mF W k coin n T ≠ none
  | T + 1, hT => by
    rw [mF_s]
    by_cases e : T0 = T
    · subst e
      rw [tv_vld, if_pos h]
      cases mF W k coin n T0 with
      | none => intro q; cases q
      | some p =>
        dsimp only
        split <;> (intro q; cases q)
    · have ih := mF_some (W := W) (n := n) h T (by omega)
      split
      · cases hm : mF W k coin n T with
        | none => exact absurd hm ih
        | some p =>
          dsimp only
          split <;> (intro q; cases q)
      · exact ih
theorem vld_ex : ∀ k, k < 6 → 2 ≤ k → ∀ coin, coin < 4 → ∃ T0, T0 < 2 ^ (2 * (k - 1)) ∧ (vld (dlt k T0 coin) coin k).2 = true := by decide +kernel
theorem vld_1 : ∀ coin, coin < 4 → (vld (dlt 1 0 coin) coin 1).2 = false := by decide +kernel
def okTu (a b c d : Int) : Prop := (0 ≤ a ∧ a ≤ 3) ∧ (0 ≤ b ∧ b ≤ 999999) ∧ (1 ≤ c ∧ c ≤ 5) ∧ (-1 ≤ d ∧ d ≤ c - 1)
def aT (a b c d : Int) (W : Nat → Int) : Int := match mF W c.toNat a.toNat b (2 ^ (2 * (c.toNat - 1))) with
  | none => -4
  | some p => if d = -1 then p.1 else (dlt c.toNat p.2 a.toNat d.toNat : Nat)
def TTu (a b c d : Int) (W : Nat → Int) (x : Int) (W' : Nat → Int) : Prop := W' = W ∧ ((¬ okTu a b c d ∧ x = -1) ∨ (okTu a b c d ∧ x = aT a b c d W))
section
variable {E : FX} {l : Launch} {M : MM} {W : Nat → Int} {a b c d : Int}
theorem p99 {k : Nat} (h : k ≤ 5) : (99 : Int) ^ k ≤ 9509900499 := by
  rcases (show k = 0 ∨ k = 1 ∨ k = 2 ∨ k = 3 ∨ k = 4 ∨ k = 5 by omega) with rfl | rfl | rfl | rfl | rfl | rfl <;> decide
theorem c_changed {coin n code k : Nat} (hP : PC M W) (hW : IW W) (hcoin : coin < 4) (hn : n ≤ 999999) (hc : code < 1024) (hk : 1 ≤ k ∧ k ≤ 5) : Con E l 2 qX3_changed [vr 11, vi coin, vi n, vi code, vi k] M (fun r M' => r = some (vj (if (tv W (dg code k) n coin k).2.2 = true then (tv W (dg code k) n coin k).1 else -4)) ∧ M' = M) := by
  refine RX3_changed (fun M' x3 x4 x5 x7 x8 => M' = M ∧ x3 = code ∧ x4 = k ∧ ∃ i : Nat, x8 = i ∧ i ≤ k ∧ x5 = (tv W (dg code k) n coin i).1 ∧ x7 = ((tv W (dg code k) n coin i).2.1 : Nat) ∧ (tv W (dg code k) n coin i).2.2 = true) (fun _ _ _ _ _ x8 => (6 - x8).toNat) ?_ ?_
  · unfold VX3_changed_0
    exact ⟨by unfold R32; omega, rfl, rfl, rfl, 0, rfl, by omega, rfl, rfl, rfl⟩
  · rintro M' _ _ _ _ _ ⟨rfl, rfl, rfl, i, rfl, hi, rfl, rfl, hv⟩
    obtain ⟨⟨t1, t2⟩, t3⟩ := tv_b hW (dg_lt code k) (n := n) (by omega) hcoin i
    have h99 := p99 (k := i) (by omega)
    unfold VX3_changed_10
    refine ⟨by unfold R32; omega, by unfold R32; omega, fun c1 => ⟨?_, rfl⟩, fun c1 => (c_digit (by omega) (by omega) (by omega)).fn ⟨_, rfl, ?_⟩⟩
    · obtain rfl : i = k := by omega
      rw [if_pos hv]
    · have hd := dg_lt code k i
      obtain ⟨x, hx⟩ : ∃ x, x = 4 * (tv W (dg code k) n coin i).2.1 + dg code k i := ⟨_, rfl⟩
      have hx16 : x < 16 := by omega
      have i1 := hW.ra hx16
      have i2 := hW.rb hx16
      have e := tv_s W (dg code k) n coin i
      rw [← hx, hv] at e
      refine ⟨by unfold R32; omega, by unfold R32; omega, fun c2 y8 h8 => ?_, fun c2 => ⟨?_, rfl⟩⟩
      · have hy : y8 = (x : Nat) := by omega
        subst hy
        refine (c_at_in (n := 16) rfl (by omega) (by omega)).fn ⟨_, rfl, ?_⟩
        rw [Int.toNat_natCast, hP.ra hx16]
        refine ⟨by unfold R32; omega, (c_at_in (n := 16) rfl (by omega) (by omega)).fn ⟨_, rfl, ?_⟩⟩
        rw [Int.toNat_natCast, hP.rb hx16]
        have p1 : 0 ≤ (tv W (dg code k) n coin i).1 * W (31 + 2 * x) := Int.mul_nonneg t1 (by omega)
        have p2 : (tv W (dg code k) n coin i).1 * W (31 + 2 * x) ≤ 999999 * 99 ^ i * 99 := Int.mul_le_mul t2 i1.2 (by omega) (by omega)
        refine ⟨by unfold R32; omega, (c_quotient (by unfold R64; omega) (by unfold R64; omega) (by omega)).fn ⟨_, rfl, fun y19 h19 => ⟨⟨rfl, rfl, rfl, i + 1, by omega, by omega, by rw [e], by rw [e], ?_⟩, by omega⟩⟩⟩
        rw [e]
        show (true && decide (dg code k i ≠ (tv W (dg code k) n coin i).2.1)) = true
        rw [Bool.true_and, decide_eq_true_eq]
        omega
      · have hf : (tv W (dg code k) n coin (i + 1)).2.2 = false := by
          rw [e]
          show (true && decide (dg code k i ≠ (tv W (dg code k) n coin i).2.1)) = false
          rw [Bool.true_and, decide_eq_false_iff_not]
          omega
        have hf2 := tv_f hf (k - (i + 1))
        rw [show i + 1 + (k - (i + 1)) = k by omega] at hf2
        rw [hf2]
        rfl
/-- the class's words for the best so far -/
def eC (coin : Nat) : Option (Int × Nat) → Int × Int
  | none => (-4, 0)
  | some p => (p.1, 4 * (p.2 : Int) + coin)
theorem k_turn (ha : R32 a) (hb : R32 b) (hc : R32 c) (hd : R32 d) : ∀ M W, PC M W → IW W → Con E l 20 qX11_turn [vr 0, vi a, vi b, vi c, vi d] M (fun r M' => (∃ x W', r = some (vj x) ∧ TTu a b c d W x W' ∧ PC M' W') ∧ Kp 1 M M') := by
  intro M W hP hW
  have bad : ¬ okTu a b c d → (∃ x W', some (vj (-1)) = some (vj x) ∧ TTu a b c d W x W' ∧ PC M W') ∧ Kp 1 M M := fun h => ⟨⟨-1, W, rfl, ⟨rfl, Or.inl ⟨h, rfl⟩⟩, hP⟩, Kp.rf⟩
  refine (RX11_turn (D := 4) (fun M' x1 x2 x3 x4 x6 x8 x9 => M' = M ∧ x1 = a ∧ x2 = b ∧ x3 = c ∧ x4 = d ∧ okTu a b c d ∧ ∃ T : Nat, x9 = 4 * (T : Int) + a ∧ T ≤ 2 ^ (2 * (c.toNat - 1)) ∧ x6 = (eC a.toNat (mF W c.toNat a.toNat b T)).1 ∧ x8 = (eC a.toNat (mF W c.toNat a.toNat b T)).2) (fun _ _ _ _ _ _ _ x9 => (2000 - x9).toNat) ?_ ?_).up (by decide)
  · have t0 : ¬ okTu a b c d → VX11_turn_24 E l 4 (fun r M' => (∃ x W', r = some (vj x) ∧ TTu a b c d W x W' ∧ PC M' W') ∧ Kp 1 M M') (fun M' x1 x2 x3 x4 x6 x8 x9 => M' = M ∧ x1 = a ∧ x2 = b ∧ x3 = c ∧ x4 = d ∧ okTu a b c d ∧ ∃ T : Nat, x9 = 4 * (T : Int) + a ∧ T ≤ 2 ^ (2 * (c.toNat - 1)) ∧ x6 = (eC a.toNat (mF W c.toNat a.toNat b T)).1 ∧ x8 = (eC a.toNat (mF W c.toNat a.toNat b T)).2) M a b c d 0 := fun h => by
      unfold VX11_turn_24
      exact ⟨by decide, fun _ => bad h, fun q => absurd rfl q⟩
    unfold VX11_turn_0
    refine (c_within ha (by decide) (by decide)).fn ⟨_, rfl, b01_R, fun k1 => t0 (fun q => b01_0.mp k1 q.1), fun k1 => (c_within hb (by decide) (by decide)).fn ⟨_, rfl, b01_R, fun k2 => t0 (fun q => b01_0.mp k2 q.2.1), fun k2 => ?_⟩⟩
    rw [b01_n0] at k1 k2
    unfold VX11_turn_24
    refine ⟨by decide, fun q => absurd q (by decide), fun _ => (c_within hc (by decide) (by decide)).fn ⟨_, rfl, b01_R, fun k3 => bad (fun q => b01_0.mp k3 q.2.2.1), fun k3 => ?_⟩⟩
    rw [b01_n0] at k3
    refine (c_within hd (by decide) (by unfold R32; omega)).fn ⟨_, rfl, b01_R, fun k4 => ?_, fun k4 => bad (fun q => b01_0.mp k4 q.2.2.2)⟩
    rw [b01_n0] at k4
    exact ⟨rfl, rfl, rfl, rfl, rfl, ⟨k1, k2, k3, k4⟩, 0, by omega, Nat.zero_le _, rfl, rfl⟩
  · rintro M' x1 x2 x3 x4 _ _ _ ⟨rfl, rfl, rfl, rfl, rfl, hok, T, rfl, hT, rfl, rfl⟩
    obtain ⟨q1, q2, q3, q4⟩ := id hok
    obtain ⟨coin, rfl⟩ : ∃ z : Nat, x1 = z := ⟨x1.toNat, by omega⟩
    obtain ⟨n, rfl⟩ : ∃ z : Nat, x2 = z := ⟨x2.toNat, by omega⟩
    obtain ⟨k, rfl⟩ : ∃ z : Nat, x3 = z := ⟨x3.toNat, by omega⟩
    simp only [Int.toNat_natCast] at hT ⊢
    have hp : 2 ^ (2 * (k - 1)) ≤ 2 ^ 8 := Nat.pow_le_pow_right (by omega) (by omega)
    have hp4 : 2 ^ (2 * k) = 4 * 2 ^ (2 * (k - 1)) := by
      rw [show 2 * k = 2 + 2 * (k - 1) by omega, Nat.pow_add]
    have hp0 : (0 : Int) ≤ ((2 ^ (2 * (k - 1)) : Nat) : Int) := Int.natCast_nonneg _
    have hb2 := mF_b hW (k := k) (coin := coin) (by omega) (n := (n : Int)) (by omega) T
    have h99 := p99 (k := k) (by omega)
    have e6 : R64 (eC coin (mF W k coin n T)).1 ∧ -4 ≤ (eC coin (mF W k coin n T)).1 := by
      cases hm : mF W k coin n T with
      | none => exact ⟨show R64 (-4) by decide, show (-4 : Int) ≤ -4 by decide⟩
      | some p =>
        have := hb2 p hm
        show R64 p.1 ∧ -4 ≤ p.1
        unfold R64
        omega
    unfold VX11_turn_67
    try unfold VX11_turn_110
    try unfold VX11_turn_143
    rw [show 2 * (k : Int) = ((2 * k : Nat) : Int) by omega, ishl_1 (2 * k) (by omega), hp4]
    refine ⟨by unfold R32; omega, by unfold R32; omega, fun c1 => ⟨hd, fun c2 => ⟨⟨_, W, rfl, ⟨rfl, Or.inr ⟨hok, ?_⟩⟩, hP⟩, Kp.rf⟩, fun c2 => ⟨e6.1, fun c3 => ?_, fun c3 => ⟨⟨_, W, rfl, ⟨rfl, Or.inr ⟨hok, ?_⟩⟩, hP⟩, Kp.rf⟩⟩⟩, fun c1 => ?_⟩
    · unfold aT
      simp only [Int.toNat_natCast]
      rw [show T = 2 ^ (2 * (k - 1)) by omega]
      cases hm : mF W k coin n (2 ^ (2 * (k - 1))) with
      | none => rfl
      | some p => show p.1 = (if x4 = -1 then p.1 else _); rw [if_pos c2]
    · cases hm : mF W k coin n T with
      | none => rw [hm] at c3; exact absurd (show (0 : Int) ≤ -4 from c3) (by decide)
      | some p =>
        have hpb := hb2 p hm
        obtain ⟨i, rfl⟩ : ∃ z : Nat, x4 = z := ⟨x4.toNat, by omega⟩
        show Con E l 4 qX3_digit [vi (4 * (p.2 : Int) + coin), vi k, vi i] M' _
        rw [show 4 * (p.2 : Int) + (coin : Int) = ((4 * p.2 + coin : Nat) : Int) by omega]
        refine (c_digit (by omega) (by omega) (by omega)).fn ⟨_, rfl, ?_, ⟨_, W, rfl, ⟨rfl, Or.inr ⟨hok, ?_⟩⟩, hP⟩, Kp.rf⟩
        · have := dg_lt (4 * p.2 + coin) k i; unfold R32; omega
        · unfold aT
          simp only [Int.toNat_natCast]
          rw [show 2 ^ (2 * (k - 1)) = T by omega, hm]
          show _ = (if (i : Int) = -1 then p.1 else (dlt k p.2 coin i : Nat))
          rw [if_neg c2, dg_dlt (by omega) (by omega)]
    · unfold aT
      simp only [Int.toNat_natCast]
      rw [show 2 ^ (2 * (k - 1)) = T by omega]
      cases hm : mF W k coin n T with
      | none => rfl
      | some p =>
        rw [hm] at c3
        exact absurd (hb2 p hm).1 c3
    · have hTlt : T < 2 ^ (2 * (k - 1)) := by omega
      rw [show 4 * (T : Int) + (coin : Int) = ((4 * T + coin : Nat) : Int) by omega]
      refine (c_changed hP hW (by omega) (by omega) (by omega) (by omega)).fn ⟨_, rfl, ?_⟩
      rw [tv_cong k (fun j hj => dg_dlt (t := T) (coin := coin) (by omega) hj)]
      have hvb := (tv_b hW (fun j => dlt_lt (k := k) (t := T) (j := j) (show coin < 4 by omega)) (n := (n : Int)) (by omega) (show coin < 4 by omega) k).1
      have es := mF_s W k coin n T
      have nx : ∀ z : Option (Int × Nat), mF W k coin n (T + 1) = z → ∀ y : Int, y = ((4 * T + coin : Nat) : Int) + 4 → (M' = M' ∧ (coin : Int) = coin ∧ (n : Int) = n ∧ (k : Int) = k ∧ x4 = x4 ∧ okTu coin n k x4 ∧ ∃ T' : Nat, y = 4 * (T' : Int) + coin ∧ T' ≤ 2 ^ (2 * (k - 1)) ∧ (eC coin z).1 = (eC coin (mF W k coin n T')).1 ∧ (eC coin z).2 = (eC coin (mF W k coin n T')).2) ∧ (2000 - y).toNat < (2000 - ((4 * T + coin : Nat) : Int)).toNat := by
        intro z hz y hy
        exact ⟨⟨rfl, rfl, rfl, rfl, rfl, hok, T + 1, by omega, by omega, by rw [hz], by rw [hz]⟩, by omega⟩
      by_cases hv : (tv W (dlt k T coin) n coin k).2.2 = true
      · rw [if_pos hv]
        rw [if_pos hv] at es
        refine ⟨by unfold R64; omega, e6.1, fun c2 y39 h39 => ?_, fun c2 y23 h23 => ?_⟩
        · refine nx _ ?_ y39 h39
          rw [es]
          cases hm : mF W k coin n T with
          | none => rw [hm] at c2; exact absurd (show (0 : Int) ≤ -4 from Int.le_trans hvb.1 c2) (by decide)
          | some p =>
            rw [hm] at c2
            have c2' : (tv W (dlt k T coin) n coin k).1 ≤ p.1 := c2
            dsimp only
            rw [if_neg (by omega)]
        · have hz : mF W k coin n (T + 1) = some ((tv W (dlt k T coin) n coin k).1, T) := by
            rw [es]
            cases hm : mF W k coin n T with
            | none => rfl
            | some p =>
              rw [hm] at c2
              have c2' : ¬ (tv W (dlt k T coin) n coin k).1 ≤ p.1 := c2
              dsimp only
              rw [if_pos (by omega)]
          exact nx _ hz y23 h23
      · rw [if_neg hv]
        rw [if_neg hv] at es
        refine ⟨by decide, e6.1, fun c2 y39 h39 => nx _ es y39 h39, fun c2 => absurd e6.2 c2⟩
/-- the reference's words for the best so far -/
def eM5 : Option (Int × Nat) → Int
  | none => -1
  | some p => p.1
def eM7 : Option (Int × Nat) → Int
  | none => 0
  | some p => (p.2 : Int)
def fb (x : Bool) : Int := if x = true then 1 else 0
theorem t146 {post : Option AV → MM → Prop} {J71 : MM → Int → Int → Int → Int → Int → Int → Int → Prop} {J96 : MM → Int → Int → Int → Int → Int → Int → Int → Int → Int → Int → Int → Prop} {x1 x2 x3 x4 x5 x7 x8 x9 x13 s0 : Int} {cc g : Nat} (hP : PM M W) (hW : IW W) (hcc : cc < 4) (hg : g < 4) (h9 : R64 (x9 * W (31 + 2 * (4 * cc + g)))) (h : ∀ y37 y39, y37 = Int.tdiv (x9 * W (31 + 2 * (4 * cc + g))) (W (32 + 2 * (4 * cc + g))) → y39 = x13 + 1 → J96 M x1 x2 x3 x4 x5 x7 x8 y37 g s0 y39) : VX12_turn_146 E l 4 post J71 J96 M x1 x2 x3 x4 x5 x7 x8 x9 cc x13 g s0 := by
  have i1 := hW.ra (j := 4 * cc + g) (by omega)
  have i2 := hW.rb (j := 4 * cc + g) (by omega)
  have r1 : (31 + 8 * ((cc : Nat) : Int) + 2 * ((g : Nat) : Int)).toNat = 31 + 2 * (4 * cc + g) := by omega
  have r2 : (31 + 8 * ((cc : Nat) : Int) + 2 * ((g : Nat) : Int) + 1).toNat = 32 + 2 * (4 * cc + g) := by omega
  unfold VX12_turn_146
  refine c_rateAt.fn ⟨_, rfl, by omega, by omega, ?_⟩
  rw [r1, hP _ (by omega)]
  refine ⟨by unfold R32; omega, c_rateAt.fn ⟨_, rfl, by omega, by omega, ?_⟩⟩
  rw [r2, hP _ (by omega)]
  exact ⟨by unfold R32; omega, h9, by unfold R64; omega, by omega, fun y37 h37 y39 h39 => h y37 y39 h37 h39⟩
theorem t127 {post : Option AV → MM → Prop} {J71 : MM → Int → Int → Int → Int → Int → Int → Int → Prop} {J96 : MM → Int → Int → Int → Int → Int → Int → Int → Int → Int → Int → Int → Prop} {x1 x2 x3 x4 x5 x7 x8 x9 x13 s : Int} {f : Bool} {cc g : Nat} (hP : PM M W) (hW : IW W) (hcc : cc < 4) (hg : g < 4) (h9 : R64 (x9 * W (31 + 2 * (4 * cc + g)))) (hs : s = (g : Int)) (h : ∀ y37 y39 s0, y37 = Int.tdiv (x9 * W (31 + 2 * (4 * cc + g))) (W (32 + 2 * (4 * cc + g))) → y39 = x13 + 1 → s0 = fb (f && decide (g ≠ cc)) → J96 M x1 x2 x3 x4 x5 x7 x8 y37 g s0 y39) : VX12_turn_127 E l 4 post J71 J96 M x1 x2 x3 x4 x5 x7 x8 x9 cc (fb f) x13 s := by
  subst hs
  unfold VX12_turn_127
  try unfold VX12_turn_145
  cases f with
  | false => exact ⟨by decide, fun _ => t146 hP hW hcc hg h9 (fun y37 y39 h37 h39 => h y37 y39 0 h37 h39 rfl), fun q => absurd rfl q⟩
  | true =>
    refine ⟨by decide, fun q => absurd q (by decide), fun _ => ⟨by unfold R32; omega, by unfold R32; omega, fun c1 => t146 hP hW hcc hg h9 (fun y37 y39 h37 h39 => h y37 y39 0 h37 h39 ?_), fun c1 => t146 hP hW hcc hg h9 (fun y37 y39 h37 h39 => h y37 y39 1 h37 h39 ?_)⟩⟩
    · rw [Bool.true_and, fb, if_neg (by rw [decide_eq_true_eq]; omega)]
    · rw [Bool.true_and, fb, if_pos (by rw [decide_eq_true_eq]; omega)]
theorem m_turn (ha : R32 a) (hb : R32 b) (hc : R32 c) (hd : R32 d) : ∀ M W, PM M W → IW W → Con E l 20 qX12_turn [vr 44, vi a, vi b, vi c, vi d] M (fun r M' => (∃ x W', r = some (vj x) ∧ TTu a b c d W x W' ∧ PM M' W') ∧ Kp 2 M M') := by
  intro M W hP hW
  have bad : ¬ okTu a b c d → (∃ x W', some (vj (-1)) = some (vj x) ∧ TTu a b c d W x W' ∧ PM M W') ∧ Kp 2 M M := fun h => ⟨⟨-1, W, rfl, ⟨rfl, Or.inl ⟨h, rfl⟩⟩, hP⟩, Kp.rf⟩
  refine (RX12_turn (D := 4) (fun M' x1 x2 x3 x4 x5 x7 x8 => M' = M ∧ x1 = a ∧ x2 = b ∧ x3 = c ∧ x4 = d ∧ okTu a b c d ∧ 2 ≤ c ∧ ∃ T : Nat, x8 = (T : Int) ∧ T ≤ 2 ^ (2 * (c.toNat - 1)) ∧ x5 = eM5 (mF W c.toNat a.toNat b T) ∧ x7 = eM7 (mF W c.toNat a.toNat b T)) (fun _ _ _ _ _ _ _ x8 => ((300 - x8) * 100 + 50).toNat) (fun M' x1 x2 x3 x4 x5 x7 x8 x9 x11 x12 x13 => M' = M ∧ x1 = a ∧ x2 = b ∧ x3 = c ∧ x4 = d ∧ okTu a b c d ∧ 2 ≤ c ∧ ∃ T j : Nat, x8 = (T : Int) ∧ T < 2 ^ (2 * (c.toNat - 1)) ∧ x5 = eM5 (mF W c.toNat a.toNat b T) ∧ x7 = eM7 (mF W c.toNat a.toNat b T) ∧ x13 = (j : Int) ∧ j ≤ c.toNat ∧ x9 = (tv W (dlt c.toNat T a.toNat) b a.toNat j).1 ∧ x11 = ((tv W (dlt c.toNat T a.toNat) b a.toNat j).2.1 : Nat) ∧ x12 = fb (tv W (dlt c.toNat T a.toNat) b a.toNat j).2.2) (fun _ _ _ _ _ _ _ x8 _ _ _ x13 => ((300 - x8) * 100 + 10 - x13).toNat) ?_ ?_ ?_).up (by decide)
  · unfold VX12_turn_0
    refine (c_isCoin ha).fn ⟨_, rfl, b01_R, fun k1 => bad (fun q => b01_0.mp k1 (by have := q.1; omega)), fun k1 => ⟨hb, (c_in (r32_64 hb) (by decide) (by decide)).fn ⟨_, rfl, b01_R, fun k2 => bad (fun q => b01_0.mp k2 q.2.1), fun k2 => ⟨hc, (c_in (r32_64 hc) (by decide) (by decide)).fn ⟨_, rfl, b01_R, fun k3 => bad (fun q => b01_0.mp k3 q.2.2.1), fun k3 => ?_⟩⟩⟩⟩⟩
    rw [b01_n0] at k1 k2 k3
    refine ⟨hd, by unfold R32; omega, (c_in (r32_64 hd) (by decide) (by unfold R64; omega)).fn ⟨_, rfl, b01_R, fun k4 => ?_, fun k4 => bad (fun q => b01_0.mp k4 q.2.2.2)⟩⟩
    rw [b01_n0] at k4
    have hok : okTu a b c d := ⟨by omega, k2, k3, k4⟩
    refine ⟨hc, fun k5 => ⟨rfl, rfl, rfl, rfl, rfl, hok, by omega, 0, rfl, Nat.zero_le _, rfl, rfl⟩, fun k5 => ⟨⟨_, W, rfl, ⟨rfl, Or.inr ⟨hok, ?_⟩⟩, hP⟩, Kp.rf⟩⟩
    subst k5
    obtain ⟨coin, rfl⟩ : ∃ z : Nat, a = z := ⟨a.toNat, by have := hok.1; omega⟩
    unfold aT
    show _ = (match mF W 1 coin b (0 + 1) with | none => -4 | some p => if d = -1 then p.1 else (dlt 1 p.2 coin d.toNat : Nat))
    rw [mF_s, tv_vld, vld_1 coin (by have := hok.1; omega), if_neg (by decide)]
    rfl
  · rintro M' x1 x2 x3 x4 _ _ _ ⟨rfl, rfl, rfl, rfl, rfl, hok, hk2, T, rfl, hT, rfl, rfl⟩
    obtain ⟨q1, q2, q3, q4⟩ := id hok
    obtain ⟨coin, rfl⟩ : ∃ z : Nat, x1 = z := ⟨x1.toNat, by omega⟩
    obtain ⟨n, rfl⟩ : ∃ z : Nat, x2 = z := ⟨x2.toNat, by omega⟩
    obtain ⟨k, rfl⟩ : ∃ z : Nat, x3 = z := ⟨x3.toNat, by omega⟩
    simp only [Int.toNat_natCast] at hT ⊢
    have hp : 2 ^ (2 * (k - 1)) ≤ 2 ^ 8 := Nat.pow_le_pow_right (by omega) (by omega)
    have hp0 : (0 : Int) ≤ ((2 ^ (2 * (k - 1)) : Nat) : Int) := Int.natCast_nonneg _
    have hb2 := mF_b hW (k := k) (coin := coin) (by omega) (n := (n : Int)) (by omega) T
    unfold VX12_turn_71
    try unfold VX12_turn_256
    rw [show 2 * ((k : Int) - 1) = ((2 * (k - 1) : Nat) : Int) by omega, ishl_1 (2 * (k - 1)) (by omega)]
    have fin : ∀ (x : Int), T = 2 ^ (2 * (k - 1)) → (∀ p : Int × Nat, mF W k coin n T = some p → x = (if x4 = -1 then p.1 else (dlt k p.2 coin x4.toNat : Nat))) → (∃ z W', some (vj x) = some (vj z) ∧ TTu coin n k x4 W z W' ∧ PM M' W') ∧ Kp 2 M' M' := by
      intro x hTe hx
      refine ⟨⟨_, W, rfl, ⟨rfl, Or.inr ⟨hok, ?_⟩⟩, hP⟩, Kp.rf⟩
      obtain ⟨T0, h0, h1⟩ := vld_ex k (by omega) (by omega) coin (by omega)
      have hn := mF_some (W := W) (n := (n : Int)) h1 T (by omega)
      unfold aT
      simp only [Int.toNat_natCast]
      rw [← hTe]
      cases hm : mF W k coin n T with
      | none => exact absurd hm hn
      | some p => exact hx p hm
    refine ⟨by unfold R32; omega, by unfold R32; omega, fun c1 => ?_, fun c1 => ⟨by unfold R32; omega, ⟨rfl, rfl, rfl, rfl, rfl, hok, hk2, T, 0, rfl, ?_, rfl, rfl, rfl, Nat.zero_le _, rfl, rfl, rfl⟩, by omega⟩⟩
    · refine ⟨hd, fun c2 => ⟨hd, by unfold R32; omega, fun c3 => ?_, fun c3 => ⟨ha, fin _ (by omega) ?_⟩⟩, fun c2 => fin _ (by omega) ?_⟩
      · obtain ⟨i, rfl⟩ : ∃ z : Nat, x4 = z := ⟨x4.toNat, by omega⟩
        obtain ⟨B, hB, hBl⟩ : ∃ B : Nat, eM7 (mF W k coin n T) = (B : Int) ∧ B ≤ T := by
          cases hm : mF W k coin n T with
          | none => exact ⟨0, rfl, by omega⟩
          | some p => exact ⟨p.2, rfl, by have := hb2 p hm; omega⟩
        have ei : iand (ishr (B : Int) (2 * (((k : Int) - 2) - i))) 3 = ((B / 2 ^ (2 * (k - 2 - i)) % 4 : Nat) : Int) := by
          rw [show 2 * (((k : Int) - 2) - i) = ((2 * (k - 2 - i) : Nat) : Int) by omega, ishr_nat (by omega) (by omega), iand_3 (by have := Nat.div_le_self B (2 ^ (2 * (k - 2 - i))); omega)]
        rw [hB, ei]
        have hm4 : B / 2 ^ (2 * (k - 2 - i)) % 4 < 4 := Nat.mod_lt _ (by decide)
        refine ⟨by unfold R32; omega, fin _ (by omega) ?_⟩
        intro p hp
        rw [hp] at hB
        have hpB : p.2 = B := by have h : (p.2 : Int) = B := hB; omega
        rw [if_neg (by omega), hpB, Int.toNat_natCast]
        unfold dlt
        rw [if_neg (by omega)]
      · intro p hp
        rw [if_neg (by omega)]
        unfold dlt
        rw [if_pos (by omega)]
      · intro p hp
        rw [if_pos (by omega), hp]
        rfl
    · omega
  · rintro M' x1 x2 x3 x4 _ _ _ _ _ _ _ ⟨rfl, rfl, rfl, rfl, rfl, hok, hk2, T, j, rfl, hT, rfl, rfl, rfl, hj, rfl, rfl, rfl⟩
    obtain ⟨q1, q2, q3, q4⟩ := id hok
    obtain ⟨coin, rfl⟩ : ∃ z : Nat, x1 = z := ⟨x1.toNat, by omega⟩
    obtain ⟨n, rfl⟩ : ∃ z : Nat, x2 = z := ⟨x2.toNat, by omega⟩
    obtain ⟨k, rfl⟩ : ∃ z : Nat, x3 = z := ⟨x3.toNat, by omega⟩
    simp only [Int.toNat_natCast] at hT hj ⊢
    have hp : 2 ^ (2 * (k - 1)) ≤ 2 ^ 8 := Nat.pow_le_pow_right (by omega) (by omega)
    have hb2 := mF_b hW (k := k) (coin := coin) (by omega) (n := (n : Int)) (by omega) T
    have hdl : ∀ j, dlt k T coin j < 4 := fun j => dlt_lt (by omega)
    obtain ⟨⟨t1, t2⟩, t3⟩ := tv_b hW hdl (n := (n : Int)) (by omega) (show coin < 4 by omega) j
    have h99 := p99 (k := j) (by omega)
    have h99k := p99 (k := k) (by omega)
    have e6 : R64 (eM5 (mF W k coin n T)) := by
      cases hm : mF W k coin n T with
      | none => exact (show R64 (-1) by decide)
      | some p =>
        have := hb2 p hm
        show R64 p.1
        unfold R64
        omega
    unfold VX12_turn_96
    try unfold VX12_turn_127
    try unfold VX12_turn_145
    try unfold VX12_turn_213
    refine ⟨by unfold R32; omega, by unfold R32; omega, fun c1 => ?_, fun c1 => ⟨by unfold R32; omega, by unfold R32; omega, fun c2 => ?_, fun c2 => ?_⟩⟩
    · obtain rfl : j = k := by omega
      have es := mF_s W j coin n T
      have nx : ∀ y : Int, y = (T : Int) + 1 → ∀ z : Option (Int × Nat), mF W j coin n (T + 1) = z → (M' = M' ∧ (coin : Int) = coin ∧ (n : Int) = n ∧ (j : Int) = j ∧ x4 = x4 ∧ okTu coin n j x4 ∧ 2 ≤ (j : Int) ∧ ∃ T' : Nat, y = (T' : Int) ∧ T' ≤ 2 ^ (2 * (j - 1)) ∧ eM5 z = eM5 (mF W j coin n T') ∧ eM7 z = eM7 (mF W j coin n T')) ∧ ((300 - y) * 100 + 50).toNat < ((300 - (T : Int)) * 100 + 10 - j).toNat := by
        intro y hy z hz
        exact ⟨⟨rfl, rfl, rfl, rfl, rfl, hok, hk2, T + 1, by omega, by omega, by rw [hz], by rw [hz]⟩, by omega⟩
      by_cases hv : (tv W (dlt j T coin) n coin j).2.2 = true
      · rw [if_pos hv] at es
        rw [hv]
        refine ⟨by decide, fun c2 => absurd c2 (by decide), fun _ => ⟨by unfold R64; omega, e6, fun c3 y53 h53 => nx y53 h53 _ ?_, fun c3 y29 h29 => ?_⟩⟩
        · rw [es]
          cases hm : mF W j coin n T with
          | none => rw [hm] at c3; have c3' : (tv W (dlt j T coin) n coin j).1 ≤ -1 := c3; omega
          | some p =>
            rw [hm] at c3
            have c3' : (tv W (dlt j T coin) n coin j).1 ≤ p.1 := c3
            dsimp only
            rw [if_neg (by omega)]
        · have hz : mF W j coin n (T + 1) = some ((tv W (dlt j T coin) n coin j).1, T) := by
            rw [es]
            cases hm : mF W j coin n T with
            | none => rfl
            | some p =>
              rw [hm] at c3
              have c3' : ¬ (tv W (dlt j T coin) n coin j).1 ≤ p.1 := c3
              dsimp only
              rw [if_pos (by omega)]
          exact nx y29 h29 _ hz
      · rw [if_neg hv] at es
        have hv' : (tv W (dlt j T coin) n coin j).2.2 = false := by
          cases h : (tv W (dlt j T coin) n coin j).2.2 with
          | true => exact absurd h hv
          | false => rfl
        rw [hv']
        exact ⟨by decide, fun _ y49 h49 => nx y49 h49 _ es, fun c2 => absurd rfl c2⟩
    all_goals
      have e := tv_s W (dlt k T coin) n coin j
      have hdj := hdl j
      have hg : dlt k T coin j = dlt k T coin j := rfl
      generalize hg0 : dlt k T coin j = g at e hdj
      generalize hv0 : (tv W (dlt k T coin) n coin j).1 = v at e t1 t2 ⊢
      generalize hc0 : (tv W (dlt k T coin) n coin j).2.1 = cc at e t3 ⊢
      generalize hf0 : (tv W (dlt k T coin) n coin j).2.2 = f at e ⊢
      have i1 := hW.ra (j := 4 * cc + g) (by omega)
      have p1 : 0 ≤ v * W (31 + 2 * (4 * cc + g)) := Int.mul_nonneg t1 (by omega)
      have p2 : v * W (31 + 2 * (4 * cc + g)) ≤ 999999 * 99 ^ j * 99 := Int.mul_le_mul t2 i1.2 (by omega) (by omega)
      have p3 : R64 (v * W (31 + 2 * (4 * cc + g))) := by unfold R64; omega
    · have eg : iand (ishr (T : Int) (2 * (((k : Int) - 2) - j))) 3 = (g : Int) := by
        rw [show 2 * (((k : Int) - 2) - j) = ((2 * (k - 2 - j) : Nat) : Int) by omega, ishr_nat (by omega) (by omega), iand_3 (by have := Nat.div_le_self T (2 ^ (2 * (k - 2 - j))); omega), ← hg0]
        unfold dlt
        rw [if_neg (by omega)]
      refine t127 hP hW t3 hdj p3 eg (fun y37 y39 s0 h37 h39 hs => ?_)
      exact ⟨⟨rfl, rfl, rfl, rfl, rfl, hok, hk2, T, j + 1, rfl, hT, rfl, rfl, by omega, by omega, by rw [e]; exact h37, by rw [e], by rw [e]; exact hs⟩, by omega⟩
    · have eg : (coin : Int) = (g : Int) := by
        rw [← hg0]
        unfold dlt
        rw [if_pos (by omega)]
      refine t127 hP hW t3 hdj p3 eg (fun y37 y39 s0 h37 h39 hs => ?_)
      exact ⟨⟨rfl, rfl, rfl, rfl, rfl, hok, hk2, T, j + 1, rfl, hT, rfl, rfl, by omega, by omega, by rw [e]; exact h37, by rw [e], by rw [e]; exact hs⟩, by omega⟩
theorem e_turn (ha : R32 a) (hb : R32 b) (hc : R32 c) (hd : R32 d) : EqA E l vj qX11_turn qX12_turn [vi a, vi b, vi c, vi d] :=
  eqS (TTu a b c d) (fun W x x' W1 W2 _ h1 h2 => by
    obtain ⟨e1, h1⟩ := h1
    obtain ⟨e2, h2⟩ := h2
    refine ⟨?_, by rw [e1, e2]⟩
    rcases h1 with ⟨n1, rfl⟩ | ⟨n1, rfl⟩ <;> rcases h2 with ⟨n2, rfl⟩ | ⟨n2, rfl⟩
    · rfl
    · exact absurd n2 n1
    · exact absurd n1 n2
    · rfl) (fun W x W' hW h => by rw [h.1]; exact hW) (k_turn ha hb hc hd) (m_turn ha hb hc hd)
end
