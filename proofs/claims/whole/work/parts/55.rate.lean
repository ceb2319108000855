section
variable {E : FX} {l : Launch} {M : MM} {W : Nat → Int} {a b c d : Int}
theorem PC.ra (h : PC M W) {j : Nat} (hj : j < 16) : M 12 j = W (31 + 2 * j) := h.2.2.2.2.2.2.2.2.2.2.1 j hj
theorem PC.rb (h : PC M W) {j : Nat} (hj : j < 16) : M 13 j = W (32 + 2 * j) := h.2.2.2.2.2.2.2.2.2.2.2 j hj
theorem IW.ra (h : IW W) {j : Nat} (hj : j < 16) : 1 ≤ W (31 + 2 * j) ∧ W (31 + 2 * j) ≤ 99 := h.2.2.2.2.2.2.2.2.2.1 j hj
theorem IW.rb (h : IW W) {j : Nat} (hj : j < 16) : 1 ≤ W (32 + 2 * j) ∧ W (32 + 2 * j) ≤ 99 := h.2.2.2.2.2.2.2.2.2.2 j hj
theorem c_rateAt : Con E l 1 qX12_rateAt [vi a, vi b] M (fun r M' => r = some (vi (31 + 8 * a + 2 * b)) ∧ M' = M) := by
  refine RX12_rateAt ?_
  unfold VX12_rateAt_0
  exact ⟨rfl, rfl⟩
theorem c_isCoin (ha : R32 a) : Con E l 2 qX12_isCoin [vi a] M (fun r M' => r = some (vi (b01 (0 ≤ a ∧ a ≤ 3))) ∧ M' = M) := by
  refine RX12_isCoin ?_
  unfold VX12_isCoin_0
  refine ⟨ha, (c_in (r32_64 ha) (by decide) (by decide)).fn ⟨_, rfl, ?_, rfl, rfl⟩⟩
  unfold b01
  split <;> simp
/-! rate -/
def okRt (a b c d : Int) : Prop := (0 ≤ a ∧ a ≤ 3) ∧ (0 ≤ b ∧ b ≤ 3) ∧ a ≠ b ∧ (1 ≤ c ∧ c ≤ 99) ∧ (1 ≤ d ∧ d ≤ 99)
def rix (a b : Int) : Nat := (4 * a + b).toNat
def TRt (a b c d : Int) (W : Nat → Int) (x : Int) (W' : Nat → Int) : Prop := (¬ okRt a b c d ∧ x = -1 ∧ W' = W) ∨ (okRt a b c d ∧ x = 100 * W (31 + 2 * rix a b) + W (32 + 2 * rix a b) ∧ W' = upW (upW W (31 + 2 * rix a b) c) (32 + 2 * rix a b) d)
theorem k_rate (ha : R32 a) (hb : R32 b) (hc : R32 c) (hd : R32 d) : ∀ M W, PC M W → IW W → Con E l 20 qX11_rate [vr 0, vi a, vi b, vi c, vi d] M (fun r M' => (∃ x W', r = some (vi x) ∧ TRt a b c d W x W' ∧ PC M' W') ∧ Kp 1 M M') := by
  intro M W hP hW
  have bad : ¬ okRt a b c d → (∃ x W', some (vi (-1)) = some (vi x) ∧ TRt a b c d W x W' ∧ PC M W') ∧ Kp 1 M M := fun h => ⟨⟨-1, W, rfl, Or.inl ⟨h, rfl, rfl⟩, hP⟩, Kp.rf⟩
  have tail0 : ¬ okRt a b c d → VX11_rate_28 E l 4 (fun r M' => (∃ x W', r = some (vi x) ∧ TRt a b c d W x W' ∧ PC M' W') ∧ Kp 1 M M') M a b c d 0 := fun h => by
    unfold VX11_rate_28
    exact ⟨by decide, fun _ => bad h, fun q => absurd rfl q⟩
  refine (RX11_rate (D := 4) ?_).up (by decide)
  unfold VX11_rate_0
  refine (c_within ha (by decide) (by decide)).fn ⟨_, rfl, b01_R, fun k1 => tail0 (fun q => b01_0.mp k1 q.1), fun k1 => (c_within hb (by decide) (by decide)).fn ⟨_, rfl, b01_R, fun k2 => tail0 (fun q => b01_0.mp k2 q.2.1), fun k2 => ⟨ha, hb, fun k3 => tail0 (fun q => q.2.2.1 k3), fun k3 => ?_⟩⟩⟩
  rw [b01_n0] at k1 k2
  unfold VX11_rate_28
  refine ⟨by decide, fun q => absurd q (by decide), fun _ => (c_within hc (by decide) (by decide)).fn ⟨_, rfl, b01_R, fun k4 => bad (fun q => b01_0.mp k4 q.2.2.2.1), fun k4 => (c_within hd (by decide) (by decide)).fn ⟨_, rfl, b01_R, fun k5 => ?_, fun k5 => bad (fun q => b01_0.mp k5 q.2.2.2.2)⟩⟩⟩
  rw [b01_n0] at k4 k5
  have hok : okRt a b c d := ⟨k1, k2, k3, k4, k5⟩
  refine Con.up (D := 3) (RX3_agree ?_) (by decide)
  unfold VX3_agree_0
  intro y1 h1
  obtain ⟨i, hi, hi2⟩ : ∃ i : Nat, y1 = i ∧ i = rix a b := ⟨y1.toNat, by omega, by rw [h1]; rfl⟩
  have hi3 : i < 16 := by omega
  subst hi
  refine (c_at_in (n := 16) rfl (by omega) (by omega)).fn ⟨_, rfl, (c_at_in (n := 16) rfl (by omega) (by omega)).fn ⟨_, rfl, fun y9 h9 => (c_put (n := 16) rfl (by omega) (by omega)).fn ⟨rfl, (c_put (n := 16) rfl (by omega) (by omega)).fn ⟨rfl, _, rfl, ⟨y9, _, rfl, Or.inr ⟨hok, ?_, rfl⟩, ?_⟩, ?_⟩⟩⟩⟩
  · rw [h9, Int.toNat_natCast, hP.ra hi3, hP.rb hi3, hi2]
  · rw [← hi2]
    exact (hP.set (j := 31 + 2 * i) (by omega) (by rw [Int.toNat_natCast]; exact lc_31 i hi3)).set (j := 32 + 2 * i) (by omega) (by rw [Int.toNat_natCast]; exact lc_32 i hi3)
  · exact (Kp.rf.put (Or.inl (by rfl))).put (Or.inl (by rfl))
theorem m_rate (ha : R32 a) (hb : R32 b) (hc : R32 c) (hd : R32 d) : ∀ M W, PM M W → IW W → Con E l 20 qX12_rate [vr 44, vi a, vi b, vi c, vi d] M (fun r M' => (∃ x W', r = some (vi x) ∧ TRt a b c d W x W' ∧ PM M' W') ∧ Kp 2 M M') := by
  intro M W hP hW
  have bad : ¬ okRt a b c d → (∃ x W', some (vi (-1)) = some (vi x) ∧ TRt a b c d W x W' ∧ PM M W') ∧ Kp 2 M M := fun h => ⟨⟨-1, W, rfl, Or.inl ⟨h, rfl, rfl⟩, hP⟩, Kp.rf⟩
  refine (RX12_rate (D := 4) ?_).up (by decide)
  unfold VX12_rate_0
  refine (c_isCoin ha).fn ⟨_, rfl, b01_R, fun k1 => bad (fun q => b01_0.mp k1 q.1), fun k1 => (c_isCoin hb).fn ⟨_, rfl, b01_R, fun k2 => bad (fun q => b01_0.mp k2 q.2.1), fun k2 => ⟨ha, hb, fun k3 => bad (fun q => q.2.2.1 k3), fun k3 => ⟨hc, (c_in (r32_64 hc) (by decide) (by decide)).fn ⟨_, rfl, b01_R, fun k4 => bad (fun q => b01_0.mp k4 q.2.2.2.1), fun k4 => ⟨hd, (c_in (r32_64 hd) (by decide) (by decide)).fn ⟨_, rfl, b01_R, fun k5 => ?_, fun k5 => bad (fun q => b01_0.mp k5 q.2.2.2.2)⟩⟩⟩⟩⟩⟩⟩
  rw [b01_n0] at k1 k2 k4 k5
  have hok : okRt a b c d := ⟨k1, k2, k3, k4, k5⟩
  have hr : rix a b < 16 := by unfold rix; omega
  have e1 : (31 + 8 * a + 2 * b).toNat = 31 + 2 * rix a b := by unfold rix; omega
  have e2 : (31 + 8 * a + 2 * b + 1).toNat = 32 + 2 * rix a b := by unfold rix; omega
  refine c_rateAt.fn ⟨_, rfl, ?_⟩
  rw [e1, e2]
  refine ⟨by omega, by omega, by omega, by omega, fun y26 h26 => ⟨by omega, by omega, fun M28 h28 => ⟨by omega, by omega, fun M30 h30 => ⟨⟨y26, _, rfl, Or.inr ⟨hok, ?_, rfl⟩, ?_⟩, ?_⟩⟩⟩⟩
  · rw [h26, hP _ (by omega), hP _ (by omega)]
  · rw [h30, h28]
    exact hP.set.set
  · rw [h30, h28]
    have r1 : rg 45 (31 + 2 * rix a b) = 2 := by simp [rg]; omega
    have r2 : rg 45 (32 + 2 * rix a b) = 2 := by simp [rg]; omega
    exact (Kp.rf.put (Or.inl r1)).put (Or.inl r2)
theorem e_rate (ha : R32 a) (hb : R32 b) (hc : R32 c) (hd : R32 d) : EqA E l vi qX11_rate qX12_rate [vi a, vi b, vi c, vi d] := by
  refine eqS (TRt a b c d) ?_ ?_ (k_rate ha hb hc hd) (m_rate ha hb hc hd)
  · rintro W x x' W1 W2 _ (⟨h0, h1, h2⟩ | ⟨h0, h1, h2⟩) (⟨g0, g1, g2⟩ | ⟨g0, g1, g2⟩)
    · exact ⟨h1.trans g1.symm, h2.trans g2.symm⟩
    · exact absurd g0 h0
    · exact absurd h0 g0
    · exact ⟨h1.trans g1.symm, h2.trans g2.symm⟩
  · rintro W x W' hW (⟨h0, h1, h2⟩ | ⟨h0, h1, h2⟩)
    · rw [h2]; exact hW
    · rw [h2]
      obtain ⟨q1, q2, q3, q4, q5⟩ := h0
      have hr : rix a b < 16 := by unfold rix; omega
      have d4 : ∀ j, j < 16 → wlo (31 + 2 * j) = 1 ∧ whi (31 + 2 * j) = 99 := by decide
      have d5 : ∀ j, j < 16 → wlo (32 + 2 * j) = 1 ∧ whi (32 + 2 * j) = 99 := by decide
      obtain ⟨y1, y2⟩ := d4 _ hr
      obtain ⟨z1, z2⟩ := d5 _ hr
      exact (hW.set (fun _ _ => by rw [y1, y2]; exact q4) (fun q => by omega)).set (fun _ _ => by rw [z1, z2]; exact q5) (fun q => by omega)
/-! digits of a row of coins -/
def dg (code size i : Nat) : Nat := code / 2 ^ (2 * (size - 1 - i)) % 4
theorem dg_lt (code size i : Nat) : dg code size i < 4 := Nat.mod_lt _ (by decide)
theorem c_digit {code size i : Nat} (hc : code < 2147483648) (hs : size ≤ 5) (hi : i < size) : Con E l 1 qX3_digit [vi code, vi size, vi i] M (fun r M' => r = some (vi (dg code size i : Nat)) ∧ M' = M) := by
  refine RX3_digit ?_
  unfold VX3_digit_0
  rw [show 2 * (((size : Int) - 1) - (i : Int)) = ((2 * (size - 1 - i) : Nat) : Int) by omega, ishr_nat hc (by omega), iand_3 (Nat.lt_of_le_of_lt (Nat.div_le_self _ _) hc)]
  exact ⟨rfl, rfl⟩
/-- what the rates along pairs multiply to -/
def prA (W : Nat → Int) (ps : List (Nat × Nat)) : Int := ps.foldl (fun z p => z * W (31 + 2 * (4 * p.1 + p.2))) 1
def prB (W : Nat → Int) (ps : List (Nat × Nat)) : Int := ps.foldl (fun z p => z * W (32 + 2 * (4 * p.1 + p.2))) 1
theorem prA_app (W : Nat → Int) (ps : List (Nat × Nat)) (p : Nat × Nat) : prA W (ps ++ [p]) = prA W ps * W (31 + 2 * (4 * p.1 + p.2)) := by simp [prA]
theorem prB_app (W : Nat → Int) (ps : List (Nat × Nat)) (p : Nat × Nat) : prB W (ps ++ [p]) = prB W ps * W (32 + 2 * (4 * p.1 + p.2)) := by simp [prB]
theorem mul_b {x y : Int} {X Y : Int} (hx : 1 ≤ x ∧ x ≤ X) (hy : 1 ≤ y ∧ y ≤ Y) : 1 ≤ x * y ∧ x * y ≤ X * Y := by
  refine ⟨?_, Int.mul_le_mul hx.2 hy.2 (by omega) (by omega)⟩
  have := Int.mul_le_mul hx.1 hy.1 (by omega) (by omega)
  omega
theorem prA_b (hW : IW W) : ∀ (n : Nat) (ps : List (Nat × Nat)), ps.length = n → (∀ p ∈ ps, p.1 < 4 ∧ p.2 < 4) → 1 ≤ prA W ps ∧ prA W ps ≤ 99 ^ n ∧ 1 ≤ prB W ps ∧ prB W ps ≤ 99 ^ n := by
  intro n
  induction n with
  | zero =>
    intro ps h _
    have : ps = [] := List.length_eq_zero_iff.mp h
    subst this
    show (1 : Int) ≤ 1 ∧ (1 : Int) ≤ 99 ^ 0 ∧ (1 : Int) ≤ 1 ∧ (1 : Int) ≤ 99 ^ 0
    decide
  | succ n ih =>
    intro ps h hp
    obtain ⟨qs, q, rfl⟩ : ∃ qs q, ps = qs ++ [q] := ⟨ps.dropLast, ps.getLast (by intro e; rw [e] at h; cases h), (List.dropLast_concat_getLast _).symm⟩
    have h1 := ih qs (by simpa using h) (fun p hq => hp p (List.mem_append_left _ hq))
    have h2 := hp q (by simp)
    rw [prA_app, prB_app]
    have i1 := hW.ra (j := 4 * q.1 + q.2) (by omega)
    have i2 := hW.rb (j := 4 * q.1 + q.2) (by omega)
    have m1 := mul_b ⟨h1.1, h1.2.1⟩ i1
    have m2 := mul_b ⟨h1.2.2.1, h1.2.2.2⟩ i2
    rw [Int.pow_succ]
    exact ⟨m1.1, m1.2, m2.1, m2.2⟩
end
