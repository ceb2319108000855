/-! CONTRACTS: the reference's small functions, the class's small functions -/
section
variable {E : FX} {l : Launch} {M : MM}
/-- a truth value as the machine has it -/
abbrev b01 (p : Prop) [Decidable p] : Int := if p then 1 else 0
theorem c_in {a lo hi : Int} (ha : R64 a) (hl : R64 lo) (hh : R64 hi) : Con E l 1 qX12_in [vj a, vj lo, vj hi] M (fun r M' => r = some (vi (b01 (lo ≤ a ∧ a ≤ hi))) ∧ M' = M) := by
  refine RX12_in ?_
  unfold VX12_in_0 VX12_in_18
  refine ⟨ha, hl, fun c => ⟨Or.inl rfl, ?_, rfl⟩, fun c => ⟨ha, hh, fun c2 => ⟨Or.inl rfl, ?_, rfl⟩, fun c2 => ⟨Or.inr rfl, ?_, rfl⟩⟩⟩
  · rw [b01, if_neg (by omega)]
  · rw [b01, if_neg (by omega)]
  · rw [b01, if_pos (by omega)]
theorem c_has {s k : Nat} (hs : s < 2147483648) (hk : k < 32) : Con E l 1 qX12_has [vi s, vi k] M (fun r M' => r = some (vi (bt s k : Nat)) ∧ M' = M) := by
  refine RX12_has ?_
  unfold VX12_has_0 VX12_has_14
  rw [bit_nat hs hk]
  have hb : bt s k = 0 ∨ bt s k = 1 := Nat.mod_two_eq_zero_or_one _
  refine ⟨by unfold R32; omega, fun c => ⟨Or.inl rfl, ?_, rfl⟩, fun c => ⟨Or.inr rfl, ?_, rfl⟩⟩
  · rw [show bt s k = 0 by omega]; rfl
  · rw [show bt s k = 1 by omega]; rfl
theorem c_lesser {a b : Int} (ha : R64 a) (hb : R64 b) : Con E l 1 qX12_lesser [vj a, vj b] M (fun r M' => r = some (vj (if a < b then a else b)) ∧ M' = M) := by
  refine RX12_lesser ?_
  unfold VX12_lesser_0 VX12_lesser_11
  refine ⟨ha, hb, fun c => ⟨?_, rfl⟩, fun c => ⟨?_, rfl⟩⟩
  · rw [if_neg (by omega)]
  · rw [if_pos (by omega)]
theorem c_greater {a b : Int} (ha : R64 a) (hb : R64 b) : Con E l 1 qX12_greater [vj a, vj b] M (fun r M' => r = some (vj (if a > b then a else b)) ∧ M' = M) := by
  refine RX12_greater ?_
  unfold VX12_greater_0 VX12_greater_11
  refine ⟨ha, hb, fun c => ⟨?_, rfl⟩, fun c => ⟨?_, rfl⟩⟩
  · rw [if_neg (by omega)]
  · rw [if_pos (by omega)]
theorem c_ones {s : Nat} (hs : s < 2147483648) : Con E l 1 qX12_ones [vi s] M (fun r M' => r = some (vi (bcn 6 s : Nat)) ∧ M' = M) := by
  refine RX12_ones (fun M' x0 x1 x2 => M' = M ∧ ∃ k : Nat, x0 = s ∧ x1 = (bcn k s : Nat) ∧ x2 = k ∧ k ≤ 6) (fun _ _ _ x2 => (6 - x2).toNat) ?_ ?_
  · exact ⟨rfl, 0, rfl, rfl, rfl, by omega⟩
  · rintro M' _ _ _ ⟨rfl, k, rfl, rfl, rfl, hk⟩
    unfold VX12_ones_4
    refine ⟨by unfold R32; omega, fun c => ⟨?_, rfl⟩, fun c y3 hy3 y5 hy5 => ⟨⟨rfl, k + 1, rfl, ?_, by omega, by omega⟩, by omega⟩⟩
    · rw [show k = 6 by omega]
    · rw [hy3, bit_nat hs (by omega)]
      rfl
theorem c_divisor {m n : Nat} (hm : m < 2 ^ 62) (hn : n < 2 ^ 62) : Con E l 1 qX12_divisor [vj m, vj n] M (fun r M' => r = some (vj (Nat.gcd m n : Nat)) ∧ M' = M) := by
  refine RX12_divisor (fun M' x4 x6 => M' = M ∧ ∃ a b : Nat, x4 = a ∧ x6 = b ∧ a < 2 ^ 62 ∧ b < 2 ^ 62 ∧ Nat.gcd a b = Nat.gcd m n) (fun _ _ x6 => x6.toNat) ?_ ?_
  · exact ⟨rfl, m, n, rfl, rfl, hm, hn, rfl⟩
  · rintro M' _ _ ⟨rfl, a, b, rfl, rfl, ha, hb, hg⟩
    unfold VX12_divisor_6
    refine ⟨by unfold R64; omega, fun c => ⟨?_, rfl⟩, fun c => ⟨by unfold R64; omega, by unfold R64; omega, by omega, ?_⟩⟩
    · have hb0 : b = 0 := by omega
      subst hb0
      rw [← hg, Nat.gcd_zero_right]
    · have hb0 : 0 < b := by omega
      intro y1 hy1
      have e1 : y1 = ((a % b : Nat) : Int) := by
        rw [hy1, Int.tmod_eq_emod_of_nonneg (by omega)]
        rfl
      have hr : a % b < b := Nat.mod_lt _ hb0
      exact ⟨⟨rfl, b, a % b, rfl, e1, hb, by omega, by rw [← hg, Nat.gcd_comm a b, Nat.gcd_rec b a, Nat.gcd_comm]⟩, by omega⟩
theorem c_common {m n : Nat} (hm0 : 0 < m) (hm : m < 2 ^ 62) (hn : n < 2 ^ 62) : Con E l 2 qX12_common [vj m, vj n] M (fun r M' => r = some (vj (Nat.lcm m n : Nat)) ∧ M' = M) := by
  refine RX12_common ?_
  unfold VX12_common_0
  have hg0 : 0 < Nat.gcd m n := Nat.gcd_pos_of_pos_left _ hm0
  have hg1 : Nat.gcd m n ≤ m := Nat.le_of_dvd hm0 (Nat.gcd_dvd_left m n)
  refine (c_divisor hm hn).fn ⟨_, rfl, by unfold R64; omega, by unfold R64; omega, by omega, ?_, rfl⟩
  have e1 : Int.tdiv (m : Int) (Nat.gcd m n : Nat) = ((m / Nat.gcd m n : Nat) : Int) := by
    rw [Int.tdiv_eq_ediv_of_nonneg (by omega)]
    rfl
  rw [e1, ← Int.natCast_mul, lcm_e]
theorem c_within {a lo hi : Int} (ha : R32 a) (hl : R32 lo) (hh : R32 hi) : Con E l 1 qX11_within [vi a, vi lo, vi hi] M (fun r M' => r = some (vi (b01 (lo ≤ a ∧ a ≤ hi))) ∧ M' = M) := by
  refine RX11_within ?_
  unfold VX11_within_0 VX11_within_15
  refine ⟨ha, hl, fun c => ⟨Or.inl rfl, ?_, rfl⟩, fun c => ⟨ha, hh, fun c2 => ⟨Or.inl rfl, ?_, rfl⟩, fun c2 => ⟨Or.inr rfl, ?_, rfl⟩⟩⟩
  · rw [b01, if_neg (by omega)]
  · rw [b01, if_neg (by omega)]
  · rw [b01, if_pos (by omega)]
theorem c_isCloth {a : Int} (ha : R32 a) : Con E l 2 qX11_isCloth [vi a] M (fun r M' => r = some (vi (b01 (0 ≤ a ∧ a ≤ 3))) ∧ M' = M) := by
  refine RX11_isCloth ?_
  unfold VX11_isCloth_0
  refine (c_within ha (by decide) (by decide)).fn ⟨_, rfl, ?_, rfl, rfl⟩
  unfold b01
  split <;> simp
end
