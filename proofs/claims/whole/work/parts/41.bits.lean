/-! bits of small numbers, by mathematics -/
theorem sm31 : ∀ n, n < 32 → ((Int32.ofNat n &&& 31).toBitVec.smod 32).toNat = n := by decide +kernel
theorem ti_nat {n : Nat} (h : n < 2147483648) : (Int32.ofNat n).toInt = n := by
  rw [← Int32.ofInt_eq_ofNat]
  exact Int32.toInt_ofInt_of_le (by omega) (by omega)
theorem ishr_nat {s k : Nat} (hs : s < 2147483648) (hk : k < 32) : ishr s k = ((s / 2 ^ k : Nat) : Int) := by
  have h1 := sm31 k hk
  unfold ishr
  rw [Int32.ofInt_eq_ofNat, Int32.ofInt_eq_ofNat]
  show ((Int32.ofNat s).toBitVec.sshiftRight' ((Int32.ofNat k &&& 31).toBitVec.smod 32)).toInt = _
  rw [BitVec.toInt_sshiftRight', h1]
  show (Int32.ofNat s).toInt >>> k = _
  rw [ti_nat hs, ← Int.natCast_shiftRight, Nat.shiftRight_eq_div_pow]
theorem iand_nat {a b : Nat} (ha : a < 2147483648) : iand a b = ((a &&& b : Nat) : Int) := by
  unfold iand
  have hle : a &&& b ≤ a := Nat.and_le_left
  have e : Int32.ofInt (a : Int) &&& Int32.ofInt (b : Int) = Int32.ofNat (a &&& b) := by
    rw [Int32.ofInt_eq_ofNat, Int32.ofInt_eq_ofNat]
    apply Int32.toBitVec.inj
    apply BitVec.eq_of_toNat_eq
    show (BitVec.ofNat 32 a &&& BitVec.ofNat 32 b).toNat = (BitVec.ofNat 32 (a &&& b)).toNat
    rw [BitVec.toNat_and, BitVec.toNat_ofNat, BitVec.toNat_ofNat, BitVec.toNat_ofNat, ← Nat.and_mod_two_pow]
  rw [e]
  exact ti_nat (by omega)
theorem ior_nat {a b : Nat} (ha : a < 2147483648) (hb : b < 2147483648) : ior a b = ((a ||| b : Nat) : Int) := by
  unfold ior
  have hle : a ||| b < 2 ^ 31 := Nat.or_lt_two_pow (by omega) (by omega)
  have e : Int32.ofInt (a : Int) ||| Int32.ofInt (b : Int) = Int32.ofNat (a ||| b) := by
    rw [Int32.ofInt_eq_ofNat, Int32.ofInt_eq_ofNat]
    apply Int32.toBitVec.inj
    apply BitVec.eq_of_toNat_eq
    show (BitVec.ofNat 32 a ||| BitVec.ofNat 32 b).toNat = (BitVec.ofNat 32 (a ||| b)).toNat
    rw [BitVec.toNat_or, BitVec.toNat_ofNat, BitVec.toNat_ofNat, BitVec.toNat_ofNat, ← Nat.or_mod_two_pow]
  rw [e]
  exact ti_nat (by omega)
theorem ishl_1 : ∀ k : Nat, k < 31 → ishl 1 k = ((2 ^ k : Nat) : Int) := by decide +kernel
theorem iand_1 {a : Nat} (ha : a < 2147483648) : iand a 1 = ((a % 2 : Nat) : Int) := by
  have h := iand_nat (b := 1) ha
  rw [Nat.and_one_is_mod] at h
  exact h
theorem iand_3 {a : Nat} (ha : a < 2147483648) : iand a 3 = ((a % 4 : Nat) : Int) := by
  have h := iand_nat (b := 3) ha
  have e : a &&& 3 = a % 4 := Nat.and_two_pow_sub_one_eq_mod a 2
  rw [e] at h
  exact h
/-- bit k of a set, as a number -/
def bt (s k : Nat) : Nat := s / 2 ^ k % 2
theorem bit_nat {s k : Nat} (hs : s < 2147483648) (hk : k < 32) : iand (ishr s k) 1 = ((bt s k : Nat) : Int) := by
  rw [ishr_nat hs hk, iand_1 (Nat.lt_of_le_of_lt (Nat.div_le_self _ _) hs)]
  rfl
theorem bt_tb (s k : Nat) : bt s k = if s.testBit k then 1 else 0 := by
  unfold bt
  rw [Nat.testBit_eq_decide_div_mod_eq]
  have := Nat.mod_two_eq_zero_or_one (s / 2 ^ k)
  rcases this with h | h <;> simp [h]
theorem bt_or (a b k : Nat) : bt (a ||| b) k = if bt a k = 1 ∨ bt b k = 1 then 1 else 0 := by
  simp only [bt_tb, Nat.testBit_or]
  cases a.testBit k <;> cases b.testBit k <;> rfl
theorem bt_pow (i k : Nat) : bt (2 ^ i) k = if i = k then 1 else 0 := by
  rw [bt_tb, Nat.testBit_two_pow]
  by_cases h : i = k <;> simp [h]
/-- how many bits a set has -/
def bcn : Nat → Nat → Nat
  | 0, _ => 0
  | n + 1, s => bcn n s + bt s n
section
variable {E : FX} {l : Launch} {M : MM}
def bc1 (x0 : Int) : Int := x0 - (iand (iushr x0 1) 1431655765)
def bc2 (y1 : Int) : Int := (iand y1 858993459) + (iand (iushr y1 2) 858993459)
def bc3 (y3 : Int) : Int := iand (y3 + (iushr y3 4)) 252645135
def bc4 (y5 : Int) : Int := y5 + (iushr y5 8)
def bc5 (y7 : Int) : Int := y7 + (iushr y7 16)
theorem bc_all : ∀ s : Nat, s < 256 → iand (bc5 (bc4 (bc3 (bc2 (bc1 s))))) 63 = ((bcn 8 s : Nat) : Int) := by decide +kernel
theorem c_bitCount {s : Nat} (hs : s < 256) : Con E l 1 qJ6_bitCount_0f7a4 [vi s] M (fun r M' => r = some (vi (bcn 8 s : Nat)) ∧ M' = M) := by
  refine RJ6_bitCount_0f7a4 ?_
  unfold VJ6_bitCount_0f7a4_0
  intro y1 h1 y3 h3 y5 h5 y7 h7 y9 h9
  subst h1; subst h3; subst h5; subst h7; subst h9
  exact ⟨by rw [← bc_all s hs]; rfl, rfl⟩
/-! the greatest common divisor, and the least common multiple -/
theorem c_gcd {m n : Nat} (hm0 : 0 < m) (hm : m < 2 ^ 62) (hn : n < 2 ^ 62) : Con E l 1 qX7_greatestCommon [vj m, vj n] M (fun r M' => r = some (vj (Nat.gcd m n : Nat)) ∧ M' = M) := by
  refine RX7_greatestCommon (fun M' x4 x6 x8 => M' = M ∧ ∃ a b s : Nat, x4 = a ∧ x6 = b ∧ x8 = s ∧ s ≤ 200 ∧ 0 < a ∧ a < 2 ^ 62 ∧ b < 2 ^ 62 ∧ Nat.gcd a b = Nat.gcd m n ∧ (s = 0 ∨ b < a) ∧ a * b * 2 ^ (s - 1) ≤ 2 ^ 124) (fun _ _ _ x8 => (200 - x8).toNat) ?_ ?_
  · exact ⟨rfl, m, n, 0, rfl, rfl, rfl, by omega, hm0, hm, hn, rfl, Or.inl rfl, by
      have := Nat.mul_le_mul (Nat.le_of_lt hm) (Nat.le_of_lt hn)
      simpa using this⟩
  · rintro M' _ _ _ ⟨rfl, a, b, s, rfl, rfl, rfl, hs, ha0, ha, hb, hg, hlt, hp⟩
    unfold VX7_greatestCommon_9
    refine ⟨by unfold R32; omega, fun c => ⟨?_, rfl⟩, fun c => ⟨by unfold R64; omega, fun c2 => ⟨?_, rfl⟩, fun c2 => ⟨by unfold R64; omega, by unfold R64; omega, by omega, ?_⟩⟩⟩
    · have hs2 : s = 200 := by omega
      subst hs2
      have hb0 : b = 0 := by
        apply Decidable.byContradiction
        intro hb1
        have h1 : 1 ≤ a * b := Nat.mul_pos ha0 (by omega)
        have h2 : 1 * 2 ^ (200 - 1) ≤ a * b * 2 ^ (200 - 1) := Nat.mul_le_mul_right _ h1
        have h3 := Nat.le_trans h2 hp
        exact absurd h3 (by decide)
      subst hb0
      rw [← hg, Nat.gcd_zero_right]
    · have hb0 : b = 0 := by omega
      subst hb0
      rw [← hg, Nat.gcd_zero_right]
    · have hb0 : 0 < b := by omega
      intro y1 hy1 y3 hy3
      have e1 : y1 = ((a % b : Nat) : Int) := by
        rw [hy1, Int.tmod_eq_emod_of_nonneg (by omega)]
        rfl
      have hr : a % b < b := Nat.mod_lt _ hb0
      have hra : a % b ≤ a := Nat.mod_le _ _
      refine ⟨⟨rfl, b, a % b, s + 1, rfl, e1, by rw [hy3]; rfl, by omega, hb0, hb, by omega, ?_, Or.inr hr, ?_⟩, by omega⟩
      · rw [← hg, Nat.gcd_comm a b, Nat.gcd_rec b a, Nat.gcd_comm]
      · rw [Nat.add_sub_cancel]
        rcases hlt with h0 | hlt
        · subst h0
          have : b * (a % b) ≤ a * b := by rw [Nat.mul_comm a b]; exact Nat.mul_le_mul_left _ hra
          simpa using Nat.le_trans this (by simpa using hp)
        · by_cases h0 : s = 0
          · subst h0
            have : b * (a % b) ≤ a * b := by rw [Nat.mul_comm a b]; exact Nat.mul_le_mul_left _ hra
            simpa using Nat.le_trans this (by simpa using hp)
          · obtain ⟨t, rfl⟩ : ∃ t, s = t + 1 := ⟨s - 1, by omega⟩
            have h2 : 2 * (a % b) ≤ a := by
              have := Nat.div_add_mod a b
              have hq : 1 ≤ a / b := (Nat.one_le_div_iff hb0).mpr (by omega)
              have h3 : b * 1 ≤ b * (a / b) := Nat.mul_le_mul_left _ hq
              omega
            have h4 : b * (a % b) * 2 ^ (t + 1) = b * (2 * (a % b)) * 2 ^ t := by
              rw [Nat.pow_succ]
              simp only [Nat.mul_comm, Nat.mul_left_comm, Nat.mul_assoc]
            rw [h4]
            refine Nat.le_trans (Nat.mul_le_mul_right _ (Nat.mul_le_mul_left _ h2)) ?_
            rw [Nat.mul_comm b a]
            simpa using hp
theorem lcm_e {m n : Nat} : m / Nat.gcd m n * n = Nat.lcm m n := by
  rw [Nat.lcm, Nat.div_mul_right_comm (Nat.gcd_dvd_left m n)]
theorem c_lcm {m n : Nat} (hm0 : 0 < m) (hn0 : 0 < n) (hm : m < 2 ^ 62) (hn : n < 2 ^ 62) : Con E l 2 qX7_leastCommon [vj m, vj n] M (fun r M' => r = some (vj (Nat.lcm m n : Nat)) ∧ M' = M) := by
  refine RX7_leastCommon ?_
  unfold VX7_leastCommon_0
  have hg0 : 0 < Nat.gcd m n := Nat.gcd_pos_of_pos_left _ hm0
  have hg1 : Nat.gcd m n ≤ m := Nat.le_of_dvd hm0 (Nat.gcd_dvd_left m n)
  refine (c_gcd hm0 hm hn).fn ⟨_, rfl, ?_⟩
  refine (c_quotient (by unfold R64; omega) (by unfold R64; omega) (by omega)).fn ⟨_, rfl, ?_, rfl⟩
  have e1 : Int.tdiv (m : Int) (Nat.gcd m n : Nat) = ((m / Nat.gcd m n : Nat) : Int) := by
    rw [Int.tdiv_eq_ediv_of_nonneg (by omega)]
    rfl
  rw [e1, ← Int.natCast_mul, lcm_e]
end
