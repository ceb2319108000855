def lastF (f : Nat → Nat) (x : Nat) : Nat → Nat
  | 0 => 0
  | n + 1 => max (lastF f x n) (x / f n * f n)
def fstF (f : Nat → Nat) (x : Nat) : Nat → Nat
  | 0 => 4611686018427387904
  | n + 1 => min (fstF f x n) ((x + f n - 1) / f n * f n)
def manyF (f : Nat → Nat) (x : Nat) : Nat → Nat
  | 0 => 0
  | n + 1 => manyF f x n + x / f n
def manyT (n : Nat) (f : Nat → Nat) (g x : Nat) : Int := (manyF f x n : Int) - ((n : Int) - 1) * ((x / g : Nat) : Int)
theorem lastF_le (f : Nat → Nat) (x : Nat) : ∀ n, lastF f x n ≤ x
  | 0 => Nat.zero_le _
  | n + 1 => by
    have := lastF_le f x n
    have h2 : x / f n * f n ≤ x := Nat.div_mul_le_self x (f n)
    unfold lastF
    omega
theorem manyF_le (f : Nat → Nat) (x : Nat) : ∀ n, manyF f x n ≤ n * x
  | 0 => Nat.zero_le _
  | n + 1 => by
    have := manyF_le f x n
    have h2 : x / f n ≤ x := Nat.div_le_self _ _
    unfold manyF
    rw [Nat.succ_mul]
    omega
theorem td_nat (a b : Nat) : Int.tdiv (a : Int) (b : Int) = ((a / b : Nat) : Int) := by
  rw [Int.tdiv_eq_ediv_of_nonneg (by omega)]
  rfl
section
variable {E : FX} {l : Launch} {M : MM}
theorem c_lastTo {n g x : Nat} {f : Nat → Nat} (hs : StpOk n f g) (hk : MkC M n f g) (hx : x < 2 ^ 62) : Con E l 2 qX6_lastTo [vr 37, vj x] M (fun r M' => r = some (vj (lastF f x n : Nat)) ∧ M' = M) := by
  have hn : n ≤ 3 := by rcases hs.1 with h | h <;> omega
  refine RX6_lastTo (by decide) (fun M' x1 x3 x5 => M' = M ∧ ∃ k : Nat, x1 = x ∧ x3 = (lastF f x k : Nat) ∧ x5 = k ∧ k ≤ n) (fun _ _ _ x5 => (3 - x5).toNat) ?_ ?_
  · exact ⟨rfl, 0, rfl, rfl, rfl, by omega⟩
  · rintro M' _ _ _ ⟨rfl, k, rfl, rfl, rfl, hkn⟩
    unfold VX6_lastTo_5
    rw [hk.1]
    refine ⟨by unfold R32; omega, by unfold R32; omega, fun c => ⟨by rw [show k = n by omega], rfl⟩, fun c => ?_⟩
    have hkn2 : k < n := by omega
    obtain ⟨f0, f1, f2⟩ := hs.2.1 k hkn2
    have hl := lastF_le f x k
    have hm : x / f k * f k ≤ x := Nat.div_mul_le_self x (f k)
    refine (c_atj_in (n := 3) rfl (by omega) (by omega)).fn ⟨_, rfl, ?_⟩
    rw [Int.toNat_natCast, hk.2.2 k hkn2]
    refine (c_quotient (by unfold R64; omega) (by unfold R64; omega) (by omega)).fn ⟨_, rfl, ?_⟩
    rw [td_nat, ← Int.natCast_mul]
    refine ⟨by unfold R64; omega, by unfold R64; omega, fun y9 h9 y11 h11 => ⟨⟨rfl, k + 1, rfl, ?_, by omega, by omega⟩, by omega⟩⟩
    rw [h9]
    show _ = ((max (lastF f x k) (x / f k * f k) : Nat) : Int)
    split <;> omega
theorem c_below {n g x : Nat} {f : Nat → Nat} (hs : StpOk n f g) (hk : MkM M n f g) (hx : x < 2 ^ 62) : Con E l 2 qX12_below [vr 44, vj x] M (fun r M' => r = some (vj (lastF f x n : Nat)) ∧ M' = M) := by
  have hn : n ≤ 3 := by rcases hs.1 with h | h <;> omega
  refine RX12_below (fun M' x1 x3 x5 => M' = M ∧ ∃ k : Nat, x1 = x ∧ x3 = (lastF f x k : Nat) ∧ x5 = k ∧ k ≤ n) (fun _ _ _ x5 => (3 - x5).toNat) ?_ ?_
  · exact ⟨rfl, 0, rfl, rfl, rfl, by omega⟩
  · rintro M' _ _ _ ⟨rfl, k, rfl, rfl, rfl, hkn⟩
    unfold VX12_below_5
    rw [hk.1]
    refine ⟨by unfold R32; omega, by unfold R32; omega, fun c => ⟨by rw [show k = n by omega], rfl⟩, fun c => ?_⟩
    have hkn2 : k < n := by omega
    obtain ⟨f0, f1, f2⟩ := hs.2.1 k hkn2
    have hl := lastF_le f x k
    have hm : x / f k * f k ≤ x := Nat.div_mul_le_self x (f k)
    rw [Int.toNat_natCast, hk.2.2 k hkn2, td_nat, ← Int.natCast_mul]
    refine ⟨by omega, by omega, by unfold R64; omega, by unfold R64; omega, by omega, by omega, by omega, (c_greater (by unfold R64; omega) (by unfold R64; omega)).fn ⟨_, rfl, fun y6 h6 => ⟨⟨rfl, k + 1, rfl, ?_, by omega, by omega⟩, by omega⟩⟩⟩
    show _ = ((max (lastF f x k) (x / f k * f k) : Nat) : Int)
    split <;> omega
theorem fst_b {f x : Nat} (hf : 0 < f) (hf2 : f < 1000000000) (hx : x < 2 ^ 40) : (x + f - 1) / f * f ≤ x + f - 1 ∧ x + f - 1 < 2 ^ 41 := by
  refine ⟨Nat.div_mul_le_self _ _, by omega⟩
theorem c_firstFrom {n g x : Nat} {f : Nat → Nat} (hs : StpOk n f g) (hk : MkC M n f g) (hx : x < 2 ^ 40) : Con E l 2 qX6_firstFrom [vr 37, vj x] M (fun r M' => r = some (vj (fstF f x n : Nat)) ∧ M' = M) := by
  have hn : n ≤ 3 := by rcases hs.1 with h | h <;> omega
  refine RX6_firstFrom (by decide) (fun M' x1 x3 x5 => M' = M ∧ ∃ k : Nat, x1 = x ∧ x3 = (fstF f x k : Nat) ∧ x5 = k ∧ k ≤ n ∧ fstF f x k ≤ 4611686018427387904) (fun _ _ _ x5 => (3 - x5).toNat) ?_ ?_
  · exact ⟨rfl, 0, rfl, rfl, rfl, by omega, Nat.le_refl _⟩
  · rintro M' _ _ _ ⟨rfl, k, rfl, rfl, rfl, hkn, hb⟩
    unfold VX6_firstFrom_7
    rw [hk.1]
    refine ⟨by unfold R32; omega, by unfold R32; omega, fun c => ⟨by rw [show k = n by omega], rfl⟩, fun c => ?_⟩
    have hkn2 : k < n := by omega
    obtain ⟨f0, f1, f2⟩ := hs.2.1 k hkn2
    obtain ⟨b1, b2⟩ := fst_b f0 f1 hx
    refine (c_atj_in (n := 3) rfl (by omega) (by omega)).fn ⟨_, rfl, ?_⟩
    rw [Int.toNat_natCast, hk.2.2 k hkn2]
    rw [show ((x : Int) + (f k : Int)) - 1 = ((x + f k - 1 : Nat) : Int) by omega]
    refine (c_quotient (by unfold R64; omega) (by unfold R64; omega) (by omega)).fn ⟨_, rfl, ?_⟩
    rw [td_nat, ← Int.natCast_mul]
    refine ⟨by unfold R64; omega, by unfold R64; omega, fun y9 h9 y11 h11 => ⟨⟨rfl, k + 1, rfl, ?_, by omega, by omega, ?_⟩, by omega⟩⟩
    · rw [h9]
      show _ = ((min (fstF f x k) ((x + f k - 1) / f k * f k) : Nat) : Int)
      split <;> omega
    · show min (fstF f x k) ((x + f k - 1) / f k * f k) ≤ _
      omega
theorem c_above {n g x : Nat} {f : Nat → Nat} (hs : StpOk n f g) (hk : MkM M n f g) (hx : x < 2 ^ 40) : Con E l 2 qX12_above [vr 44, vj x] M (fun r M' => r = some (vj (fstF f x n : Nat)) ∧ M' = M) := by
  have hn : 1 ≤ n ∧ n ≤ 3 := by rcases hs.1 with h | h <;> omega
  obtain ⟨z0, z1, z2⟩ := hs.2.1 0 (by omega)
  obtain ⟨y1, y2⟩ := fst_b z0 z1 hx
  refine RX12_above (fun M' x1 x3 x5 => M' = M ∧ ∃ k : Nat, x1 = x ∧ x3 = (fstF f x k : Nat) ∧ x5 = k ∧ k ≤ n ∧ fstF f x k ≤ 2 ^ 41) (fun _ _ _ x5 => (3 - x5).toNat) ?_ ?_
  · unfold VX12_above_0
    rw [hk.2.2 0 (by omega), show ((x : Int) + (f 0 : Int)) - 1 = ((x + f 0 - 1 : Nat) : Int) by omega, td_nat, ← Int.natCast_mul]
    refine ⟨by unfold R64; omega, by unfold R64; omega, by omega, fun y h => ⟨rfl, 1, rfl, ?_, rfl, by omega, ?_⟩⟩
    · rw [h]
      show _ = ((min 4611686018427387904 ((x + f 0 - 1) / f 0 * f 0) : Nat) : Int)
      omega
    · show min 4611686018427387904 ((x + f 0 - 1) / f 0 * f 0) ≤ _
      omega
  · rintro M' _ _ _ ⟨rfl, k, rfl, rfl, rfl, hkn, hb⟩
    unfold VX12_above_28
    rw [hk.1]
    refine ⟨by unfold R32; omega, by unfold R32; omega, fun c => ⟨by rw [show k = n by omega], rfl⟩, fun c => ?_⟩
    have hkn2 : k < n := by omega
    obtain ⟨f0, f1, f2⟩ := hs.2.1 k hkn2
    obtain ⟨b1, b2⟩ := fst_b f0 f1 hx
    rw [Int.toNat_natCast, hk.2.2 k hkn2, show ((x : Int) + (f k : Int)) - 1 = ((x + f k - 1 : Nat) : Int) by omega, td_nat, ← Int.natCast_mul]
    refine ⟨by omega, by omega, by omega, by omega, by unfold R64; omega, by unfold R64; omega, by omega, by omega, by omega, (c_lesser (by unfold R64; omega) (by unfold R64; omega)).fn ⟨_, rfl, fun y8 h8 => ⟨⟨rfl, k + 1, rfl, ?_, by omega, by omega, ?_⟩, by omega⟩⟩⟩
    · show _ = ((min (fstF f x k) ((x + f k - 1) / f k * f k) : Nat) : Int)
      split <;> omega
    · show min (fstF f x k) ((x + f k - 1) / f k * f k) ≤ _
      omega
theorem c_howManyTo {n g x : Nat} {f : Nat → Nat} (hs : StpOk n f g) (hk : MkC M n f g) (hx : x < 2 ^ 60) : Con E l 2 qX6_howManyTo [vr 37, vj x] M (fun r M' => r = some (vj (manyT n f g x)) ∧ M' = M) := by
  have hn : n ≤ 3 := by rcases hs.1 with h | h <;> omega
  refine RX6_howManyTo (fun M' x1 x3 x5 => M' = M ∧ ∃ k : Nat, x1 = x ∧ x3 = (manyF f x k : Nat) ∧ x5 = k ∧ k ≤ n) (fun _ _ _ x5 => (3 - x5).toNat) ?_ ?_
  · exact ⟨rfl, 0, rfl, rfl, rfl, by omega⟩
  · rintro M' _ _ _ ⟨rfl, k, rfl, rfl, rfl, hkn⟩
    unfold VX6_howManyTo_5
    rw [hk.1, hk.2.1]
    refine ⟨by unfold R32; omega, by unfold R32; omega, fun c => ⟨by unfold R32; omega, ?_⟩, fun c => ?_⟩
    · have hg := hs.2.2
      refine (c_quotient (by unfold R64; omega) (by unfold R64; omega) (by omega)).fn ⟨_, rfl, ?_, rfl⟩
      rw [td_nat, show k = n by omega]
      rfl
    · have hkn2 : k < n := by omega
      obtain ⟨f0, f1, f2⟩ := hs.2.1 k hkn2
      refine (c_atj_in (n := 3) rfl (by omega) (by omega)).fn ⟨_, rfl, ?_⟩
      rw [Int.toNat_natCast, hk.2.2 k hkn2]
      refine (c_quotient (by unfold R64; omega) (by unfold R64; omega) (by omega)).fn ⟨_, rfl, ?_⟩
      rw [td_nat]
      exact fun y12 h12 y14 h14 => ⟨⟨rfl, k + 1, rfl, by rw [h12]; rfl, by omega, by omega⟩, by omega⟩
theorem c_manyUpTo {n g x : Nat} {f : Nat → Nat} (hs : StpOk n f g) (hk : MkM M n f g) (hx : x < 2 ^ 60) : Con E l 2 qX12_manyUpTo [vr 44, vj x] M (fun r M' => r = some (vj (manyT n f g x)) ∧ M' = M) := by
  have hn : n ≤ 3 := by rcases hs.1 with h | h <;> omega
  have hg := hs.2.2
  refine (RX12_manyUpTo (D := 1) (fun M' x1 x3 x5 => M' = M ∧ ∃ k : Nat, x1 = x ∧ x3 = (manyF f x k : Nat) ∧ x5 = k ∧ k ≤ n) (fun _ _ _ x5 => (3 - x5).toNat) ?_ ?_)
  · exact ⟨rfl, 0, rfl, rfl, rfl, by omega⟩
  · rintro M' _ _ _ ⟨rfl, k, rfl, rfl, rfl, hkn⟩
    unfold VX12_manyUpTo_5 VX12_manyUpTo_56
    rw [hk.1, hk.2.1]
    refine ⟨by unfold R32; omega, by unfold R32; omega, fun c => ⟨by unfold R32; omega, fun c2 => ⟨by unfold R64; omega, by unfold R64; omega, by omega, ?_, rfl⟩, fun c2 => ⟨?_, rfl⟩⟩, fun c => ?_⟩
    · rw [td_nat, show k = n by omega]
      have h3 : n = 3 := by rcases hs.1 with h | h <;> omega
      subst h3
      rfl
    · have h1 : n = 1 := by omega
      subst h1
      have hk1 : k = 1 := by omega
      subst hk1
      show _ = some (vj ((manyF f x 1 : Int) - (((1 : Nat) : Int) - 1) * _))
      rw [show (((1 : Nat) : Int) - 1) = 0 by omega, Int.zero_mul, Int.sub_zero]
    · have hkn2 : k < n := by omega
      obtain ⟨f0, f1, f2⟩ := hs.2.1 k hkn2
      rw [Int.toNat_natCast, hk.2.2 k hkn2, td_nat]
      exact ⟨by omega, by omega, by unfold R64; omega, by unfold R64; omega, by omega, fun y12 h12 y14 h14 => ⟨⟨rfl, k + 1, rfl, by rw [h12]; rfl, by omega, by omega⟩, by omega⟩⟩
theorem c_areMetAt {n g x : Nat} {f : Nat → Nat} (hs : StpOk n f g) (hk : MkC M n f g) (hx : x < 2 ^ 62) : Con E l 3 qX6_areMetAt [vr 37, vj x] M (fun r M' => r = some (vi (b01 (0 < x ∧ lastF f x n = x))) ∧ M' = M) := by
  refine RX6_areMetAt ?_
  unfold VX6_areMetAt_0 VX6_areMetAt_21
  have hl := lastF_le f x n
  refine ⟨by unfold R64; omega, fun c => ⟨Or.inl rfl, by rw [b01, if_neg (by omega)], rfl⟩, fun c => (c_lastTo hs hk hx).fn ⟨_, rfl, by unfold R64; omega, by unfold R64; omega, fun c2 => ⟨Or.inl rfl, by rw [b01, if_neg (by omega)], rfl⟩, fun c2 => ⟨Or.inr rfl, by rw [b01, if_pos (by omega)], rfl⟩⟩⟩
end
