/-! the bytes of a long -/
theorem sm63 : ∀ n, n < 64 → (((Int32.ofInt (n : Nat)).toInt64 &&& 63).toBitVec.smod 64).toNat = n := by decide +kernel
theorem um63 : ∀ n, n < 64 → (((Int32.ofInt (n : Nat)).toInt64.toUInt64 &&& Int64.toUInt64 63).toBitVec.umod 64).toNat = n := by decide +kernel
theorem ti_64 {v : Int} (h : R64 v) : (Int64.ofInt v).toInt = v := Int64.toInt_ofInt_of_le h.1 (by have := h.2; omega)
theorem jshr_nat {v : Int} {k : Nat} (hv : R64 v) (hk : k < 64) : jshr v k = v / 2 ^ k := by
  have h1 := sm63 k hk
  unfold jshr
  show ((Int64.ofInt v).toBitVec.sshiftRight' (((Int32.ofInt (k : Nat)).toInt64 &&& 63).toBitVec.smod 64)).toInt = _
  rw [BitVec.toInt_sshiftRight', h1]
  show (Int64.ofInt v).toInt >>> k = _
  rw [ti_64 hv, Int.shiftRight_eq_div_pow]
  rfl
theorem jand_255 {z : Int} (hz : R64 z) : jand z 255 = z % 256 := by
  unfold jand
  have e : (Int64.ofInt z &&& Int64.ofInt 255).toBitVec.toNat = (z % 256).toNat := by
    show ((Int64.ofInt z).toBitVec &&& (255#64)).toNat = _
    rw [BitVec.toNat_and]
    show (BitVec.ofInt 64 z).toNat &&& (2 ^ 8 - 1) = _
    rw [Nat.and_two_pow_sub_one_eq_mod, BitVec.toNat_ofInt]
    omega
  have e2 : (Int64.ofInt z &&& Int64.ofInt 255).toInt = (((Int64.ofInt z &&& Int64.ofInt 255).toBitVec.toNat : Nat) : Int) := by
    show (Int64.ofInt z &&& Int64.ofInt 255).toBitVec.toInt = _
    rw [BitVec.toInt_eq_toNat_of_lt]
    rw [e]
    omega
  rw [e2, e]
  omega
def byt (v : Int) (i : Nat) : Nat := (v / 2 ^ (8 * i) % 256).toNat
theorem byt_lt (v : Int) (i : Nat) : byt v i < 256 := by unfold byt; omega
theorem byt_m {v : Int} {i : Nat} (hv : R64 v) (hi : i < 8) : jand (jshr v (8 * (i : Int))) 255 = (byt v i : Int) := by
  rw [show 8 * (i : Int) = ((8 * i : Nat) : Int) by omega, jshr_nat hv (by omega), jand_255]
  · unfold byt
    omega
  · have h1 : (1 : Int) ≤ 2 ^ (8 * i) := by
      have := Nat.one_le_two_pow (n := 8 * i)
      have h2 : ((2 ^ (8 * i) : Nat) : Int) = 2 ^ (8 * i) := by rw [Int.natCast_pow]; rfl
      omega
    generalize (2 : Int) ^ (8 * i) = B at h1
    refine ⟨(Int.le_ediv_iff_mul_le (by omega)).mpr ?_, Int.lt_add_one_iff.mp ((Int.ediv_lt_iff_lt_mul (by omega)).mpr ?_)⟩
    · have h2 : -9223372036854775808 * B ≤ -9223372036854775808 * 1 := Int.mul_le_mul_of_nonpos_left (by decide) h1
      have := hv.1
      omega
    · have h2 : (9223372036854775807 + 1) * 1 ≤ (9223372036854775807 + 1) * B := Int.mul_le_mul_of_nonneg_left h1 (by decide)
      have := hv.2
      omega
theorem iand_255 (a : Int) : iand a 255 = (((Int32.ofInt a).toBitVec.toNat % 256 : Nat) : Int) := by
  unfold iand
  have e : (Int32.ofInt a &&& Int32.ofInt 255).toBitVec.toNat = (Int32.ofInt a).toBitVec.toNat % 256 := by
    show ((Int32.ofInt a).toBitVec &&& (255#32)).toNat = _
    rw [BitVec.toNat_and]
    show (Int32.ofInt a).toBitVec.toNat &&& (2 ^ 8 - 1) = _
    rw [Nat.and_two_pow_sub_one_eq_mod]
  have e2 : (Int32.ofInt a &&& Int32.ofInt 255).toInt = (((Int32.ofInt a &&& Int32.ofInt 255).toBitVec.toNat : Nat) : Int) := by
    show (Int32.ofInt a &&& Int32.ofInt 255).toBitVec.toInt = _
    rw [BitVec.toInt_eq_toNat_of_lt]
    rw [e]
    omega
  rw [e2, e]
theorem low_64 (X : BitVec 64) : (BitVec.ofInt 32 X.toInt).toNat % 256 = X.toNat % 256 := by
  rw [BitVec.toNat_ofInt, BitVec.toInt_eq_toNat_cond]
  have := X.isLt
  split <;> omega
theorem byt_c {v : Int} {i : Nat} (hi : i < 8) : iand (w32 (jushr v (8 * (i : Int)))) 255 = (byt v i : Int) := by
  rw [show 8 * (i : Int) = ((8 * i : Nat) : Int) by omega]
  have h1 := um63 (8 * i) (by omega)
  have e1 : (((Int64.ofInt v).toUInt64 >>> ((Int32.ofInt ((8 * i : Nat) : Int)).toInt64.toUInt64 &&& Int64.toUInt64 63)).toInt64).toBitVec.toNat = (v % 2 ^ 64).toNat / 2 ^ (8 * i) := by
    show ((Int64.ofInt v).toBitVec >>> (((Int32.ofInt ((8 * i : Nat) : Int)).toInt64.toUInt64 &&& Int64.toUInt64 63).toBitVec.umod 64)).toNat = _
    rw [BitVec.ushiftRight_eq', BitVec.toNat_ushiftRight, h1, Nat.shiftRight_eq_div_pow]
    show (BitVec.ofInt 64 v).toNat / _ = _
    rw [BitVec.toNat_ofInt]
    rfl
  rw [iand_255]
  unfold w32
  rw [Int32.ofInt_toInt]
  show (((BitVec.ofInt 32 ((((Int64.ofInt v).toUInt64 >>> ((Int32.ofInt ((8 * i : Nat) : Int)).toInt64.toUInt64 &&& Int64.toUInt64 63)).toInt64).toBitVec.toInt)).toNat % 256 : Nat) : Int) = _
  rw [low_64, e1]
  unfold byt
  obtain ⟨q, hq⟩ : ∃ q, q = v % 2 ^ 64 := ⟨_, rfl⟩
  rw [← hq]
  rcases (show i = 0 ∨ i = 1 ∨ i = 2 ∨ i = 3 ∨ i = 4 ∨ i = 5 ∨ i = 6 ∨ i = 7 by omega) with rfl | rfl | rfl | rfl | rfl | rfl | rfl | rfl <;> simp only [Nat.reduceMul, Nat.reducePow, Int.reducePow] at * <;> omega
/-- the byte as an int -/
theorem w32_byt {v : Int} {i : Nat} : w32 (byt v i : Int) = (byt v i : Int) := w32_eq (by have := byt_lt v i; unfold R32; omega)
