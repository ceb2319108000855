/-! CONTRACTS: Numbers -/
section
variable {E : FX} {l : Launch} {M : MM}
theorem c_at {k n : Nat} {i : Int} (hk : kd k = (0, n)) (hi : R32 i) : Con E l 1 qX7_at [vr k, vi i] M (fun r M' => r = some (vi (if 0 ≤ i ∧ i < n then M k i.toNat else 0)) ∧ M' = M) := by
  have hn := kd_n hk (by decide)
  refine RX7_at ?_
  unfold VX7_at_0 VX7_at_17
  refine ⟨hi, fun c => ⟨?_, rfl⟩, fun c => ⟨0, n, hk, by decide, hi, by unfold R32; omega, fun c2 => ⟨?_, rfl⟩, fun c2 => ⟨n, hk, by omega, by omega, ?_, rfl⟩⟩⟩
  · rw [if_neg (by omega)]
  · rw [if_neg (by omega)]
  · rw [if_pos (by omega)]
theorem c_at_in {k n : Nat} {i : Int} (hk : kd k = (0, n)) (h0 : 0 ≤ i) (h1 : i < n) : Con E l 1 qX7_at [vr k, vi i] M (fun r M' => r = some (vi (M k i.toNat)) ∧ M' = M) := by
  have hn := kd_n hk (by decide)
  have h := c_at (E := E) (l := l) (M := M) hk (i := i) (by unfold R32; omega)
  rw [if_pos ⟨h0, h1⟩] at h
  exact h
theorem c_atj {k n : Nat} {i : Int} (hk : kd k = (1, n)) (hi : R32 i) : Con E l 1 qX7_at_ [vr k, vi i] M (fun r M' => r = some (vj (if 0 ≤ i ∧ i < n then M k i.toNat else 0)) ∧ M' = M) := by
  have hn := kd_n hk (by decide)
  refine RX7_at_ ?_
  unfold VX7_at__0 VX7_at__17
  refine ⟨hi, fun c => ⟨?_, rfl⟩, fun c => ⟨1, n, hk, by decide, hi, by unfold R32; omega, fun c2 => ⟨?_, rfl⟩, fun c2 => ⟨n, hk, by omega, by omega, ?_, rfl⟩⟩⟩
  · rw [if_neg (by omega)]
  · rw [if_neg (by omega)]
  · rw [if_pos (by omega)]
theorem c_atj_in {k n : Nat} {i : Int} (hk : kd k = (1, n)) (h0 : 0 ≤ i) (h1 : i < n) : Con E l 1 qX7_at_ [vr k, vi i] M (fun r M' => r = some (vj (M k i.toNat)) ∧ M' = M) := by
  have hn := kd_n hk (by decide)
  have h := c_atj (E := E) (l := l) (M := M) hk (i := i) (by unfold R32; omega)
  rw [if_pos ⟨h0, h1⟩] at h
  exact h
theorem c_put {k n : Nat} {i v : Int} (hk : kd k = (0, n)) (h0 : 0 ≤ i) (h1 : i < n) : Con E l 1 qX7_put [vr k, vi i, vi v] M (fun r M' => r = none ∧ M' = up M k i.toNat v) := by
  have hn := kd_n hk (by decide)
  refine RX7_put ?_
  unfold VX7_put_0 VX7_put_14
  exact ⟨by unfold R32; omega, fun c => by omega, fun c => ⟨0, n, hk, by decide, by unfold R32; omega, by unfold R32; omega, fun c2 => by omega, fun c2 => ⟨n, hk, by omega, by omega, fun M4 e => ⟨rfl, e⟩⟩⟩⟩
theorem c_putj {k n : Nat} {i v : Int} (hk : kd k = (1, n)) (h0 : 0 ≤ i) (h1 : i < n) : Con E l 1 qX7_put_ [vr k, vi i, vj v] M (fun r M' => r = none ∧ M' = up M k i.toNat v) := by
  have hn := kd_n hk (by decide)
  refine RX7_put_ ?_
  unfold VX7_put__0 VX7_put__14
  exact ⟨by unfold R32; omega, fun c => by omega, fun c => ⟨1, n, hk, by decide, by unfold R32; omega, by unfold R32; omega, fun c2 => by omega, fun c2 => ⟨n, hk, by omega, by omega, fun M4 e => ⟨rfl, e⟩⟩⟩⟩
theorem c_fill {k k2 n : Nat} (hk : kd k = (0, n)) (hk2 : kd k2 = (0, n)) : Con E l 2 qX7_fill [vr k, vr k2] M (fun r M' => r = none ∧ M' = cpM M k2 0 k 0 n) := by
  have hn := kd_n hk (by decide)
  refine RX7_fill (by decide) ?_
  unfold VX7_fill_0
  refine ⟨0, n, hk2, by decide, 0, n, hk, by decide, by unfold R32; omega, by unfold R32; omega, fun y hy => ⟨n, hk2, n, hk, ?_, ?_, ?_, fun M9 e => ⟨rfl, ?_⟩⟩⟩
  · subst hy; split <;> omega
  · subst hy; split <;> omega
  · subst hy; split <;> omega
  · have e2 : y.toNat = n := by subst hy; split <;> omega
    rw [e, e2]
theorem c_quotient {a b : Int} (ha : R64 a) (hb : R64 b) (hb0 : 0 < b) : Con E l 1 qX7_quotient [vj a, vj b] M (fun r M' => r = some (vj (a.tdiv b)) ∧ M' = M) := by
  refine RX7_quotient ?_
  unfold VX7_quotient_0 VX7_quotient_13
  exact ⟨hb, fun c => ⟨ha, hb, hb0, rfl, rfl⟩, fun c => by omega⟩
theorem c_divides {a b : Int} (ha : R64 a) (ha0 : 0 < a) (hb : R64 b) (hb0 : 0 ≤ b) : Con E l 1 qX7_divides [vj a, vj b] M (fun r M' => r = some (vi (if b % a = 0 then 1 else 0)) ∧ M' = M) := by
  have e : b.tmod a = b % a := Int.tmod_eq_emod_of_nonneg hb0
  have h1 := Int.emod_nonneg b (show a ≠ 0 by omega)
  have h2 := Int.emod_lt_of_pos b ha0
  refine RX7_divides ?_
  unfold VX7_divides_0 VX7_divides_19
  rw [e]
  refine ⟨ha, fun c => by omega, fun c => ⟨hb, ha, ha0, by unfold R64 at *; omega, fun c2 => ⟨Or.inl rfl, ?_, rfl⟩, fun c2 => ⟨Or.inr rfl, ?_, rfl⟩⟩⟩
  · rw [if_neg c2]
  · rw [if_pos c2]
end
