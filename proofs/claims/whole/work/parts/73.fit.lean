/-! fit: divisors, pairs -/
def gcdF (f : Nat → Int) (i : Nat) : Nat → Nat
  | 0 => 0
  | n + 1 => Nat.gcd (f (i + n)).toNat (gcdF f i n)
theorem gcdF_s (f : Nat → Int) (i n : Nat) : gcdF f i (n + 1) = Nat.gcd (f (i + n)).toNat (gcdF f i n) := rfl
abbrev flOk (f : Nat → Int) (i n : Nat) : Prop := ∀ j, j < n → 1 ≤ f (i + j) ∧ f (i + j) ≤ 999999
theorem gcdF_b {f : Nat → Int} {i : Nat} : ∀ n, flOk f i n → gcdF f i n ≤ 999999 ∧ (1 ≤ n → 1 ≤ gcdF f i n)
  | 0, _ => ⟨Nat.zero_le _, fun h => by omega⟩
  | n + 1, h => by
    have h1 := h n (by omega)
    have h2 : 0 < (f (i + n)).toNat := by omega
    have h3 := Nat.gcd_le_left (gcdF f i n) h2
    have h4 := Nat.gcd_pos_of_pos_left (gcdF f i n) h2
    rw [gcdF_s]
    omega
def dv (g v : Nat) : Nat := if g % v = 0 then 1 else 0
theorem dv_01 (g v : Nat) : dv g v = 0 ∨ dv g v = 1 := by
  unfold dv
  split
  · exact Or.inr rfl
  · exact Or.inl rfl
def cN (g : Nat) : Nat → Nat
  | 0 => 0
  | k + 1 => cN g k + dv g (k + 2)
theorem cN_s (g k : Nat) : cN g (k + 1) = cN g k + dv g (k + 2) := rfl
theorem cN_le (g : Nat) : ∀ k, cN g k ≤ k
  | 0 => Nat.le_refl _
  | k + 1 => by
    have := cN_le g k
    have := dv_01 g (k + 2)
    rw [cN_s]
    omega
theorem cN_mono (g : Nat) {k m : Nat} (h : k ≤ m) : cN g k ≤ cN g m := by
  obtain ⟨d, rfl⟩ := Nat.exists_eq_add_of_le h
  clear h
  induction d with
  | zero => exact Nat.le_refl _
  | succ d ih => exact Nat.le_trans ih (Nat.le_add_right _ _)
def pN (g : Nat) : Nat → Nat
  | 0 => 0
  | k + 1 => pN g k + dv g (k + 2) * (cN g 59 - cN g (k + 1))
theorem pN_s (g k : Nat) : pN g (k + 1) = pN g k + dv g (k + 2) * (cN g 59 - cN g (k + 1)) := rfl
theorem pN_e (g : Nat) : ∀ k, k ≤ 58 → 2 * pN g k + cN g k * (cN g k + 1) = 2 * (cN g 59 * cN g k)
  | 0, _ => by simp [pN, cN]
  | k + 1, hk => by
    have ih := pN_e g k (by omega)
    have hm := cN_mono g (k := k + 1) (m := 59) (by omega)
    have hs := cN_s g k
    obtain ⟨d, hd⟩ := Nat.exists_eq_add_of_le hm
    have e : cN g 59 - cN g (k + 1) = d := by omega
    rw [pN_s, e]
    rcases dv_01 g (k + 2) with h | h
    · rw [h] at hs ⊢
      rw [hs, Nat.zero_mul, Nat.add_zero, Nat.add_zero]
      exact ih
    · rw [h] at hs ⊢
      rw [hs] at hd ⊢
      rw [hd] at ih ⊢
      generalize cN g k = c at *
      generalize pN g k = p at *
      simp only [Nat.mul_add, Nat.add_mul, Nat.mul_one, Nat.one_mul, Nat.mul_comm d c] at *
      omega
theorem pN_58 (g : Nat) : Int.tdiv ((cN g 59 : Int) * ((cN g 59 : Int) - 1)) 2 = (pN g 58 : Nat) := by
  have h := pN_e g 58 (by omega)
  have hs : cN g 59 = cN g 58 + dv g 60 := rfl
  have e : (cN g 59 : Int) * ((cN g 59 : Int) - 1) = 2 * (pN g 58 : Nat) := by
    have hn : 2 * pN g 58 + cN g 59 = cN g 59 * cN g 59 := by
      rcases dv_01 g 60 with q | q
      · rw [q] at hs
        rw [show cN g 58 = cN g 59 by omega] at h
        rw [Nat.mul_add] at h
        omega
      · rw [q] at hs
        rw [hs] at h ⊢
        generalize cN g 58 = c at *
        generalize pN g 58 = p at *
        simp only [Nat.mul_add, Nat.add_mul, Nat.mul_one, Nat.one_mul] at *
        omega
    have hi : 2 * (pN g 58 : Int) + (cN g 59 : Int) = (cN g 59 : Int) * (cN g 59 : Int) := by exact_mod_cast hn
    rw [Int.mul_sub]
    omega
  rw [e]
  exact Int.mul_tdiv_cancel_left _ (by decide)
/-- the best pair, b by b, then a by a -/
def bIn (g a : Nat) (z : Int × Nat) : Nat → Int × Nat
  | 0 => z
  | k + 1 => if dv g (a + 1 + k) = 1 ∧ (bIn g a z k).2 < Nat.lcm a (a + 1 + k) then (100 * (a : Int) + ((a + 1 + k : Nat) : Int), Nat.lcm a (a + 1 + k)) else bIn g a z k
theorem bIn_s (g a : Nat) (z : Int × Nat) (k : Nat) : bIn g a z (k + 1) = if dv g (a + 1 + k) = 1 ∧ (bIn g a z k).2 < Nat.lcm a (a + 1 + k) then (100 * (a : Int) + ((a + 1 + k : Nat) : Int), Nat.lcm a (a + 1 + k)) else bIn g a z k := rfl
def bOut (g : Nat) : Nat → Int × Nat
  | 0 => (-4, 0)
  | k + 1 => if dv g (k + 2) = 1 then bIn g (k + 2) (bOut g k) (58 - k) else bOut g k
theorem bOut_s (g k : Nat) : bOut g (k + 1) = if dv g (k + 2) = 1 then bIn g (k + 2) (bOut g k) (58 - k) else bOut g k := rfl
theorem lcm_60 {a b : Nat} (ha : 0 < a) (ha2 : a ≤ 60) (hb : 0 < b) (hb2 : b ≤ 60) : 0 < Nat.lcm a b ∧ Nat.lcm a b ≤ 3600 := lcm_b ha hb ha2 hb2
theorem bIn_b {g a : Nat} {z : Int × Nat} (ha : 0 < a) (hz : z.2 ≤ 3600) : ∀ k, a + k ≤ 60 → (bIn g a z k).2 ≤ 3600
  | 0, _ => hz
  | k + 1, hk => by
    rw [bIn_s]
    split
    · exact (lcm_60 ha (by omega) (by omega) (by omega)).2
    · exact bIn_b ha hz k (by omega)
theorem bOut_b (g : Nat) : ∀ k, k ≤ 58 → (bOut g k).2 ≤ 3600
  | 0, _ => Nat.zero_le _
  | k + 1, hk => by
    have ih := bOut_b g k (by omega)
    rw [bOut_s]
    split
    · exact bIn_b (by omega) ih _ (by omega)
    · exact ih
section
variable {E : FX} {l : Launch} {M : MM} {S : SS} {a b lane n v : Int}
theorem c_div {g v : Nat} (hv : 0 < v) (hv2 : v < 2 ^ 62) (hg : g < 2 ^ 62) : Con E l 1 qX7_divides [vj v, vj g] M (fun r M' => r = some (vi (dv g v : Nat)) ∧ M' = M) := by
  have h := c_divides (E := E) (l := l) (M := M) (a := v) (b := g) (by unfold R64; omega) (by omega) (by unfold R64; omega) (by omega)
  have e : (if (g : Int) % (v : Int) = 0 then (1 : Int) else 0) = ((dv g v : Nat) : Int) := by
    have e0 : (g : Int) % (v : Int) = ((g % v : Nat) : Int) := rfl
    unfold dv
    by_cases c : g % v = 0
    · have q : (g : Int) % (v : Int) = 0 := by rw [e0, c]; rfl
      rw [if_pos q, if_pos c]
      rfl
    · have q : ¬ (g : Int) % (v : Int) = 0 := by rw [e0]; omega
      rw [if_neg q, if_neg c]
      rfl
  rw [e] at h
  exact h
theorem c_howManyFit {g : Nat} (hg : g < 2 ^ 62) : Con E l 2 qX11_howManyFit [vj g] M (fun r M' => r = some (vi (pN g 58 : Nat)) ∧ M' = M) := by
  refine RX11_howManyFit (D := 1) (fun M' x0 x2 x3 => M' = M ∧ x0 = g ∧ ∃ k : Nat, x3 = ((k + 2 : Nat) : Int) ∧ k ≤ 59 ∧ x2 = (cN g k : Nat)) (fun _ _ _ x3 => (70 - x3).toNat) ?_ ?_
  · exact ⟨rfl, rfl, 0, rfl, by omega, rfl⟩
  · rintro M' _ _ _ ⟨rfl, rfl, k, rfl, hk, rfl⟩
    unfold VX11_howManyFit_4
    try unfold VX11_howManyFit_22
    have hc := cN_le g k
    have hb := dv_01 g (k + 2)
    refine ⟨by unfold R32; omega, fun c => ⟨?_, ?_, rfl⟩, fun c => ⟨by unfold R32; omega, (c_div (by omega) (by omega) hg).fn ⟨_, rfl, by unfold R32; omega, fun c2 y10 h10 => ⟨⟨rfl, rfl, k + 1, by omega, by omega, ?_⟩, by omega⟩, fun c2 y12 h12 y1 h1 => ⟨⟨rfl, rfl, k + 1, by omega, by omega, ?_⟩, by omega⟩⟩⟩⟩
    · exact (by decide +kernel : ∀ c : Nat, c < 60 → R32 ((c : Int) * ((c : Int) - 1))) (cN g k) (by omega)
    · rw [show k = 59 by omega, pN_58]
    · rw [cN_s]; omega
    · rw [cN_s]; omega
theorem c_bestFit {g : Nat} (hg : g < 2 ^ 62) : Con E l 3 qX11_bestFit [vj g] M (fun r M' => r = some (vi (bOut g 58).1) ∧ M' = M) := by
  refine RX11_bestFit (D := 2) (fun M' x0 x2 x3 x5 => M' = M ∧ x0 = g ∧ ∃ k : Nat, x5 = ((k + 2 : Nat) : Int) ∧ k ≤ 58 ∧ x2 = (bOut g k).1 ∧ x3 = ((bOut g k).2 : Nat)) (fun _ _ _ _ x5 => ((70 - x5) * 100).toNat)
    (fun M' x0 x2 x3 x5 x6 => M' = M ∧ x0 = g ∧ ∃ k j : Nat, x5 = ((k + 2 : Nat) : Int) ∧ k < 58 ∧ dv g (k + 2) = 1 ∧ x6 = ((k + 2 + 1 + j : Nat) : Int) ∧ j ≤ 58 - k ∧ x2 = (bIn g (k + 2) (bOut g k) j).1 ∧ x3 = ((bIn g (k + 2) (bOut g k) j).2 : Nat)) (fun _ _ _ _ x5 x6 => ((70 - x5) * 100 - x6).toNat) ?_ ?_ ?_
  · exact ⟨rfl, rfl, 0, rfl, by omega, rfl, rfl⟩
  · rintro M' _ _ _ _ ⟨rfl, rfl, k, rfl, hk, rfl, rfl⟩
    unfold VX11_bestFit_8
    try unfold VX11_bestFit_87
    have hb := dv_01 g (k + 2)
    refine ⟨by unfold R32; omega, fun c => ⟨by rw [show k = 58 by omega], rfl⟩, fun c => ⟨by unfold R32; omega, (c_div (by omega) (by omega) hg).fn ⟨_, rfl, by unfold R32; omega, fun c2 y10 h10 => ⟨⟨rfl, rfl, k, 0, rfl, by omega, by omega, by omega, by omega, rfl, rfl⟩, by omega⟩, fun c2 y1 h1 => ⟨⟨rfl, rfl, k + 1, by omega, by omega, ?_, ?_⟩, by omega⟩⟩⟩⟩
    · rw [bOut_s, if_neg (by omega)]
    · rw [bOut_s, if_neg (by omega)]
  · rintro M' _ _ _ _ _ ⟨rfl, rfl, k, j, rfl, hk, hd, rfl, hj, rfl, rfl⟩
    unfold VX11_bestFit_34
    try unfold VX11_bestFit_81
    have hb := dv_01 g (k + 2 + 1 + j)
    have hz := bIn_b (g := g) (a := k + 2) (by omega) (bOut_b g k (by omega)) j (by omega)
    refine ⟨by unfold R32; omega, fun c y16 h16 => ⟨⟨rfl, rfl, k + 1, by omega, by omega, ?_, ?_⟩, by omega⟩, fun c => ⟨by unfold R32; omega, by unfold R32; omega, (c_lcm (by omega) (by omega) (by omega) (by omega)).fn ⟨_, rfl, by unfold R32; omega, (c_div (by omega) (by omega) hg).fn ⟨_, rfl, by unfold R32; omega, fun c2 y26 h26 => ⟨⟨rfl, rfl, k, j + 1, rfl, hk, hd, by omega, by omega, ?_, ?_⟩, by omega⟩, fun c2 => ?_⟩⟩⟩⟩
    · rw [bOut_s, if_pos hd, show j = 58 - k by omega]
    · rw [bOut_s, if_pos hd, show j = 58 - k by omega]
    · rw [bIn_s, if_neg (by omega)]
    · rw [bIn_s, if_neg (by omega)]
    · have hl := lcm_60 (a := k + 2) (b := k + 2 + 1 + j) (by omega) (by omega) (by omega) (by omega)
      refine ⟨by unfold R64; omega, by unfold R64; omega, fun c3 y30 h30 => ⟨⟨rfl, rfl, k, j + 1, rfl, hk, hd, by omega, by omega, ?_, ?_⟩, by omega⟩, fun c3 y32 h32 y12 h12 => ⟨⟨rfl, rfl, k, j + 1, rfl, hk, hd, by omega, by omega, ?_, ?_⟩, by omega⟩⟩
      · rw [bIn_s, if_neg (by omega)]
      · rw [bIn_s, if_neg (by omega)]
      · rw [bIn_s, if_pos (by omega)]; exact h32
      · rw [bIn_s, if_pos (by omega)]
theorem c_commonOf {s i n : Nat} (hs : s < 4) (hin : i + n ≤ 16) (hf : flOk (fun j => M (33 + s) j) i n) : Con E l 2 qX8_commonOf [vr (29 + s), vi i, vi n] M (fun r M' => r = some (vj (gcdF (fun j => M (33 + s) j) i n : Nat)) ∧ M' = M) := by
  obtain ⟨k1, k2, k3, k4, k5, k6⟩ := sh_kd s hs
  refine RX8_commonOf (D := 1) (fun M' x0 x1 x2 x3 x5 => M' = M ∧ x0 = 29 + s ∧ x1 = i ∧ x2 = n ∧ ∃ k : Nat, x3 = (gcdF (fun j => M (33 + s) j) i k : Nat) ∧ x5 = ((i + k : Nat) : Int) ∧ k ≤ n) (fun _ _ _ _ _ x5 => (40 - x5).toNat) ?_ ?_
  · exact ⟨rfl, rfl, rfl, rfl, 0, rfl, rfl, by omega⟩
  · rintro M' _ _ _ _ _ ⟨rfl, rfl, rfl, rfl, k, rfl, rfl, hk⟩
    unfold VX8_commonOf_5
    refine ⟨by unfold R32; omega, by unfold R32; omega, fun c => ⟨by rw [show k = n by omega], rfl⟩, fun c => ⟨k1, 33 + s, k2, (c_atj_in (n := 16) k6 (by omega) (by omega)).fn ⟨_, rfl, ?_⟩⟩⟩
    have h1 := hf k (by omega)
    have h2 : gcdF (fun j => M' (33 + s) j) i k ≤ 999999 := (gcdF_b k (fun j hj => hf j (by omega))).1
    have h1' : 1 ≤ M' (33 + s) (i + k) ∧ M' (33 + s) (i + k) ≤ 999999 := h1
    have e : M' (33 + s) ((i + k : Nat) : Int).toNat = ((M' (33 + s) (i + k)).toNat : Int) := by
      rw [Int.toNat_natCast]; omega
    rw [e]
    exact (c_gcd (by omega) (by omega) (by omega)).fn ⟨_, rfl, fun y10 h10 => ⟨⟨rfl, rfl, rfl, rfl, k + 1, rfl, by omega, by omega⟩, by omega⟩⟩
end
