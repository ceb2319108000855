theorem div_step (x s : Nat) (hs : 0 < s) : (x + 1) / s = x / s + (if s ∣ x + 1 then 1 else 0) := Nat.succ_div
theorem manyF1 (f : Nat → Nat) (x : Nat) : manyF f x 1 = x / f 0 := by simp [manyF]
theorem manyF3 (f : Nat → Nat) (x : Nat) : manyF f x 3 = x / f 0 + x / f 1 + x / f 2 := by simp [manyF]
theorem manyT1 (f : Nat → Nat) (g x : Nat) : manyT 1 f g x = ((x / f 0 : Nat) : Int) := by
  unfold manyT
  rw [manyF1]
  omega
theorem manyT3 (f : Nat → Nat) (g x : Nat) : manyT 3 f g x = ((x / f 0 : Nat) : Int) + ((x / f 1 : Nat) : Int) + ((x / f 2 : Nat) : Int) - 2 * ((x / g : Nat) : Int) := by
  unfold manyT
  rw [manyF3]
  omega
theorem manyT_step {n g : Nat} {f : Nat → Nat} (hs : StpOk n f g) (x : Nat) : manyT n f g x ≤ manyT n f g (x + 1) := by
  obtain ⟨hn, hf, hg, hg0⟩ := hs
  rcases hn with rfl | rfl
  · rw [manyT1, manyT1, div_step x (f 0) (hf 0 (by omega)).1]
    split <;> omega
  · rw [manyT3, manyT3, div_step x (f 0) (hf 0 (by omega)).1, div_step x (f 1) (hf 1 (by omega)).1, div_step x (f 2) (hf 2 (by omega)).1, div_step x g hg0]
    by_cases h : g ∣ x + 1
    · rw [if_pos h, if_pos (Nat.dvd_trans (hf 0 (by omega)).2.2 h), if_pos (Nat.dvd_trans (hf 1 (by omega)).2.2 h), if_pos (Nat.dvd_trans (hf 2 (by omega)).2.2 h)]
      omega
    · rw [if_neg h]
      split <;> split <;> split <;> omega
theorem manyT_mono {n g : Nat} {f : Nat → Nat} (hs : StpOk n f g) {x y : Nat} (h : x ≤ y) : manyT n f g x ≤ manyT n f g y := by
  obtain ⟨d, rfl⟩ := Nat.exists_eq_add_of_le h
  clear h
  induction d with
  | zero => exact Int.le_refl _
  | succ d ih => exact Int.le_trans ih (manyT_step hs (x + d))
theorem manyT_0 {n g : Nat} {f : Nat → Nat} (hs : StpOk n f g) : manyT n f g 0 = 0 := by
  rcases hs.1 with rfl | rfl
  · rw [manyT1]; simp
  · rw [manyT3]; simp
theorem manyT_hi {n g i k : Nat} {f : Nat → Nat} (hs : StpOk n f g) (hk : k < n) : (i : Int) ≤ manyT n f g (i * f k) := by
  obtain ⟨hn, hf, hg, hg0⟩ := hs
  have e : i * f k / f k = i := Nat.mul_div_cancel _ (hf k hk).1
  have le : ∀ j, j < n → i * f k / g ≤ i * f k / f j := fun j hj => Nat.div_le_div_left (Nat.le_of_dvd hg0 (hf j hj).2.2) (hf j hj).1
  rcases hn with rfl | rfl
  · have h0 : k = 0 := by omega
    subst h0
    rw [manyT1, e]
    omega
  · rw [manyT3]
    have l0 := le 0 (by omega)
    have l1 := le 1 (by omega)
    have l2 := le 2 (by omega)
    rcases (show k = 0 ∨ k = 1 ∨ k = 2 by omega) with rfl | rfl | rfl <;> omega
/-- r is the i-th place -/
def IsNth (n : Nat) (f : Nat → Nat) (g i r : Nat) : Prop := (i : Int) ≤ manyT n f g r ∧ ∀ m, m < r → manyT n f g m < i
theorem IsNth.uniq {n g i r r' : Nat} {f : Nat → Nat} (h : IsNth n f g i r) (h' : IsNth n f g i r') : r = r' := by
  rcases Nat.lt_trichotomy r r' with q | q | q
  · have := h'.2 r q
    have := h.1
    omega
  · exact q
  · have := h.2 r' q
    have := h'.1
    omega
section
variable {E : FX} {l : Launch} {M : MM}
theorem c_nth {n g i : Nat} {f : Nat → Nat} (hs : StpOk n f g) (hk : MkC M n f g) (hi : 1 ≤ i ∧ i ≤ 999999) : Con E l 3 qX6_nth [vr 37, vi i] M (fun r M' => (∃ q : Nat, r = some (vj q) ∧ IsNth n f g i q ∧ q < 2 ^ 50) ∧ M' = M) := by
  have hn : 1 ≤ n ∧ n ≤ 3 := by rcases hs.1 with h | h <;> omega
  have hib : ∀ k, k < n → i * f k < 2 ^ 50 := fun k hkn => by
    have h1 : i * f k ≤ 999999 * 1000000000 := Nat.mul_le_mul hi.2 (Nat.le_of_lt (hs.2.1 k hkn).2.1)
    omega
  refine RX6_nth (by decide)
    (fun M' x1 x2 x4 x6 => M' = M ∧ ∃ k : Nat, x1 = i ∧ x2 = 1 ∧ x6 = k ∧ k ≤ n ∧ ((k = 0 ∧ x4 = 4611686018427387904) ∨ ∃ j, j < n ∧ x4 = (i * f j : Nat)) ∧ (k = n → ∃ j, j < n ∧ x4 = (i * f j : Nat)))
    (fun _ _ _ _ x6 => 1000 + (3 - x6).toNat)
    (fun M' x1 x2 x4 x6 => M' = M ∧ ∃ lo hi k : Nat, x1 = i ∧ x2 = lo ∧ x4 = hi ∧ x6 = k ∧ k ≤ 64 ∧ lo ≤ hi ∧ hi < 2 ^ 50 ∧ (i : Int) ≤ manyT n f g hi ∧ (∀ m, m < lo → manyT n f g m < i) ∧ (hi - lo) * 2 ^ k < 2 ^ 50)
    (fun _ _ _ _ x6 => (64 - x6).toNat) ?_ ?_ ?_
  · exact ⟨rfl, 0, rfl, rfl, rfl, by omega, Or.inl ⟨rfl, rfl⟩, fun h => by omega⟩
  · rintro M' _ _ x4 _ ⟨rfl, k, rfl, rfl, rfl, hkn, h4, h5⟩
    unfold VX6_nth_10
    rw [hk.1]
    refine ⟨by unfold R32; omega, by unfold R32; omega, fun c => ?_, fun c => ⟨by unfold R32; omega, ?_⟩⟩
    · obtain ⟨j, hj, rfl⟩ := h5 (by omega)
      have hb := hib j hj
      refine ⟨⟨rfl, 1, i * f j, 0, rfl, rfl, rfl, rfl, by omega, ?_, hb, manyT_hi hs hj, fun m hm => ?_, by omega⟩, by omega⟩
      · exact Nat.mul_pos hi.1 (hs.2.1 j hj).1
      · have h0 : m = 0 := by omega
        subst h0
        rw [manyT_0 hs]
        omega
    · have hkn2 : k < n := by omega
      obtain ⟨f0, f1, f2⟩ := hs.2.1 k hkn2
      have hb := hib k hkn2
      refine (c_atj_in (n := 3) rfl (by omega) (by omega)).fn ⟨_, rfl, ?_⟩
      rw [Int.toNat_natCast, hk.2.2 k hkn2, ← Int.natCast_mul]
      have h44 : R64 x4 := by
        rcases h4 with ⟨_, rfl⟩ | ⟨j, hj, rfl⟩
        · decide
        · have := hib j hj
          unfold R64
          omega
      refine ⟨h44, by unfold R64; omega, fun y6 h6 y8 h8 => ⟨⟨rfl, k + 1, rfl, rfl, by omega, by omega, Or.inr ?_, fun _ => ?_⟩, by omega⟩⟩
      all_goals
        rw [h6]
        split
        · exact ⟨k, hkn2, rfl⟩
        · rcases h4 with ⟨_, rfl⟩ | ⟨j, hj, rfl⟩
          · omega
          · exact ⟨j, hj, rfl⟩
  · rintro M' _ _ _ _ ⟨rfl, lo, hg, k, rfl, rfl, rfl, rfl, hk64, hlh, hb, hge, hlt, hd⟩
    have fin : ¬ (lo < hg) → ∃ q : Nat, some (vj (hg : Int)) = some (vj (q : Int)) ∧ IsNth n f g i q ∧ q < 2 ^ 50 := by
      intro h
      exact ⟨hg, rfl, ⟨hge, fun m hm => hlt m (by omega)⟩, hb⟩
    unfold VX6_nth_47 VX6_nth_97
    refine ⟨by unfold R32; omega, fun c => ⟨fin ?_, rfl⟩, fun c => ⟨by unfold R64; omega, by unfold R64; omega, fun c2 => ⟨fin (by omega), rfl⟩, fun c2 => ⟨by unfold R64; omega, fun y16 h16 => ?_⟩⟩⟩
    · intro hlt2
      have hk2 : k = 64 := by omega
      subst hk2
      have h1 : 1 * 2 ^ 64 ≤ (hg - lo) * 2 ^ 64 := Nat.mul_le_mul_right _ (by omega)
      omega
    · have e1 : y16 = ((lo + (hg - lo) / 2 : Nat) : Int) := by
        rw [h16, show (hg : Int) - (lo : Int) = ((hg - lo : Nat) : Int) by omega]
        have := td_nat (hg - lo) 2
        rw [show ((2 : Nat) : Int) = 2 from rfl] at this
        rw [this]
        omega
      rw [e1]
      have h2 : (hg - lo) / 2 * 2 ≤ hg - lo := Nat.div_mul_le_self _ _
      have hp : ∀ d, d * 2 ≤ hg - lo → d * 2 ^ (k + 1) < 2 ^ 50 := fun d hdd => by
        rw [Nat.pow_succ, Nat.mul_comm (2 ^ k) 2, ← Nat.mul_assoc]
        exact Nat.lt_of_le_of_lt (Nat.mul_le_mul_right _ hdd) hd
      have hmb : -(2 ^ 62 : Int) ≤ manyT n f g (lo + (hg - lo) / 2) ∧ manyT n f g (lo + (hg - lo) / 2) < 2 ^ 62 := by
        have h3 := manyT_mono hs (Nat.zero_le (lo + (hg - lo) / 2))
        rw [manyT_0 hs] at h3
        refine ⟨by omega, ?_⟩
        have h4 := manyF_le f (lo + (hg - lo) / 2) n
        have h5 : n * (lo + (hg - lo) / 2) ≤ 3 * (lo + (hg - lo) / 2) := Nat.mul_le_mul_right _ hn.2
        unfold manyT
        have h6 : 0 ≤ ((n : Int) - 1) * (((lo + (hg - lo) / 2) / g : Nat) : Int) := Int.mul_nonneg (by omega) (Int.natCast_nonneg _)
        omega
      refine (c_howManyTo hs hk (by omega)).fn ⟨_, rfl, by unfold R32; omega, by unfold R64; omega, by unfold R64; omega, fun c3 y23 h23 y10 h10 => ?_, fun c3 y10 h10 => ?_⟩
      · refine ⟨⟨rfl, lo + (hg - lo) / 2 + 1, hg, k + 1, rfl, by omega, rfl, by omega, by omega, by omega, hb, hge, fun m hm => ?_, hp _ (by omega)⟩, by omega⟩
        exact Int.lt_of_le_of_lt (manyT_mono hs (by omega)) c3
      · exact ⟨⟨rfl, lo, lo + (hg - lo) / 2, k + 1, rfl, rfl, rfl, by omega, by omega, by omega, by omega, by omega, hlt, hp _ (by omega)⟩, by omega⟩
end
