/-! what a call may leave behind without being seen -/
def Sc (k j : Nat) : Bool := k == 8 || k == 27 || k == 37 || k == 38 || k == 47 || k == 48 || k == 49 || k == 50 || k == 51 || k == 55 || (k == 25 && (j == 2 || j == 4 || j == 5)) || (k == 44 && (j == 5 || j == 6 || j == 7 || j == 9 || j == 10 || j == 13))
def Eqv (M M' : MM) : Prop := ∀ k j, Sc k j = false → M' k j = M k j
theorem Eqv.rf {M : MM} : Eqv M M := fun _ _ _ => rfl
theorem Eqv.tr {M M1 M2 : MM} (h : Eqv M M1) (h2 : Eqv M1 M2) : Eqv M M2 := fun k j q => (h2 k j q).trans (h k j q)
theorem Eqv.put {M M1 : MM} {k j : Nat} {x : Int} (h : Eqv M M1) (hs : Sc k j = true) : Eqv M (up M1 k j x) := by
  intro k' j' q
  unfold up
  by_cases e : k' = k ∧ j' = j
  · rw [e.1, e.2, hs] at q
    cases q
  · rw [if_neg e]
    exact h k' j' q
theorem up_eq {M : MM} {k j : Nat} {x : Int} : up M k j x k j = x := by simp [up]
theorem up_ne {M : MM} {k j k' j' : Nat} {x : Int} (h : ¬ (k' = k ∧ j' = j)) : up M k j x k' j' = M k' j' := by simp only [up, if_neg h]
/-! where marks meet -/
def kn (s l : Int) : Nat := if s = 7 ∧ l = 1 then 3 else 1
def st0 (s l : Int) (a b c : Nat) : Nat := if s = 7 then (if l = 1 then Nat.lcm a b else Nat.lcm (Nat.lcm a b) c) else if s = 3 then Nat.lcm a b else if s = 5 then Nat.lcm a c else Nat.lcm b c
def st (s l : Int) (a b c : Nat) (i : Nat) : Nat := if i = 0 then st0 s l a b c else if i = 1 then Nat.lcm a c else Nat.lcm b c
def al (s l : Int) (a b c : Nat) : Nat := if s = 7 then Nat.lcm (Nat.lcm a b) c else st0 s l a b c
def MkC (M : MM) (n : Nat) (f : Nat → Nat) (g : Nat) : Prop := M 37 1 = n ∧ M 37 2 = g ∧ ∀ i, i < n → M 38 i = f i
def MkM (M : MM) (n : Nat) (f : Nat → Nat) (g : Nat) : Prop := M 44 5 = n ∧ M 44 6 = g ∧ ∀ i, i < n → M 47 i = f i
/-- steps that can be: one or three, each from 1 to some thousand million, each a divisor of what all share -/
def StpOk (n : Nat) (f : Nat → Nat) (g : Nat) : Prop := (n = 1 ∨ n = 3) ∧ (∀ i, i < n → 0 < f i ∧ f i < 1000000000 ∧ f i ∣ g) ∧ g < 1000000000 ∧ 0 < g
theorem lcm_b {a b A B : Nat} (ha : 0 < a) (hb : 0 < b) (h1 : a ≤ A) (h2 : b ≤ B) : 0 < Nat.lcm a b ∧ Nat.lcm a b ≤ A * B :=
  ⟨Nat.lcm_pos ha hb, Nat.le_trans (Nat.lcm_le_mul ha hb) (Nat.mul_le_mul h1 h2)⟩
theorem stp_ok {s l : Int} {a b c : Nat} (ha : 1 ≤ a ∧ a ≤ 999) (hb : 1 ≤ b ∧ b ≤ 999) (hc : 1 ≤ c ∧ c ≤ 999) : StpOk (kn s l) (st s l a b c) (al s l a b c) := by
  obtain ⟨p1, q1⟩ := lcm_b ha.1 hb.1 ha.2 hb.2
  obtain ⟨p2, q2⟩ := lcm_b ha.1 hc.1 ha.2 hc.2
  obtain ⟨p3, q3⟩ := lcm_b hb.1 hc.1 hb.2 hc.2
  obtain ⟨p4, q4⟩ := lcm_b p1 hc.1 q1 hc.2
  have d1 : Nat.lcm a b ∣ Nat.lcm (Nat.lcm a b) c := Nat.dvd_lcm_left _ _
  have d2 : Nat.lcm a c ∣ Nat.lcm (Nat.lcm a b) c := Nat.lcm_dvd (Nat.dvd_trans (Nat.dvd_lcm_left a b) d1) (Nat.dvd_lcm_right _ _)
  have d3 : Nat.lcm b c ∣ Nat.lcm (Nat.lcm a b) c := Nat.lcm_dvd (Nat.dvd_trans (Nat.dvd_lcm_right a b) d1) (Nat.dvd_lcm_right _ _)
  have b0 : 0 < st0 s l a b c ∧ st0 s l a b c < 1000000000 := by
    unfold st0
    split
    · split <;> omega
    · split
      · omega
      · split <;> omega
  have bg : 0 < al s l a b c ∧ al s l a b c < 1000000000 := by
    unfold al
    split
    · omega
    · exact b0
  refine ⟨?_, fun i hi => ?_, bg.2, bg.1⟩
  · unfold kn; split <;> simp
  · unfold kn at hi
    by_cases h7 : s = 7 ∧ l = 1
    · have e1 : al s l a b c = Nat.lcm (Nat.lcm a b) c := by simp [al, h7.1]
      rw [e1]
      rcases (show i = 0 ∨ i = 1 ∨ i = 2 by rw [if_pos h7] at hi; omega) with rfl | rfl | rfl
      · simp only [st, if_pos, st0, h7.1, h7.2]; exact ⟨p1, by omega, d1⟩
      · simp only [st]; exact ⟨p2, by show Nat.lcm a c < _; omega, d2⟩
      · simp only [st]; exact ⟨p3, by show Nat.lcm b c < _; omega, d3⟩
    · rw [if_neg h7] at hi
      have h0 : i = 0 := by omega
      subst h0
      refine ⟨b0.1, b0.2, ?_⟩
      show st0 s l a b c ∣ al s l a b c
      unfold al
      by_cases hs : s = 7
      · rw [if_pos hs]
        unfold st0
        rw [if_pos hs]
        split
        · exact d1
        · exact Nat.dvd_refl _
      · rw [if_neg hs]
        exact Nat.dvd_refl _
section
variable {E : FX} {l : Launch} {M : MM}
theorem c_meetEvery {x : Nat} : Con E l 2 qX6_meetEvery [vr 37, vj x] M (fun r M' => r = none ∧ M' = up (up (up M 38 0 x) 37 1 1) 37 2 x) := by
  refine RX6_meetEvery ?_
  unfold VX6_meetEvery_0
  exact (c_putj (n := 3) rfl (by decide) (by decide)).fn ⟨rfl, fun M3 h3 M5 h5 => ⟨rfl, by rw [h5, h3]; rfl⟩⟩
theorem c_meet3 {a b c : Nat} (ha : 1 ≤ a ∧ a ≤ 999) (hb : 1 ≤ b ∧ b ≤ 999) (hc : 1 ≤ c ∧ c ≤ 999) : Con E l 3 qX6_meetTwoOfThree [vr 37, vi a, vi b, vi c] M (fun r M' => r = none ∧ MkC M' 3 (st 7 1 a b c) (al 7 1 a b c) ∧ Eqv M M') := by
  refine RX6_meetTwoOfThree ?_
  unfold VX6_meetTwoOfThree_0
  obtain ⟨p1, q1⟩ := lcm_b ha.1 hb.1 ha.2 hb.2
  have r1 : R32 (a : Int) := by unfold R32; omega
  have r2 : R32 (b : Int) := by unfold R32; omega
  have r3 : R32 (c : Int) := by unfold R32; omega
  refine ⟨r1, r2, (c_lcm (by omega) (by omega) (by omega) (by omega)).fn ⟨_, rfl, (c_putj (n := 3) rfl (by decide) (by decide)).fn ⟨rfl, r1, r3, (c_lcm (by omega) (by omega) (by omega) (by omega)).fn ⟨_, rfl, (c_putj (n := 3) rfl (by decide) (by decide)).fn ⟨rfl, r2, r3, (c_lcm (by omega) (by omega) (by omega) (by omega)).fn ⟨_, rfl, (c_putj (n := 3) rfl (by decide) (by decide)).fn ⟨rfl, ?_⟩⟩⟩⟩⟩⟩⟩
  intro M16 h16
  refine (c_atj_in (n := 3) rfl (by decide) (by decide)).fn ⟨_, rfl, r3, ?_⟩
  have e0 : M16 38 (Int.toNat 0) = ((Nat.lcm a b : Nat) : Int) := by
    rw [h16]
    simp [up]
  rw [e0]
  refine (c_lcm p1 (by omega) (by omega) (by omega)).fn ⟨_, rfl, fun M24 h24 => ⟨rfl, ⟨?_, ?_, ?_⟩, ?_⟩⟩
  · rw [h24, h16]; simp [up]
  · rw [h24, h16]; simp [up, al]
  · intro i hi
    rw [h24, h16]
    rcases (show i = 0 ∨ i = 1 ∨ i = 2 by omega) with rfl | rfl | rfl <;> simp [up, st, st0]
  · rw [h24, h16]
    exact ((((Eqv.rf.put rfl).put rfl).put rfl).put rfl).put rfl
end
