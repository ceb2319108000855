/-! THE RELATION between the class's cells and the reference's, region by region -/
def rg (k p : Nat) : Nat := if 3 ≤ k ∧ k ≤ 13 ∧ k ≠ 8 then 1 else if k = 45 then (if p < 70 then 2 else 5) else if k = 26 ∨ k = 46 ∨ (k = 25 ∧ p = 1) ∨ (k = 44 ∧ p = 3) then 3 else if (29 ≤ k ∧ k ≤ 36) ∨ (52 ≤ k ∧ k ≤ 54) then 4 else if (14 ≤ k ∧ k ≤ 24) ∨ (k = 0 ∧ p = 2) ∨ (k = 44 ∧ p = 1) then 5 else if 39 ≤ k ∧ k ≤ 43 then 6 else 0
def AG (i : Nat) (M M' : MM) : Prop := ∀ k p, rg k p = i → M' k p = M k p
theorem rg_sc {k p : Nat} (h : rg k p ≠ 0) : Sc k p = false := by
  apply Decidable.byContradiction
  intro q
  apply h
  have q2 : Sc k p = true := by
    cases hs : Sc k p
    · exact absurd hs q
    · rfl
  unfold Sc at q2
  simp only [Bool.or_eq_true, Bool.and_eq_true, beq_iff_eq] at q2
  unfold rg
  clear q h
  have q3 : k = 8 ∨ k = 27 ∨ k = 37 ∨ k = 38 ∨ k = 47 ∨ k = 48 ∨ k = 49 ∨ k = 50 ∨ k = 51 ∨ k = 55 ∨ (k = 25 ∧ p ≠ 1) ∨ (k = 44 ∧ p ≠ 1 ∧ p ≠ 3) := by omega
  rcases q3 with w | w | w | w | w | w | w | w | w | w | w | w
  · rw [w]; simp
  · rw [w]; simp
  · rw [w]; simp
  · rw [w]; simp
  · rw [w]; simp
  · rw [w]; simp
  · rw [w]; simp
  · rw [w]; simp
  · rw [w]; simp
  · rw [w]; simp
  · rw [w.1]; simp [w.2]
  · rw [w.1]; simp [w.2]
theorem AG.rf {i : Nat} {M : MM} : AG i M M := fun _ _ _ => rfl
theorem AG.tr {i : Nat} {M M1 M2 : MM} (h : AG i M M1) (h2 : AG i M1 M2) : AG i M M2 := fun k p q => (h2 k p q).trans (h k p q)
theorem AG.of {i : Nat} {M M' : MM} (h : Eqv M M') (hi : i ≠ 0) : AG i M M' := fun k p q => h k p (rg_sc (by rw [q]; exact hi))
theorem AG.put {i k j : Nat} {x : Int} {M M1 : MM} (h : AG i M M1) (hk : rg k j ≠ i) : AG i M (up M1 k j x) := by
  intro k' j' q
  rw [up_ne (fun e => hk (by rw [← e.1, ← e.2]; exact q))]
  exact h k' j' q
/-- the class's place of the j-th number -/
def lc (j : Nat) : Nat × Nat := if j < 3 then (4, j) else if j = 3 then (3, 1) else if j = 4 then (3, 2) else if j = 5 then (5, 5) else if j = 6 then (5, 3) else if j < 15 then (6, j - 7) else if j < 23 then (7, j - 15) else if j = 23 then (5, 4) else if j = 24 then (9, 1) else if j < 31 then (10, j - 25) else if (j - 31) % 2 = 0 then (12, (j - 31) / 2) else (13, (j - 31) / 2)
theorem lc_0 : ∀ j, j < 3 → lc j = (4, j) := by decide +kernel
theorem lc_7 : ∀ j, j < 8 → lc (7 + j) = (6, j) := by decide +kernel
theorem lc_15 : ∀ j, j < 8 → lc (15 + j) = (7, j) := by decide +kernel
theorem lc_25 : ∀ j, j < 6 → lc (25 + j) = (10, j) := by decide +kernel
theorem lc_31 : ∀ j, j < 16 → lc (31 + 2 * j) = (12, j) := by decide +kernel
theorem lc_32 : ∀ j, j < 16 → lc (32 + 2 * j) = (13, j) := by decide +kernel
theorem lc_inj : ∀ i, i < 63 → ∀ j, j < 63 → lc i = lc j → i = j := by decide +kernel
theorem lc_rg : ∀ i, i < 63 → rg (lc i).1 (lc i).2 = 1 := by decide +kernel
theorem PC_lc {M : MM} {W : Nat → Int} : PC M W ↔ ∀ j, j < 63 → M (lc j).1 (lc j).2 = W j := by
  constructor
  · rintro ⟨h1, h2, h3, h4, h5, h6, h7, h8, h9, h10, h11, h12⟩ j hj
    unfold lc
    by_cases c1 : j < 3
    · rw [if_pos c1]; exact h1 j c1
    rw [if_neg c1]
    by_cases c2 : j = 3
    · rw [if_pos c2, c2]; exact h2
    rw [if_neg c2]
    by_cases c3 : j = 4
    · rw [if_pos c3, c3]; exact h3
    rw [if_neg c3]
    by_cases c4 : j = 5
    · rw [if_pos c4, c4]; exact h4
    rw [if_neg c4]
    by_cases c5 : j = 6
    · rw [if_pos c5, c5]; exact h5
    rw [if_neg c5]
    by_cases c6 : j < 15
    · rw [if_pos c6]
      have := h6 (j - 7) (by omega)
      rw [show 7 + (j - 7) = j by omega] at this
      exact this
    rw [if_neg c6]
    by_cases c7 : j < 23
    · rw [if_pos c7]
      have := h7 (j - 15) (by omega)
      rw [show 15 + (j - 15) = j by omega] at this
      exact this
    rw [if_neg c7]
    by_cases c8 : j = 23
    · rw [if_pos c8, c8]; exact h8
    rw [if_neg c8]
    by_cases c9 : j = 24
    · rw [if_pos c9, c9]; exact h9
    rw [if_neg c9]
    by_cases c10 : j < 31
    · rw [if_pos c10]
      have := h10 (j - 25) (by omega)
      rw [show 25 + (j - 25) = j by omega] at this
      exact this
    rw [if_neg c10]
    by_cases c11 : (j - 31) % 2 = 0
    · rw [if_pos c11]
      have := h11 ((j - 31) / 2) (by omega)
      rw [show 31 + 2 * ((j - 31) / 2) = j by omega] at this
      exact this
    rw [if_neg c11]
    have := h12 ((j - 31) / 2) (by omega)
    rw [show 32 + 2 * ((j - 31) / 2) = j by omega] at this
    exact this
  · intro h
    refine ⟨fun j q => ?_, h 3 (by omega), h 4 (by omega), h 5 (by omega), h 6 (by omega), fun j q => ?_, fun j q => ?_, h 23 (by omega), h 24 (by omega), fun j q => ?_, fun j q => ?_, fun j q => ?_⟩
    · have := h j (by omega)
      unfold lc at this
      rw [if_pos q] at this
      exact this
    · have := h (7 + j) (by omega)
      have e : lc (7 + j) = (6, j) := lc_7 j q
      rw [e] at this
      exact this
    · have := h (15 + j) (by omega)
      have e : lc (15 + j) = (7, j) := lc_15 j q
      rw [e] at this
      exact this
    · have := h (25 + j) (by omega)
      have e : lc (25 + j) = (10, j) := lc_25 j q
      rw [e] at this
      exact this
    · have := h (31 + 2 * j) (by omega)
      have e : lc (31 + 2 * j) = (12, j) := lc_31 j q
      rw [e] at this
      exact this
    · have := h (32 + 2 * j) (by omega)
      have e : lc (32 + 2 * j) = (13, j) := lc_32 j q
      rw [e] at this
      exact this
def upW (W : Nat → Int) (j : Nat) (v : Int) : Nat → Int := fun i => if i = j then v else W i
theorem PC.ag {M M' : MM} {W : Nat → Int} (h : PC M W) (e : AG 1 M M') : PC M' W := PC_lc.mpr fun j hj => (e _ _ (lc_rg j hj)).trans (PC_lc.mp h j hj)
theorem PC.set {M : MM} {W : Nat → Int} {j k p : Nat} {v : Int} (h : PC M W) (hj : j < 63) (e : lc j = (k, p)) : PC (up M k p v) (upW W j v) := by
  refine PC_lc.mpr fun i hi => ?_
  unfold upW
  by_cases c : i = j
  · rw [if_pos c, c, e]
    exact up_eq
  · rw [if_neg c, up_ne ?_]
    · exact PC_lc.mp h i hi
    · intro q
      refine c (lc_inj i hi j hj ?_)
      rw [e]
      exact Prod.ext q.1 q.2
theorem PM.ag {M M' : MM} {W : Nat → Int} (h : PM M W) (e : AG 2 M M') : PM M' W := fun j hj => (e 45 j (by simp [rg, hj])).trans (h j hj)
theorem PM.set {M : MM} {W : Nat → Int} {j : Nat} {v : Int} (h : PM M W) : PM (up M 45 j v) (upW W j v) := by
  intro i hi
  unfold upW
  by_cases c : i = j
  · rw [if_pos c, c]; exact up_eq
  · rw [if_neg c, up_ne (fun q => c q.2)]; exact h i hi
/-- the tape -/
def RTp (M : MM) : Prop := M 25 1 = M 44 3 ∧ 0 ≤ M 25 1 ∧ M 25 1 ≤ 40 ∧ ∀ j, j < 40 → M 26 j = M 46 j ∧ 0 ≤ M 26 j ∧ M 26 j ≤ 126
theorem RTp.ag {M M' : MM} (h : RTp M) (e : AG 3 M M') : RTp M' := by
  unfold RTp at *
  rw [e 25 1 rfl, e 44 3 rfl]
  exact ⟨h.1, h.2.1, h.2.2.1, fun j hj => by rw [e 26 j (by simp [rg]), e 46 j (by simp [rg])]; exact h.2.2.2 j hj⟩
/-- the sheets -/
def RSh (M : MM) : Prop := ∀ s, s < 4 → (M (29 + s) 1 = 0 ∨ M (29 + s) 1 = 1) ∧ (0 ≤ M (29 + s) 2 ∧ M (29 + s) 2 ≤ 2) ∧ (0 ≤ M (29 + s) 3 ∧ M (29 + s) 3 ≤ 16) ∧ M 53 s = M (29 + s) 3 ∧ M 52 s = (if M (29 + s) 1 = 1 then M (29 + s) 2 else -1) ∧ ∀ j, j < 16 → M (33 + s) j = M 54 (16 * s + j) ∧ R64 (M (33 + s) j)
theorem RSh.ag {M M' : MM} (h : RSh M) (e : AG 4 M M') : RSh M' := by
  intro s hs
  have h1 : ∀ p, rg (29 + s) p = 4 := fun p => by rcases (show s = 0 ∨ s = 1 ∨ s = 2 ∨ s = 3 by omega) with rfl | rfl | rfl | rfl <;> rfl
  have h2 : ∀ p, rg (33 + s) p = 4 := fun p => by rcases (show s = 0 ∨ s = 1 ∨ s = 2 ∨ s = 3 by omega) with rfl | rfl | rfl | rfl <;> rfl
  rw [e (29 + s) 1 (h1 1), e (29 + s) 2 (h1 2), e (29 + s) 3 (h1 3), e 53 s (by simp [rg]), e 52 s (by simp [rg])]
  obtain ⟨q1, q2, q3, q4, q5, q6⟩ := h s hs
  refine ⟨q1, q2, q3, q4, q5, fun j hj => ?_⟩
  rw [e (33 + s) j (h2 j), e 54 (16 * s + j) (by simp [rg])]
  exact q6 j hj
/-- the image -/
def RIm (M : MM) : Prop := M 0 2 = M 44 1 ∧ (M 0 2 = 0 ∨ M 0 2 = 1) ∧ (M 0 2 = 1 → ∃ V, PK M V ∧ PN M V ∧ IW V)
theorem PK.ag {M M' : MM} {W : Nat → Int} (h : PK M W) (e : AG 5 M M') : PK M' W := by
  obtain ⟨h1, h2, h3, h4, h5, h6, h7, h8, h9, h10, h11, h12⟩ := h
  exact ⟨fun j q => (e 15 j rfl).trans (h1 j q), (e 14 1 rfl).trans h2, (e 14 2 rfl).trans h3, (e 16 5 rfl).trans h4, (e 16 3 rfl).trans h5, fun j q => (e 17 j rfl).trans (h6 j q), fun j q => (e 18 j rfl).trans (h7 j q), (e 16 4 rfl).trans h8, (e 20 1 rfl).trans h9, fun j q => (e 21 j rfl).trans (h10 j q), fun j q => (e 23 j rfl).trans (h11 j q), fun j q => (e 24 j rfl).trans (h12 j q)⟩
theorem PN.ag {M M' : MM} {W : Nat → Int} (h : PN M W) (e : AG 5 M M') : PN M' W := fun j hj => (e 45 (70 + j) (by simp [rg])).trans (h j hj)
theorem RIm.ag {M M' : MM} (h : RIm M) (e : AG 5 M M') : RIm M' := by
  unfold RIm at *
  rw [e 0 2 rfl, e 44 1 rfl]
  refine ⟨h.1, h.2.1, fun q => ?_⟩
  obtain ⟨V, v1, v2, v3⟩ := h.2.2 q
  exact ⟨V, v1.ag e, v2.ag e, v3⟩
def b01_R {p : Prop} [Decidable p] : R32 (b01 p) := by
  unfold b01 R32
  split <;> decide
theorem b01_0 {p : Prop} [Decidable p] : b01 p = 0 ↔ ¬ p := by
  unfold b01
  split <;> simp [*]
theorem b01_n0 {p : Prop} [Decidable p] : ¬ b01 p = 0 ↔ p := by
  unfold b01
  split <;> simp [*]
theorem b01_1 {p : Prop} [Decidable p] : b01 p = 1 ↔ p := by
  unfold b01
  split <;> simp [*]
theorem b01_n1 {p : Prop} [Decidable p] : ¬ b01 p = 1 ↔ ¬ p := by
  unfold b01
  split <;> simp [*]
theorem r32_64 {a : Int} (h : R32 a) : R64 a := by
  unfold R32 at h
  unfold R64
  omega
