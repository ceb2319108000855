/-- all regions but the i-th (and scratch) stay -/
def Kp (i : Nat) (M M' : MM) : Prop := ∀ j, 1 ≤ j → j ≠ i → AG j M M'
theorem Kp.rf {i : Nat} {M : MM} : Kp i M M := fun _ _ _ => AG.rf
theorem Kp.tr {i : Nat} {M M1 M2 : MM} (h : Kp i M M1) (h2 : Kp i M1 M2) : Kp i M M2 := fun j a b => (h j a b).tr (h2 j a b)
theorem Kp.of {i : Nat} {M M' : MM} (h : Eqv M M') : Kp i M M' := fun j a _ => AG.of h (by omega)
theorem Kp.put {i k j : Nat} {x : Int} {M M1 : MM} (h : Kp i M M1) (hk : rg k j = i ∨ rg k j = 0) : Kp i M (up M1 k j x) := fun q a b => (h q a b).put (by omega)
def Rel0 (M : MM) : Prop := (∃ W, PC M W ∧ PM M W ∧ IW W) ∧ RTp M ∧ RSh M ∧ RIm M
theorem Rel0.eqv {M M' : MM} (h : Rel0 M) (e : Eqv M M') : Rel0 M' := by
  obtain ⟨⟨W, h1, h2, h3⟩, h4, h5, h6⟩ := h
  exact ⟨⟨W, h1.eqv e, h2.eqv e, h3⟩, h4.ag (AG.of e (by decide)), h5.ag (AG.of e (by decide)), h6.ag (AG.of e (by decide))⟩
/-- class and reference answer alike, and go on alike -/
def EqA (E : FX) (l : Launch) (mk : Int → AV) (qc qm : MI) (As : List AV) : Prop := ∀ M, Rel0 M → Con E l 20 qc (vr 0 :: As) M (fun r M1 => ∃ x : Int, r = some (mk x) ∧ Con E l 20 qm (vr 44 :: As) M1 (fun r2 M2 => r2 = some (mk x) ∧ Rel0 M2 ∧ AG 6 M M2))
theorem eqW {E : FX} {l : Launch} {mk : Int → AV} {qc qm : MI} {As : List AV} (A : (Nat → Int) → Int) (F : (Nat → Int) → Nat → Int)
    (hc : ∀ M W, PC M W → IW W → Con E l 20 qc (vr 0 :: As) M (fun r M' => r = some (mk (A W)) ∧ PC M' (F W) ∧ Kp 1 M M'))
    (hm : ∀ M W, PM M W → IW W → Con E l 20 qm (vr 44 :: As) M (fun r M' => r = some (mk (A W)) ∧ PM M' (F W) ∧ Kp 2 M M'))
    (hF : ∀ W, IW W → IW (F W)) : EqA E l mk qc qm As := by
  intro M hR
  obtain ⟨⟨W, h1, h2, h3⟩, h4, h5, h6⟩ := hR
  refine (hc M W h1 h3).mono ?_ (Nat.le_refl _)
  rintro _ M1 ⟨rfl, p1, k1⟩
  refine ⟨A W, rfl, (hm M1 W (h2.ag (k1 2 (by decide) (by decide))) h3).mono ?_ (Nat.le_refl _)⟩
  rintro _ M2 ⟨rfl, p2, k2⟩
  refine ⟨rfl, ⟨⟨F W, p1.ag (k2 1 (by decide) (by decide)), p2, hF W h3⟩, ?_, ?_, ?_⟩, ?_⟩
  · exact (h4.ag (k1 3 (by decide) (by decide))).ag (k2 3 (by decide) (by decide))
  · exact (h5.ag (k1 4 (by decide) (by decide))).ag (k2 4 (by decide) (by decide))
  · exact (h6.ag (k1 5 (by decide) (by decide))).ag (k2 5 (by decide) (by decide))
  · exact (k1 6 (by decide) (by decide)).tr (k2 6 (by decide) (by decide))
/-- bounds of the numbers -/
def wlo (j : Nat) : Int := if j < 3 then 1 else if j = 3 then 3 else if j < 31 then 0 else 1
def whi (j : Nat) : Int := if j < 3 then 999 else if j = 3 then 7 else if j = 4 then 1 else if j = 5 then 99 else if j = 6 then 8 else if j < 15 then 3 else if j < 23 then 99999 else if j = 24 then 6 else if j < 31 then 9999 else 99
theorem IW_iff {W : Nat → Int} : IW W ↔ ((∀ j, j < 63 → j ≠ 23 → wlo j ≤ W j ∧ W j ≤ whi j) ∧ W 3 ≠ 4) := by
  constructor
  · rintro ⟨h1, h2, h3, h4, h5, h6, h7, h8, h9, h10, h11⟩
    refine ⟨fun j hj h23 => ?_, by omega⟩
    unfold wlo whi
    by_cases c1 : j < 3
    · have := h1 j c1; simp only [if_pos c1]; exact this
    by_cases c2 : j = 3
    · subst c2; simp; omega
    by_cases c3 : j = 4
    · subst c3; simp; omega
    by_cases c4 : j = 5
    · subst c4; simp; omega
    by_cases c5 : j = 6
    · subst c5; simp; omega
    by_cases c6 : j < 15
    · have := h6 (j - 7) (by omega)
      rw [show 7 + (j - 7) = j by omega] at this
      simp only [if_neg c1, if_neg c2, if_neg c3, if_neg c4, if_neg c5, if_pos c6, if_pos (show j < 31 by omega)]
      exact this
    by_cases c7 : j < 23
    · have := h7 (j - 15) (by omega)
      rw [show 15 + (j - 15) = j by omega] at this
      simp only [if_neg c1, if_neg c2, if_neg c3, if_neg c4, if_neg c5, if_neg c6, if_pos c7, if_pos (show j < 31 by omega)]
      exact this
    by_cases c8 : j = 24
    · subst c8; simp; omega
    by_cases c9 : j < 31
    · have := h9 (j - 25) (by omega)
      rw [show 25 + (j - 25) = j by omega] at this
      simp only [if_neg c1, if_neg c2, if_neg c3, if_neg c4, if_neg c5, if_neg c6, if_neg c7, if_neg c8, if_pos c9]
      exact this
    simp only [if_neg c1, if_neg c2, if_neg c3, if_neg c4, if_neg c5, if_neg c6, if_neg c7, if_neg c8, if_neg c9]
    by_cases c10 : (j - 31) % 2 = 0
    · have := h10 ((j - 31) / 2) (by omega)
      rw [show 31 + 2 * ((j - 31) / 2) = j by omega] at this
      exact this
    · have := h11 ((j - 31) / 2) (by omega)
      rw [show 32 + 2 * ((j - 31) / 2) = j by omega] at this
      exact this
  · rintro ⟨h, h3⟩
    have k : ∀ j, j < 63 → j ≠ 23 → ∀ a b, wlo j = a → whi j = b → a ≤ W j ∧ W j ≤ b := fun j hj h2 a b ea eb => by rw [← ea, ← eb]; exact h j hj h2
    have d1 : ∀ j, j < 8 → wlo (7 + j) = 0 ∧ whi (7 + j) = 3 := by decide
    have d2 : ∀ j, j < 8 → wlo (15 + j) = 0 ∧ whi (15 + j) = 99999 := by decide
    have d3 : ∀ j, j < 6 → wlo (25 + j) = 0 ∧ whi (25 + j) = 9999 := by decide
    have d4 : ∀ j, j < 16 → wlo (31 + 2 * j) = 1 ∧ whi (31 + 2 * j) = 99 := by decide
    have d5 : ∀ j, j < 16 → wlo (32 + 2 * j) = 1 ∧ whi (32 + 2 * j) = 99 := by decide
    have d6 : ∀ j, j < 3 → wlo j = 1 ∧ whi j = 999 := by decide
    have e3 := k 3 (by omega) (by omega) 3 7 rfl rfl
    have e4 := k 4 (by omega) (by omega) 0 1 rfl rfl
    exact ⟨fun j q => k j (by omega) (by omega) _ _ (d6 j q).1 (d6 j q).2, by omega, by omega, k 5 (by omega) (by omega) _ _ rfl rfl, k 6 (by omega) (by omega) _ _ rfl rfl, fun j q => k (7 + j) (by omega) (by omega) _ _ (d1 j q).1 (d1 j q).2, fun j q => k (15 + j) (by omega) (by omega) _ _ (d2 j q).1 (d2 j q).2, k 24 (by omega) (by omega) _ _ rfl rfl, fun j q => k (25 + j) (by omega) (by omega) _ _ (d3 j q).1 (d3 j q).2, fun j q => k (31 + 2 * j) (by omega) (by omega) _ _ (d4 j q).1 (d4 j q).2, fun j q => k (32 + 2 * j) (by omega) (by omega) _ _ (d5 j q).1 (d5 j q).2⟩
theorem IW.set {W : Nat → Int} {j : Nat} {v : Int} (h : IW W) (hv : j ≠ 23 → j < 63 → wlo j ≤ v ∧ v ≤ whi j) (h3 : j = 3 → v ≠ 4) : IW (upW W j v) := by
  obtain ⟨a, b⟩ := IW_iff.mp h
  refine IW_iff.mpr ⟨fun i hi h23 => ?_, ?_⟩
  · unfold upW
    by_cases c : i = j
    · subst c
      rw [if_pos rfl]
      exact hv h23 hi
    · rw [if_neg c]
      exact a i hi h23
  · unfold upW
    by_cases c : 3 = j
    · rw [if_pos c]
      exact h3 c.symm
    · rw [if_neg c]
      exact b
