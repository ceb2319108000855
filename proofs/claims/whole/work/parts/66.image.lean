/-! image and restore -/
theorem AG.cp {i k0 sp k1 dp n : Nat} {M M1 : MM} (h : AG i M M1) (hk : ∀ p, rg k1 p ≠ i) : AG i M (cpM M1 k0 sp k1 dp n) := by
  intro k p e
  unfold cpM
  rw [if_neg (fun q => hk p (by rw [← q.1]; exact e))]
  exact h k p e
def likeK (M : MM) : MM :=
  let M1 := up (up (cpM M 4 0 15 0 3) 14 1 (M 3 1)) 14 2 (M 3 2)
  let M2 := up (up (up (cpM (cpM M1 6 0 17 0 8) 7 0 18 0 8) 16 3 (M 5 3)) 16 4 (M 5 4)) 16 5 (M 5 5)
  let M3 := up (cpM M2 10 0 21 0 6) 20 1 (M 9 1)
  cpM (cpM M3 12 0 23 0 16) 13 0 24 0 16
def likeM (M : MM) : MM :=
  let M1 := up (up (cpM M 15 0 4 0 3) 3 1 (M 14 1)) 3 2 (M 14 2)
  let M2 := up (up (up (cpM (cpM M1 17 0 6 0 8) 18 0 7 0 8) 5 3 (M 16 3)) 5 4 (M 16 4)) 5 5 (M 16 5)
  let M3 := up (cpM M2 21 0 10 0 6) 9 1 (M 20 1)
  cpM (cpM M3 23 0 12 0 16) 24 0 13 0 16
theorem likeK_ag {M : MM} {i : Nat} (hi : i ≠ 5) : AG i M (likeK M) := by
  unfold likeK
  have q : ∀ k p, 14 ≤ k → k ≤ 24 → rg k p ≠ i := fun k p h1 h2 => by
    unfold rg
    rw [if_neg (by omega), if_neg (by omega), if_neg (by omega), if_neg (by omega), if_pos (by omega)]
    omega
  exact (((((((((((AG.rf.cp (fun p => q _ p (by decide) (by decide))).put (q _ _ (by decide) (by decide))).put (q _ _ (by decide) (by decide))).cp (fun p => q _ p (by decide) (by decide))).cp (fun p => q _ p (by decide) (by decide))).put (q _ _ (by decide) (by decide))).put (q _ _ (by decide) (by decide))).put (q _ _ (by decide) (by decide))).cp (fun p => q _ p (by decide) (by decide))).put (q _ _ (by decide) (by decide))).cp (fun p => q _ p (by decide) (by decide))).cp (fun p => q _ p (by decide) (by decide))
theorem likeM_ag {M : MM} {i : Nat} (hi : i ≠ 1) : AG i M (likeM M) := by
  unfold likeM
  have q : ∀ k p, 3 ≤ k → k ≤ 13 → k ≠ 8 → rg k p ≠ i := fun k p h1 h2 h3 => by
    unfold rg
    rw [if_pos (by omega)]
    omega
  exact (((((((((((AG.rf.cp (fun p => q _ p (by decide) (by decide) (by decide))).put (q _ _ (by decide) (by decide) (by decide))).put (q _ _ (by decide) (by decide) (by decide))).cp (fun p => q _ p (by decide) (by decide) (by decide))).cp (fun p => q _ p (by decide) (by decide) (by decide))).put (q _ _ (by decide) (by decide) (by decide))).put (q _ _ (by decide) (by decide) (by decide))).put (q _ _ (by decide) (by decide) (by decide))).cp (fun p => q _ p (by decide) (by decide) (by decide))).put (q _ _ (by decide) (by decide) (by decide))).cp (fun p => q _ p (by decide) (by decide) (by decide))).cp (fun p => q _ p (by decide) (by decide) (by decide))
theorem likeK_pk {M : MM} {W : Nat → Int} (h : PC M W) : PK (likeK M) W := by
  obtain ⟨a1, a2, a3, a4, a5, a6, a7, a8, a9, a10, a11, a12⟩ := h
  refine ⟨fun j hj => ?_, ?_, ?_, ?_, ?_, fun j hj => ?_, fun j hj => ?_, ?_, ?_, fun j hj => ?_, fun j hj => ?_, fun j hj => ?_⟩
  · rw [← a1 j hj]; simp [likeK, up, cpM, hj]
  · rw [← a2]; simp [likeK, up, cpM]
  · rw [← a3]; simp [likeK, up, cpM]
  · rw [← a4]; simp [likeK, up, cpM]
  · rw [← a5]; simp [likeK, up, cpM]
  · rw [← a6 j hj]; simp [likeK, up, cpM, hj]
  · rw [← a7 j hj]; simp [likeK, up, cpM, hj]
  · rw [← a8]; simp [likeK, up, cpM]
  · rw [← a9]; simp [likeK, up, cpM]
  · rw [← a10 j hj]; simp [likeK, up, cpM, hj]
  · rw [← a11 j hj]; simp [likeK, up, cpM, hj]
  · rw [← a12 j hj]; simp [likeK, up, cpM, hj]
theorem likeM_pc {M : MM} {W : Nat → Int} (h : PK M W) : PC (likeM M) W := by
  obtain ⟨a1, a2, a3, a4, a5, a6, a7, a8, a9, a10, a11, a12⟩ := h
  refine ⟨fun j hj => ?_, ?_, ?_, ?_, ?_, fun j hj => ?_, fun j hj => ?_, ?_, ?_, fun j hj => ?_, fun j hj => ?_, fun j hj => ?_⟩
  · rw [← a1 j hj]; simp [likeM, up, cpM, hj]
  · rw [← a2]; simp [likeM, up, cpM]
  · rw [← a3]; simp [likeM, up, cpM]
  · rw [← a4]; simp [likeM, up, cpM]
  · rw [← a5]; simp [likeM, up, cpM]
  · rw [← a6 j hj]; simp [likeM, up, cpM, hj]
  · rw [← a7 j hj]; simp [likeM, up, cpM, hj]
  · rw [← a8]; simp [likeM, up, cpM]
  · rw [← a9]; simp [likeM, up, cpM]
  · rw [← a10 j hj]; simp [likeM, up, cpM, hj]
  · rw [← a11 j hj]; simp [likeM, up, cpM, hj]
  · rw [← a12 j hj]; simp [likeM, up, cpM, hj]
section
variable {E : FX} {l : Launch} {M : MM}
theorem c_likeK : Con E l 5 qX5_becomeLike [vr 2, vr 1] M (fun r M' => r = none ∧ M' = likeK M) := by
  refine RX5_becomeLike_k (D := 4) ?_
  unfold VX5_becomeLike_k_0
  refine (RX10_becomeLike_k (D := 3) (post := fun r Mx => r = none ∧ Mx = up (up (cpM M 4 0 15 0 3) 14 1 (M 3 1)) 14 2 (M 3 2)) ?_).fn ⟨rfl, ?_⟩
  · unfold VX10_becomeLike_k_0
    refine (c_fill (n := 3) rfl rfl).fn ⟨rfl, ?_⟩
    rintro M2 rfl M3 rfl
    exact ⟨rfl, by simp [up, cpM]⟩
  generalize hM1 : up (up (cpM M 4 0 15 0 3) 14 1 (M 3 1)) 14 2 (M 3 2) = M1
  refine (RX0_becomeLike_k (D := 3) (post := fun r Mx => r = none ∧ Mx = up (up (up (cpM (cpM M1 6 0 17 0 8) 7 0 18 0 8) 16 3 (M 5 3)) 16 4 (M 5 4)) 16 5 (M 5 5)) ?_).fn ⟨rfl, ?_⟩
  · unfold VX0_becomeLike_k_0
    refine (c_fill (n := 8) rfl rfl).fn ⟨rfl, (c_fill (n := 8) rfl rfl).fn ⟨rfl, ?_⟩⟩
    rintro M2 rfl M3 rfl M4 rfl
    refine ⟨rfl, ?_⟩
    rw [← hM1]
    simp [up, cpM]
  generalize hM2 : up (up (up (cpM (cpM M1 6 0 17 0 8) 7 0 18 0 8) 16 3 (M 5 3)) 16 4 (M 5 4)) 16 5 (M 5 5) = M2
  refine (RX1_becomeLike_k (D := 3) (post := fun r Mx => r = none ∧ Mx = up (cpM M2 10 0 21 0 6) 20 1 (M 9 1)) ?_).fn ⟨rfl, ?_⟩
  · unfold VX1_becomeLike_k_0
    refine (c_fill (n := 6) rfl rfl).fn ⟨rfl, ?_⟩
    rintro M3 rfl
    refine ⟨rfl, ?_⟩
    rw [← hM2, ← hM1]
    simp [up, cpM]
  generalize hM3 : up (cpM M2 10 0 21 0 6) 20 1 (M 9 1) = M3
  refine (RX3_becomeLike_k (D := 3) (post := fun r Mx => r = none ∧ Mx = cpM (cpM M3 12 0 23 0 16) 13 0 24 0 16) ?_).fn ⟨rfl, ?_⟩
  · unfold VX3_becomeLike_k_0
    refine (c_fill (n := 16) rfl rfl).fn ⟨rfl, (c_fill (n := 16) rfl rfl).fn ⟨rfl, ?_⟩⟩
    exact ⟨rfl, rfl⟩
  refine ⟨rfl, ?_⟩
  rw [← hM3, ← hM2, ← hM1]
  rfl
theorem c_likeM : Con E l 5 qX5_becomeLike [vr 1, vr 2] M (fun r M' => r = none ∧ M' = likeM M) := by
  refine RX5_becomeLike_m (D := 4) ?_
  unfold VX5_becomeLike_m_0
  refine (RX10_becomeLike_m (D := 3) (post := fun r Mx => r = none ∧ Mx = up (up (cpM M 15 0 4 0 3) 3 1 (M 14 1)) 3 2 (M 14 2)) ?_).fn ⟨rfl, ?_⟩
  · unfold VX10_becomeLike_m_0
    refine (c_fill (n := 3) rfl rfl).fn ⟨rfl, ?_⟩
    rintro M2 rfl M3 rfl
    exact ⟨rfl, by simp [up, cpM]⟩
  generalize hM1 : up (up (cpM M 15 0 4 0 3) 3 1 (M 14 1)) 3 2 (M 14 2) = M1
  refine (RX0_becomeLike_m (D := 3) (post := fun r Mx => r = none ∧ Mx = up (up (up (cpM (cpM M1 17 0 6 0 8) 18 0 7 0 8) 5 3 (M 16 3)) 5 4 (M 16 4)) 5 5 (M 16 5)) ?_).fn ⟨rfl, ?_⟩
  · unfold VX0_becomeLike_m_0
    refine (c_fill (n := 8) rfl rfl).fn ⟨rfl, (c_fill (n := 8) rfl rfl).fn ⟨rfl, ?_⟩⟩
    rintro M2 rfl M3 rfl M4 rfl
    refine ⟨rfl, ?_⟩
    rw [← hM1]
    simp [up, cpM]
  generalize hM2 : up (up (up (cpM (cpM M1 17 0 6 0 8) 18 0 7 0 8) 5 3 (M 16 3)) 5 4 (M 16 4)) 5 5 (M 16 5) = M2
  refine (RX1_becomeLike_m (D := 3) (post := fun r Mx => r = none ∧ Mx = up (cpM M2 21 0 10 0 6) 9 1 (M 20 1)) ?_).fn ⟨rfl, ?_⟩
  · unfold VX1_becomeLike_m_0
    refine (c_fill (n := 6) rfl rfl).fn ⟨rfl, ?_⟩
    rintro M3 rfl
    refine ⟨rfl, ?_⟩
    rw [← hM2, ← hM1]
    simp [up, cpM]
  generalize hM3 : up (cpM M2 21 0 10 0 6) 9 1 (M 20 1) = M3
  refine (RX3_becomeLike_m (D := 3) (post := fun r Mx => r = none ∧ Mx = cpM (cpM M3 23 0 12 0 16) 24 0 13 0 16) ?_).fn ⟨rfl, ?_⟩
  · unfold VX3_becomeLike_m_0
    refine (c_fill (n := 16) rfl rfl).fn ⟨rfl, (c_fill (n := 16) rfl rfl).fn ⟨rfl, ?_⟩⟩
    exact ⟨rfl, rfl⟩
  refine ⟨rfl, ?_⟩
  rw [← hM3, ← hM2, ← hM1]
  rfl
theorem e_image : EqA E l vi qX11_image qX12_image [] := by
  intro M hR
  obtain ⟨⟨W, h1, h2, h3⟩, h4, h5, h6⟩ := hR
  refine (RX11_image (D := 5) (post := fun r Mx => r = some (vi 1) ∧ Mx = up (likeK M) 0 2 1) ?_).mono ?_ (by decide)
  · unfold VX11_image_0
    refine c_likeK.fn ⟨rfl, ?_⟩
    rintro M3 rfl
    exact ⟨rfl, rfl⟩
  rintro _ M1 ⟨rfl, e1⟩
  have g1 : ∀ i, i ≠ 5 → AG i M M1 := fun i hi => by rw [e1]; exact (likeK_ag hi).put (by have : rg 0 2 = 5 := rfl; omega)
  have p1 : PK M1 W := by
    rw [e1]
    obtain ⟨a1, a2, a3, a4, a5, a6, a7, a8, a9, a10, a11, a12⟩ := likeK_pk h1
    exact ⟨a1, a2, a3, a4, a5, a6, a7, a8, a9, a10, a11, a12⟩
  have h02 : M1 0 2 = 1 := by rw [e1, up_eq]
  refine ⟨1, rfl, ?_⟩
  refine (RX12_image (D := 0) (fun M' x1 => ∃ k : Nat, x1 = k ∧ k ≤ 70 ∧ (∀ k' p, (k' = 45 → p < 70) → M' k' p = M1 k' p) ∧ ∀ j, j < k → M' 45 (70 + j) = W j) (fun _ x1 => (71 - x1).toNat) ?_ ?_).up (by decide)
  · exact ⟨0, rfl, by omega, fun _ _ _ => rfl, fun j hj => by omega⟩
  · rintro M' _ ⟨k, rfl, hk, hf, hj⟩
    unfold VX12_image_2
    refine ⟨by unfold R32; omega, fun c1 => ?_, fun c1 => ⟨by omega, by omega, by omega, by omega, ?_⟩⟩
    · rintro M2 rfl
      have g2 : ∀ i, i ≠ 5 → AG i M1 (up M' 44 1 1) := fun i hi => by
        refine AG.put ?_ (by have : rg 44 1 = 5 := rfl; omega)
        intro k' p e
        refine hf k' p (fun q => ?_)
        apply Decidable.byContradiction
        intro q2
        subst q
        have : rg 45 p = 5 := by simp [rg, q2]
        omega
      refine ⟨rfl, ⟨⟨W, (h1.ag (g1 1 (by decide))).ag (g2 1 (by decide)), (h2.ag (g1 2 (by decide))).ag (g2 2 (by decide)), h3⟩, (h4.ag (g1 3 (by decide))).ag (g2 3 (by decide)), (h5.ag (g1 4 (by decide))).ag (g2 4 (by decide)), ?_⟩, (g1 6 (by decide)).tr (g2 6 (by decide))⟩
      have e02 : up M' 44 1 1 0 2 = 1 := by rw [up_ne (by decide), hf _ _ (by decide), h02]
      have e441 : up M' 44 1 1 44 1 = 1 := up_eq
      refine ⟨by rw [e02, e441], Or.inr e02, fun _ => ⟨W, ?_, ?_, h3⟩⟩
      · obtain ⟨a1, a2, a3, a4, a5, a6, a7, a8, a9, a10, a11, a12⟩ := p1
        have q : ∀ k' p, k' < 44 → up M' 44 1 1 k' p = M1 k' p := fun k' p hk => by rw [up_ne (by omega), hf _ _ (by omega)]
        exact ⟨fun j hj => (q 15 j (by decide)).trans (a1 j hj), (q 14 1 (by decide)).trans a2, (q 14 2 (by decide)).trans a3, (q 16 5 (by decide)).trans a4, (q 16 3 (by decide)).trans a5, fun j hj => (q 17 j (by decide)).trans (a6 j hj), fun j hj => (q 18 j (by decide)).trans (a7 j hj), (q 16 4 (by decide)).trans a8, (q 20 1 (by decide)).trans a9, fun j hj => (q 21 j (by decide)).trans (a10 j hj), fun j hj => (q 23 j (by decide)).trans (a11 j hj), fun j hj => (q 24 j (by decide)).trans (a12 j hj)⟩
      · intro j hj'
        rw [up_ne (by omega)]
        exact hj j (by omega)
    · rw [show (70 + (k : Int)).toNat = 70 + k by omega, Int.toNat_natCast]
      rintro M2 rfl y7 h7
      refine ⟨⟨k + 1, by omega, by omega, fun k' p q => ?_, fun j hj' => ?_⟩, by omega⟩
      · rw [up_ne (fun e => by have := q e.1; omega)]
        exact hf k' p q
      · by_cases e : j = k
        · subst e
          rw [up_eq, hf 45 j (fun _ => by omega)]
          exact (h2.ag (g1 2 (by decide))) j (by omega)
        · rw [up_ne (by omega)]
          exact hj j (by omega)
theorem e_restore : EqA E l vi qX11_restore qX12_restore [] := by
  intro M hR
  obtain ⟨⟨W, h1, h2, h3⟩, h4, h5, h6⟩ := id hR
  obtain ⟨i1, i2, i3⟩ := id h6
  refine (RX11_restore (D := 5) (post := fun r Mx => ∃ x : Int, r = some (vi x) ∧ ((M 0 2 = 1 ∧ x = 1 ∧ Mx = likeM M) ∨ (M 0 2 = 0 ∧ x = -4 ∧ Mx = M))) ?_).mono ?_ (by decide)
  · unfold VX11_restore_0
    refine ⟨by unfold R32; omega, fun c1 => c_likeM.fn ⟨rfl, 1, rfl, Or.inl ⟨by omega, rfl, rfl⟩⟩, fun c1 => ⟨-4, rfl, Or.inr ⟨c1, rfl, rfl⟩⟩⟩
  rintro _ M1 ⟨x, rfl, hx⟩
  refine ⟨x, rfl, ?_⟩
  rcases hx with ⟨q1, rfl, e1⟩ | ⟨q1, rfl, rfl⟩
  · obtain ⟨V, v1, v2, v3⟩ := i3 q1
    have g1 : ∀ i, i ≠ 1 → AG i M M1 := fun i hi => by rw [e1]; exact likeM_ag hi
    have p1 : PC M1 V := by rw [e1]; exact likeM_pc v1
    have v2' := v2.ag (g1 5 (by decide))
    refine (RX12_restore (D := 0) (fun M' x1 => ∃ k : Nat, x1 = k ∧ k ≤ 70 ∧ (∀ k' p, (k' = 45 → 70 ≤ p) → M' k' p = M1 k' p) ∧ ∀ j, j < k → M' 45 j = V j) (fun _ x1 => (71 - x1).toNat) ?_ ?_).up (by decide)
    · unfold VX12_restore_0
      have e44 : M1 44 1 = 1 := by rw [g1 5 (by decide) 44 1 rfl]; omega
      rw [e44]
      exact ⟨by decide, fun _ => ⟨0, rfl, by omega, fun _ _ _ => rfl, fun j hj => by omega⟩, fun q => absurd q (by decide)⟩
    · rintro M' _ ⟨k, rfl, hk, hf, hj⟩
      unfold VX12_restore_12
      refine ⟨by unfold R32; omega, fun c1 => ?_, fun c1 => ⟨by omega, by omega, by omega, by omega, ?_⟩⟩
      · have g2 : ∀ i, i ≠ 2 → AG i M1 M' := fun i hi => by
          intro k' p e
          refine hf k' p (fun q => ?_)
          apply Decidable.byContradiction
          intro q2
          subst q
          have : rg 45 p = 2 := by simp [rg]; omega
          omega
        refine ⟨rfl, ⟨⟨V, p1.ag (g2 1 (by decide)), fun j hj' => hj j (by omega), v3⟩, (h4.ag (g1 3 (by decide))).ag (g2 3 (by decide)), (h5.ag (g1 4 (by decide))).ag (g2 4 (by decide)), (h6.ag (g1 5 (by decide))).ag (g2 5 (by decide))⟩, (g1 6 (by decide)).tr (g2 6 (by decide))⟩
      · rw [show (70 + (k : Int)).toNat = 70 + k by omega, Int.toNat_natCast]
        rintro M2 rfl y7 h7
        refine ⟨⟨k + 1, by omega, by omega, fun k' p q => ?_, fun j hj' => ?_⟩, by omega⟩
        · rw [up_ne (fun e => by have := q e.1; omega)]
          exact hf k' p q
        · by_cases e : j = k
          · subst e
            rw [up_eq, hf 45 (70 + j) (fun _ => by omega)]
            exact v2' j (by omega)
          · rw [up_ne (by omega)]
            exact hj j (by omega)
  · refine (RX12_restore (D := 0) (fun _ _ => False) (fun _ _ => 0) ?_ (fun _ _ h => h.elim)).up (by decide)
    unfold VX12_restore_0
    rw [← i1, q1]
    exact ⟨by decide, fun q => absurd rfl q, fun _ => ⟨rfl, hR, AG.rf⟩⟩
end
