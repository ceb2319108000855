/-! the seating's own relation: what is kept from call to call -/
def GI (M : MM) : Prop := (M 39 6 = 0 ∨ M 39 6 = 1) ∧ (0 ≤ M 39 7 ∧ M 39 7 ≤ 8) ∧ (0 ≤ M 39 5 ∧ M 39 5 ≤ 8) ∧ M 40 0 = 0 ∧ wB (fun s => M 40 s) ∧ (∀ g, g < 8 → M 41 g = 0) ∧ (M 39 6 = 1 → RBc M (M 39 7).toNat (res (fun s => M 40 s) (M 39 5).toNat (M 39 7).toNat) ∧ zB (res (fun s => M 40 s) (M 39 5).toNat (M 39 7).toNat))
theorem GI.ag {M M' : MM} (h : GI M) (e : AG 6 M M') : GI M' := by
  have q : ∀ k p, 39 ≤ k → k ≤ 43 → M' k p = M k p := fun k p a b => e k p (rg_6 ⟨a, b⟩)
  have w : (fun s => M' 40 s) = (fun s => M 40 s) := funext fun s => q 40 s (by decide) (by decide)
  unfold GI
  rw [w, q 39 6 (by decide) (by decide), q 39 7 (by decide) (by decide), q 39 5 (by decide) (by decide), q 40 0 (by decide) (by decide)]
  obtain ⟨h1, h2, h3, h4, h5, h6, h7⟩ := h
  exact ⟨h1, h2, h3, h4, h5, fun g hg => (q 41 g (by decide) (by decide)).trans (h6 g hg), fun a => ⟨(h7 a).1.of (q 39 4 (by decide) (by decide)) (q 39 8 (by decide) (by decide)) (fun j _ => q 43 j (by decide) (by decide)), (h7 a).2⟩⟩
section
variable {E : FX} {l : Launch} {M : MM}
theorem c_setWorth {s : Nat} {v : Int} (hs : 0 < s ∧ s < 256) (hv : -4398046511104 ≤ v ∧ v ≤ 4398046511104) (h : GI M) : Con E l 2 qX4_setWorth [vr 39, vi s, vj v] M (fun r M' => r = none ∧ GI M' ∧ M' 40 s = v ∧ (∀ s', s' ≠ s → M' 40 s' = M 40 s') ∧ F6 M M') := by
  obtain ⟨h1, h2, h3, h4, h5, h6, h7⟩ := id h
  refine RX4_setWorth (D := 1) ?_
  unfold VX4_setWorth_0
  try unfold VX4_setWorth_27
  have hb := h5 s hs.2
  have hb' : -4398046511104 ≤ M 40 s ∧ M 40 s ≤ 4398046511104 := hb
  refine (c_atj_in (n := 256) rfl (by omega) (by omega)).fn ⟨_, rfl, ?_⟩
  rw [Int.toNat_natCast]
  refine ⟨by unfold R64; omega, by unfold R64; omega, fun c => ⟨rfl, h, c, fun _ _ => rfl, F6.rf⟩, fun c => (c_putj (n := 256) rfl (by omega) (by omega)).fn ⟨rfl, fun M8 h8 => ⟨rfl, ?_, ?_, fun s' hs' => ?_, ?_⟩⟩⟩
  · rw [Int.toNat_natCast] at h8
    have w : ∀ s', M8 40 s' = if s' = s then v else M 40 s' := fun s' => by
      rw [h8, up_ne (by omega)]
      by_cases d : s' = s
      · rw [if_pos d, d, up_eq]
      · rw [if_neg d, up_ne (by omega)]
    have e39 : ∀ j, j ≠ 6 → M8 39 j = M 39 j := fun j hj => by rw [h8, up_ne (by omega), up_ne (by omega)]
    have e6 : M8 39 6 = 0 := by rw [h8, up_eq]
    unfold GI
    rw [e6, e39 7 (by decide), e39 5 (by decide)]
    refine ⟨Or.inl rfl, h2, h3, ?_, fun s' hs' => ?_, fun g hg => ?_, fun q => absurd q (by decide)⟩
    · rw [w, if_neg (by omega)]; exact h4
    · show -4398046511104 ≤ M8 40 s' ∧ M8 40 s' ≤ 4398046511104
      rw [w]
      split
      · exact hv
      · exact h5 s' hs'
    · rw [h8, up_ne (by omega), up_ne (by omega)]
      exact h6 g hg
  · rw [h8, Int.toNat_natCast, up_ne (by omega), up_eq]
  · rw [h8, Int.toNat_natCast, up_ne (by omega), up_ne (by omega)]
  · rw [h8]
    exact (F6.rf.put (by decide)).put (by decide)
theorem res_zB {wt : Nat → Int} {lim n : Nat} (hw : wB wt) (hn : n ≤ 8) (hz : ∀ (L : List (List Nat)) (z : ZZ), zB z → (∀ r, r ∈ L → uf r n ≤ 8) → zB (L.foldl (stp wt lim n) z)) (hu : ∀ r, r ∈ rf n 0 → uf r n ≤ 8) : zB (res wt lim n) := hz _ _ (fun q e => by cases e) hu
theorem c_solve {n lim : Nat} (hn : n ≤ 8) (hl : lim ≤ 8) (h : GI M) : Con E l 13 qX4_solve [vr 39, vi n, vi lim] M (fun r M' => r = none ∧ GI M' ∧ M' 39 7 = n ∧ RBc M' n (res (fun s => M 40 s) lim n) ∧ zB (res (fun s => M 40 s) lim n) ∧ F6 M M') := by
  obtain ⟨h1, h2, h3, h4, h5, h6, h7⟩ := id h
  refine RX4_solve (D := 12) ?_
  unfold VX4_solve_0
  have go : ∀ M13, M13 = up M 39 7 n → ∀ M15, M15 = up M13 39 5 lim → ∀ M17, M17 = up M15 39 4 (-1) → Con E l 12 qX4_seat [vr 39, vi 0, vi 0, vj 0] M17 (fun r M19 => r = none ∧ (∀ M21 : MM, M21 = up M19 39 6 1 → ((none : Option AV) = none ∧ GI M21 ∧ M21 39 7 = n ∧ RBc M21 n (res (fun s => M 40 s) lim n) ∧ zB (res (fun s => M 40 s) lim n) ∧ F6 M M21))) := by
    intro M13 h13 M15 h15 M17 h17
    have e39 : ∀ k p, k ≠ 39 → M17 k p = M k p := fun k p a => by rw [h17, h15, h13, up_ne (by omega), up_ne (by omega), up_ne (by omega)]
    have g0 : GS M17 n lim (fun s => M 40 s) [] none := by
      refine ⟨?_, ?_, fun s _ => e39 40 s (by decide), fun g hg => ?_, fun j hj => absurd hj (Nat.not_lt_zero _), ?_⟩
      · rw [h17, h15, h13, up_ne (by omega), up_ne (by omega), up_eq]
      · rw [h17, h15, up_ne (by omega), up_eq]
      · rw [e39 41 g (by decide)]; exact h6 g hg
      · show M17 39 4 = -1
        rw [h17, up_eq]
    have hs := c_seat (E := E) (l := l) (n := n) (lim := lim) (wt := fun s => M 40 s) hn hl h4 h5 n [] none M17 (Nat.zero_add n) (Nat.le_refl 0) (fun g _ => by show bcn 8 0 ≤ lim; rw [show bcn 8 0 = 0 by decide]; exact Nat.zero_le _) (fun q e => by cases e) g0
    refine hs.mono (hD := by omega) ?_
    rintro _ M19 ⟨rfl, ⟨q1, q2, q3, q4, q5, q6⟩, g2, g3⟩
    have e : (rf n (uf [] ([] : List Nat).length)).foldl (fun z s => stp (fun s => M 40 s) lim n z ([] ++ s)) none = res (fun s => M 40 s) lim n := rfl
    rw [e] at q6 g2
    refine ⟨rfl, ?_⟩
    rintro M21 rfl
    have w : ∀ s, s < 256 → up M19 39 6 1 40 s = M 40 s := fun s hs => by rw [up_ne (by omega)]; exact q3 s hs
    have rb : RBc (up M19 39 6 1) n (res (fun s => M 40 s) lim n) := q6.of (up_ne (by omega)) (up_ne (by omega)) (fun j _ => up_ne (by omega))
    have er : res (fun s => up M19 39 6 1 40 s) lim n = res (fun s => M 40 s) lim n := res_cong (fun s hs => by
      have h2 : 2 ^ n ≤ 2 ^ 8 := Nat.pow_le_pow_right (by omega) hn
      exact w s (by omega))
    refine ⟨rfl, ?_, by rw [up_ne (by omega)]; exact q1, rb, g2, ?_⟩
    · unfold GI
      rw [up_eq, up_ne (show ¬ (39 = 39 ∧ 7 = 6) by omega), up_ne (show ¬ (39 = 39 ∧ 5 = 6) by omega), q1, q2, Int.toNat_natCast, Int.toNat_natCast, er]
      refine ⟨Or.inr rfl, by omega, by omega, by rw [w 0 (by omega)]; exact h4, fun s hs => ?_, fun g hg => ?_, fun _ => ⟨rb, g2⟩⟩
      · show -4398046511104 ≤ up M19 39 6 1 40 s ∧ up M19 39 6 1 40 s ≤ 4398046511104
        rw [w s hs]
        exact h5 s hs
      · rw [up_ne (by omega), q4 g hg]
        rfl
    · have f0 : F6 M M17 := by
        rw [h17, h15, h13]
        exact ((F6.rf.put (by decide)).put (by decide)).put (by decide)
      exact (f0.tr g3).put (by decide)
  refine ⟨by unfold R32; omega, fun _ => go, fun c => ⟨by unfold R32; omega, by unfold R32; omega, fun _ => go, fun c2 => ⟨by unfold R32; omega, by unfold R32; omega, fun _ => go, fun c3 => ?_⟩⟩⟩
  have h77 := h7 (by omega)
  rw [c2, c3, Int.toNat_natCast, Int.toNat_natCast] at h77
  exact ⟨rfl, h, c2, h77.1, h77.2, F6.rf⟩
end
