/-! the reference's rows -/
def Only (k0 : Nat) (M M' : MM) : Prop := ∀ k j, k ≠ k0 → M' k j = M k j
theorem Only.rf {k0 : Nat} {M : MM} : Only k0 M M := fun _ _ _ => rfl
theorem Only.put {k0 j : Nat} {x : Int} {M M1 : MM} (h : Only k0 M M1) : Only k0 M (up M1 k0 j x) := by
  intro k' j' a
  rw [up_ne (fun e => a e.1)]
  exact h k' j' a
theorem Only.eqv {k0 : Nat} {M M1 M2 : MM} (h : Only k0 M1 M2) (e : Eqv M M1) (hk : ∀ j, Sc k0 j = true) : Eqv M M2 := by
  intro k j q
  rw [h k j (fun c => by rw [c, hk j] at q; cases q)]
  exact e k j q
theorem rgs_le {r : List Nat} {n k : Nat} (h : rgs r n) (hk : k < n) : ro r k ≤ k := Nat.le_trans (h k hk) (rgs_uf k (fun j hj => h j (by omega)))
section
variable {E : FX} {l : Launch} {M : MM}
theorem c_begin49 : Con E l 1 qX12_begin [vr 44] M (fun r M' => r = none ∧ (∀ j, j < 8 → M' 49 j = 0) ∧ Only 49 M M') := by
  refine RX12_begin (D := 0) (fun M' x1 => ∃ k : Nat, x1 = k ∧ k ≤ 8 ∧ (∀ j, j < k → M' 49 j = 0) ∧ Only 49 M M') (fun _ x1 => (10 - x1).toNat) ?_ ?_
  · exact ⟨0, rfl, by omega, fun j hj => absurd hj (by omega), Only.rf⟩
  · rintro M' _ ⟨k, rfl, hk, hj, ho⟩
    unfold VX12_begin_2
    refine ⟨by unfold R32; omega, fun c => ⟨rfl, fun j q => hj j (by omega), ho⟩, fun c => ⟨by omega, by omega, fun M3 h3 y5 h5 => ⟨⟨k + 1, by omega, by omega, fun j q => ?_, by rw [h3]; exact ho.put⟩, by omega⟩⟩⟩
    rw [h3, Int.toNat_natCast]
    by_cases d : j = k
    · rw [d, up_eq]
    · rw [up_ne (by omega)]; exact hj j (by omega)
theorem c_groupsOf {r : List Nat} {n : Nat} (hn : n ≤ 8) (hg : rgs r n) (hr : ∀ j, j < n → M 49 j = (ro r j : Nat)) : Con E l 1 qX12_groupsOf [vr 44, vi n] M (fun q M' => q = some (vi (uf r n : Nat)) ∧ M' = M) := by
  refine RX12_groupsOf (D := 0) (fun M' x1 x2 x3 => M' = M ∧ x1 = n ∧ ∃ k : Nat, x2 = (uf r k : Nat) ∧ x3 = k ∧ k ≤ n) (fun _ _ _ x3 => (10 - x3).toNat) ?_ ?_
  · exact ⟨rfl, rfl, 0, rfl, rfl, by omega⟩
  · rintro M' _ _ _ ⟨rfl, rfl, k, rfl, rfl, hk⟩
    unfold VX12_groupsOf_4
    try unfold VX12_groupsOf_31
    have hu := rgs_uf (r := r) k (fun j hj => hg j (by omega))
    refine ⟨by unfold R32; omega, by unfold R32; omega, fun c => ⟨by rw [show k = n by omega], rfl⟩, fun c => ?_⟩
    have hv := rgs_le hg (show k < n by omega)
    have hs := uf_s r k
    rw [Int.toNat_natCast, hr k (by omega)]
    exact ⟨by omega, by omega, by unfold R32; omega, by unfold R32; omega, fun c2 y1 h1 => ⟨⟨rfl, rfl, k + 1, by omega, by omega, by omega⟩, by omega⟩, fun c2 => ⟨by omega, by omega, fun y1 h1 => ⟨⟨rfl, rfl, k + 1, by omega, by omega, by omega⟩, by omega⟩⟩⟩
theorem c_take {r : List Nat} {n : Nat} {u : Int} (hn : n ≤ 8) (hr : ∀ j, j < n → M 49 j = (ro r j : Nat)) : Con E l 1 qX12_take [vr 44, vi n, vi u] M (fun q M' => q = none ∧ M' 44 13 = u ∧ (∀ j, j < n → M' 50 j = (ro r j : Nat)) ∧ Only 50 (up M 44 13 u) M') := by
  refine RX12_take (D := 0) (fun M' x1 x3 => x1 = n ∧ ∃ k : Nat, x3 = k ∧ k ≤ n ∧ (∀ j, j < k → M' 50 j = (ro r j : Nat)) ∧ Only 50 (up M 44 13 u) M') (fun _ _ x3 => (10 - x3).toNat) ?_ ?_
  · intro M1 h1
    subst h1
    exact ⟨rfl, 0, rfl, by omega, fun j hj => absurd hj (by omega), Only.rf⟩
  · rintro M' _ _ ⟨rfl, k, rfl, hk, hj, ho⟩
    unfold VX12_take_7
    refine ⟨by unfold R32; omega, by unfold R32; omega, fun c => ⟨rfl, ?_, fun j q => hj j (by omega), ho⟩, fun c => ⟨by omega, by omega, by omega, by omega, fun M5 h5 y7 h7 => ⟨⟨rfl, k + 1, by omega, by omega, fun j q => ?_, by rw [h5]; exact ho.put⟩, by omega⟩⟩⟩
    · rw [ho 44 13 (by decide), up_eq]
    · rw [h5, Int.toNat_natCast]
      by_cases d : j = k
      · rw [d, up_eq, ho 49 k (by decide), up_ne (by omega)]
        exact hr k (by omega)
      · rw [up_ne (by omega)]; exact hj j (by omega)
theorem c_goes_nx {r r' : List Nat} {n : Nat} (hn : n ≤ 8) (hl : r.length = n) (hg : rgs r n) (hr : ∀ j, j < n → M 49 j = (ro r j : Nat)) (h : Nx 0 r r') : Con E l 1 qX12_goesOn [vr 44, vi n] M (fun q M' => q = some (vi 1) ∧ (∀ j, j < n → M' 49 j = (ro r' j : Nat)) ∧ Only 49 M M') := by
  obtain ⟨h1, i, h2, h3, h4, h5, h6, h7⟩ := h
  have hi0 : 0 < i := by
    apply Decidable.byContradiction
    intro q
    have e : i = 0 := by omega
    rw [e] at h3
    exact absurd h3 (Nat.not_lt_zero _)
  have ub : ∀ k, k ≤ n → uf r k ≤ k := fun k hk => rgs_uf k (fun j hj => hg j (by omega))
  have u1 : ∀ k, 0 < k → 1 ≤ uf r k := fun k hk => by
    obtain ⟨k', rfl⟩ : ∃ k', k = k' + 1 := ⟨k - 1, by omega⟩
    have := uf_s r k'
    omega
  refine RX12_goesOn (D := 0)
    (fun M' x1 x2 => M' = M ∧ x1 = n ∧ ∃ t : Nat, x2 = t ∧ i ≤ t ∧ t < n) (fun _ _ x2 => (x2 * 100 + 99).toNat)
    (fun M' x1 x2 x3 x4 => M' = M ∧ x1 = n ∧ ∃ t j : Nat, x2 = t ∧ i ≤ t ∧ t < n ∧ x4 = j ∧ j ≤ t ∧ x3 = (uf r j - 1 : Nat)) (fun _ _ x2 _ x4 => (x2 * 100 + 50 - x4).toNat)
    (fun M' x1 x4 => x1 = n ∧ ∃ j : Nat, x4 = j ∧ i < j ∧ j ≤ n ∧ (∀ q, q < j → M' 49 q = (ro r' q : Nat)) ∧ Only 49 M M') (fun _ _ x4 => (20 - x4).toNat) ?_ ?_ ?_ ?_
  · unfold VX12_goesOn_0
    intro y1 hy
    exact ⟨rfl, rfl, n - 1, by omega, by omega, by omega⟩
  · rintro M' _ _ ⟨rfl, rfl, t, rfl, ht, htn⟩
    unfold VX12_goesOn_4
    exact ⟨by unfold R32; omega, fun c => by omega, fun c => ⟨⟨rfl, rfl, t, 0, rfl, ht, htn, rfl, by omega, rfl⟩, by omega⟩⟩
  · rintro M' _ _ _ _ ⟨rfl, rfl, t, j, rfl, ht, htn, rfl, hj, rfl⟩
    unfold VX12_goesOn_13
    try unfold VX12_goesOn_41
    have b1 := ub j (by omega)
    have b2 := rgs_le hg htn
    rw [Int.toNat_natCast, Int.toNat_natCast, hr t htn]
    refine ⟨by unfold R32; omega, by unfold R32; omega, fun c => ⟨by omega, by omega, by unfold R32; omega, by unfold R32; omega, fun c2 y11 h11 => ?_, fun c2 => ⟨by omega, by omega, by omega, by omega, fun M13 h13 y15 h15 => ?_⟩⟩, fun c => ?_⟩
    · have ej : j = t := by omega
      subst ej
      have b3 := u1 j (by omega)
      have hne : j ≠ i := fun q => by
        subst q
        omega
      exact ⟨⟨rfl, rfl, j - 1, by omega, by omega, by omega⟩, by omega⟩
    · have ej : j = t := by omega
      subst ej
      have b3 := u1 j (by omega)
      have hei : j = i := by
        apply Decidable.byContradiction
        intro q
        exact h4 j (by omega) (by omega) (by omega)
      subst hei
      refine ⟨⟨rfl, j + 1, by omega, by omega, by omega, fun q hq => ?_, by rw [h13]; exact Only.rf.put⟩, by omega⟩
      rw [h13]
      by_cases d : q = j
      · rw [d, up_eq, h5]
        rfl
      · rw [up_ne (by omega), hr q (by omega), h6 q (by omega)]
    · have b3 := rgs_le hg (show j < n by omega)
      have hs := uf_s r j
      rw [hr j (by omega)]
      exact ⟨by omega, by omega, by unfold R32; omega, by unfold R32; omega, fun c2 y5 hy5 => ⟨⟨rfl, rfl, t, j + 1, rfl, ht, htn, by omega, by omega, by omega⟩, by omega⟩, fun c2 => ⟨by omega, by omega, fun y5 hy5 => ⟨⟨rfl, rfl, t, j + 1, rfl, ht, htn, by omega, by omega, by omega⟩, by omega⟩⟩⟩
  · rintro M' _ _ ⟨rfl, j, rfl, hij, hjn, hq, ho⟩
    unfold VX12_goesOn_73
    refine ⟨by unfold R32; omega, by unfold R32; omega, fun c => ⟨rfl, fun q a => hq q (by omega), ho⟩, fun c => ⟨by omega, by omega, fun M21 h21 y23 h23 => ⟨⟨rfl, j + 1, by omega, by omega, by omega, fun q a => ?_, by rw [h21]; exact ho.put⟩, by omega⟩⟩⟩
    rw [h21, Int.toNat_natCast]
    by_cases d : q = j
    · rw [d, up_eq, h7 j hij]
      rfl
    · rw [up_ne (by omega)]; exact hq q (by omega)
theorem c_goes_ls {r : List Nat} {n : Nat} (hn : n ≤ 8) (hg : rgs r n) (hr : ∀ j, j < n → M 49 j = (ro r j : Nat)) (h : Ls n 0 r) : Con E l 1 qX12_goesOn [vr 44, vi n] M (fun q M' => q = some (vi 0) ∧ M' = M) := by
  obtain ⟨h1, h2⟩ := h
  have ub : ∀ k, k ≤ n → uf r k ≤ k := fun k hk => rgs_uf k (fun j hj => hg j (by omega))
  have u1 : ∀ k, 0 < k → 1 ≤ uf r k := fun k hk => by
    obtain ⟨k', rfl⟩ : ∃ k', k = k' + 1 := ⟨k - 1, by omega⟩
    have := uf_s r k'
    omega
  refine RX12_goesOn (D := 0)
    (fun M' x1 x2 => M' = M ∧ x1 = n ∧ -1 ≤ x2 ∧ x2 < n) (fun _ _ x2 => (x2 * 100 + 199).toNat)
    (fun M' x1 x2 x3 x4 => M' = M ∧ x1 = n ∧ ∃ t j : Nat, x2 = t ∧ 1 ≤ t ∧ t < n ∧ x4 = j ∧ j ≤ t ∧ x3 = (uf r j - 1 : Nat)) (fun _ _ x2 _ x4 => (x2 * 100 + 150 - x4).toNat)
    (fun _ _ _ => False) (fun _ _ _ => 0) ?_ ?_ ?_ (fun _ _ _ q => q.elim)
  · unfold VX12_goesOn_0
    intro y1 hy
    exact ⟨rfl, rfl, by omega, by omega⟩
  · rintro M' _ x2 ⟨rfl, rfl, ht, htn⟩
    unfold VX12_goesOn_4
    exact ⟨by unfold R32; omega, fun c => ⟨rfl, rfl⟩, fun c => ⟨⟨rfl, rfl, x2.toNat, 0, by omega, by omega, by omega, rfl, by omega, rfl⟩, by omega⟩⟩
  · rintro M' _ _ _ _ ⟨rfl, rfl, t, j, rfl, ht, htn, rfl, hj, rfl⟩
    unfold VX12_goesOn_13
    try unfold VX12_goesOn_41
    have b1 := ub j (by omega)
    have b2 := rgs_le hg htn
    rw [Int.toNat_natCast, Int.toNat_natCast, hr t htn]
    refine ⟨by unfold R32; omega, by unfold R32; omega, fun c => ⟨by omega, by omega, by unfold R32; omega, by unfold R32; omega, fun c2 y11 h11 => ⟨⟨rfl, rfl, by omega, by omega⟩, by omega⟩, fun c2 => ?_⟩, fun c => ?_⟩
    · have ej : j = t := by omega
      subst ej
      have b3 := u1 j (by omega)
      exact absurd (show ro r j < max 0 (uf r j) by omega) (h2 j htn)
    · have b3 := rgs_le hg (show j < n by omega)
      have hs := uf_s r j
      rw [hr j (by omega)]
      exact ⟨by omega, by omega, by unfold R32; omega, by unfold R32; omega, fun c2 y5 hy5 => ⟨⟨rfl, rfl, t, j + 1, rfl, ht, htn, by omega, by omega, by omega⟩, by omega⟩, fun c2 => ⟨by omega, by omega, fun y5 hy5 => ⟨⟨rfl, rfl, t, j + 1, rfl, ht, htn, by omega, by omega, by omega⟩, by omega⟩⟩⟩
end
