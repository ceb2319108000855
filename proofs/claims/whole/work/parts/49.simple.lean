section
variable {E : FX} {l : Launch} {a b : Int}
/-! measure -/
def aMeas (a b : Int) (W : Nat → Int) : Int := if (0 ≤ a ∧ a ≤ 2) ∧ (1 ≤ b ∧ b ≤ 999) then W a.toNat else -1
def fMeas (a b : Int) (W : Nat → Int) : Nat → Int := if (0 ≤ a ∧ a ≤ 2) ∧ (1 ≤ b ∧ b ≤ 999) then upW W a.toNat b else W
theorem k_measure (ha : R32 a) (hb : R32 b) : ∀ M W, PC M W → IW W → Con E l 20 qX11_measure [vr 0, vi a, vi b] M (fun r M' => r = some (vi (aMeas a b W)) ∧ PC M' (fMeas a b W) ∧ Kp 1 M M') := by
  intro M W hP hW
  have bad : ¬ ((0 ≤ a ∧ a ≤ 2) ∧ (1 ≤ b ∧ b ≤ 999)) → some (vi (-1)) = some (vi (aMeas a b W)) ∧ PC M (fMeas a b W) ∧ Kp 1 M M := fun h => by
    unfold aMeas fMeas
    rw [if_neg h, if_neg h]
    exact ⟨rfl, hP, Kp.rf⟩
  refine (RX11_measure (D := 2) ?_).up (by decide)
  unfold VX11_measure_0
  try unfold VX11_measure_20
  refine (c_within ha (by decide) (by decide)).fn ⟨_, rfl, b01_R, fun c => bad (by rw [b01_0] at c; omega), fun c => (c_within hb (by decide) (by decide)).fn ⟨_, rfl, b01_R, fun c2 => ?_, fun c2 => bad (by rw [b01_0] at c2; omega)⟩⟩
  rw [b01_n0] at c c2
  refine (c_at_in (n := 3) rfl (by omega) (by omega)).fn ⟨_, rfl, (c_put (n := 3) rfl (by omega) (by omega)).fn ⟨rfl, ?_⟩⟩
  unfold aMeas fMeas
  rw [if_pos ⟨c, c2⟩, if_pos ⟨c, c2⟩]
  refine ⟨by rw [hP.1 a.toNat (by omega)], hP.set (by omega) (lc_0 _ (by omega)), Kp.rf.put (Or.inl rfl)⟩
theorem m_measure (ha : R32 a) (hb : R32 b) : ∀ M W, PM M W → IW W → Con E l 20 qX12_measure [vr 44, vi a, vi b] M (fun r M' => r = some (vi (aMeas a b W)) ∧ PM M' (fMeas a b W) ∧ Kp 2 M M') := by
  intro M W hP hW
  have bad : ¬ ((0 ≤ a ∧ a ≤ 2) ∧ (1 ≤ b ∧ b ≤ 999)) → some (vi (-1)) = some (vi (aMeas a b W)) ∧ PM M (fMeas a b W) ∧ Kp 2 M M := fun h => by
    unfold aMeas fMeas
    rw [if_neg h, if_neg h]
    exact ⟨rfl, hP, Kp.rf⟩
  refine (RX12_measure (D := 2) ?_).up (by decide)
  unfold VX12_measure_0
  try unfold VX12_measure_24
  refine ⟨ha, (c_in (r32_64 ha) (by decide) (by decide)).fn ⟨_, rfl, b01_R, fun c => bad (by rw [b01_0] at c; omega), fun c => ⟨hb, (c_in (r32_64 hb) (by decide) (by decide)).fn ⟨_, rfl, b01_R, fun c2 => ?_, fun c2 => bad (by rw [b01_0] at c2; omega)⟩⟩⟩⟩
  rw [b01_n0] at c c2
  refine ⟨by omega, by omega, fun y11 h11 => ⟨by omega, by omega, fun M13 h13 => ?_⟩⟩
  unfold aMeas fMeas
  rw [if_pos ⟨c, c2⟩, if_pos ⟨c, c2⟩, h13, h11, Int.zero_add]
  have hr : rg 45 a.toNat = 2 := by simp [rg]; omega
  exact ⟨by rw [hP a.toNat (by omega)], hP.set, Kp.rf.put (Or.inl hr)⟩
theorem e_measure (ha : R32 a) (hb : R32 b) : EqA E l vi qX11_measure qX12_measure [vi a, vi b] :=
  eqW (aMeas a b) (fMeas a b) (k_measure ha hb) (m_measure ha hb) (fun W hW => by
    unfold fMeas
    split
    · rename_i h
      refine hW.set (fun _ _ => ?_) (fun h3 => by omega)
      unfold wlo whi
      rw [if_pos (by omega), if_pos (by omega)]
      exact h.2
    · exact hW)
/-! rule -/
def okRu (a b : Int) : Prop := (a = 3 ∨ a = 5 ∨ a = 6 ∨ a = 7) ∧ (0 ≤ b ∧ b ≤ 1)
theorem bcn_rule : ∀ s : Nat, s < 8 → ((1 ≤ s ∧ 2 ≤ bcn 8 s) ↔ (s = 3 ∨ s = 5 ∨ s = 6 ∨ s = 7)) := by decide +kernel
theorem k_rule (ha : R32 a) (hb : R32 b) : ∀ M W, PC M W → IW W → Con E l 20 qX11_rule [vr 0, vi a, vi b] M (fun r M' => ((okRu a b ∧ r = some (vi (10 * W 3 + W 4)) ∧ PC M' (upW (upW W 3 a) 4 b)) ∨ (¬ okRu a b ∧ r = some (vi (-1)) ∧ PC M' W)) ∧ Kp 1 M M') := by
  intro M W hP hW
  have bad : ¬ okRu a b → ((okRu a b ∧ some (vi (-1)) = some (vi (10 * W 3 + W 4)) ∧ PC M (upW (upW W 3 a) 4 b)) ∨ (¬ okRu a b ∧ some (vi (-1)) = some (vi (-1)) ∧ PC M W)) ∧ Kp 1 M M := fun h => ⟨Or.inr ⟨h, rfl, hP⟩, Kp.rf⟩
  refine (RX11_rule (D := 2) ?_).up (by decide)
  unfold VX11_rule_0
  try unfold VX11_rule_23
  try unfold VX11_rule_37
  refine (c_within ha (by decide) (by decide)).fn ⟨_, rfl, b01_R, fun c => ⟨by decide, fun _ => bad (by rw [b01_0] at c; unfold okRu; omega), fun q => absurd rfl q⟩, fun c => ?_⟩
  rw [b01_n0] at c
  obtain ⟨s, rfl⟩ : ∃ s : Nat, a = s := ⟨a.toNat, by omega⟩
  have hbc := bcn_rule s (by omega)
  have hbb : bcn 8 s ≤ 8 := (by decide +kernel : ∀ s, s < 8 → bcn 8 s ≤ 8) s (by omega)
  refine (c_bitCount (by omega)).fn ⟨_, rfl, by unfold R32; omega, fun c2 => ⟨by decide, fun _ => bad (by unfold okRu; omega), fun q => absurd rfl q⟩, fun c2 => ⟨by decide, fun q => absurd q (by decide), fun _ => (c_within hb (by decide) (by decide)).fn ⟨_, rfl, b01_R, fun c3 y8 h8 M10 h10 M12 h12 => ?_, fun c3 => bad (by rw [b01_0] at c3; unfold okRu; omega)⟩⟩⟩
  rw [b01_n0] at c3
  refine ⟨Or.inl ⟨⟨by omega, c3⟩, by rw [h8, hP.2.1, hP.2.2.1], ?_⟩, ?_⟩
  · rw [h12, h10]
    exact (hP.set (j := 3) (by omega) rfl).set (j := 4) (by omega) rfl
  · rw [h12, h10]
    exact (Kp.rf.put (by decide)).put (by decide)
theorem m_rule (ha : R32 a) (hb : R32 b) : ∀ M W, PM M W → IW W → Con E l 20 qX12_rule [vr 44, vi a, vi b] M (fun r M' => ((okRu a b ∧ r = some (vi (10 * W 3 + W 4)) ∧ PM M' (upW (upW W 3 a) 4 b)) ∨ (¬ okRu a b ∧ r = some (vi (-1)) ∧ PM M' W)) ∧ Kp 2 M M') := by
  intro M W hP hW
  have bad : ¬ okRu a b → ((okRu a b ∧ some (vi (-1)) = some (vi (10 * W 3 + W 4)) ∧ PM M (upW (upW W 3 a) 4 b)) ∨ (¬ okRu a b ∧ some (vi (-1)) = some (vi (-1)) ∧ PM M W)) ∧ Kp 2 M M := fun h => ⟨Or.inr ⟨h, rfl, hP⟩, Kp.rf⟩
  have good : okRu a b → ∀ y8 : Int, y8 = (10 * (M 45 3)) + (M 45 4) → ∀ M10, M10 = up M 45 3 a → ∀ M12, M12 = up M10 45 4 b → ((okRu a b ∧ some (vi y8) = some (vi (10 * W 3 + W 4)) ∧ PM M12 (upW (upW W 3 a) 4 b)) ∨ (¬ okRu a b ∧ some (vi y8) = some (vi (-1)) ∧ PM M12 W)) ∧ Kp 2 M M12 := fun h y8 h8 M10 h10 M12 h12 => by
    refine ⟨Or.inl ⟨h, by rw [h8, hP 3 (by omega), hP 4 (by omega)], ?_⟩, ?_⟩
    · rw [h12, h10]
      exact hP.set.set
    · rw [h12, h10]
      exact (Kp.rf.put (by decide)).put (by decide)
  refine (RX12_rule (D := 2) ?_).up (by decide)
  unfold VX12_rule_0
  refine ⟨ha, fun c => ⟨hb, (c_in (r32_64 hb) (by decide) (by decide)).fn ⟨_, rfl, b01_R, fun c2 => good ?_, fun c2 => bad ?_⟩⟩, fun c => ⟨ha, (c_in (r32_64 ha) (by decide) (by decide)).fn ⟨_, rfl, b01_R, fun c2 => bad ?_, fun c2 => ⟨hb, (c_in (r32_64 hb) (by decide) (by decide)).fn ⟨_, rfl, b01_R, fun c3 => good ?_, fun c3 => bad ?_⟩⟩⟩⟩⟩
  · rw [b01_n0] at c2; exact ⟨by omega, c2⟩
  · rw [b01_0] at c2; unfold okRu; omega
  · rw [b01_0] at c2; unfold okRu; omega
  · rw [b01_n0] at c2 c3; exact ⟨by omega, c3⟩
  · rw [b01_0] at c3; unfold okRu; omega
theorem e_rule (ha : R32 a) (hb : R32 b) : EqA E l vi qX11_rule qX12_rule [vi a, vi b] := by
  by_cases h : okRu a b
  · refine eqW (fun W => 10 * W 3 + W 4) (fun W => upW (upW W 3 a) 4 b) (fun M W p i => (k_rule ha hb M W p i).mono ?_ (Nat.le_refl _)) (fun M W p i => (m_rule ha hb M W p i).mono ?_ (Nat.le_refl _)) (fun W i => ?_)
    · rintro r M' ⟨⟨_, h1, h2⟩ | ⟨h0, _⟩, k⟩
      · exact ⟨h1, h2, k⟩
      · exact absurd h h0
    · rintro r M' ⟨⟨_, h1, h2⟩ | ⟨h0, _⟩, k⟩
      · exact ⟨h1, h2, k⟩
      · exact absurd h h0
    · refine (i.set (j := 3) (fun _ _ => ?_) (fun _ => ?_)).set (j := 4) (fun _ _ => ?_) (fun q => absurd q (by decide))
      · have := h.1; simp [wlo, whi]; omega
      · have := h.1; omega
      · have := h.2; simp [wlo, whi]; omega
  · refine eqW (fun W => -1) (fun W => W) (fun M W p i => (k_rule ha hb M W p i).mono ?_ (Nat.le_refl _)) (fun M W p i => (m_rule ha hb M W p i).mono ?_ (Nat.le_refl _)) (fun W i => i)
    · rintro r M' ⟨⟨h0, _⟩ | ⟨_, h1, h2⟩, k⟩
      · exact absurd h0 h
      · exact ⟨h1, h2, k⟩
    · rintro r M' ⟨⟨h0, _⟩ | ⟨_, h1, h2⟩, k⟩
      · exact absurd h0 h
      · exact ⟨h1, h2, k⟩
/-! seam -/
def aSeam (a : Int) (W : Nat → Int) : Int := if 0 ≤ a ∧ a ≤ 99 then W 5 else -1
def fSeam (a : Int) (W : Nat → Int) : Nat → Int := if 0 ≤ a ∧ a ≤ 99 then upW W 5 a else W
theorem k_seam (ha : R32 a) : ∀ M W, PC M W → IW W → Con E l 20 qX11_seam [vr 0, vi a] M (fun r M' => r = some (vi (aSeam a W)) ∧ PC M' (fSeam a W) ∧ Kp 1 M M') := by
  intro M W hP hW
  refine (RX11_seam (D := 2) ?_).up (by decide)
  unfold VX11_seam_0 aSeam fSeam
  refine (c_within ha (by decide) (by decide)).fn ⟨_, rfl, b01_R, fun c y6 h6 M8 h8 => ?_, fun c => ?_⟩
  · rw [b01_n0] at c
    rw [if_pos c, if_pos c, h6, h8, hP.2.2.2.1]
    exact ⟨rfl, hP.set (j := 5) (by omega) rfl, Kp.rf.put (by decide)⟩
  · rw [b01_0] at c
    rw [if_neg c, if_neg c]
    exact ⟨rfl, hP, Kp.rf⟩
theorem m_seam (ha : R32 a) : ∀ M W, PM M W → IW W → Con E l 20 qX12_seam [vr 44, vi a] M (fun r M' => r = some (vi (aSeam a W)) ∧ PM M' (fSeam a W) ∧ Kp 2 M M') := by
  intro M W hP hW
  refine (RX12_seam (D := 2) ?_).up (by decide)
  unfold VX12_seam_0 aSeam fSeam
  refine ⟨ha, (c_in (r32_64 ha) (by decide) (by decide)).fn ⟨_, rfl, b01_R, fun c y6 h6 M8 h8 => ?_, fun c => ?_⟩⟩
  · rw [b01_n0] at c
    rw [if_pos c, if_pos c, h6, h8, hP 5 (by omega)]
    exact ⟨rfl, hP.set, Kp.rf.put (by decide)⟩
  · rw [b01_0] at c
    rw [if_neg c, if_neg c]
    exact ⟨rfl, hP, Kp.rf⟩
theorem e_seam (ha : R32 a) : EqA E l vi qX11_seam qX12_seam [vi a] :=
  eqW (aSeam a) (fSeam a) (k_seam ha) (m_seam ha) (fun W hW => by
    unfold fSeam
    split
    · rename_i h
      exact hW.set (fun _ _ => by simp [wlo, whi]; omega) (fun q => absurd q (by decide))
    · exact hW)
/-! place, places -/
theorem PC.kp {M M' : MM} {W : Nat → Int} (h : PC M W) (e : Eqv M M') : PC M' W ∧ Kp 1 M M' := ⟨h.eqv e, Kp.of e⟩
theorem PM.kp {M M' : MM} {W : Nat → Int} (h : PM M W) (e : Eqv M M') : PM M' W ∧ Kp 2 M M' := ⟨h.eqv e, Kp.of e⟩
noncomputable def aPlace (a : Int) (W : Nat → Int) : Int := if 1 ≤ a ∧ a ≤ 999999 then (Classical.epsilon (fun q : Nat => IsNth (knW W) (stW W) (alW W) a.toNat q) : Nat) else -1
theorem eps_nth {n g i q : Nat} {f : Nat → Nat} (h : IsNth n f g i q) : Classical.epsilon (fun q : Nat => IsNth n f g i q) = q := (Classical.epsilon_spec (p := fun q : Nat => IsNth n f g i q) ⟨q, h⟩).uniq h
theorem k_place (ha : R32 a) : ∀ M W, PC M W → IW W → Con E l 20 qX11_place [vr 0, vi a] M (fun r M' => r = some (vj (aPlace a W)) ∧ PC M' W ∧ Kp 1 M M') := by
  intro M W hP hW
  refine (RX11_place (D := 5) ?_).up (by decide)
  unfold VX11_place_0 aPlace
  refine (c_within ha (by decide) (by decide)).fn ⟨_, rfl, b01_R, fun c => (c_marksNow hP hW).mono ?_, fun c => ?_⟩
  · rw [b01_n0] at c
    obtain ⟨i, rfl⟩ : ∃ i : Nat, a = i := ⟨a.toNat, by omega⟩
    rintro _ M6 ⟨rfl, hk, he⟩
    refine ⟨rfl, (c_nth hW.stp hk (i := i) (by omega)).mono ?_⟩
    rintro _ M9 ⟨⟨q, rfl, hq, hq2⟩, rfl⟩
    refine ⟨_, rfl, ?_, hP.kp he⟩
    rw [if_pos c, Int.toNat_natCast, eps_nth hq]
  · rw [b01_0] at c
    rw [if_neg c]
    exact ⟨rfl, hP, Kp.rf⟩
theorem m_place (ha : R32 a) : ∀ M W, PM M W → IW W → Con E l 20 qX12_place [vr 44, vi a] M (fun r M' => r = some (vj (aPlace a W)) ∧ PM M' W ∧ Kp 2 M M') := by
  intro M W hP hW
  refine (RX12_place (D := 5) (fun M' x1 x2 x4 => ∃ lo hi : Nat, x1 = a ∧ (1 ≤ a ∧ a ≤ 999999) ∧ x2 = lo ∧ x4 = hi ∧ lo < hi ∧ hi < 2 ^ 50 ∧ MkM M' (knW W) (stW W) (alW W) ∧ Eqv M M' ∧ a ≤ manyT (knW W) (stW W) (alW W) hi ∧ manyT (knW W) (stW W) (alW W) lo < a) (fun _ _ x2 x4 => (x4 - x2).toNat) ?_ ?_).up (by decide)
  · unfold VX12_place_0
    refine ⟨ha, (c_in (r32_64 ha) (by decide) (by decide)).fn ⟨_, rfl, b01_R, fun c => (c_layNow hP hW).mono ?_, fun c => ?_⟩⟩
    · rw [b01_n0] at c
      obtain ⟨i, rfl⟩ : ∃ i : Nat, a = i := ⟨a.toNat, by omega⟩
      rintro _ M6 ⟨rfl, hk, he⟩
      have hs := hW.stp
      have hn : 1 ≤ knW W := by rcases hs.1 with h | h <;> omega
      obtain ⟨f0, f1, f2⟩ := hs.2.1 0 (by omega)
      have hib : i * stW W 0 ≤ 999999 * 1000000000 := Nat.mul_le_mul (by omega) (Nat.le_of_lt f1)
      refine ⟨rfl, ha, fun y8 h8 => ⟨0, i * stW W 0, rfl, c, rfl, ?_, Nat.mul_pos (by omega) f0, by omega, hk, he, manyT_hi hs (by omega), ?_⟩⟩
      · rw [h8, hk.2.2 0 (by omega), ← Int.natCast_mul]
      · rw [manyT_0 hs]; omega
    · rw [b01_0] at c
      unfold aPlace
      rw [if_neg c]
      exact ⟨rfl, hP, Kp.rf⟩
  · rintro M' x1 _ _ ⟨lo, hi, rfl, hr, rfl, rfl, hlt, hb, hk, he, hge, hlo⟩
    have hs := hW.stp
    unfold VX12_place_33 VX12_place_74
    refine ⟨by unfold R64; omega, fun c => ?_, fun c => ⟨by unfold R64; omega, fun y12 h12 => ?_⟩⟩
    · refine ⟨?_, hP.kp he⟩
      unfold aPlace
      obtain ⟨i, rfl⟩ : ∃ i : Nat, x1 = i := ⟨x1.toNat, by omega⟩
      rw [if_pos hr, Int.toNat_natCast, eps_nth (q := hi) ⟨hge, fun m hm => ?_⟩]
      exact Int.lt_of_le_of_lt (manyT_mono hs (show m ≤ lo by omega)) hlo
    · have e1 : y12 = (((lo + hi) / 2 : Nat) : Int) := by
        rw [h12, ← Int.natCast_add]
        exact td_nat (lo + hi) 2
      rw [e1]
      have hmb : R64 (manyT (knW W) (stW W) (alW W) ((lo + hi) / 2)) := by
        have h3 := manyT_mono hs (Nat.zero_le ((lo + hi) / 2))
        rw [manyT_0 hs] at h3
        have h4 := manyF_le (stW W) ((lo + hi) / 2) (knW W)
        have hn : 1 ≤ knW W ∧ knW W ≤ 3 := by rcases hs.1 with h | h <;> omega
        have h5 : knW W * ((lo + hi) / 2) ≤ 3 * ((lo + hi) / 2) := Nat.mul_le_mul_right _ hn.2
        have h6 : 0 ≤ ((knW W : Int) - 1) * ((((lo + hi) / 2) / alW W : Nat) : Int) := Int.mul_nonneg (by omega) (Int.natCast_nonneg _)
        unfold R64
        refine ⟨by omega, ?_⟩
        unfold manyT
        omega
      refine (c_manyUpTo hs hk (by omega)).fn ⟨_, rfl, ha, hmb, r32_64 ha, fun c3 => ?_, fun c3 => ?_⟩
      · exact ⟨⟨(lo + hi) / 2, hi, rfl, hr, rfl, rfl, by omega, hb, hk, he, hge, c3⟩, by omega⟩
      · exact ⟨⟨lo, (lo + hi) / 2, rfl, hr, rfl, rfl, by omega, by omega, hk, he, by omega, hlo⟩, by omega⟩
theorem e_place (ha : R32 a) : EqA E l vj qX11_place qX12_place [vi a] := eqW (aPlace a) (fun W => W) (k_place ha) (m_place ha) (fun _ h => h)
def aPlaces (a : Int) (W : Nat → Int) : Int := if 0 ≤ a ∧ a ≤ 1000000000000000 then manyT (knW W) (stW W) (alW W) a.toNat else -1
theorem k_places (ha : R64 a) : ∀ M W, PC M W → IW W → Con E l 20 qX11_places [vr 0, vj a] M (fun r M' => r = some (vj (aPlaces a W)) ∧ PC M' W ∧ Kp 1 M M') := by
  intro M W hP hW
  have bad : ¬ (0 ≤ a ∧ a ≤ 1000000000000000) → some (vj (-1)) = some (vj (aPlaces a W)) ∧ PC M W ∧ Kp 1 M M := fun h => by
    unfold aPlaces
    rw [if_neg h]
    exact ⟨rfl, hP, Kp.rf⟩
  refine (RX11_places (D := 5) ?_).up (by decide)
  unfold VX11_places_0
  try unfold VX11_places_14
  refine ⟨ha, fun c => bad (by omega), fun c => ⟨ha, fun c2 => (c_marksNow hP hW).mono ?_, fun c2 => bad (by omega)⟩⟩
  obtain ⟨i, rfl⟩ : ∃ i : Nat, a = i := ⟨a.toNat, by omega⟩
  rintro _ M6 ⟨rfl, hk, he⟩
  refine ⟨rfl, (c_howManyTo hW.stp hk (x := i) (by omega)).fn ⟨_, rfl, ?_, hP.kp he⟩⟩
  unfold aPlaces
  rw [if_pos (by omega), Int.toNat_natCast]
theorem m_places (ha : R64 a) : ∀ M W, PM M W → IW W → Con E l 20 qX12_places [vr 44, vj a] M (fun r M' => r = some (vj (aPlaces a W)) ∧ PM M' W ∧ Kp 2 M M') := by
  intro M W hP hW
  refine (RX12_places (D := 5) ?_).up (by decide)
  unfold VX12_places_0 aPlaces
  refine (c_in ha (by decide) (by decide)).fn ⟨_, rfl, b01_R, fun c => (c_layNow hP hW).mono ?_, fun c => ?_⟩
  · rw [b01_n0] at c
    obtain ⟨i, rfl⟩ : ∃ i : Nat, a = i := ⟨a.toNat, by omega⟩
    rintro _ M6 ⟨rfl, hk, he⟩
    refine ⟨rfl, (c_manyUpTo hW.stp hk (x := i) (by omega)).fn ⟨_, rfl, ?_, hP.kp he⟩⟩
    rw [if_pos c, Int.toNat_natCast]
  · rw [b01_0] at c
    rw [if_neg c]
    exact ⟨rfl, hP, Kp.rf⟩
theorem e_places (ha : R64 a) : EqA E l vj qX11_places qX12_places [vj a] := eqW (aPlaces a) (fun W => W) (k_places ha) (m_places ha) (fun _ h => h)
end
