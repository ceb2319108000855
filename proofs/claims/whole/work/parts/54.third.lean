section
variable {E : FX} {l : Launch} {M : MM} {W : Nat → Int} {a b : Int}
/-! third -/
def wst (W : Nat → Int) (m : Nat) : Int := wasteT 3 (st 7 1 (nt W 0) (nt W 1) m) W
def bf (W : Nat → Int) : Nat → Int × Int
  | 0 => (1, wst W 1)
  | n + 1 => if wst W (n + 1 + 1) < (bf W n).2 then ((n : Int) + 2, wst W (n + 1 + 1)) else bf W n
theorem bf_s (W : Nat → Int) (n : Nat) : bf W (n + 1) = if wst W (n + 1 + 1) < (bf W n).2 then ((n : Int) + 2, wst W (n + 1 + 1)) else bf W n := rfl
theorem wst_b (hW : IW W) (m : Nat) : 0 ≤ wst W m ∧ wst W m ≤ 799992 := waste_b hW 3 _ (W 6).toNat (by have := hW.held; omega)
theorem bf_b (hW : IW W) : ∀ n, (0 ≤ (bf W n).2 ∧ (bf W n).2 ≤ 799992) ∧ 1 ≤ (bf W n).1 ∧ (bf W n).1 ≤ (n : Int) + 1
  | 0 => ⟨wst_b hW 1, by show (1 : Int) ≤ 1; decide, by show (1 : Int) ≤ 0 + 1; decide⟩
  | n + 1 => by
    have ih := bf_b hW n
    rw [bf_s]
    split
    · exact ⟨wst_b hW _, by show (1 : Int) ≤ (n : Int) + 2; omega, by show (n : Int) + 2 ≤ ((n + 1 : Nat) : Int) + 1; omega⟩
    · exact ⟨ih.1, ih.2.1, by omega⟩
def aThird (a : Int) (W : Nat → Int) : Int := if 0 ≤ a ∧ a ≤ 1 then (if a = 0 then (bf W 98).1 else (bf W 98).2) else -1
theorem k_third (ha : R32 a) : ∀ M W, PC M W → IW W → Con E l 20 qX11_third [vr 0, vi a] M (fun r M' => r = some (vi (aThird a W)) ∧ PC M' W ∧ Kp 1 M M') := by
  intro M W hP hW
  have m0 := hW.m 0 (by omega)
  have m1 := hW.m 1 (by omega)
  refine (RX11_third (D := 6) (fun M' x1 x3 x4 x5 => Eqv M M' ∧ x1 = a ∧ (0 ≤ a ∧ a ≤ 1) ∧ ∃ k : Nat, x5 = (k : Int) + 1 ∧ k ≤ 99 ∧ ((k = 0 ∧ x3 = 0 ∧ x4 = 0) ∨ (∃ q : Nat, k = q + 1 ∧ x3 = (bf W q).1 ∧ x4 = (bf W q).2))) (fun _ _ _ _ x5 => (100 - x5).toNat) ?_ ?_).up (by decide)
  · unfold VX11_third_0
    refine (c_within ha (by decide) (by decide)).fn ⟨_, rfl, b01_R, fun c => ?_, fun c => ?_⟩
    · rw [b01_n0] at c
      exact ⟨Eqv.rf, rfl, c, 0, rfl, by omega, Or.inl ⟨rfl, rfl, rfl⟩⟩
    · rw [b01_0] at c
      have eA : aThird a W = -1 := if_neg c
      rw [eA]
      exact ⟨rfl, hP, Kp.rf⟩
  · rintro M1 x1 x3 x4 _ ⟨he, rfl, hr, k, rfl, hk, hst⟩
    have hP1 := hP.eqv he
    unfold VX11_third_30
    try unfold VX11_third_90
    try unfold VX11_third_106
    refine ⟨by unfold R32; omega, fun c => ⟨ha, fun c2 => ⟨?_, hP1, Kp.of he⟩, fun c2 => ⟨?_, hP1, Kp.of he⟩⟩, fun c => ?_⟩
    · obtain ⟨q, hq, h3, h4⟩ := hst.resolve_left (fun z => by omega)
      have hq2 : q = 98 := by omega
      subst hq2
      have eA : aThird x1 W = (bf W 98).2 := (if_pos hr).trans (if_neg c2)
      rw [eA, h4]
    · obtain ⟨q, hq, h3, h4⟩ := hst.resolve_left (fun z => by omega)
      have hq2 : q = 98 := by omega
      subst hq2
      have eA : aThird x1 W = (bf W 98).1 := (if_pos hr).trans (if_pos c2)
      rw [eA, h3]
    · refine (c_at_in (n := 3) rfl (by decide) (by decide)).fn ⟨_, rfl, (c_at_in (n := 3) rfl (by decide) (by decide)).fn ⟨_, rfl, ?_⟩⟩
      have e0 : M1 4 (Int.toNat 0) = (nt W 0 : Nat) := (hP1.1 0 (by omega)).trans m0.1
      have e1 : M1 4 (Int.toNat 1) = (nt W 1 : Nat) := (hP1.1 1 (by omega)).trans m1.1
      rw [e0, e1, show ((k : Int) + 1) = ((k + 1 : Nat) : Int) by omega]
      refine (c_meet3 m0.2 m1.2 (c := k + 1) (by omega)).mono ?_
      rintro _ M18 ⟨rfl, hmk, he2⟩
      refine ⟨rfl, (c_wasteC (stp_ok (s := 7) (l := 1) m0.2 m1.2 (c := k + 1) (by omega)) hmk (hP1.eqv he2) hW).fn ⟨_, rfl, ?_⟩⟩
      have hw : wasteT (kn 7 1) (st 7 1 (nt W 0) (nt W 1) (k + 1)) W = wst W (k + 1) := rfl
      rw [hw]
      have hb := wst_b hW (k + 1)
      have h34 : R32 x3 ∧ R32 x4 := by
        rcases hst with ⟨_, rfl, rfl⟩ | ⟨q, _, rfl, rfl⟩
        · decide
        · have := bf_b hW q
          unfold R32; omega
      refine ⟨h34.1, fun c3 y6 h6 => ⟨⟨he.tr he2, rfl, hr, k + 1, by omega, by omega, ?_⟩, by omega⟩, fun c3 => ⟨by unfold R32; omega, h34.2, fun c4 y27 h27 => ⟨⟨he.tr he2, rfl, hr, k + 1, by omega, by omega, ?_⟩, by omega⟩, fun c4 y6 h6 => ⟨⟨he.tr he2, rfl, hr, k + 1, by omega, by omega, ?_⟩, by omega⟩⟩⟩
      · rcases hst with ⟨rfl, _, rfl⟩ | ⟨q, rfl, rfl, rfl⟩
        · exact Or.inr ⟨0, rfl, rfl, rfl⟩
        · have := (bf_b hW q).2
          omega
      · rcases hst with ⟨_, rfl, _⟩ | ⟨q, rfl, rfl, rfl⟩
        · exact absurd rfl c3
        · refine Or.inr ⟨q + 1, rfl, ?_, ?_⟩
          · rw [bf_s, if_neg (by omega)]
          · rw [bf_s, if_neg (by omega)]
      · rcases hst with ⟨_, rfl, _⟩ | ⟨q, rfl, rfl, rfl⟩
        · exact absurd rfl c3
        · refine Or.inr ⟨q + 1, rfl, ?_, ?_⟩
          · rw [bf_s, if_pos (by omega)]; show ((q + 1 + 1 : Nat) : Int) = (q : Int) + 2; omega
          · rw [bf_s, if_pos (by omega)]
theorem m_third (ha : R32 a) : ∀ M W, PM M W → IW W → Con E l 20 qX12_third [vr 44, vi a] M (fun r M' => r = some (vi (aThird a W)) ∧ PM M' W ∧ Kp 2 M M') := by
  intro M W hP hW
  have m0 := hW.m 0 (by omega)
  have m1 := hW.m 1 (by omega)
  refine (RX12_third (D := 6) (fun M' x1 x2 x3 x4 => Eqv M M' ∧ x1 = a ∧ (0 ≤ a ∧ a ≤ 1) ∧ ∃ k : Nat, x4 = (k : Int) + 1 ∧ k ≤ 99 ∧ ((k = 0 ∧ x2 = 0 ∧ x3 = 0) ∨ (∃ q : Nat, k = q + 1 ∧ x2 = (bf W q).1 ∧ x3 = (bf W q).2))) (fun _ _ _ _ x4 => (100 - x4).toNat) ?_ ?_).up (by decide)
  · unfold VX12_third_0
    refine ⟨ha, (c_in (r32_64 ha) (by decide) (by decide)).fn ⟨_, rfl, b01_R, fun c => ?_, fun c => ?_⟩⟩
    · rw [b01_n0] at c
      exact ⟨Eqv.rf, rfl, c, 0, rfl, by omega, Or.inl ⟨rfl, rfl, rfl⟩⟩
    · rw [b01_0] at c
      have eA : aThird a W = -1 := if_neg c
      rw [eA]
      exact ⟨rfl, hP, Kp.rf⟩
  · rintro M1 x1 x2 x3 _ ⟨he, rfl, hr, k, rfl, hk, hst⟩
    have hP1 := hP.eqv he
    unfold VX12_third_19
    try unfold VX12_third_59
    try unfold VX12_third_74
    refine ⟨by unfold R32; omega, fun c => ⟨ha, fun c2 => ⟨?_, hP1, Kp.of he⟩, fun c2 => ⟨?_, hP1, Kp.of he⟩⟩, fun c => ?_⟩
    · obtain ⟨q, hq, h3, h4⟩ := hst.resolve_left (fun z => by omega)
      have hq2 : q = 98 := by omega
      subst hq2
      have eA : aThird x1 W = (bf W 98).2 := (if_pos hr).trans (if_neg c2)
      rw [eA, h4]
    · obtain ⟨q, hq, h3, h4⟩ := hst.resolve_left (fun z => by omega)
      have hq2 : q = 98 := by omega
      subst hq2
      have eA : aThird x1 W = (bf W 98).1 := (if_pos hr).trans (if_pos c2)
      rw [eA, h3]
    · rw [show ((k : Int) + 1) = ((k + 1 : Nat) : Int) by omega]
      refine (c_layM (s := 7) (lw := 1) (c := k + 1) hP1 hW (by omega) (by omega) (by omega)).mono ?_
      rintro _ M12 ⟨rfl, hmk, he2⟩
      refine ⟨rfl, (c_wasteM (stp_ok (s := 7) (l := 1) m0.2 m1.2 (c := k + 1) (by omega)) hmk (hP1.eqv he2) hW).fn ⟨_, rfl, ?_⟩⟩
      have hw : wasteT (kn 7 1) (st 7 1 (nt W 0) (nt W 1) (k + 1)) W = wst W (k + 1) := rfl
      rw [hw]
      have hb := wst_b hW (k + 1)
      refine ⟨by unfold R32; omega, fun c3 y6 h6 => ⟨⟨he.tr he2, rfl, hr, k + 1, by omega, by omega, ?_⟩, by omega⟩, fun c3 => ?_⟩
      · have hk0 : k = 0 := by omega
        subst hk0
        exact Or.inr ⟨0, rfl, rfl, rfl⟩
      · rcases hst with ⟨rfl, _, _⟩ | ⟨q, rfl, rfl, rfl⟩
        · omega
        · have hb2 := (bf_b hW q).1
          refine ⟨by unfold R32; omega, by unfold R32; omega, fun c4 y21 h21 => ⟨⟨he.tr he2, rfl, hr, q + 2, by omega, by omega, Or.inr ⟨q + 1, rfl, ?_, ?_⟩⟩, by omega⟩, fun c4 y6 h6 => ⟨⟨he.tr he2, rfl, hr, q + 2, by omega, by omega, Or.inr ⟨q + 1, rfl, ?_, ?_⟩⟩, by omega⟩⟩
          · rw [bf_s, if_neg (by omega)]
          · rw [bf_s, if_neg (by omega)]
          · rw [bf_s, if_pos (by omega)]; show ((q + 1 + 1 : Nat) : Int) = (q : Int) + 2; omega
          · rw [bf_s, if_pos (by omega)]
theorem e_third (ha : R32 a) : EqA E l vi qX11_third qX12_third [vi a] := eqW (aThird a) (fun W => W) (k_third ha) (m_third ha) (fun _ h => h)
/-! worn -/
/-- at the j-th mark of the first town the poles can meet -/
def wP (a b s j : Nat) : Prop := (j * (a - s) + b - 1) / b * (b - s) ≤ j * a
theorem wP_iff {a b s j : Nat} (hs : s < a) (hsb : s < b) (hj : 1 ≤ j) : wP a b s j ↔ (0 < j * a / (b - s) ∧ j * (a - s) ≤ j * a / (b - s) * b) := by
  have hb : 0 < b := by omega
  have hbs : 0 < b - s := by omega
  have hx : 1 ≤ j * (a - s) := Nat.mul_pos hj (by omega)
  have c1 : j * (a - s) ≤ (j * (a - s) + b - 1) / b * b := by
    have h1 := Nat.div_add_mod (j * (a - s) + b - 1) b
    have h2 := Nat.mod_lt (j * (a - s) + b - 1) hb
    rw [Nat.mul_comm] at h1
    omega
  have c2 : ∀ k, j * (a - s) ≤ k * b → (j * (a - s) + b - 1) / b ≤ k := by
    intro k hk
    have : (j * (a - s) + b - 1) / b < k + 1 := by
      rw [Nat.div_lt_iff_lt_mul hb, Nat.add_mul]
      omega
    omega
  unfold wP
  constructor
  · intro h
    have h1 : (j * (a - s) + b - 1) / b ≤ j * a / (b - s) := (Nat.le_div_iff_mul_le hbs).mpr h
    have h2 : 1 ≤ (j * (a - s) + b - 1) / b := (Nat.le_div_iff_mul_le hb).mpr (by omega)
    exact ⟨by omega, Nat.le_trans c1 (Nat.mul_le_mul_right b h1)⟩
  · rintro ⟨_, h⟩
    exact (Nat.le_div_iff_mul_le hbs).mp (c2 _ h)
def okWo (s : Int) (W : Nat → Int) : Prop := (0 ≤ s ∧ s ≤ 9) ∧ s < W 0 ∧ s < W 1
def TWo (s : Int) (W : Nat → Int) (x : Int) (W' : Nat → Int) : Prop := W' = W ∧ ((¬ okWo s W ∧ x = -1) ∨ (okWo s W ∧ ((∃ j : Nat, x = j ∧ 1 ≤ j ∧ wP (nt W 0) (nt W 1) s.toNat j ∧ ∀ i, 1 ≤ i → i < j → ¬ wP (nt W 0) (nt W 1) s.toNat i) ∨ (x = -4 ∧ ∀ i, 1 ≤ i → i ≤ 9999 → ¬ wP (nt W 0) (nt W 1) s.toNat i)))) ∧ x ≤ 9999
theorem k_worn (ha : R32 a) : ∀ M W, PC M W → IW W → Con E l 20 qX11_worn [vr 0, vi a] M (fun r M' => (∃ x W', r = some (vi x) ∧ TWo a W x W' ∧ PC M' W') ∧ Kp 1 M M') := by
  intro M W hP hW
  have m0 := hW.m 0 (by omega)
  have m1 := hW.m 1 (by omega)
  have bad : ¬ okWo a W → (∃ x W', some (vi (-1)) = some (vi x) ∧ TWo a W x W' ∧ PC M W') ∧ Kp 1 M M := fun h => ⟨⟨-1, W, rfl, ⟨rfl, Or.inl ⟨h, rfl⟩, by decide⟩, hP⟩, Kp.rf⟩
  refine (RX11_worn (D := 5) (fun M' x1 x3 x4 x5 => M' = M ∧ x1 = a ∧ okWo a W ∧ x3 = W 0 ∧ x4 = W 1 ∧ ∃ j : Nat, x5 = j ∧ 1 ≤ j ∧ j ≤ 10000 ∧ ∀ i, 1 ≤ i → i < j → ¬ wP (nt W 0) (nt W 1) a.toNat i) (fun _ _ _ _ x5 => (10000 - x5).toNat) ?_ ?_).up (by decide)
  · unfold VX11_worn_0
    try unfold VX11_worn_45
    refine (c_at_in (n := 3) rfl (by decide) (by decide)).fn ⟨_, rfl, (c_at_in (n := 3) rfl (by decide) (by decide)).fn ⟨_, rfl, ?_⟩⟩
    rw [show M 4 (Int.toNat 0) = W 0 from hP.1 0 (by omega), show M 4 (Int.toNat 1) = W 1 from hP.1 1 (by omega)]
    refine (c_within ha (by decide) (by decide)).fn ⟨_, rfl, b01_R, fun c => bad (fun q => b01_0.mp c q.1), fun c => ⟨ha, by unfold R32; omega, fun c2 => bad (fun q => by have := q.2.1; omega), fun c2 => ⟨ha, by unfold R32; omega, fun c3 => ?_, fun c3 => bad (fun q => c3 q.2.2)⟩⟩⟩
    rw [b01_n0] at c
    exact ⟨rfl, rfl, ⟨c, by omega, c3⟩, rfl, rfl, 1, rfl, by omega, by omega, fun i h1 h2 => by omega⟩
  · rintro M' x1 _ _ _ ⟨rfl, rfl, hok, rfl, rfl, j, rfl, hj1, hj2, hno⟩
    obtain ⟨s, rfl⟩ : ∃ s : Nat, x1 = s := ⟨x1.toNat, by have := hok.1; omega⟩
    obtain ⟨q1, q2, q3⟩ := id hok
    rw [Int.toNat_natCast] at hno
    have ea := m0.1
    have eb := m1.1
    obtain ⟨A, hA⟩ : ∃ A, A = nt W 0 := ⟨_, rfl⟩
    obtain ⟨B, hB⟩ : ∃ B, B = nt W 1 := ⟨_, rfl⟩
    rw [← hA, ← hB] at hno
    rw [← hA] at ea m0
    rw [← hB] at eb m1
    unfold VX11_worn_50
    rw [ea, eb]
    have b1 : j * (A - s) ≤ 10000 * 999 := Nat.mul_le_mul hj2 (by omega)
    have b2 : j * A ≤ 10000 * 999 := Nat.mul_le_mul hj2 (by omega)
    have e1 : (j : Int) * ((A : Int) - (s : Int)) + (B : Int) - 1 = ((j * (A - s) + B - 1 : Nat) : Int) := by
      rw [show (A : Int) - (s : Int) = ((A - s : Nat) : Int) by omega, ← Int.natCast_mul]
      omega
    have e2 : (j : Int) * (A : Int) = ((j * A : Nat) : Int) := (Int.natCast_mul j A).symm
    rw [e1, e2]
    refine ⟨by unfold R32; omega, fun c => ⟨⟨-4, W, rfl, ⟨rfl, Or.inr ⟨hok, Or.inr ⟨rfl, fun i h1 h2 => ?_⟩⟩, by decide⟩, hP⟩, Kp.rf⟩, fun c => ⟨by unfold R32; omega, by unfold R32; omega, (c_quotient (by unfold R64; omega) (by unfold R64; omega) (by omega)).fn ⟨_, rfl, fun y21 h21 => ?_⟩⟩⟩
    · rw [← hA, ← hB, Int.toNat_natCast]
      exact hno i h1 (by omega)
    · have hdl : (j * (A - s) + B - 1) / B ≤ j * (A - s) + B - 1 := Nat.div_le_self _ _
      have hcb : (j * (A - s) + B - 1) / B * B ≤ j * (A - s) + B - 1 := Nat.div_mul_le_self _ _
      have hcs : (j * (A - s) + B - 1) / B * (B - s) ≤ (j * (A - s) + B - 1) / B * B := Nat.mul_le_mul_left _ (by omega)
      have hn0 : (0 : Int) ≤ (((j * (A - s) + B - 1) / B : Nat) : Int) := Int.natCast_nonneg _
      rw [td_nat, w32_eq (by unfold R32; omega)] at h21
      subst h21
      have e3 : (((j * (A - s) + B - 1) / B : Nat) : Int) * ((B : Int) - (s : Int)) = (((j * (A - s) + B - 1) / B * (B - s) : Nat) : Int) := by
        rw [show (B : Int) - (s : Int) = ((B - s : Nat) : Int) by omega, ← Int.natCast_mul]
      rw [e3]
      refine ⟨by unfold R32; omega, by unfold R32; omega, fun c2 y25 h25 => ⟨⟨rfl, rfl, hok, rfl, rfl, j + 1, by omega, by omega, by omega, fun i h1 h2 => ?_⟩, by omega⟩, fun c2 => ⟨⟨j, W, rfl, ⟨rfl, Or.inr ⟨hok, Or.inl ⟨j, rfl, hj1, ?_, fun i h1 h2 => ?_⟩⟩, by omega⟩, hP⟩, Kp.rf⟩⟩
      · rw [← hA, ← hB, Int.toNat_natCast]
        by_cases hi : i = j
        · subst hi
          unfold wP
          omega
        · exact hno i h1 (by omega)
      · rw [← hA, ← hB, Int.toNat_natCast]
        unfold wP
        omega
      · rw [← hA, ← hB, Int.toNat_natCast]
        exact hno i h1 h2
theorem m_worn (ha : R32 a) : ∀ M W, PM M W → IW W → Con E l 20 qX12_worn [vr 44, vi a] M (fun r M' => (∃ x W', r = some (vi x) ∧ TWo a W x W' ∧ PM M' W') ∧ Kp 2 M M') := by
  intro M W hP hW
  have m0 := hW.m 0 (by omega)
  have m1 := hW.m 1 (by omega)
  have bad : ¬ okWo a W → (∃ x W', some (vi (-1)) = some (vi x) ∧ TWo a W x W' ∧ PM M W') ∧ Kp 2 M M := fun h => ⟨⟨-1, W, rfl, ⟨rfl, Or.inl ⟨h, rfl⟩, by decide⟩, hP⟩, Kp.rf⟩
  refine (RX12_worn (D := 5) (fun M' x1 x2 x3 x4 => M' = M ∧ x1 = a ∧ okWo a W ∧ x2 = W 0 ∧ x3 = W 1 ∧ ∃ j : Nat, x4 = j ∧ 1 ≤ j ∧ j ≤ 10000 ∧ ∀ i, 1 ≤ i → i < j → ¬ wP (nt W 0) (nt W 1) a.toNat i) (fun _ _ _ _ x4 => (10000 - x4).toNat) ?_ ?_).up (by decide)
  · unfold VX12_worn_0
    try unfold VX12_worn_36
    rw [hP 0 (by omega), hP 1 (by omega)]
    intro y1 h1 y3 h3
    subst h1
    subst h3
    refine ⟨ha, (c_in (r32_64 ha) (by decide) (by decide)).fn ⟨_, rfl, b01_R, fun c => bad (fun q => b01_0.mp c q.1), fun c => ⟨ha, by unfold R32; omega, fun c2 => bad (fun q => by have := q.2.1; omega), fun c2 => ⟨ha, by unfold R32; omega, fun c3 => ?_, fun c3 => bad (fun q => c3 q.2.2)⟩⟩⟩⟩
    rw [b01_n0] at c
    exact ⟨rfl, rfl, ⟨c, by omega, c3⟩, rfl, rfl, 1, rfl, by omega, by omega, fun i h1 h2 => by omega⟩
  · rintro M' x1 _ _ _ ⟨rfl, rfl, hok, rfl, rfl, j, rfl, hj1, hj2, hno⟩
    obtain ⟨s, rfl⟩ : ∃ s : Nat, x1 = s := ⟨x1.toNat, by have := hok.1; omega⟩
    obtain ⟨q1, q2, q3⟩ := id hok
    rw [Int.toNat_natCast] at hno
    have ea := m0.1
    have eb := m1.1
    obtain ⟨A, hA⟩ : ∃ A, A = nt W 0 := ⟨_, rfl⟩
    obtain ⟨B, hB⟩ : ∃ B, B = nt W 1 := ⟨_, rfl⟩
    rw [← hA, ← hB] at hno
    rw [← hA] at ea m0
    rw [← hB] at eb m1
    unfold VX12_worn_41
    try unfold VX12_worn_80
    rw [ea, eb]
    have b1 : j * (A - s) ≤ 10000 * 999 := Nat.mul_le_mul hj2 (by omega)
    have b2 : j * A ≤ 10000 * 999 := Nat.mul_le_mul hj2 (by omega)
    have e2 : (j : Int) * (A : Int) = ((j * A : Nat) : Int) := (Int.natCast_mul j A).symm
    have e4 : (B : Int) - (s : Int) = ((B - s : Nat) : Int) := by omega
    have e5 : (j : Int) * ((A : Int) - (s : Int)) = ((j * (A - s) : Nat) : Int) := by
      rw [show (A : Int) - (s : Int) = ((A - s : Nat) : Int) by omega, ← Int.natCast_mul]
    have hiff := wP_iff (a := A) (b := B) (s := s) (j := j) (by omega) (by omega) hj1
    rw [e2, e4, e5, td_nat]
    have hq : j * A / (B - s) * (B - s) ≤ j * A := Nat.div_mul_le_self _ _
    have hq0 : j * A / (B - s) ≤ j * A := Nat.div_le_self _ _
    have hq2 : j * A / (B - s) * B ≤ 10 * (j * A) := by
      have h1 : B ≤ 10 * (B - s) := by omega
      have h2 : j * A / (B - s) * B ≤ j * A / (B - s) * (10 * (B - s)) := Nat.mul_le_mul_left _ h1
      rw [← Nat.mul_assoc, Nat.mul_comm _ 10, Nat.mul_assoc] at h2
      omega
    have hn0 : (0 : Int) ≤ ((j * A / (B - s) : Nat) : Int) := Int.natCast_nonneg _
    have next : ¬ wP A B s j → ∀ y : Int, y = (j : Int) + 1 → ((M' = M' ∧ (s : Int) = s ∧ okWo s W ∧ (A : Int) = W 0 ∧ (B : Int) = W 1 ∧ ∃ k : Nat, y = k ∧ 1 ≤ k ∧ k ≤ 10001 ∧ ∀ i, 1 ≤ i → i < k → ¬ wP A B s i)) := fun h y hy => ⟨rfl, rfl, hok, ea.symm, eb.symm, j + 1, by omega, by omega, by omega, fun i h1 h2 => by
      by_cases hi : i = j
      · rw [hi]; exact h
      · exact hno i h1 (by omega)⟩
    refine ⟨by unfold R32; omega, fun c => ⟨⟨-4, W, rfl, ⟨rfl, Or.inr ⟨hok, Or.inr ⟨rfl, fun i h1 h2 => ?_⟩⟩, by decide⟩, hP⟩, Kp.rf⟩, fun c => ⟨by unfold R32; omega, by unfold R32; omega, by omega, fun y18 h18 => ?_⟩⟩
    · rw [← hA, ← hB, Int.toNat_natCast]
      exact hno i h1 (by omega)
    · subst h18
      rw [← Int.natCast_mul]
      refine ⟨by unfold R32; omega, fun c2 y22 h22 => ?_, fun c2 => ⟨by unfold R32; omega, by unfold R32; omega, fun c3 y26 h26 => ?_, fun c3 => ⟨⟨j, W, rfl, ⟨rfl, Or.inr ⟨hok, Or.inl ⟨j, rfl, hj1, ?_, fun i h1 h2 => ?_⟩⟩, by omega⟩, hP⟩, Kp.rf⟩⟩⟩
      · obtain ⟨n1, n2, n3, n4, n5, k, n6, n7, n8, n9⟩ := next (fun q => by have := (hiff.mp q).1; omega) y22 h22
        rw [hA, hB, Int.toNat_natCast] at *
        exact ⟨⟨n1, n2, n3, rfl, rfl, k, n6, n7, by omega, n9⟩, by omega⟩
      · obtain ⟨n1, n2, n3, n4, n5, k, n6, n7, n8, n9⟩ := next (fun q => by have := (hiff.mp q).2; omega) y26 h26
        rw [hA, hB, Int.toNat_natCast] at *
        exact ⟨⟨n1, n2, n3, rfl, rfl, k, n6, n7, by omega, n9⟩, by omega⟩
      · rw [← hA, ← hB, Int.toNat_natCast]
        exact hiff.mpr ⟨by omega, by omega⟩
      · rw [← hA, ← hB, Int.toNat_natCast]
        exact hno i h1 h2
theorem e_worn (ha : R32 a) : EqA E l vi qX11_worn qX12_worn [vi a] := by
  refine eqS (TWo a) ?_ (fun W x W' hW h => by rw [h.1]; exact hW) (k_worn ha) (m_worn ha)
  rintro W x x' W1 W2 _ ⟨e1, h1, b1⟩ ⟨e2, h2, b2⟩
  refine ⟨?_, e1.trans e2.symm⟩
  rcases h1 with ⟨h1, r1⟩ | ⟨h1, ⟨j, r1, j1, p1, n1⟩ | ⟨r1, n1⟩⟩ <;> rcases h2 with ⟨h2, r2⟩ | ⟨h2, ⟨k, r2, k1, p2, n2⟩ | ⟨r2, n2⟩⟩
  · rw [r1, r2]
  · exact absurd h2 h1
  · exact absurd h2 h1
  · exact absurd h1 h2
  · rw [r1, r2]
    rcases Nat.lt_trichotomy j k with q | q | q
    · exact absurd p1 (n2 j j1 q)
    · rw [q]
    · exact absurd p2 (n1 k k1 q)
  · exact absurd p1 (n2 j j1 (by omega))
  · exact absurd h1 h2
  · exact absurd p2 (n1 k k1 (by omega))
  · rw [r1, r2]
end
