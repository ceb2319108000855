theorem bt_01 (s j : Nat) : bt s j = 0 ∨ bt s j = 1 := Nat.mod_two_eq_zero_or_one _
theorem bcn_le (s : Nat) : ∀ n, bcn n s ≤ n
  | 0 => Nat.le_refl _
  | n + 1 => by
    have := bcn_le s n
    have h := bt_01 s n
    show bcn n s + bt s n ≤ n + 1
    omega
theorem sumZ_one {g : Nat → Int} {a : Nat} : ∀ n, sumZ (fun j => if j = a then g j else 0) n = if a < n then g a else 0
  | 0 => by simp [sumZ]
  | n + 1 => by
    rw [sumZ_s, sumZ_one n]
    by_cases h : n = a
    · subst h
      simp
    · rw [if_neg h]
      by_cases h2 : a < n
      · rw [if_pos h2, if_pos (by omega)]; omega
      · rw [if_neg h2, if_neg (by omega)]; omega
theorem sumZ_add {g g' : Nat → Int} : ∀ n, sumZ (fun j => g j + g' j) n = sumZ g n + sumZ g' n
  | 0 => by simp [sumZ]
  | n + 1 => by
    rw [sumZ_s, sumZ_s, sumZ_s, sumZ_add n]
    omega
theorem sumZ_two {g : Nat → Int} {a b n : Nat} (hab : a ≠ b) (ha : a < n) (hb : b < n) : sumZ (fun j => if bt (2 ^ a ||| 2 ^ b) j = 1 then g j else 0) n = g a + g b := by
  have e : ∀ j, j < n → (if bt (2 ^ a ||| 2 ^ b) j = 1 then g j else 0) = (if j = a then g j else 0) + (if j = b then g j else 0) := by
    intro j _
    have hb2 : bt (2 ^ a ||| 2 ^ b) j = 1 ↔ (j = a ∨ j = b) := by
      rw [bt_or, bt_pow, bt_pow]
      by_cases h1 : a = j
      · simp [h1]
      · by_cases h2 : b = j
        · simp [h2]
        · simp [h1, h2, Ne.symm h1, Ne.symm h2]
    by_cases h1 : j = a
    · rw [if_pos (hb2.mpr (Or.inl h1)), if_pos h1, if_neg (by omega)]; omega
    · by_cases h2 : j = b
      · rw [if_pos (hb2.mpr (Or.inr h2)), if_neg h1, if_pos h2]; omega
      · rw [if_neg (fun q => by rcases hb2.mp q with z | z <;> omega), if_neg h1, if_neg h2]; omega
  rw [sumZ_cong e, sumZ_add, sumZ_one, sumZ_one, if_pos ha, if_pos hb]
section
variable {E : FX} {l : Launch} {M : MM} {W : Nat → Int} {a b : Int}
/-- the bolts of a set, joined: before it is held to 0 -/
def lenT (s : Nat) (c : Int) (W : Nat → Int) : Int := -(if c < 2 then W 5 else 0) * ((bcn 8 s : Nat) - 1 : Int) + sumZ (fun j => if bt s j = 1 then W (15 + j) else 0) (W 6).toNat
def pos0 (x : Int) : Int := if 0 < x then x else 0
theorem seam_b (hW : IW W) (s : Nat) (c : Int) : -1000 ≤ -(if c < 2 then W 5 else 0) * ((bcn 8 s : Nat) - 1 : Int) ∧ -(if c < 2 then W 5 else 0) * ((bcn 8 s : Nat) - 1 : Int) ≤ 1000 := by
  have h5 := hW.seam
  have hb := bcn_le s 8
  obtain ⟨n, hn⟩ : ∃ n, n = bcn 8 s := ⟨_, rfl⟩
  rw [← hn] at hb ⊢
  obtain ⟨v, hv⟩ : ∃ v : Int, v = if c < 2 then W 5 else 0 := ⟨_, rfl⟩
  have hv2 : 0 ≤ v ∧ v ≤ 99 := by rw [hv]; split <;> omega
  rw [← hv]
  rcases (show n = 0 ∨ n = 1 ∨ n = 2 ∨ n = 3 ∨ n = 4 ∨ n = 5 ∨ n = 6 ∨ n = 7 ∨ n = 8 by omega) with rfl | rfl | rfl | rfl | rfl | rfl | rfl | rfl | rfl <;> omega
theorem lens_b (hW : IW W) (s n : Nat) (hn : n ≤ 8) : 0 ≤ sumZ (fun j => if bt s j = 1 then W (15 + j) else 0) n ∧ sumZ (fun j => if bt s j = 1 then W (15 + j) else 0) n ≤ 799992 := by
  have h := sumZ_b (g := fun j => if bt s j = 1 then W (15 + j) else 0) (B := 99999) (n := n) (fun j hj => by
    have := hW.le (j := j) (by omega)
    show 0 ≤ (if bt s j = 1 then W (15 + j) else 0) ∧ (if bt s j = 1 then W (15 + j) else 0) ≤ 99999
    split <;> omega)
  refine ⟨h.1, Int.le_trans h.2 ?_⟩
  omega
theorem c_lengthOfAll {s : Nat} (hs : s < 256) (hP : PC M W) (hW : IW W) (ha : 0 ≤ a ∧ a ≤ 3) : Con E l 2 qX0_lengthOfAll [vr 5, vi s, vi a] M (fun r M' => r = some (vi (pos0 (lenT s a W))) ∧ M' = M) := by
  have hh := hW.held
  have hsb := seam_b hW s a
  have hbc := bcn_le s 8
  refine RX0_lengthOfAll (by decide) (fun M' x1 x4 x5 => M' = M ∧ ∃ k : Nat, x1 = s ∧ x4 = -(if a < 2 then W 5 else 0) * ((bcn 8 s : Nat) - 1 : Int) + sumZ (fun j => if bt s j = 1 then W (15 + j) else 0) k ∧ x5 = k ∧ k ≤ (W 6).toNat) (fun _ _ _ x5 => (8 - x5).toNat) ?_ ?_
  · unfold VX0_lengthOfAll_0
    refine (c_clothOf ha).fn ⟨_, rfl, a.toNat, rfl, by omega, ?_⟩
    have go : ∀ s0 : Int, s0 = (if a < 2 then W 5 else 0) → VX0_lengthOfAll_18 E l 1 (fun r M' => r = some (vi (pos0 (lenT s a W))) ∧ M' = M) (fun M' x1 x4 x5 => M' = M ∧ ∃ k : Nat, x1 = s ∧ x4 = -(if a < 2 then W 5 else 0) * ((bcn 8 s : Nat) - 1 : Int) + sumZ (fun j => if bt s j = 1 then W (15 + j) else 0) k ∧ x5 = k ∧ k ≤ (W 6).toNat) M s s0 := by
      intro s0 hs0
      unfold VX0_lengthOfAll_18
      refine (c_bitCount hs).fn ⟨_, rfl, fun y4 h4 => ⟨rfl, 0, rfl, ?_, rfl, by omega⟩⟩
      rw [h4, hs0]
      simp [sumZ]
    unfold lbs
    by_cases h2 : a < 2
    · rw [if_pos (show a.toNat < 2 by omega)]
      refine ⟨by decide, fun q => absurd q (by decide), fun _ => go _ ?_⟩
      rw [if_pos h2, hP.seam]
    · rw [if_neg (show ¬ a.toNat < 2 by omega)]
      refine ⟨by decide, fun _ => go _ ?_, fun q => absurd rfl q⟩
      rw [if_neg h2]
  · rintro M' _ _ _ ⟨rfl, k, rfl, rfl, rfl, hk⟩
    unfold VX0_lengthOfAll_33
    try unfold VX0_lengthOfAll_66
    have hl := lens_b hW s k (by omega)
    rw [hP.held]
    refine ⟨by unfold R32; omega, by unfold R32; omega, fun c => ⟨by unfold R32; omega, fun y16 h16 => ⟨?_, rfl⟩⟩, fun c => ?_⟩
    · rw [h16, show k = (W 6).toNat by omega]
      rfl
    · rw [bit_nat (by omega) (by omega)]
      have hb := bt_01 s k
      refine ⟨by unfold R32; omega, fun c2 y20 h20 => ⟨⟨rfl, k + 1, rfl, ?_, by omega, by omega⟩, by omega⟩, fun c2 => (c_at_in (n := 8) rfl (by omega) (by omega)).fn ⟨_, rfl, fun y25 h25 y12 h12 => ⟨⟨rfl, k + 1, rfl, ?_, by omega, by omega⟩, by omega⟩⟩⟩
      · rw [sumZ_s, if_neg (show ¬ bt s k = 1 by omega), Int.add_zero]
      · rw [h25, Int.toNat_natCast, hP.le (by omega), sumZ_s, if_pos (show bt s k = 1 by omega)]
        omega
/-! join -/
def okJ (a b : Int) (W : Nat → Int) : Prop := (0 ≤ a ∧ a < W 6) ∧ (0 ≤ b ∧ b < W 6) ∧ a ≠ b
def okJ2 (a b : Int) (W : Nat → Int) : Prop := W (7 + a.toNat) = W (7 + b.toNat) ∧ 0 < W (15 + a.toNat) ∧ 0 < W (15 + b.toNat)
def joinL (a b : Int) (W : Nat → Int) : Int := pos0 (W (15 + a.toNat) + W (15 + b.toNat) - (if W (7 + a.toNat) < 2 then W 5 else 0))
def SJ (a b : Int) (W : Nat → Int) (P : (Nat → Int) → Prop) (r : Option AV) : Prop :=
  (¬ okJ a b W ∧ r = some (vi (-1)) ∧ P W) ∨ (okJ a b W ∧ ¬ okJ2 a b W ∧ r = some (vi (-2)) ∧ P W) ∨ (okJ a b W ∧ okJ2 a b W ∧ ¬ joinL a b W ≤ 99999 ∧ r = some (vi (-3)) ∧ P W) ∨ (okJ a b W ∧ okJ2 a b W ∧ joinL a b W ≤ 99999 ∧ r = some (vi (joinL a b W)) ∧ P (upW (upW W (15 + a.toNat) (joinL a b W)) (15 + b.toNat) 0))
theorem bcn_two : ∀ a, a < 8 → ∀ b, b < 8 → a ≠ b → bcn 8 (2 ^ a ||| 2 ^ b) = 2 ∧ (2 ^ a ||| 2 ^ b) < 256 := by decide +kernel
theorem joinL_b (hW : IW W) (h : okJ a b W) : 0 ≤ joinL a b W ∧ joinL a b W ≤ 200000 := by
  have hh := hW.held
  have l1 := hW.le (j := a.toNat) (by have := h.1; omega)
  have l2 := hW.le (j := b.toNat) (by have := h.2.1; omega)
  have h5 := hW.seam
  unfold joinL pos0
  split <;> split <;> omega
theorem k_join (ha : R32 a) (hb : R32 b) : ∀ M W, PC M W → IW W → Con E l 20 qX11_join [vr 0, vi a, vi b] M (fun r M' => SJ a b W (PC M') r ∧ Kp 1 M M') := by
  intro M W hP hW
  have hh := hW.held
  have no1 : ¬ okJ a b W → SJ a b W (PC M) (some (vi (-1))) ∧ Kp 1 M M := fun h => ⟨Or.inl ⟨h, rfl, hP⟩, Kp.rf⟩
  refine (RX11_join (D := 5) ?_).up (by decide)
  unfold VX11_join_0
  refine (c_hasB hP hW ha).fn ⟨_, rfl, b01_R, fun c => no1 (fun q => b01_0.mp c q.1), fun c => (c_hasB hP hW hb).fn ⟨_, rfl, b01_R, fun c2 => no1 (fun q => b01_0.mp c2 q.2.1), fun c2 => ⟨ha, hb, fun c3 => ?_, fun c3 => no1 (fun q => q.2.2 c3)⟩⟩⟩
  rw [b01_n0] at c c2
  have hok : okJ a b W := ⟨c, c2, c3⟩
  obtain ⟨i, rfl⟩ : ∃ j : Nat, a = j := ⟨a.toNat, by omega⟩
  obtain ⟨j, rfl⟩ : ∃ j : Nat, b = j := ⟨b.toNat, by omega⟩
  have li := hW.le (j := i) (by omega)
  have lj := hW.le (j := j) (by omega)
  have ci := hW.cl (j := i) (by omega)
  have cj := hW.cl (j := j) (by omega)
  have sewn : Con E l 3 qX0_canBeSewn [vr 5, vi i, vi j] M (fun r M' => r = some (vi (b01 (W (7 + i) = W (7 + j) ∧ 0 < W (15 + i) ∧ 0 < W (15 + j)))) ∧ M' = M) := by
    refine (RX0_canBeSewn (D := 2) ?_).up (by decide)
    unfold VX0_canBeSewn_0
    refine (c_at_in (n := 8) rfl (by omega) (by omega)).fn ⟨_, rfl, (c_at_in (n := 8) rfl (by omega) (by omega)).fn ⟨_, rfl, ?_⟩⟩
    rw [Int.toNat_natCast, Int.toNat_natCast, hP.cl (by omega), hP.cl (by omega)]
    unfold VX0_canBeSewn_24
    try unfold VX0_canBeSewn_56
    refine ⟨by unfold R32; omega, by unfold R32; omega, fun d => ⟨by decide, fun _ => ⟨Or.inl rfl, ?_, rfl⟩, fun q => absurd rfl q⟩, fun d => ⟨by decide, fun q => absurd q (by decide), fun _ => (c_at_in (n := 8) rfl (by omega) (by omega)).fn ⟨_, rfl, ?_⟩⟩⟩
    · rw [b01, if_neg (fun q => d q.1)]
    · rw [Int.toNat_natCast, hP.le (by omega)]
      refine ⟨by unfold R32; omega, fun d2 => ⟨Or.inl rfl, by rw [b01, if_neg (by omega)], rfl⟩, fun d2 => (c_at_in (n := 8) rfl (by omega) (by omega)).fn ⟨_, rfl, ?_⟩⟩
      rw [Int.toNat_natCast, hP.le (by omega)]
      exact ⟨by unfold R32; omega, fun d3 => ⟨Or.inl rfl, by rw [b01, if_neg (by omega)], rfl⟩, fun d3 => ⟨Or.inr rfl, by rw [b01, if_pos ⟨d, by omega, by omega⟩], rfl⟩⟩
  refine sewn.fn ⟨_, rfl, b01_R, fun c4 => ?_, fun c4 => ⟨Or.inr (Or.inl ⟨hok, fun q => b01_0.mp c4 (by unfold okJ2 at q; simp only [Int.toNat_natCast] at q; exact q), rfl, hP⟩), Kp.rf⟩⟩
  rw [b01_n0] at c4
  have hok2 : okJ2 i j W := by unfold okJ2; simp only [Int.toNat_natCast]; exact c4
  refine (c_at_in (n := 8) rfl (by omega) (by omega)).fn ⟨_, rfl, ?_⟩
  rw [Int.toNat_natCast, hP.cl (by omega)]
  have hne : i ≠ j := by omega
  obtain ⟨t1, t2⟩ := bcn_two i (by omega) j (by omega) hne
  have pi : 2 ^ i ≤ 2 ^ 8 := Nat.pow_le_pow_right (by omega) (by omega)
  have pj : 2 ^ j ≤ 2 ^ 8 := Nat.pow_le_pow_right (by omega) (by omega)
  rw [ishl_1 i (by omega), ishl_1 j (by omega), ior_nat (by omega) (by omega)]
  have eL : pos0 (lenT (2 ^ i ||| 2 ^ j) (W (7 + i)) W) = joinL i j W := by
    unfold joinL lenT
    rw [t1, sumZ_two hne (by omega) (by omega)]
    simp only [Int.toNat_natCast]
    congr 1
    omega
  have hjb := joinL_b hW hok
  refine (c_lengthOfAll t2 hP hW ci).fn ⟨_, rfl, ?_⟩
  rw [eL]
  refine ⟨by unfold R32; omega, fun c5 => Con.up (D := 3) (RX0_sew (D := 2) ?_) (by decide), fun c5 => ⟨Or.inr (Or.inr (Or.inl ⟨hok, hok2, c5, rfl, hP⟩)), Kp.rf⟩⟩
  unfold VX0_sew_0
  refine (c_put (n := 8) rfl (by omega) (by omega)).fn ⟨rfl, (c_put (n := 8) rfl (by omega) (by omega)).fn ⟨rfl, rfl, Or.inr (Or.inr (Or.inr ⟨hok, hok2, c5, rfl, ?_⟩)), ?_⟩⟩
  · simp only [Int.toNat_natCast]
    exact (hP.set (j := 15 + i) (by omega) (lc_15 i (by omega))).set (j := 15 + j) (by omega) (lc_15 j (by omega))
  · exact (Kp.rf.put (Or.inl (by rfl))).put (Or.inl (by rfl))
theorem c_seamOf (hP : PM M W) (hc : 0 ≤ a ∧ a ≤ 3) : Con E l 1 qX12_seamOf [vr 44, vi a] M (fun r M' => r = some (vi (if a < 2 then W 5 else 0)) ∧ M' = M) := by
  refine RX12_seamOf ?_
  unfold VX12_seamOf_0
  try unfold VX12_seamOf_15
  refine ⟨by unfold R32; omega, fun c => ⟨by rw [if_neg (by omega)], rfl⟩, fun c => ⟨by rw [if_pos (by omega), hP 5 (by omega)], rfl⟩⟩
theorem m_join (ha : R32 a) (hb : R32 b) : ∀ M W, PM M W → IW W → Con E l 20 qX12_join [vr 44, vi a, vi b] M (fun r M' => SJ a b W (PM M') r ∧ Kp 2 M M') := by
  intro M W hP hW
  have hh := hW.held
  have no1 : ¬ okJ a b W → SJ a b W (PM M) (some (vi (-1))) ∧ Kp 2 M M := fun h => ⟨Or.inl ⟨h, rfl, hP⟩, Kp.rf⟩
  refine (RX12_join (D := 5) ?_).up (by decide)
  unfold VX12_join_0
  refine (c_isBolt hP hW ha).fn ⟨_, rfl, b01_R, fun c => no1 (fun q => b01_0.mp c q.1), fun c => (c_isBolt hP hW hb).fn ⟨_, rfl, b01_R, fun c2 => no1 (fun q => b01_0.mp c2 q.2.1), fun c2 => ⟨ha, hb, fun c3 => ?_, fun c3 => no1 (fun q => q.2.2 c3)⟩⟩⟩
  rw [b01_n0] at c c2
  have hok : okJ a b W := ⟨c, c2, c3⟩
  obtain ⟨i, rfl⟩ : ∃ j : Nat, a = j := ⟨a.toNat, by omega⟩
  obtain ⟨j, rfl⟩ : ∃ j : Nat, b = j := ⟨b.toNat, by omega⟩
  have li := hW.le (j := i) (by omega)
  have lj := hW.le (j := j) (by omega)
  have ci := hW.cl (j := i) (by omega)
  have cj := hW.cl (j := j) (by omega)
  have h5 := hW.seam
  have hjb := joinL_b hW hok
  have a1 : (15 + (i : Int)).toNat = 15 + i := by omega
  have a2 : (15 + (j : Int)).toNat = 15 + j := by omega
  have a3 : (7 + (i : Int)).toNat = 7 + i := by omega
  have a4 : (7 + (j : Int)).toNat = 7 + j := by omega
  rw [a1, a2, a3, a4, hP (15 + i) (by omega), hP (15 + j) (by omega), hP (7 + i) (by omega), hP (7 + j) (by omega)]
  have no2 : ¬ (W (7 + i) = W (7 + j) ∧ 0 < W (15 + i) ∧ 0 < W (15 + j)) → SJ i j W (PM M) (some (vi (-2))) ∧ Kp 2 M M := fun h => ⟨Or.inr (Or.inl ⟨hok, fun q => h (by unfold okJ2 at q; simp only [Int.toNat_natCast] at q; exact q), rfl, hP⟩), Kp.rf⟩
  refine ⟨by omega, by omega, fun y13 h13 => ⟨by omega, by omega, fun y15 h15 => ?_⟩⟩
  subst h13
  subst h15
  refine ⟨by omega, by omega, by omega, by omega, by unfold R32; omega, by unfold R32; omega, fun c4 => no2 (fun q => c4 q.1), fun c4 => ⟨by unfold R32; omega, fun c5 => no2 (by omega), fun c5 => ⟨by unfold R32; omega, fun c6 => ⟨by omega, by omega, (c_seamOf hP ci).fn ⟨_, rfl, ?_⟩⟩, fun c6 => no2 (by omega)⟩⟩⟩
  have hok2 : okJ2 i j W := by unfold okJ2; simp only [Int.toNat_natCast]; exact ⟨c4, by omega, by omega⟩
  have hsb : 0 ≤ (if W (7 + i) < 2 then W 5 else 0) ∧ (if W (7 + i) < 2 then W 5 else 0) ≤ 99 := by split <;> omega
  refine ⟨by unfold R32; omega, (c_greater (by decide) (by unfold R64; omega)).fn ⟨_, rfl, fun y29 h29 => ?_⟩⟩
  have e1 : y29 = joinL i j W := by
    rw [h29, w32_eq (by unfold R32; split <;> omega)]
    unfold joinL pos0
    simp only [Int.toNat_natCast]
    split <;> split <;> omega
  subst e1
  refine ⟨by unfold R32; omega, fun c7 => ⟨by omega, by omega, fun M33 h33 => ⟨by omega, by omega, fun M35 h35 => ⟨Or.inr (Or.inr (Or.inr ⟨hok, hok2, c7, rfl, ?_⟩)), ?_⟩⟩⟩, fun c7 => ⟨Or.inr (Or.inr (Or.inl ⟨hok, hok2, c7, rfl, hP⟩)), Kp.rf⟩⟩
  · rw [h35, h33, Int.toNat_natCast, Int.toNat_natCast]
    exact hP.set.set
  · rw [h35, h33]
    have r1 : rg 45 (15 + i) = 2 := by simp [rg]; omega
    have r2 : rg 45 (15 + j) = 2 := by simp [rg]; omega
    exact (Kp.rf.put (Or.inl r1)).put (Or.inl r2)
/-- eqW with outcomes told by cases: the same relation between state and answer on both sides -/
theorem eqS {mk : Int → AV} {qc qm : MI} {As : List AV} (T : (Nat → Int) → Int → (Nat → Int) → Prop)
    (hu : ∀ W x x' W1 W2, IW W → T W x W1 → T W x' W2 → x = x' ∧ W1 = W2)
    (hi : ∀ W x W', IW W → T W x W' → IW W')
    (hc : ∀ M W, PC M W → IW W → Con E l 20 qc (vr 0 :: As) M (fun r M' => (∃ x W', r = some (mk x) ∧ T W x W' ∧ PC M' W') ∧ Kp 1 M M'))
    (hm : ∀ M W, PM M W → IW W → Con E l 20 qm (vr 44 :: As) M (fun r M' => (∃ x W', r = some (mk x) ∧ T W x W' ∧ PM M' W') ∧ Kp 2 M M')) : EqA E l mk qc qm As := by
  intro M hR
  obtain ⟨⟨W, h1, h2, h3⟩, h4, h5, h6⟩ := hR
  refine (hc M W h1 h3).mono ?_ (Nat.le_refl _)
  rintro _ M1 ⟨⟨x, W1, rfl, t1, p1⟩, k1⟩
  refine ⟨x, rfl, (hm M1 W (h2.ag (k1 2 (by decide) (by decide))) h3).mono ?_ (Nat.le_refl _)⟩
  rintro _ M2 ⟨⟨x', W2, rfl, t2, p2⟩, k2⟩
  obtain ⟨rfl, rfl⟩ := hu W _ _ _ _ h3 t1 t2
  refine ⟨rfl, ⟨⟨W1, p1.ag (k2 1 (by decide) (by decide)), p2, hi W _ _ h3 t1⟩, ?_, ?_, ?_⟩, ?_⟩
  · exact (h4.ag (k1 3 (by decide) (by decide))).ag (k2 3 (by decide) (by decide))
  · exact (h5.ag (k1 4 (by decide) (by decide))).ag (k2 4 (by decide) (by decide))
  · exact (h6.ag (k1 5 (by decide) (by decide))).ag (k2 5 (by decide) (by decide))
  · exact (k1 6 (by decide) (by decide)).tr (k2 6 (by decide) (by decide))
def TJ (a b : Int) (W : Nat → Int) (x : Int) (W' : Nat → Int) : Prop := SJ a b W (fun V => V = W') (some (vi x))
theorem SJ_T {P : (Nat → Int) → Prop} {r : Option AV} (h : SJ a b W P r) : ∃ x W', r = some (vi x) ∧ TJ a b W x W' ∧ P W' := by
  rcases h with ⟨h0, h1, h2⟩ | ⟨h0, h1, h2, h3⟩ | ⟨h0, h1, h2, h3, h4⟩ | ⟨h0, h1, h2, h3, h4⟩
  · exact ⟨_, _, h1, Or.inl ⟨h0, rfl, rfl⟩, h2⟩
  · exact ⟨_, _, h2, Or.inr (Or.inl ⟨h0, h1, rfl, rfl⟩), h3⟩
  · exact ⟨_, _, h3, Or.inr (Or.inr (Or.inl ⟨h0, h1, h2, rfl, rfl⟩)), h4⟩
  · exact ⟨_, _, h3, Or.inr (Or.inr (Or.inr ⟨h0, h1, h2, rfl, rfl⟩)), h4⟩
theorem e_join (ha : R32 a) (hb : R32 b) : EqA E l vi qX11_join qX12_join [vi a, vi b] := by
  have inj : ∀ {x y : Int}, some (vi x) = some (vi y) → x = y := fun h => Sum.inl.inj (Option.some.inj h)
  refine eqS (TJ a b) ?_ ?_ (fun M W p i => (k_join ha hb M W p i).mono (fun r M' h => ⟨SJ_T h.1, h.2⟩) (Nat.le_refl _)) (fun M W p i => (m_join ha hb M W p i).mono (fun r M' h => ⟨SJ_T h.1, h.2⟩) (Nat.le_refl _))
  · rintro W x x' W1 W2 _ (⟨h0, h1, h2⟩ | ⟨h0, h1, h2, h3⟩ | ⟨h0, h1, h2, h3, h4⟩ | ⟨h0, h1, h2, h3, h4⟩) (⟨g0, g1, g2⟩ | ⟨g0, g1, g2, g3⟩ | ⟨g0, g1, g2, g3, g4⟩ | ⟨g0, g1, g2, g3, g4⟩)
    all_goals first
      | exact absurd g0 h0
      | exact absurd h0 g0
      | exact absurd g1 h1
      | exact absurd h1 g1
      | exact absurd g2 h2
      | exact absurd h2 g2
      | exact ⟨(inj h1).trans (inj g1).symm, h2.symm.trans g2⟩
      | exact ⟨(inj h2).trans (inj g2).symm, h3.symm.trans g3⟩
      | exact ⟨(inj h3).trans (inj g3).symm, h4.symm.trans g4⟩
  · rintro W x W' hW (⟨h0, h1, h2⟩ | ⟨h0, h1, h2, h3⟩ | ⟨h0, h1, h2, h3, h4⟩ | ⟨h0, h1, h2, h3, h4⟩)
    · rw [← h2]; exact hW
    · rw [← h3]; exact hW
    · rw [← h4]; exact hW
    · rw [← h4]
      have hh := hW.held
      have hjb := joinL_b hW h0
      have d2 : ∀ j, j < 8 → wlo (15 + j) = 0 ∧ whi (15 + j) = 99999 := by decide
      have q1 := h0.1
      have q2 := h0.2.1
      obtain ⟨y1, y2⟩ := d2 a.toNat (by omega)
      obtain ⟨z1, z2⟩ := d2 b.toNat (by omega)
      exact (hW.set (fun _ _ => by rw [y1, y2]; omega) (fun q => by omega)).set (fun _ _ => by rw [z1, z2]; omega) (fun q => by omega)
end
