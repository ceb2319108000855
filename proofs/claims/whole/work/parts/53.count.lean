section
variable {E : FX} {l : Launch} {M : MM} {W : Nat → Int} {a b : Int}
theorem c_inches (hP : PC M W) (hW : IW W) : Con E l 2 qX0_inches [vr 5] M (fun r M' => r = some (vi (sumZ (fun j => W (15 + j)) (W 6).toNat)) ∧ M' = M) := by
  have hh := hW.held
  refine RX0_inches (fun M' x1 x2 => M' = M ∧ ∃ k : Nat, x1 = sumZ (fun j => W (15 + j)) k ∧ x2 = k ∧ k ≤ (W 6).toNat) (fun _ _ x2 => (8 - x2).toNat) ?_ ?_
  · exact ⟨rfl, 0, rfl, rfl, by omega⟩
  · rintro M' _ _ ⟨rfl, k, rfl, rfl, hk⟩
    unfold VX0_inches_4
    rw [hP.held]
    refine ⟨by unfold R32; omega, by unfold R32; omega, fun c => ⟨by rw [show k = (W 6).toNat by omega], rfl⟩, fun c => (c_at_in (n := 8) rfl (by omega) (by omega)).fn ⟨_, rfl, fun y6 h6 y8 h8 => ⟨⟨rfl, k + 1, ?_, by omega, by omega⟩, by omega⟩⟩⟩
    rw [h6, Int.toNat_natCast, hP.le (by omega), sumZ_s]
theorem c_sumOf {f n : Nat} (hP : PM M W) (hf : f + n ≤ 70) : Con E l 1 qX12_sumOf [vr 44, vi f, vi n] M (fun r M' => r = some (vi (sumZ (fun j => W (f + j)) n)) ∧ M' = M) := by
  refine RX12_sumOf (fun M' x1 x2 x3 x4 => M' = M ∧ ∃ k : Nat, x1 = f ∧ x2 = n ∧ x3 = sumZ (fun j => W (f + j)) k ∧ x4 = k ∧ k ≤ n) (fun _ _ _ _ x4 => (70 - x4).toNat) ?_ ?_
  · exact ⟨rfl, 0, rfl, rfl, rfl, rfl, by omega⟩
  · rintro M' _ _ _ _ ⟨rfl, k, rfl, rfl, rfl, rfl, hk⟩
    unfold VX12_sumOf_5
    refine ⟨by unfold R32; omega, by unfold R32; omega, fun c => ⟨by rw [show k = n by omega], rfl⟩, fun c => ⟨by omega, by omega, fun y3 h3 y5 h5 => ⟨⟨rfl, k + 1, rfl, rfl, ?_, by omega, by omega⟩, by omega⟩⟩⟩
    rw [h3, show ((f : Int) + (k : Int)).toNat = f + k by omega, hP (f + k) (by omega), sumZ_s]
/-- what is above the greatest place, of all bolts -/
def wasteT (n : Nat) (f : Nat → Nat) (W : Nat → Int) : Int := sumZ (fun j => W (15 + j) - (lastF f (W (15 + j)).toNat n : Nat)) (W 6).toNat
theorem waste_b (hW : IW W) (n : Nat) (f : Nat → Nat) (k : Nat) (hk : k ≤ 8) : 0 ≤ sumZ (fun j => W (15 + j) - (lastF f (W (15 + j)).toNat n : Nat)) k ∧ sumZ (fun j => W (15 + j) - (lastF f (W (15 + j)).toNat n : Nat)) k ≤ 799992 := by
  have h := sumZ_b (g := fun j => W (15 + j) - (lastF f (W (15 + j)).toNat n : Nat)) (B := 99999) (n := k) (fun j hj => by
    have h1 := hW.le (j := j) (by omega)
    have h2 := lastF_le f (W (15 + j)).toNat n
    show 0 ≤ W (15 + j) - (lastF f (W (15 + j)).toNat n : Nat) ∧ W (15 + j) - (lastF f (W (15 + j)).toNat n : Nat) ≤ 99999
    omega)
  refine ⟨h.1, Int.le_trans h.2 ?_⟩
  omega
theorem c_wasteC {n g : Nat} {f : Nat → Nat} (hs : StpOk n f g) (hk : MkC M n f g) (hP : PC M W) (hW : IW W) : Con E l 3 qX0_waste [vr 5, vr 37] M (fun r M' => r = some (vi (wasteT n f W)) ∧ M' = M) := by
  have hh := hW.held
  refine RX0_waste (fun M' x2 x3 => M' = M ∧ ∃ k : Nat, x2 = sumZ (fun j => W (15 + j) - (lastF f (W (15 + j)).toNat n : Nat)) k ∧ x3 = k ∧ k ≤ (W 6).toNat) (fun _ _ x3 => (8 - x3).toNat) ?_ ?_
  · exact ⟨rfl, 0, rfl, rfl, by omega⟩
  · rintro M' _ _ ⟨rfl, k, rfl, rfl, hkk⟩
    unfold VX0_waste_4
    rw [hP.held]
    refine ⟨by unfold R32; omega, by unfold R32; omega, fun c => ⟨by rw [show k = (W 6).toNat by omega]; rfl, rfl⟩, fun c => (c_at_in (n := 8) rfl (by omega) (by omega)).fn ⟨_, rfl, ?_⟩⟩
    have hl := hW.le (j := k) (by omega)
    obtain ⟨x, hx⟩ : ∃ x : Nat, W (15 + k) = x := ⟨(W (15 + k)).toNat, by omega⟩
    have hlf := lastF_le f x n
    rw [Int.toNat_natCast, hP.le (by omega), hx]
    refine ⟨by unfold R32; omega, (c_lastTo hs hk (by omega)).fn ⟨_, rfl, fun y9 h9 y11 h11 => ⟨⟨rfl, k + 1, ?_, by omega, by omega⟩, by omega⟩⟩⟩
    rw [h9, w32_eq (by unfold R32; omega), sumZ_s, hx, Int.toNat_natCast]
theorem c_wasteM {n g : Nat} {f : Nat → Nat} (hs : StpOk n f g) (hk : MkM M n f g) (hP : PM M W) (hW : IW W) : Con E l 3 qX12_wasteOf [vr 44] M (fun r M' => r = some (vi (wasteT n f W)) ∧ M' = M) := by
  have hh := hW.held
  refine RX12_wasteOf (fun M' x1 x2 => M' = M ∧ ∃ k : Nat, x1 = sumZ (fun j => W (15 + j) - (lastF f (W (15 + j)).toNat n : Nat)) k ∧ x2 = k ∧ k ≤ (W 6).toNat) (fun _ _ x2 => (8 - x2).toNat) ?_ ?_
  · exact ⟨rfl, 0, rfl, rfl, by omega⟩
  · rintro M' _ _ ⟨rfl, k, rfl, rfl, hkk⟩
    unfold VX12_wasteOf_4
    rw [hP 6 (by omega)]
    refine ⟨by unfold R32; omega, by unfold R32; omega, fun c => ⟨by rw [show k = (W 6).toNat by omega]; rfl, rfl⟩, fun c => ⟨by omega, by omega, by omega, by omega, ?_⟩⟩
    have hl := hW.le (j := k) (by omega)
    obtain ⟨x, hx⟩ : ∃ x : Nat, W (15 + k) = x := ⟨(W (15 + k)).toNat, by omega⟩
    have hlf := lastF_le f x n
    rw [show (15 + (k : Int)).toNat = 15 + k by omega, hP (15 + k) (by omega), hx]
    refine ⟨by unfold R32; omega, (c_below hs hk (by omega)).fn ⟨_, rfl, fun y6 h6 y8 h8 => ⟨⟨rfl, k + 1, ?_, by omega, by omega⟩, by omega⟩⟩⟩
    rw [h6, w32_eq (by unfold R32; omega), sumZ_s, hx, Int.toNat_natCast]
/-- what a party wants -/
def wantT (s : Nat) (W : Nat → Int) : Int := sumZ (fun j => if bt s j = 1 then W (25 + j) else 0) (W 24).toNat
theorem want_b (hW : IW W) (s k : Nat) (hk : k ≤ 6) : 0 ≤ sumZ (fun j => if bt s j = 1 then W (25 + j) else 0) k ∧ sumZ (fun j => if bt s j = 1 then W (25 + j) else 0) k ≤ 59994 := by
  have h := sumZ_b (g := fun j => if bt s j = 1 then W (25 + j) else 0) (B := 9999) (n := k) (fun j hj => by
    have := hW.wn (j := j) (by omega)
    show 0 ≤ (if bt s j = 1 then W (25 + j) else 0) ∧ (if bt s j = 1 then W (25 + j) else 0) ≤ 9999
    split <;> omega)
  refine ⟨h.1, Int.le_trans h.2 ?_⟩
  omega
theorem c_wantedBy {s : Nat} (hs : s < 2147483648) (hP : PC M W) (hW : IW W) : Con E l 2 qX1_wantedBy [vr 9, vi s] M (fun r M' => r = some (vi (wantT s W)) ∧ M' = M) := by
  have hh := hW.nb
  refine RX1_wantedBy (fun M' x1 x2 x3 => M' = M ∧ ∃ k : Nat, x1 = s ∧ x2 = sumZ (fun j => if bt s j = 1 then W (25 + j) else 0) k ∧ x3 = k ∧ k ≤ (W 24).toNat) (fun _ _ _ x3 => (6 - x3).toNat) ?_ ?_
  · exact ⟨rfl, 0, rfl, rfl, rfl, by omega⟩
  · rintro M' _ _ _ ⟨rfl, k, rfl, rfl, rfl, hk⟩
    unfold VX1_wantedBy_4
    try unfold VX1_wantedBy_32
    rw [hP.nb]
    refine ⟨by unfold R32; omega, by unfold R32; omega, fun c => ⟨by rw [show k = (W 24).toNat by omega]; rfl, rfl⟩, fun c => ?_⟩
    rw [bit_nat hs (by omega)]
    have hb := bt_01 s k
    refine ⟨by unfold R32; omega, fun c2 y7 h7 => ⟨⟨rfl, k + 1, rfl, ?_, by omega, by omega⟩, by omega⟩, fun c2 => (c_at_in (n := 6) rfl (by omega) (by omega)).fn ⟨_, rfl, fun y12 h12 y1 h1 => ⟨⟨rfl, k + 1, rfl, ?_, by omega, by omega⟩, by omega⟩⟩⟩
    · rw [sumZ_s, if_neg (show ¬ bt s k = 1 by omega), Int.add_zero]
    · rw [h12, Int.toNat_natCast, hP.wn (by omega), sumZ_s, if_pos (show bt s k = 1 by omega)]
theorem c_everyone (hP : PC M W) (hW : IW W) : Con E l 1 qX1_everyone [vr 9] M (fun r M' => r = some (vi ((2 ^ (W 24).toNat : Nat) - 1)) ∧ M' = M) := by
  have hh := hW.nb
  refine RX1_everyone ?_
  unfold VX1_everyone_0
  obtain ⟨n, hn⟩ : ∃ n : Nat, W 24 = n := ⟨(W 24).toNat, by omega⟩
  rw [hP.nb, hn, ishl_1 n (by omega), Int.toNat_natCast]
  exact ⟨rfl, rfl⟩
theorem bt_all : ∀ n, n < 7 → ∀ j, j < n → bt (2 ^ n - 1) j = 1 := by decide +kernel
def priceT (s : Nat) (W : Nat → Int) : Nat := fstF (stW W) (wantT s W).toNat (knW W)
theorem c_priceOfC {s : Nat} (hs : s < 2147483648) (hk : MkC M (knW W) (stW W) (alW W)) (hP : PC M W) (hW : IW W) : Con E l 3 qX11_priceOf [vr 0, vr 37, vi s] M (fun r M' => r = some (vj (priceT s W : Nat)) ∧ M' = M) := by
  have hb := want_b hW s (W 24).toNat (by have := hW.nb; omega)
  refine RX11_priceOf ?_
  unfold VX11_priceOf_0
  refine (c_wantedBy hs hP hW).fn ⟨_, rfl, ?_⟩
  obtain ⟨x, hx⟩ : ∃ x : Nat, wantT s W = x := ⟨(wantT s W).toNat, by unfold wantT; omega⟩
  have hx2 : x ≤ 59994 := by unfold wantT at hx; omega
  rw [hx]
  refine ⟨by unfold R32; omega, (c_firstFrom hW.stp hk (x := x) (by omega)).fn ⟨_, rfl, ?_, rfl⟩⟩
  unfold priceT
  rw [hx, Int.toNat_natCast]
theorem c_priceOfM {s : Nat} (hs : s < 2147483648) (hk : MkM M (knW W) (stW W) (alW W)) (hP : PM M W) (hW : IW W) : Con E l 3 qX12_priceOf [vr 44, vi s] M (fun r M' => r = some (vj (priceT s W : Nat)) ∧ M' = M) := by
  have hh := hW.nb
  refine RX12_priceOf (fun M' x1 x2 x3 => M' = M ∧ ∃ k : Nat, x1 = s ∧ x2 = sumZ (fun j => if bt s j = 1 then W (25 + j) else 0) k ∧ x3 = k ∧ k ≤ (W 24).toNat) (fun _ _ _ x3 => (6 - x3).toNat) ?_ ?_
  · exact ⟨rfl, 0, rfl, rfl, rfl, by omega⟩
  · rintro M' _ _ _ ⟨rfl, k, rfl, rfl, rfl, hkk⟩
    unfold VX12_priceOf_4
    try unfold VX12_priceOf_37
    have hb := want_b hW s k (by omega)
    rw [hP 24 (by omega)]
    refine ⟨by unfold R32; omega, by unfold R32; omega, fun c => ⟨by unfold R32; omega, ?_⟩, fun c => (c_has hs (by omega)).fn ⟨_, rfl, ?_⟩⟩
    · obtain ⟨x, hx⟩ : ∃ x : Nat, wantT s W = x := ⟨(wantT s W).toNat, by unfold wantT; rw [← show k = (W 24).toNat by omega]; omega⟩
      have e : sumZ (fun j => if bt s j = 1 then W (25 + j) else 0) k = x := by rw [← hx, show k = (W 24).toNat by omega]; rfl
      rw [e] at hb ⊢
      refine (c_above hW.stp hk (x := x) (by omega)).fn ⟨_, rfl, ?_, rfl⟩
      unfold priceT
      rw [hx, Int.toNat_natCast]
    · have hb2 := bt_01 s k
      refine ⟨by unfold R32; omega, fun c2 y1 h1 y3 h3 => ⟨⟨rfl, k + 1, rfl, ?_, by omega, by omega⟩, by omega⟩, fun c2 => ⟨by omega, by omega, fun y1 h1 y3 h3 => ⟨⟨rfl, k + 1, rfl, ?_, by omega, by omega⟩, by omega⟩⟩⟩
      · rw [h1, sumZ_s, if_neg (show ¬ bt s k = 1 by omega)]
      · rw [h1, show (25 + (k : Int)).toNat = 25 + k by omega, hP (25 + k) (by omega), sumZ_s, if_pos (show bt s k = 1 by omega)]
/-! count -/
def aCount (a : Int) (W : Nat → Int) : Int := if a = 0 then W 6 else if a = 1 then sumZ (fun j => W (15 + j)) (W 6).toNat else if a = 2 then W 23 else if a = 3 then W 24 else if a = 4 then sumZ (fun j => W (25 + j)) (W 24).toNat else if a = 5 then wasteT (knW W) (stW W) W else -1
theorem k_count (ha : R32 a) : ∀ M W, PC M W → IW W → Con E l 20 qX11_count [vr 0, vi a] M (fun r M' => r = some (vi (aCount a W)) ∧ PC M' W ∧ Kp 1 M M') := by
  intro M W hP hW
  have hh := hW.nb
  refine (RX11_count (D := 5) ?_).up (by decide)
  unfold VX11_count_0
  refine ⟨ha, fun c => ⟨?_, hP, Kp.rf⟩, fun c => ⟨?_, hP, Kp.rf⟩, fun c => (c_inches hP hW).fn ⟨_, rfl, ?_, hP, Kp.rf⟩, fun c => ⟨?_, hP, Kp.rf⟩, fun c => ⟨?_, hP, Kp.rf⟩, fun c => (c_everyone hP hW).fn ⟨_, rfl, ?_⟩, fun c => (c_marksNow hP hW).mono ?_⟩
  · unfold aCount
    rw [if_neg (by omega), if_neg (by omega), if_neg (by omega), if_neg (by omega), if_neg (by omega), if_neg (by omega)]
  · rw [hP.held, c]; rfl
  · rw [c]; rfl
  · rw [hP.sold, c]; rfl
  · rw [hP.nb, c]; rfl
  · rw [show ((2 ^ (W 24).toNat : Nat) : Int) - 1 = ((2 ^ (W 24).toNat - 1 : Nat) : Int) by have := Nat.one_le_two_pow (n := (W 24).toNat); omega]
    have h2 : 2 ^ (W 24).toNat ≤ 2 ^ 6 := Nat.pow_le_pow_right (by omega) (by omega)
    refine (c_wantedBy (by omega) hP hW).fn ⟨_, rfl, ?_, hP, Kp.rf⟩
    have e : wantT (2 ^ (W 24).toNat - 1) W = sumZ (fun j => W (25 + j)) (W 24).toNat := sumZ_cong (fun j hj => by
      show (if bt (2 ^ (W 24).toNat - 1) j = 1 then W (25 + j) else 0) = W (25 + j)
      rw [if_pos (bt_all (W 24).toNat (by omega) j hj)])
    rw [e, c]; rfl
  · rintro _ M1 ⟨rfl, hk, he⟩
    refine ⟨rfl, (c_wasteC hW.stp hk (hP.eqv he) hW).fn ⟨_, rfl, ?_, hP.kp he⟩⟩
    rw [c]; rfl
theorem m_count (ha : R32 a) : ∀ M W, PM M W → IW W → Con E l 20 qX12_count [vr 44, vi a] M (fun r M' => r = some (vi (aCount a W)) ∧ PM M' W ∧ Kp 2 M M') := by
  intro M W hP hW
  have hh := hW.nb
  have h6 := hW.held
  refine (RX12_count (D := 5) ?_).up (by decide)
  unfold VX12_count_0
  obtain ⟨n, hn⟩ : ∃ n : Nat, W 24 = n := ⟨(W 24).toNat, by omega⟩
  obtain ⟨m, hm⟩ : ∃ m : Nat, W 6 = m := ⟨(W 6).toNat, by omega⟩
  rw [hP 6 (by omega), hP 24 (by omega), hP 23 (by omega)]
  refine ⟨ha, fun c => ⟨?_, hP, Kp.rf⟩, fun c => ⟨?_, hP, Kp.rf⟩, fun c => ?_, fun c => ⟨?_, hP, Kp.rf⟩, fun c => ⟨?_, hP, Kp.rf⟩, fun c => ?_, fun c => (c_layNow hP hW).mono ?_⟩
  · unfold aCount
    rw [if_neg (by omega), if_neg (by omega), if_neg (by omega), if_neg (by omega), if_neg (by omega), if_neg (by omega)]
  · rw [c]; rfl
  · rw [hm]
    refine (c_sumOf (f := 15) hP (by omega)).fn ⟨_, rfl, ?_, hP, Kp.rf⟩
    rw [c]
    show _ = some (vi (sumZ (fun j => W (15 + j)) (W 6).toNat))
    rw [hm, Int.toNat_natCast]
  · rw [c]; rfl
  · rw [c]; rfl
  · rw [hn]
    refine (c_sumOf (f := 25) hP (by omega)).fn ⟨_, rfl, ?_, hP, Kp.rf⟩
    rw [c]
    show _ = some (vi (sumZ (fun j => W (25 + j)) (W 24).toNat))
    rw [hn, Int.toNat_natCast]
  · rintro _ M1 ⟨rfl, hk, he⟩
    refine ⟨rfl, (c_wasteM hW.stp hk (hP.eqv he) hW).fn ⟨_, rfl, ?_, hP.kp he⟩⟩
    rw [c]; rfl
theorem e_count (ha : R32 a) : EqA E l vi qX11_count qX12_count [vi a] := eqW (aCount a) (fun W => W) (k_count ha) (m_count ha) (fun _ h => h)
/-! buyer, home -/
def aBuy (a : Int) (W : Nat → Int) : Int := if 1 ≤ a ∧ a ≤ 9999 then (if W 24 < 6 then W 24 else -3) else -1
def fBuy (a : Int) (W : Nat → Int) : Nat → Int := if 1 ≤ a ∧ a ≤ 9999 then (if W 24 < 6 then upW (upW W (25 + (W 24).toNat) a) 24 (W 24 + 1) else W) else W
theorem k_buyer (ha : R32 a) : ∀ M W, PC M W → IW W → Con E l 20 qX11_buyer [vr 0, vi a] M (fun r M' => r = some (vi (aBuy a W)) ∧ PC M' (fBuy a W) ∧ Kp 1 M M') := by
  intro M W hP hW
  have hh := hW.nb
  refine (RX11_buyer (D := 4) ?_).up (by decide)
  unfold VX11_buyer_0
  try unfold VX11_buyer_44
  refine (c_within ha (by decide) (by decide)).fn ⟨_, rfl, b01_R, fun c => ?_, fun c => ?_⟩
  · rw [b01_n0] at c
    obtain ⟨h, hhe⟩ : ∃ h : Nat, W 24 = h := ⟨(W 24).toNat, by omega⟩
    rw [hP.nb]
    refine ⟨by unfold R32; omega, fun c3 => Con.up (D := 3) (RX1_add ?_) (by decide), fun c3 => ?_⟩
    · have eA : aBuy a W = W 24 := (if_pos c).trans (if_pos c3)
      have eF : fBuy a W = upW (upW W (25 + (W 24).toNat) a) 24 (W 24 + 1) := (if_pos c).trans (if_pos c3)
      rw [eA, eF]
      unfold VX1_add_0
      rw [hP.nb, hhe]
      refine (c_put (n := 6) rfl (by omega) (by omega)).fn ⟨rfl, fun M5 h5 => ⟨_, rfl, ?_⟩⟩
      rw [show up M 10 (Int.toNat h) a 9 1 = (h : Int) by rw [up_ne (by omega), hP.nb, hhe]] at h5 ⊢
      rw [h5, Int.toNat_natCast]
      refine ⟨rfl, (hP.set (j := 25 + h) (by omega) (lc_25 h (by omega))).set (j := 24) (by omega) rfl, (Kp.rf.put (Or.inl (by rfl))).put (Or.inl (by rfl))⟩
    · have eA : aBuy a W = -3 := (if_pos c).trans (if_neg c3)
      have eF : fBuy a W = W := (if_pos c).trans (if_neg c3)
      rw [eA, eF]
      exact ⟨rfl, hP, Kp.rf⟩
  · rw [b01_0] at c
    have eA : aBuy a W = -1 := if_neg c
    have eF : fBuy a W = W := if_neg c
    rw [eA, eF]
    exact ⟨rfl, hP, Kp.rf⟩
theorem m_buyer (ha : R32 a) : ∀ M W, PM M W → IW W → Con E l 20 qX12_buyer [vr 44, vi a] M (fun r M' => r = some (vi (aBuy a W)) ∧ PM M' (fBuy a W) ∧ Kp 2 M M') := by
  intro M W hP hW
  have hh := hW.nb
  refine (RX12_buyer (D := 4) ?_).up (by decide)
  unfold VX12_buyer_0
  refine ⟨ha, (c_in (r32_64 ha) (by decide) (by decide)).fn ⟨_, rfl, b01_R, fun c => ?_, fun c => ?_⟩⟩
  · rw [b01_n0] at c
    obtain ⟨h, hhe⟩ : ∃ h : Nat, W 24 = h := ⟨(W 24).toNat, by omega⟩
    rw [hP 24 (by omega)]
    intro y6 h6
    rw [hhe] at h6
    subst h6
    refine ⟨by unfold R32; omega, fun c3 => ⟨by omega, by omega, fun M10 h10 M12 h12 => ?_⟩, fun c3 => ?_⟩
    · have eA : aBuy a W = W 24 := (if_pos c).trans (if_pos (by omega))
      have eF : fBuy a W = upW (upW W (25 + (W 24).toNat) a) 24 (W 24 + 1) := (if_pos c).trans (if_pos (by omega))
      rw [eA, eF, hhe]
      have e1 : (25 + (h : Int)).toNat = 25 + h := by omega
      have e3 : M10 45 24 = (h : Int) := by rw [h10, e1, up_ne (by omega), hP 24 (by omega), hhe]
      rw [h12, e3, h10, e1, Int.toNat_natCast]
      have r1 : rg 45 (25 + h) = 2 := by simp [rg]; omega
      exact ⟨rfl, hP.set.set, (Kp.rf.put (Or.inl r1)).put (Or.inl (by rfl))⟩
    · have eA : aBuy a W = -3 := (if_pos c).trans (if_neg (by omega))
      have eF : fBuy a W = W := (if_pos c).trans (if_neg (by omega))
      rw [eA, eF]
      exact ⟨rfl, hP, Kp.rf⟩
  · rw [b01_0] at c
    have eA : aBuy a W = -1 := if_neg c
    have eF : fBuy a W = W := if_neg c
    rw [eA, eF]
    exact ⟨rfl, hP, Kp.rf⟩
theorem e_buyer (ha : R32 a) : EqA E l vi qX11_buyer qX12_buyer [vi a] :=
  eqW (aBuy a) (fBuy a) (k_buyer ha) (m_buyer ha) (fun W hW => by
    have hh := hW.nb
    unfold fBuy
    split
    · rename_i h
      split
      · rename_i h2
        have d1 : ∀ j, j < 6 → wlo (25 + j) = 0 ∧ whi (25 + j) = 9999 := by decide
        obtain ⟨x1, x2⟩ := d1 (W 24).toNat (by omega)
        exact (hW.set (fun _ _ => by rw [x1, x2]; omega) (fun q => by omega)).set (fun _ _ => by simp [wlo, whi]; omega) (fun q => by omega)
      · exact hW
    · exact hW)
theorem e_home : EqA E l vi qX11_home qX12_home [] := by
  refine eqW (fun W => W 24) (fun W => upW W 24 0) (fun M W hP hW => Con.up (D := 2) (RX11_home ?_) (by decide)) (fun M W hP hW => Con.up (D := 2) (RX12_home ?_) (by decide)) (fun W hW => hW.set (fun _ _ => by simp [wlo, whi]) (fun q => by omega))
  · unfold VX11_home_0
    rintro y1 rfl M3 rfl
    exact ⟨by rw [hP.nb], hP.set (j := 24) (by omega) rfl, Kp.rf.put (Or.inl (by rfl))⟩
  · unfold VX12_home_0
    rintro y1 rfl M3 rfl
    exact ⟨by rw [hP 24 (by omega)], hP.set, Kp.rf.put (Or.inl (by rfl))⟩
/-! price -/
def aPrice (a : Int) (W : Nat → Int) : Int := if 1 ≤ a ∧ a ≤ (2 ^ (W 24).toNat : Nat) - 1 then (priceT a.toNat W : Nat) else -1
theorem k_price (ha : R32 a) : ∀ M W, PC M W → IW W → Con E l 20 qX11_price [vr 0, vi a] M (fun r M' => r = some (vj (aPrice a W)) ∧ PC M' W ∧ Kp 1 M M') := by
  intro M W hP hW
  have hh := hW.nb
  have h2 : 2 ^ (W 24).toNat ≤ 2 ^ 6 := Nat.pow_le_pow_right (by omega) (by omega)
  have h3 : (0 : Int) ≤ ((2 ^ (W 24).toNat : Nat) : Int) := Int.natCast_nonneg _
  refine (RX11_price (D := 6) ?_).up (by decide)
  unfold VX11_price_0
  refine (c_everyone hP hW).fn ⟨_, rfl, (c_within ha (by decide) (by unfold R32; omega)).fn ⟨_, rfl, b01_R, fun c => (c_marksNow hP hW).mono ?_, fun c => ?_⟩⟩
  · rw [b01_n0] at c
    rintro _ M1 ⟨rfl, hk, he⟩
    obtain ⟨s, rfl⟩ : ∃ s : Nat, a = s := ⟨a.toNat, by omega⟩
    refine ⟨rfl, (c_priceOfC (by omega) hk (hP.eqv he) hW).fn ⟨_, rfl, ?_, hP.kp he⟩⟩
    have eA : aPrice s W = (priceT s W : Nat) := if_pos c
    rw [eA]
  · rw [b01_0] at c
    have eA : aPrice a W = -1 := if_neg c
    rw [eA]
    exact ⟨rfl, hP, Kp.rf⟩
theorem m_price (ha : R32 a) : ∀ M W, PM M W → IW W → Con E l 20 qX12_price [vr 44, vi a] M (fun r M' => r = some (vj (aPrice a W)) ∧ PM M' W ∧ Kp 2 M M') := by
  intro M W hP hW
  have hh := hW.nb
  have h2 : 2 ^ (W 24).toNat ≤ 2 ^ 6 := Nat.pow_le_pow_right (by omega) (by omega)
  obtain ⟨n, hn⟩ : ∃ n : Nat, W 24 = n := ⟨(W 24).toNat, by omega⟩
  refine (RX12_price (D := 6) ?_).up (by decide)
  unfold VX12_price_0
  rw [hP 24 (by omega), hn, ishl_1 n (by omega)]
  rw [hn, Int.toNat_natCast] at h2
  have h3 : (0 : Int) ≤ ((2 ^ n : Nat) : Int) := Int.natCast_nonneg _
  refine ⟨ha, by unfold R32; omega, (c_in (r32_64 ha) (by decide) (by unfold R64; omega)).fn ⟨_, rfl, b01_R, fun c => (c_layNow hP hW).mono ?_, fun c => ?_⟩⟩
  · rw [b01_n0] at c
    rintro _ M1 ⟨rfl, hk, he⟩
    obtain ⟨s, rfl⟩ : ∃ s : Nat, a = s := ⟨a.toNat, by omega⟩
    refine ⟨rfl, (c_priceOfM (by omega) hk (hP.eqv he) hW).fn ⟨_, rfl, ?_, hP.kp he⟩⟩
    have eA : aPrice s W = (priceT s W : Nat) := if_pos (by rw [hn, Int.toNat_natCast]; exact c)
    rw [eA]
  · rw [b01_0] at c
    have eA : aPrice a W = -1 := if_neg (by rw [hn, Int.toNat_natCast]; exact c)
    rw [eA]
    exact ⟨rfl, hP, Kp.rf⟩
theorem e_price (ha : R32 a) : EqA E l vj qX11_price qX12_price [vi a] := eqW (aPrice a) (fun W => W) (k_price ha) (m_price ha) (fun _ h => h)
end
