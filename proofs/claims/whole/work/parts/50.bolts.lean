def sumZ (g : Nat → Int) : Nat → Int
  | 0 => 0
  | n + 1 => sumZ g n + g n
theorem sumZ_s (g : Nat → Int) (n : Nat) : sumZ g (n + 1) = sumZ g n + g n := rfl
theorem sumZ_b {g : Nat → Int} {B : Int} {n : Nat} (h : ∀ j, j < n → 0 ≤ g j ∧ g j ≤ B) : 0 ≤ sumZ g n ∧ sumZ g n ≤ n * B := by
  induction n with
  | zero => simp [sumZ]
  | succ n ih =>
    have i1 := ih (fun j hj => h j (by omega))
    have i2 := h n (by omega)
    rw [sumZ_s, Int.natCast_add, Int.add_mul]
    omega
theorem sumZ_cong {g g' : Nat → Int} {n : Nat} (h : ∀ j, j < n → g j = g' j) : sumZ g n = sumZ g' n := by
  induction n with
  | zero => rfl
  | succ n ih => rw [sumZ_s, sumZ_s, ih (fun j hj => h j (by omega)), h n (by omega)]
section
variable {E : FX} {l : Launch} {M : MM} {W : Nat → Int} {a b : Int}
theorem IW.held (h : IW W) : 0 ≤ W 6 ∧ W 6 ≤ 8 := h.2.2.2.2.1
theorem IW.cl (h : IW W) {j : Nat} (hj : j < 8) : 0 ≤ W (7 + j) ∧ W (7 + j) ≤ 3 := h.2.2.2.2.2.1 j hj
theorem IW.le (h : IW W) {j : Nat} (hj : j < 8) : 0 ≤ W (15 + j) ∧ W (15 + j) ≤ 99999 := h.2.2.2.2.2.2.1 j hj
theorem IW.nb (h : IW W) : 0 ≤ W 24 ∧ W 24 ≤ 6 := h.2.2.2.2.2.2.2.1
theorem IW.wn (h : IW W) {j : Nat} (hj : j < 6) : 0 ≤ W (25 + j) ∧ W (25 + j) ≤ 9999 := h.2.2.2.2.2.2.2.2.1 j hj
theorem IW.seam (h : IW W) : 0 ≤ W 5 ∧ W 5 ≤ 99 := h.2.2.2.1
theorem PC.held (h : PC M W) : M 5 3 = W 6 := h.2.2.2.2.1
theorem PC.cl (h : PC M W) {j : Nat} (hj : j < 8) : M 6 j = W (7 + j) := h.2.2.2.2.2.1 j hj
theorem PC.le (h : PC M W) {j : Nat} (hj : j < 8) : M 7 j = W (15 + j) := h.2.2.2.2.2.2.1 j hj
theorem PC.sold (h : PC M W) : M 5 4 = W 23 := h.2.2.2.2.2.2.2.1
theorem PC.nb (h : PC M W) : M 9 1 = W 24 := h.2.2.2.2.2.2.2.2.1
theorem PC.wn (h : PC M W) {j : Nat} (hj : j < 6) : M 10 j = W (25 + j) := h.2.2.2.2.2.2.2.2.2.1 j hj
theorem PC.seam (h : PC M W) : M 5 5 = W 5 := h.2.2.2.1
theorem c_hasB (hP : PC M W) (hW : IW W) (ha : R32 a) : Con E l 1 qX0_has [vr 5, vi a] M (fun r M' => r = some (vi (b01 (0 ≤ a ∧ a < W 6))) ∧ M' = M) := by
  have hh := hW.held
  refine RX0_has ?_
  unfold VX0_has_0
  try unfold VX0_has_17
  rw [hP.held]
  refine ⟨ha, fun c => ⟨Or.inl rfl, by rw [b01, if_neg (by omega)], rfl⟩, fun c => ⟨ha, by unfold R32; omega, fun c2 => ⟨Or.inl rfl, by rw [b01, if_neg (by omega)], rfl⟩, fun c2 => ⟨Or.inr rfl, by rw [b01, if_pos (by omega)], rfl⟩⟩⟩
theorem c_isBolt (hP : PM M W) (hW : IW W) (ha : R32 a) : Con E l 2 qX12_isBolt [vr 44, vi a] M (fun r M' => r = some (vi (b01 (0 ≤ a ∧ a < W 6))) ∧ M' = M) := by
  have hh := hW.held
  refine RX12_isBolt ?_
  unfold VX12_isBolt_0
  rw [hP 6 (by omega)]
  refine ⟨ha, by unfold R32; omega, (c_in (r32_64 ha) (by decide) (by unfold R64; omega)).fn ⟨_, rfl, ?_, ?_, rfl⟩⟩
  · unfold b01; split <;> simp
  · unfold b01
    by_cases h : 0 ≤ a ∧ a < W 6
    · rw [if_pos h, if_pos (by omega)]
    · rw [if_neg h, if_neg (by omega)]
/-! bolt -/
def aBolt (a b : Int) (W : Nat → Int) : Int := if (0 ≤ a ∧ a ≤ 3) ∧ (1 ≤ b ∧ b ≤ 99999) then (if W 6 < 8 then W 6 else -3) else -1
def fBolt (a b : Int) (W : Nat → Int) : Nat → Int := if (0 ≤ a ∧ a ≤ 3) ∧ (1 ≤ b ∧ b ≤ 99999) then (if W 6 < 8 then upW (upW (upW W (7 + (W 6).toNat) a) (15 + (W 6).toNat) b) 6 (W 6 + 1) else W) else W
theorem k_bolt (ha : R32 a) (hb : R32 b) : ∀ M W, PC M W → IW W → Con E l 20 qX11_bolt [vr 0, vi a, vi b] M (fun r M' => r = some (vi (aBolt a b W)) ∧ PC M' (fBolt a b W) ∧ Kp 1 M M') := by
  intro M W hP hW
  have hh := hW.held
  have bad : ¬ ((0 ≤ a ∧ a ≤ 3) ∧ (1 ≤ b ∧ b ≤ 99999)) → some (vi (-1)) = some (vi (aBolt a b W)) ∧ PC M (fBolt a b W) ∧ Kp 1 M M := fun h => by
    unfold aBolt fBolt
    rw [if_neg h, if_neg h]
    exact ⟨rfl, hP, Kp.rf⟩
  refine (RX11_bolt (D := 4) ?_).up (by decide)
  unfold VX11_bolt_0
  try unfold VX11_bolt_51
  refine (c_isCloth ha).fn ⟨_, rfl, b01_R, fun c => bad (by rw [b01_0] at c; omega), fun c => (c_within hb (by decide) (by decide)).fn ⟨_, rfl, b01_R, fun c2 => ?_, fun c2 => bad (by rw [b01_0] at c2; omega)⟩⟩
  rw [b01_n0] at c c2
  have hc : (0 ≤ a ∧ a ≤ 3) ∧ (1 ≤ b ∧ b ≤ 99999) := ⟨c, c2⟩
  rw [hP.held]
  obtain ⟨h, hhe⟩ : ∃ h : Nat, W 6 = h := ⟨(W 6).toNat, by omega⟩
  refine ⟨by unfold R32; omega, fun c3 => Con.up (D := 3) (RX0_add ?_) (by decide), fun c3 => ?_⟩
  · have eA : aBolt a b W = W 6 := by unfold aBolt; rw [if_pos hc, if_pos c3]
    have eF : fBolt a b W = upW (upW (upW W (7 + (W 6).toNat) a) (15 + (W 6).toNat) b) 6 (W 6 + 1) := by unfold fBolt; rw [if_pos hc, if_pos c3]
    rw [eA, eF]
    unfold VX0_add_0
    rw [hP.held, hhe]
    refine (c_put (n := 8) rfl (by omega) (by omega)).fn ⟨rfl, ?_⟩
    rw [show up M 6 (Int.toNat h) a 5 3 = (h : Int) by rw [up_ne (by omega), hP.held, hhe]]
    refine (c_put (n := 8) rfl (by omega) (by omega)).fn ⟨rfl, fun M5 h5 => ⟨_, rfl, ?_⟩⟩
    have e1 : up (up M 6 (Int.toNat h) a) 7 (Int.toNat h) b 5 3 = (h : Int) := by rw [up_ne (by omega), up_ne (by omega), hP.held, hhe]
    rw [h5, e1]
    simp only [Int.toNat_natCast]
    refine ⟨trivial, ?_, ?_⟩
    · exact ((hP.set (j := 7 + h) (by omega) (lc_7 h (by omega))).set (j := 15 + h) (by omega) (lc_15 h (by omega))).set (j := 6) (by omega) rfl
    · exact ((Kp.rf.put (Or.inl (by rfl))).put (Or.inl (by rfl))).put (Or.inl (by rfl))
  · have eA : aBolt a b W = -3 := by unfold aBolt; rw [if_pos hc, if_neg c3]
    have eF : fBolt a b W = W := by unfold fBolt; rw [if_pos hc, if_neg c3]
    rw [eA, eF]
    exact ⟨rfl, hP, Kp.rf⟩
theorem m_bolt (ha : R32 a) (hb : R32 b) : ∀ M W, PM M W → IW W → Con E l 20 qX12_bolt [vr 44, vi a, vi b] M (fun r M' => r = some (vi (aBolt a b W)) ∧ PM M' (fBolt a b W) ∧ Kp 2 M M') := by
  intro M W hP hW
  have hh := hW.held
  have bad : ¬ ((0 ≤ a ∧ a ≤ 3) ∧ (1 ≤ b ∧ b ≤ 99999)) → some (vi (-1)) = some (vi (aBolt a b W)) ∧ PM M (fBolt a b W) ∧ Kp 2 M M := fun h => by
    unfold aBolt fBolt
    rw [if_neg h, if_neg h]
    exact ⟨rfl, hP, Kp.rf⟩
  refine (RX12_bolt (D := 4) ?_).up (by decide)
  unfold VX12_bolt_0
  refine ⟨ha, (c_in (r32_64 ha) (by decide) (by decide)).fn ⟨_, rfl, b01_R, fun c => bad (by rw [b01_0] at c; omega), fun c => ⟨hb, (c_in (r32_64 hb) (by decide) (by decide)).fn ⟨_, rfl, b01_R, fun c2 => ?_, fun c2 => bad (by rw [b01_0] at c2; omega)⟩⟩⟩⟩
  rw [b01_n0] at c c2
  have hc : (0 ≤ a ∧ a ≤ 3) ∧ (1 ≤ b ∧ b ≤ 99999) := ⟨c, c2⟩
  rw [hP 6 (by omega)]
  obtain ⟨h, hhe⟩ : ∃ h : Nat, W 6 = h := ⟨(W 6).toNat, by omega⟩
  intro y11 h11
  rw [hhe] at h11
  subst h11
  refine ⟨by unfold R32; omega, fun c3 => ⟨by omega, by omega, fun M15 h15 => ⟨by omega, by omega, fun M17 h17 M19 h19 => ?_⟩⟩, fun c3 => ?_⟩
  · have eA : aBolt a b W = W 6 := by unfold aBolt; rw [if_pos hc, if_pos (by omega)]
    have eF : fBolt a b W = upW (upW (upW W (7 + (W 6).toNat) a) (15 + (W 6).toNat) b) 6 (W 6 + 1) := by unfold fBolt; rw [if_pos hc, if_pos (by omega)]
    rw [eA, eF, hhe]
    have e1 : (7 + (h : Int)).toNat = 7 + h := by omega
    have e2 : (15 + (h : Int)).toNat = 15 + h := by omega
    have e3 : M17 45 6 = (h : Int) := by rw [h17, h15, e1, e2, up_ne (by omega), up_ne (by omega), hP 6 (by omega), hhe]
    rw [h19, e3, h17, h15, e1, e2, Int.toNat_natCast]
    have r1 : rg 45 (7 + h) = 2 := by simp [rg]; omega
    have r2 : rg 45 (15 + h) = 2 := by simp [rg]; omega
    exact ⟨rfl, hP.set.set.set, ((Kp.rf.put (Or.inl r1)).put (Or.inl r2)).put (Or.inl (by rfl))⟩
  · have eA : aBolt a b W = -3 := by unfold aBolt; rw [if_pos hc, if_neg (by omega)]
    have eF : fBolt a b W = W := by unfold fBolt; rw [if_pos hc, if_neg (by omega)]
    rw [eA, eF]
    exact ⟨rfl, hP, Kp.rf⟩
theorem e_bolt (ha : R32 a) (hb : R32 b) : EqA E l vi qX11_bolt qX12_bolt [vi a, vi b] :=
  eqW (aBolt a b) (fBolt a b) (k_bolt ha hb) (m_bolt ha hb) (fun W hW => by
    have hh := hW.held
    unfold fBolt
    split
    · rename_i h
      split
      · rename_i h2
        have d1 : ∀ j, j < 8 → wlo (7 + j) = 0 ∧ whi (7 + j) = 3 := by decide
        have d2 : ∀ j, j < 8 → wlo (15 + j) = 0 ∧ whi (15 + j) = 99999 := by decide
        obtain ⟨x1, x2⟩ := d1 (W 6).toNat (by omega)
        obtain ⟨y1, y2⟩ := d2 (W 6).toNat (by omega)
        exact ((hW.set (fun _ _ => by rw [x1, x2]; exact h.1) (fun q => by omega)).set (fun _ _ => by rw [y1, y2]; omega) (fun q => by omega)).set (fun _ _ => by simp [wlo, whi]; omega) (fun q => by omega)
      · exact hW
    · exact hW)
/-! told -/
def aTold (a b : Int) (W : Nat → Int) : Int := if 0 ≤ a ∧ a < W 6 then (if b = 0 then W (7 + a.toNat) else if b = 1 then W (15 + a.toNat) else if b = 2 then (lastF (stW W) (W (15 + a.toNat)).toNat (knW W) : Nat) else -1) else -1
theorem k_told (ha : R32 a) (hb : R32 b) : ∀ M W, PC M W → IW W → Con E l 20 qX11_told [vr 0, vi a, vi b] M (fun r M' => r = some (vi (aTold a b W)) ∧ PC M' W ∧ Kp 1 M M') := by
  intro M W hP hW
  have hh := hW.held
  refine (RX11_told (D := 5) ?_).up (by decide)
  unfold VX11_told_0
  try unfold VX11_told_71
  unfold aTold
  refine (c_hasB hP hW ha).fn ⟨_, rfl, b01_R, fun c => ?_, fun c => (c_within hb (by decide) (by decide)).fn ⟨_, rfl, b01_R, fun c2 => ⟨hb, fun c3 => ?_, fun c3 => ?_⟩, fun c2 => ?_⟩⟩
  · rw [b01_0] at c
    rw [if_neg c]
    exact ⟨rfl, hP, Kp.rf⟩
  · rw [b01_n0] at c c2
    have hl := hW.le (j := a.toNat) (by omega)
    refine (c_at_in (n := 8) rfl (by omega) (by omega)).fn ⟨_, rfl, hb, fun c4 => (c_marksNow hP hW).mono ?_, fun c4 => ?_⟩
    · rintro _ M18 ⟨rfl, hk, he⟩
      obtain ⟨x, hx⟩ : ∃ x : Nat, W (15 + a.toNat) = x := ⟨(W (15 + a.toNat)).toNat, by omega⟩
      rw [hP.le (by omega), hx]
      have hlf := lastF_le (stW W) x (knW W)
      refine ⟨rfl, by unfold R32; omega, (c_lastTo hW.stp hk (by omega)).fn ⟨_, rfl, ?_, hP.kp he⟩⟩
      rw [if_pos c, if_neg c3, if_neg c4, if_pos (by omega), w32_eq (by unfold R32; omega), Int.toNat_natCast]
    · rw [if_pos c, if_neg c3, if_pos c4, hP.le (by omega)]
      exact ⟨rfl, hP, Kp.rf⟩
  · rw [b01_n0] at c c2
    refine (c_at_in (n := 8) rfl (by omega) (by omega)).fn ⟨_, rfl, ?_, hP, Kp.rf⟩
    rw [if_pos c, if_pos c3, hP.cl (by omega)]
  · rw [b01_n0] at c
    rw [b01_0] at c2
    rw [if_pos c, if_neg (by omega), if_neg (by omega), if_neg (by omega)]
    exact ⟨rfl, hP, Kp.rf⟩
theorem m_told (ha : R32 a) (hb : R32 b) : ∀ M W, PM M W → IW W → Con E l 20 qX12_told [vr 44, vi a, vi b] M (fun r M' => r = some (vi (aTold a b W)) ∧ PM M' W ∧ Kp 2 M M') := by
  intro M W hP hW
  have hh := hW.held
  refine (RX12_told (D := 5) ?_).up (by decide)
  unfold VX12_told_0
  try unfold VX12_told_74
  unfold aTold
  refine (c_isBolt hP hW ha).fn ⟨_, rfl, b01_R, fun c => ?_, fun c => ⟨hb, (c_in (r32_64 hb) (by decide) (by decide)).fn ⟨_, rfl, b01_R, fun c2 => (c_layNow hP hW).mono ?_, fun c2 => ?_⟩⟩⟩
  · rw [b01_0] at c
    rw [if_neg c]
    exact ⟨rfl, hP, Kp.rf⟩
  · rw [b01_n0] at c c2
    rintro _ M11 ⟨rfl, hk, he⟩
    have hP1 := hP.eqv he
    have hl := hW.le (j := a.toNat) (by omega)
    obtain ⟨x, hx⟩ : ∃ x : Nat, W (15 + a.toNat) = x := ⟨(W (15 + a.toNat)).toNat, by omega⟩
    have e1 : M11 45 (15 + a).toNat = (x : Int) := by
      rw [show (15 + a).toNat = 15 + a.toNat by omega, hP1 _ (by omega), hx]
    have e2 : M11 45 (7 + a).toNat = W (7 + a.toNat) := by
      rw [show (7 + a).toNat = 7 + a.toNat by omega, hP1 _ (by omega)]
    have hlf := lastF_le (stW W) x (knW W)
    rw [if_pos c, e1, e2]
    refine ⟨rfl, hb, fun c3 => ⟨hb, fun c4 => ⟨by omega, by omega, by unfold R32; omega, (c_below hW.stp hk (by omega)).fn ⟨_, rfl, ?_, hP1, Kp.of he⟩⟩, fun c4 => ⟨by omega, by omega, ?_, hP1, Kp.of he⟩⟩, fun c3 => ⟨by omega, by omega, ?_, hP1, Kp.of he⟩⟩
    · rw [if_neg c3, if_neg c4, if_pos (by omega), w32_eq (by unfold R32; omega), hx, Int.toNat_natCast]
    · rw [if_neg c3, if_pos c4, hx]
    · rw [if_pos c3]
  · rw [b01_n0] at c
    rw [b01_0] at c2
    rw [if_pos c, if_neg (by omega), if_neg (by omega), if_neg (by omega)]
    exact ⟨rfl, hP, Kp.rf⟩
theorem e_told (ha : R32 a) (hb : R32 b) : EqA E l vi qX11_told qX12_told [vi a, vi b] := eqW (aTold a b) (fun W => W) (k_told ha hb) (m_told ha hb) (fun _ h => h)
end
