section
variable {E : FX} {l : Launch} {M : MM} {W : Nat → Int} {a b : Int}
theorem c_areMet {n g : Nat} {f : Nat → Nat} (hs : StpOk n f g) (hk : MkC M n f g) (ha : R32 a) : Con E l 3 qX6_areMetAt [vr 37, vj a] M (fun r M' => r = some (vi (b01 (0 < a ∧ lastF f a.toNat n = a.toNat))) ∧ M' = M) := by
  by_cases h : 0 < a
  · obtain ⟨x, rfl⟩ : ∃ x : Nat, a = x := ⟨a.toNat, by omega⟩
    refine (c_areMetAt hs hk (x := x) (by unfold R32 at ha; omega)).fn ⟨?_, rfl⟩
    unfold b01
    rw [Int.toNat_natCast]
    by_cases q : lastF f x n = x
    · rw [if_pos ⟨by omega, q⟩, if_pos ⟨h, q⟩]
    · rw [if_neg (fun z => q z.2), if_neg (fun z => q z.2)]
  · refine RX6_areMetAt ?_
    unfold VX6_areMetAt_0
    try unfold VX6_areMetAt_21
    refine ⟨r32_64 ha, fun c => ⟨Or.inl rfl, by rw [b01, if_neg (by omega)], rfl⟩, fun c => by omega⟩
theorem c_clothOf (h : 0 ≤ a ∧ a ≤ 3) : Con E l 1 qX0_clothOf [vi a] M (fun r M' => r = some (vr (101 + a.toNat)) ∧ M' = M) := by
  refine RX0_clothOf ?_
  unfold VX0_clothOf_0
  try unfold VX0_clothOf_23
  exact ⟨by unfold R32; omega, fun c => by omega, fun c => ⟨by unfold R32; omega, fun c2 => by omega, fun c2 => ⟨by omega, by omega, rfl, rfl⟩⟩⟩
/-- what is left of x inches of a cloth behind a cut -/
def rest (cl x : Int) : Int := if (cl = 1 ∨ cl = 3) ∧ 0 < x then x - 1 else x
theorem rest_lb {cl x : Int} (hc : 0 ≤ cl ∧ cl ≤ 3) (hx : 0 ≤ x) : (if 0 < x - lbc cl.toNat then x - lbc cl.toNat else 0) = rest cl x := by
  unfold rest lbc
  by_cases h : cl = 1 ∨ cl = 3
  · rw [if_pos (show cl.toNat = 1 ∨ cl.toNat = 3 by omega)]
    by_cases h2 : 0 < x
    · rw [if_pos (show (cl = 1 ∨ cl = 3) ∧ 0 < x from ⟨h, h2⟩)]
      split <;> omega
    · rw [if_neg (show ¬ ((cl = 1 ∨ cl = 3) ∧ 0 < x) from fun q => h2 q.2)]
      split <;> omega
  · rw [if_neg (show ¬ (cl.toNat = 1 ∨ cl.toNat = 3) by omega), if_neg (show ¬ ((cl = 1 ∨ cl = 3) ∧ 0 < x) from fun q => h q.1)]
    split <;> omega
theorem c_sell {j : Nat} (hj : j < 8) (hP : PC M W) (hW : IW W) (hb : 0 ≤ b ∧ b ≤ W (15 + j)) : Con E l 3 qX0_sell [vr 5, vi j, vi b] M (fun r M' => r = some (vi (rest (W (7 + j)) (W (15 + j) - b))) ∧ M' = up (up M 7 j (rest (W (7 + j)) (W (15 + j) - b))) 5 4 (W 23 + b)) := by
  have hl := hW.le hj
  have hc := hW.cl hj
  refine RX0_sell (by decide) ?_
  unfold VX0_sell_0
  refine (c_at_in (n := 8) rfl (by omega) (by omega)).fn ⟨_, rfl, fun y4 h4 => ?_⟩
  rw [Int.toNat_natCast, hP.le hj] at h4
  refine (c_at_in (n := 8) rfl (by omega) (by omega)).fn ⟨_, rfl, ?_⟩
  rw [Int.toNat_natCast, hP.cl hj]
  refine (c_clothOf hc).fn ⟨_, rfl, (W (7 + j)).toNat, rfl, by omega, ?_⟩
  have hlb : lbc (W (7 + j)).toNat = 0 ∨ lbc (W (7 + j)).toNat = 1 := by unfold lbc; split <;> simp
  refine ⟨by unfold R32; omega, fun y13 h13 => (c_put (n := 8) rfl (by omega) (by omega)).fn ⟨rfl, fun M17 h17 => ?_⟩⟩
  have e1 : y13 = rest (W (7 + j)) (W (15 + j) - b) := by
    rw [h13, h4]
    exact rest_lb hc (by omega)
  rw [h17, e1, Int.toNat_natCast, up_ne (by omega), hP.sold]
  exact ⟨rfl, rfl⟩
def okCut (a b : Int) (W : Nat → Int) : Prop := 0 < b ∧ b ≤ W (15 + a.toNat) ∧ lastF (stW W) b.toNat (knW W) = b.toNat
theorem k_cut (ha : R32 a) (hb : R32 b) : ∀ M W, PC M W → IW W → Con E l 20 qX11_cut [vr 0, vi a, vi b] M (fun r M' => ((¬ (0 ≤ a ∧ a < W 6) ∧ r = some (vi (-1)) ∧ PC M' W) ∨ ((0 ≤ a ∧ a < W 6) ∧ ¬ okCut a b W ∧ r = some (vi (-2)) ∧ PC M' W) ∨ ((0 ≤ a ∧ a < W 6) ∧ okCut a b W ∧ r = some (vi (rest (W (7 + a.toNat)) (W (15 + a.toNat) - b))) ∧ PC M' (upW (upW W (15 + a.toNat) (rest (W (7 + a.toNat)) (W (15 + a.toNat) - b))) 23 (W 23 + b)))) ∧ Kp 1 M M') := by
  intro M W hP hW
  have hh := hW.held
  refine (RX11_cut (D := 5) ?_).up (by decide)
  unfold VX11_cut_0
  refine (c_hasB hP hW ha).fn ⟨_, rfl, b01_R, fun c => ?_, fun c => ?_⟩
  · rw [b01_n0] at c
    obtain ⟨j, rfl⟩ : ∃ j : Nat, a = j := ⟨a.toNat, by omega⟩
    rw [Int.toNat_natCast]
    have hl := hW.le (j := j) (by omega)
    refine (c_at_in (n := 8) rfl (by omega) (by omega)).fn ⟨_, rfl, hb, ?_⟩
    rw [Int.toNat_natCast, hP.le (by omega)]
    refine ⟨by unfold R32; omega, fun c2 => ⟨Or.inr (Or.inl ⟨c, fun q => ?_, rfl, hP⟩), Kp.rf⟩, fun c2 => (c_marksNow hP hW).mono ?_⟩
    · have := q.2.1
      rw [Int.toNat_natCast] at this
      omega
    · rintro _ M11 ⟨rfl, hk, he⟩
      refine ⟨rfl, hb, (c_areMet hW.stp hk hb).fn ⟨_, rfl, b01_R, fun c3 => ?_, fun c3 => ?_⟩⟩
      · rw [b01_n0] at c3
        refine (c_sell (j := j) (by omega) (hP.eqv he) hW (by omega)).fn ⟨_, rfl, Or.inr (Or.inr ⟨c, ⟨c3.1, by rw [Int.toNat_natCast]; omega, c3.2⟩, rfl, ?_⟩), ?_⟩
        · exact ((hP.eqv he).set (j := 15 + j) (by omega) (lc_15 j (by omega))).set (j := 23) (by omega) rfl
        · exact (((Kp.of he).put (Or.inl (by rfl))).put (Or.inl (by rfl)))
      · rw [b01_0] at c3
        exact ⟨Or.inr (Or.inl ⟨c, fun q => c3 ⟨q.1, q.2.2⟩, rfl, hP.eqv he⟩), Kp.of he⟩
  · rw [b01_0] at c
    exact ⟨Or.inl ⟨c, rfl, hP⟩, Kp.rf⟩
theorem m_cut (ha : R32 a) (hb : R32 b) : ∀ M W, PM M W → IW W → Con E l 20 qX12_cut [vr 44, vi a, vi b] M (fun r M' => ((¬ (0 ≤ a ∧ a < W 6) ∧ r = some (vi (-1)) ∧ PM M' W) ∨ ((0 ≤ a ∧ a < W 6) ∧ ¬ okCut a b W ∧ r = some (vi (-2)) ∧ PM M' W) ∨ ((0 ≤ a ∧ a < W 6) ∧ okCut a b W ∧ r = some (vi (rest (W (7 + a.toNat)) (W (15 + a.toNat) - b))) ∧ PM M' (upW (upW W (15 + a.toNat) (rest (W (7 + a.toNat)) (W (15 + a.toNat) - b))) 23 (W 23 + b)))) ∧ Kp 2 M M') := by
  intro M W hP hW
  have hh := hW.held
  refine (RX12_cut (D := 5) ?_).up (by decide)
  unfold VX12_cut_0
  refine (c_isBolt hP hW ha).fn ⟨_, rfl, b01_R, fun c => (c_layNow hP hW).mono ?_, fun c => ?_⟩
  · rw [b01_n0] at c
    obtain ⟨j, rfl⟩ : ∃ j : Nat, a = j := ⟨a.toNat, by omega⟩
    rw [Int.toNat_natCast]
    have hl := hW.le (j := j) (by omega)
    have hcl := hW.cl (j := j) (by omega)
    rintro _ M11 ⟨rfl, hk, he⟩
    have hP1 := hP.eqv he
    have e1 : M11 45 (15 + (j : Int)).toNat = W (15 + j) := by
      rw [show (15 + (j : Int)).toNat = 15 + j by omega, hP1 _ (by omega)]
    have e2 : M11 45 (7 + (j : Int)).toNat = W (7 + j) := by
      rw [show (7 + (j : Int)).toNat = 7 + j by omega, hP1 _ (by omega)]
    have no : ¬ okCut j b W → ((¬ (0 ≤ (j : Int) ∧ (j : Int) < W 6) ∧ some (vi (-2)) = some (vi (-1)) ∧ PM M11 W) ∨ ((0 ≤ (j : Int) ∧ (j : Int) < W 6) ∧ ¬ okCut j b W ∧ some (vi (-2)) = some (vi (-2)) ∧ PM M11 W) ∨ ((0 ≤ (j : Int) ∧ (j : Int) < W 6) ∧ okCut j b W ∧ some (vi (-2)) = some (vi (rest (W (7 + j)) (W (15 + j) - b))) ∧ PM M11 (upW (upW W (15 + j) (rest (W (7 + j)) (W (15 + j) - b))) 23 (W 23 + b)))) ∧ Kp 2 M M11 :=
      fun h => ⟨Or.inr (Or.inl ⟨c, h, rfl, hP1⟩), Kp.of he⟩
    have yes : okCut j b W → ∀ x3 : Int, x3 = rest (W (7 + j)) (W (15 + j) - b) → VX12_cut_116 E l 5 (fun r M' => ((¬ (0 ≤ (j : Int) ∧ (j : Int) < W 6) ∧ r = some (vi (-1)) ∧ PM M' W) ∨ ((0 ≤ (j : Int) ∧ (j : Int) < W 6) ∧ ¬ okCut j b W ∧ r = some (vi (-2)) ∧ PM M' W) ∨ ((0 ≤ (j : Int) ∧ (j : Int) < W 6) ∧ okCut j b W ∧ r = some (vi (rest (W (7 + j)) (W (15 + j) - b))) ∧ PM M' (upW (upW W (15 + j) (rest (W (7 + j)) (W (15 + j) - b))) 23 (W 23 + b)))) ∧ Kp 2 M M') M11 j b (15 + (j : Int)) x3 := by
      intro h x3 hx3
      unfold VX12_cut_116
      refine ⟨by omega, by omega, fun M1 h1 M3 h3 => ⟨by omega, by omega, Or.inr (Or.inr ⟨c, h, ?_, ?_⟩), ?_⟩⟩
      · rw [h3, h1, up_ne (by omega), up_eq, hx3]
      · rw [h3, h1, up_ne (by omega), hP1 23 (by omega), hx3, show (15 + (j : Int)).toNat = 15 + j by omega]
        exact hP1.set.set
      · rw [h3, h1, show (15 + (j : Int)).toNat = 15 + j by omega]
        have r1 : rg 45 (15 + j) = 2 := by simp [rg]; omega
        exact ((Kp.of he).put (Or.inl r1)).put (Or.inl (by rfl))
    rw [e1]
    refine ⟨rfl, hb, fun c2 => no (fun q => by have := q.1; omega), fun c2 => ⟨by omega, by omega, hb, by unfold R32; omega, fun c3 => no (fun q => by have := q.2.1; rw [Int.toNat_natCast] at this; omega), fun c3 => ⟨hb, ?_⟩⟩⟩
    obtain ⟨x, rfl⟩ : ∃ x : Nat, b = x := ⟨b.toNat, by omega⟩
    have hlf := lastF_le (stW W) x (knW W)
    refine (c_below hW.stp hk (x := x) (by omega)).fn ⟨_, rfl, hb, by unfold R64; omega, r32_64 hb, fun c4 => ?_, fun c4 => no (fun q => c4 (by have := q.2.2; rw [Int.toNat_natCast] at this; omega))⟩
    have hok : okCut j x W := ⟨by omega, by rw [Int.toNat_natCast]; omega, by rw [Int.toNat_natCast]; omega⟩
    rw [e1, e2]
    unfold VX12_cut_90
    refine ⟨by omega, by omega, fun y25 h25 => ⟨by omega, by omega, by unfold R32; omega, fun k1 => ?_, fun k1 => ⟨by omega, by omega, by unfold R32; omega, fun k3 => ?_, fun k3 => ?_⟩⟩⟩
    · refine ⟨by decide, fun q => absurd q (by decide), fun _ => ⟨by unfold R32; omega, fun k2 => yes hok _ ?_, fun k2 => yes hok _ ?_⟩⟩
      · rw [h25]; unfold rest; rw [if_neg (by omega)]
      · rw [h25]; unfold rest; rw [if_pos (by omega)]
    · refine ⟨by decide, fun _ => yes hok _ ?_, fun q => absurd rfl q⟩
      rw [h25]; unfold rest; rw [if_neg (by omega)]
    · refine ⟨by decide, fun q => absurd q (by decide), fun _ => ⟨by unfold R32; omega, fun k2 => yes hok _ ?_, fun k2 => yes hok _ ?_⟩⟩
      · rw [h25]; unfold rest; rw [if_neg (by omega)]
      · rw [h25]; unfold rest; rw [if_pos (by omega)]
  · rw [b01_0] at c
    exact ⟨Or.inl ⟨c, rfl, hP⟩, Kp.rf⟩
def aCut (a b : Int) (W : Nat → Int) : Int := if ¬ (0 ≤ a ∧ a < W 6) then -1 else if 0 < b ∧ b ≤ W (15 + a.toNat) ∧ lastF (stW W) b.toNat (knW W) = b.toNat then rest (W (7 + a.toNat)) (W (15 + a.toNat) - b) else -2
def fCut (a b : Int) (W : Nat → Int) : Nat → Int := if ¬ (0 ≤ a ∧ a < W 6) then W else if 0 < b ∧ b ≤ W (15 + a.toNat) ∧ lastF (stW W) b.toNat (knW W) = b.toNat then upW (upW W (15 + a.toNat) (rest (W (7 + a.toNat)) (W (15 + a.toNat) - b))) 23 (W 23 + b) else W
theorem e_cut (ha : R32 a) (hb : R32 b) : EqA E l vi qX11_cut qX12_cut [vi a, vi b] := by
  refine eqW (aCut a b) (fCut a b) (fun M W p i => (k_cut ha hb M W p i).mono ?_ (Nat.le_refl _)) (fun M W p i => (m_cut ha hb M W p i).mono ?_ (Nat.le_refl _)) (fun W hW => ?_)
  · rintro r M' ⟨⟨h0, h1, h2⟩ | ⟨h0, h1, h2, h3⟩ | ⟨h0, h1, h2, h3⟩, k⟩
    · have eA : aCut a b W = -1 := if_pos h0
      have eF : fCut a b W = W := if_pos h0
      rw [eA, eF]; exact ⟨h1, h2, k⟩
    · have eA : aCut a b W = -2 := (if_neg (fun q => q h0)).trans (if_neg h1)
      have eF : fCut a b W = W := (if_neg (fun q => q h0)).trans (if_neg h1)
      rw [eA, eF]; exact ⟨h2, h3, k⟩
    · have eA : aCut a b W = rest (W (7 + a.toNat)) (W (15 + a.toNat) - b) := (if_neg (fun q => q h0)).trans (if_pos h1)
      have eF : fCut a b W = upW (upW W (15 + a.toNat) (rest (W (7 + a.toNat)) (W (15 + a.toNat) - b))) 23 (W 23 + b) := (if_neg (fun q => q h0)).trans (if_pos h1)
      rw [eA, eF]; exact ⟨h2, h3, k⟩
  · rintro r M' ⟨⟨h0, h1, h2⟩ | ⟨h0, h1, h2, h3⟩ | ⟨h0, h1, h2, h3⟩, k⟩
    · have eA : aCut a b W = -1 := if_pos h0
      have eF : fCut a b W = W := if_pos h0
      rw [eA, eF]; exact ⟨h1, h2, k⟩
    · have eA : aCut a b W = -2 := (if_neg (fun q => q h0)).trans (if_neg h1)
      have eF : fCut a b W = W := (if_neg (fun q => q h0)).trans (if_neg h1)
      rw [eA, eF]; exact ⟨h2, h3, k⟩
    · have eA : aCut a b W = rest (W (7 + a.toNat)) (W (15 + a.toNat) - b) := (if_neg (fun q => q h0)).trans (if_pos h1)
      have eF : fCut a b W = upW (upW W (15 + a.toNat) (rest (W (7 + a.toNat)) (W (15 + a.toNat) - b))) 23 (W 23 + b) := (if_neg (fun q => q h0)).trans (if_pos h1)
      rw [eA, eF]; exact ⟨h2, h3, k⟩
  · unfold fCut
    split
    · exact hW
    · rename_i h0
      split
      · rename_i h1
        have hh := hW.held
        have hl := hW.le (j := a.toNat) (by omega)
        have d2 : ∀ j, j < 8 → wlo (15 + j) = 0 ∧ whi (15 + j) = 99999 := by decide
        obtain ⟨y1, y2⟩ := d2 a.toNat (by omega)
        refine (hW.set (fun _ _ => ?_) (fun q => by omega)).set (fun q => absurd rfl q) (fun q => absurd q (by decide))
        rw [y1, y2]
        unfold rest
        split <;> omega
      · exact hW
end
