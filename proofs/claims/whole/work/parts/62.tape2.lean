section
variable {E : FX} {l : Launch} {M0 M : MM} {T : Nat → Int} {L : Nat}
theorem c_isDigit {x : Int} (hx : R32 x) : Con E l 1 qX9_isDigit [vi x] M (fun r M' => r = some (vi (b01 (48 ≤ x ∧ x ≤ 57))) ∧ M' = M) := by
  refine RX9_isDigit ?_
  unfold VX9_isDigit_0
  try unfold VX9_isDigit_17
  refine ⟨hx, fun c1 => ⟨Or.inl rfl, ?_, rfl⟩, fun c1 => ⟨hx, fun c2 => ⟨Or.inl rfl, ?_, rfl⟩, fun c2 => ⟨Or.inr rfl, ?_, rfl⟩⟩⟩
  · rw [b01, if_neg (by omega)]
  · rw [b01, if_neg (by omega)]
  · rw [b01, if_pos (by omega)]
theorem c_readNumber {a : Nat} {c lw : Int} {k : Nat} {ms : Nat → Int} (hT : TpC M0 T L) (hI : IT T L) (h : SC M0 M a c lw k ms) (ha : a ≤ L) : Con E l 5 qX9_readNumber [vr 25] M (fun r M' => r = some (vi (rn T L a).1) ∧ SC M0 M' (rn T L a).2 c lw k ms) := by
  have hL := hI.1
  have hb := skp_b (T := T) ha
  refine (RX9_readNumber (D := 4) (by decide) (fun M' x1 x2 => x1 = ((skp T L a : Nat) : Int) ∧ ∃ b : Nat, SC M0 M' b c lw k ms ∧ skp T L a ≤ b ∧ b ≤ L ∧ (0 ≤ x2 ∧ x2 ≤ 1000) ∧ nud T L b x2 = nud T L (skp T L a) 0) (fun M' _ _ => (41 - M' 25 2).toNat) ?_ ?_)
  · unfold VX9_readNumber_0
    refine (c_peek hT hI h ha).mono ?_ (by decide)
    rintro _ M1 ⟨rfl, s1⟩
    refine ⟨_, rfl, fun y4 h4 => ⟨by rw [h4, s1.2.1], skp T L a, s1, Nat.le_refl _, hb.2.1, by omega, rfl⟩⟩
  · rintro M' _ v ⟨rfl, b, hs, hb1, hb2, hv, e⟩
    have hT' := hT.eqv hs.1
    have out : (nud T L (skp T L a) 0 = (v, b)) → (v < 1 ∨ 999 < v) → ∀ Mx : MM, Mx = up M' 25 2 ((skp T L a : Nat) : Int) → (some (vi 0) = some (vi (rn T L a).1) ∧ SC M0 Mx (rn T L a).2 c lw k ms) := by
      rintro q w Mx rfl
      have er : rn T L a = (0, skp T L a) := by
        unfold rn
        rw [q]
        exact if_neg (by show ¬ (1 ≤ v ∧ v ≤ 999); omega)
      rw [er]
      exact ⟨rfl, hs.at rfl⟩
    have inn : (nud T L (skp T L a) 0 = (v, b)) → 1 ≤ v → v ≤ 999 → (some (vi v) = some (vi (rn T L a).1) ∧ SC M0 M' (rn T L a).2 c lw k ms) := by
      intro q w1 w2
      have er : rn T L a = (v, b) := by
        unfold rn
        rw [q]
        exact if_pos (by show 1 ≤ v ∧ v ≤ 999; omega)
      rw [er]
      exact ⟨rfl, hs⟩
    unfold VX9_readNumber_12
    rw [hs.2.1, hT'.1]
    refine ⟨by unfold R32; omega, by unfold R32; omega, fun c1 => ?_, fun c1 => (c_at_in (n := 40) rfl (by omega) (by omega)).fn ⟨_, rfl, ?_⟩⟩
    · have q : nud T L (skp T L a) 0 = (v, b) := by rw [← e, nud_end (by omega)]
      exact ⟨by unfold R32; omega, fun c2 => out q (by omega), fun c2 => ⟨by unfold R32; omega, fun c3 => inn q (by omega) c3, fun c3 => out q (by omega)⟩⟩
    · rw [Int.toNat_natCast, hT'.2 b (by omega)]
      have hR := T_R hI (a := b) (by omega)
      refine (c_isDigit hR.1).fn ⟨_, rfl, b01_R, fun c2 => ?_, fun c2 => ?_⟩
      · rw [b01_0] at c2
        have q : nud T L (skp T L a) 0 = (v, b) := by rw [← e, nud_off c2]
        exact ⟨by unfold R32; omega, fun c2 => out q (by omega), fun c2 => ⟨by unfold R32; omega, fun c3 => inn q (by omega) c3, fun c3 => out q (by omega)⟩⟩
      · rw [b01_n0] at c2
        rw [hs.2.1]
        refine (c_at_in (n := 40) rfl (by omega) (by omega)).fn ⟨_, rfl, ?_⟩
        rw [Int.toNat_natCast, hT'.2 b (by omega), hs.2.1]
        refine ⟨by unfold R32; omega, ?_⟩
        rintro y45 h45 M2 rfl
        refine ⟨⟨rfl, b + 1, hs.at (by omega), by omega, by omega, ?_, ?_⟩, ?_⟩
        · rw [h45]; split <;> omega
        · rw [← e, nud_on (by omega) c2, h45]
          rfl
        · rw [up_eq]; omega
theorem SC.grow {a : Nat} {c lw : Int} {k : Nat} {ms : Nat → Int} (h : SC M0 M a c lw k ms) {v : Int} : SC M0 (up M 27 k v) a c lw (k + 1) (upW ms k v) := by
  refine ⟨h.1.put rfl, by rw [up_ne (by omega)]; exact h.2.1, by rw [up_ne (by omega)]; exact h.2.2.1, by rw [up_ne (by omega)]; exact h.2.2.2.1, fun j hj => ?_⟩
  unfold upW
  by_cases e : j = k
  · rw [if_pos e, e, up_eq]
  · rw [if_neg e, up_ne (by omega)]
    exact h.2.2.2.2 j (by omega)
theorem SC.less {a : Nat} {c lw : Int} {k k' : Nat} {ms ms' : Nat → Int} (h : SC M0 M a c lw k ms) (hk : k' ≤ k) (e : ∀ j, j < k' → ms' j = ms j) : SC M0 M a c lw k' ms' :=
  ⟨h.1, h.2.1, h.2.2.1, h.2.2.2.1, fun j hj => (h.2.2.2.2 j (by omega)).trans (e j hj).symm⟩
theorem rm_on {k : Nat} (h : (rm T L k).2.2 = true) (h1 : (st1 T L k (rm T L k).1).1 ≠ 0) : rm T L (k + 1) = ((st1 T L k (rm T L k).1).2, upW (rm T L k).2.1 k (st1 T L k (rm T L k).1).1, true) := by
  rw [rm_s, if_pos h]
  congr 2
  exact decide_eq_true h1
theorem rm_off {k : Nat} (hk : k < 3) (h : (rm T L k).2.2 = true) (h1 : (st1 T L k (rm T L k).1).1 = 0) : (rm T L 3).1 = (st1 T L k (rm T L k).1).2 ∧ (rm T L 3).2.2 = false := by
  have e : rm T L (k + 1) = ((st1 T L k (rm T L k).1).2, upW (rm T L k).2.1 k (st1 T L k (rm T L k).1).1, false) := by
    rw [rm_s, if_pos h]
    congr 2
    exact decide_eq_false (fun q => q h1)
  have e2 := rm_f (T := T) (L := L) (k := k + 1) (by rw [e]) (3 - (k + 1))
  rw [show k + 1 + (3 - (k + 1)) = 3 by omega] at e2
  rw [e2, e]
  exact ⟨rfl, rfl⟩
theorem c_readMeasures {c lw : Int} {ms : Nat → Int} (hT : TpC M0 T L) (hI : IT T L) (h : SC M0 M 0 c lw 0 ms) : Con E l 6 qX9_readMeasures [vr 25] M (fun r M' => ∃ x ms', r = some (vi x) ∧ SC M0 M' (rm T L 3).1 c lw 0 ms' ∧ (((rm T L 3).2.2 = true ∧ x = 1 ∧ ∀ j, j < 3 → M' 27 j = (rm T L 3).2.1 j) ∨ ((rm T L 3).2.2 = false ∧ x = 0))) := by
  refine (RX9_readMeasures (D := 5) (fun M' x1 => ∃ k : Nat, x1 = k ∧ k ≤ 3 ∧ (rm T L k).2.2 = true ∧ SC M0 M' (rm T L k).1 c lw k (rm T L k).2.1) (fun _ x1 => (4 - x1).toNat) ?_ ?_)
  · exact ⟨0, rfl, by omega, rfl, h.less (Nat.le_refl _) (fun j hj => by omega)⟩
  · rintro M' _ ⟨k, rfl, hk, hok, hs⟩
    have hb := (rm_b T L k).1
    have hsb := st1_b (T := T) (L := L) (k := k) hb
    have fin : k < 3 → (st1 T L k (rm T L k).1).1 = 0 → ∀ M1, SC M0 M1 (st1 T L k (rm T L k).1).2 c lw k (rm T L k).2.1 → ∃ x ms', some (vi 0) = some (vi x) ∧ SC M0 M1 (rm T L 3).1 c lw 0 ms' ∧ (((rm T L 3).2.2 = true ∧ x = 1 ∧ ∀ j, j < 3 → M1 27 j = (rm T L 3).2.1 j) ∨ ((rm T L 3).2.2 = false ∧ x = 0)) := by
      intro hk3 h0 M1 hs1
      obtain ⟨e1, e2⟩ := rm_off hk3 hok h0
      exact ⟨0, _, rfl, by rw [e1]; exact hs1.less (Nat.zero_le _) (fun j hj => rfl), Or.inr ⟨e2, rfl⟩⟩
    have on : k < 3 → (st1 T L k (rm T L k).1).1 ≠ 0 → ∀ M1, SC M0 M1 (st1 T L k (rm T L k).1).2 c lw k (rm T L k).2.1 → ∀ y : Int, y = k + 1 → (∃ k' : Nat, y = k' ∧ k' ≤ 3 ∧ (rm T L k').2.2 = true ∧ SC M0 (up M1 27 k (st1 T L k (rm T L k).1).1) (rm T L k').1 c lw k' (rm T L k').2.1) ∧ (4 - y).toNat < (4 - (k : Int)).toNat := by
      intro hk3 h0 M1 hs1 y hy
      refine ⟨⟨k + 1, by omega, by omega, ?_, ?_⟩, by omega⟩
      · rw [rm_on hok h0]
      · rw [rm_on hok h0]
        exact hs1.grow
    have num : ∀ (b : Nat) (M1 : MM) (J : MM → Int → Prop), k < 3 → b ≤ L → rn T L b = st1 T L k (rm T L k).1 → SC M0 M1 b c lw k (rm T L k).2.1 → (∀ (M' : MM) (x : Int), ((∃ k' : Nat, x = k' ∧ k' ≤ 3 ∧ (rm T L k').2.2 = true ∧ SC M0 M' (rm T L k').1 c lw k' (rm T L k').2.1) ∧ (4 - x).toNat < (4 - (k : Int)).toNat) → J M' x) → VX9_readMeasures_32 E l 5 (fun r M' => ∃ x ms', r = some (vi x) ∧ SC M0 M' (rm T L 3).1 c lw 0 ms' ∧ (((rm T L 3).2.2 = true ∧ x = 1 ∧ ∀ j, j < 3 → M' 27 j = (rm T L 3).2.1 j) ∨ ((rm T L 3).2.2 = false ∧ x = 0))) J M1 k := by
      intro b M1 J hk3 hbL er hs1 hJ
      unfold VX9_readMeasures_32
      refine (c_readNumber hT hI hs1 hbL).mono ?_ (by decide)
      rintro _ M2 ⟨rfl, hs2⟩
      rw [er] at hs2 ⊢
      refine ⟨_, rfl, by unfold R32; omega, fun c1 => (c_put (n := 3) rfl (by omega) (by omega)).fn ⟨rfl, fun y8 h8 => hJ _ _ ?_⟩, fun c1 => fin hk3 (by omega) _ hs2⟩
      rw [Int.toNat_natCast]
      exact on hk3 (by omega) _ hs2 y8 h8
    unfold VX9_readMeasures_2
    refine ⟨by unfold R32; omega, fun c1 => ?_, fun c1 => ⟨by unfold R32; omega, fun c2 => ?_, fun c2 => ?_⟩⟩
    · obtain rfl : k = 3 := by omega
      exact ⟨1, _, rfl, hs.less (Nat.zero_le _) (fun j hj => rfl), Or.inl ⟨hok, rfl, hs.2.2.2.2⟩⟩
    · have k0 : k = 0 := by omega
      have er : rn T L (rm T L k).1 = st1 T L k (rm T L k).1 := by
        unfold st1
        rw [if_neg (by omega)]
      have := num _ M' _ (by omega) hb er hs (fun M' x h => h)
      unfold VX9_readMeasures_32 at this
      exact this
    · refine (c_peek hT hI hs hb).mono ?_ (by decide)
      rintro _ M1 ⟨rfl, hs1⟩
      have hg := sgn_R (T := T) (L := L) (a := skp T L (rm T L k).1) hI
      refine ⟨_, rfl, hg.1, ?_, fun c3 => ?_⟩
      · rintro c3 M2 rfl
        have hlt := sgn_lt (T := T) (L := L) (a := skp T L (rm T L k).1) (by omega)
        refine num (skp T L (rm T L k).1 + 1) _ _ (by omega) (by omega) ?_ (hs1.at (by rw [hs1.2.1]; omega)) (fun M' x h => h)
        unfold st1
        rw [if_pos (by omega), if_pos c3]
      · have e : st1 T L k (rm T L k).1 = (0, skp T L (rm T L k).1) := by
          unfold st1
          rw [if_pos (by omega), if_neg c3]
        exact fin (by omega) (by rw [e]) _ (by rw [e]; exact hs1)
end
