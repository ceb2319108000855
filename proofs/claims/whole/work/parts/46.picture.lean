/-! THE PICTURE W: seventy numbers, in the reference's order; where the class has them, where the reference has them -/
def PCg (M : MM) (k3 k4 k5 k6 k7 k9 k10 k12 k13 : Nat) (W : Nat → Int) : Prop :=
  (∀ j, j < 3 → M k4 j = W j) ∧ M k3 1 = W 3 ∧ M k3 2 = W 4 ∧ M k5 5 = W 5 ∧ M k5 3 = W 6 ∧ (∀ j, j < 8 → M k6 j = W (7 + j)) ∧ (∀ j, j < 8 → M k7 j = W (15 + j)) ∧ M k5 4 = W 23 ∧ M k9 1 = W 24 ∧ (∀ j, j < 6 → M k10 j = W (25 + j)) ∧ (∀ j, j < 16 → M k12 j = W (31 + 2 * j)) ∧ (∀ j, j < 16 → M k13 j = W (32 + 2 * j))
def PC (M : MM) (W : Nat → Int) : Prop := PCg M 3 4 5 6 7 9 10 12 13 W
def PK (M : MM) (W : Nat → Int) : Prop := PCg M 14 15 16 17 18 20 21 23 24 W
def PM (M : MM) (W : Nat → Int) : Prop := ∀ j, j < 70 → M 45 j = W j
def PN (M : MM) (W : Nat → Int) : Prop := ∀ j, j < 70 → M 45 (70 + j) = W j
/-- what the numbers can be -/
def IW (W : Nat → Int) : Prop :=
  (∀ j, j < 3 → 1 ≤ W j ∧ W j ≤ 999) ∧ (W 3 = 3 ∨ W 3 = 5 ∨ W 3 = 6 ∨ W 3 = 7) ∧ (W 4 = 0 ∨ W 4 = 1) ∧ (0 ≤ W 5 ∧ W 5 ≤ 99) ∧ (0 ≤ W 6 ∧ W 6 ≤ 8) ∧ (∀ j, j < 8 → 0 ≤ W (7 + j) ∧ W (7 + j) ≤ 3) ∧ (∀ j, j < 8 → 0 ≤ W (15 + j) ∧ W (15 + j) ≤ 99999) ∧ (0 ≤ W 24 ∧ W 24 ≤ 6) ∧ (∀ j, j < 6 → 0 ≤ W (25 + j) ∧ W (25 + j) ≤ 9999) ∧ (∀ j, j < 16 → 1 ≤ W (31 + 2 * j) ∧ W (31 + 2 * j) ≤ 99) ∧ (∀ j, j < 16 → 1 ≤ W (32 + 2 * j) ∧ W (32 + 2 * j) ≤ 99)
theorem PC.eqv {M M' : MM} {W : Nat → Int} (h : PC M W) (e : Eqv M M') : PC M' W := by
  obtain ⟨h1, h2, h3, h4, h5, h6, h7, h8, h9, h10, h11, h12⟩ := h
  exact ⟨fun j q => (e 4 j rfl).trans (h1 j q), (e 3 1 rfl).trans h2, (e 3 2 rfl).trans h3, (e 5 5 rfl).trans h4, (e 5 3 rfl).trans h5, fun j q => (e 6 j rfl).trans (h6 j q), fun j q => (e 7 j rfl).trans (h7 j q), (e 5 4 rfl).trans h8, (e 9 1 rfl).trans h9, fun j q => (e 10 j rfl).trans (h10 j q), fun j q => (e 12 j rfl).trans (h11 j q), fun j q => (e 13 j rfl).trans (h12 j q)⟩
theorem PK.eqv {M M' : MM} {W : Nat → Int} (h : PK M W) (e : Eqv M M') : PK M' W := by
  obtain ⟨h1, h2, h3, h4, h5, h6, h7, h8, h9, h10, h11, h12⟩ := h
  exact ⟨fun j q => (e 15 j rfl).trans (h1 j q), (e 14 1 rfl).trans h2, (e 14 2 rfl).trans h3, (e 16 5 rfl).trans h4, (e 16 3 rfl).trans h5, fun j q => (e 17 j rfl).trans (h6 j q), fun j q => (e 18 j rfl).trans (h7 j q), (e 16 4 rfl).trans h8, (e 20 1 rfl).trans h9, fun j q => (e 21 j rfl).trans (h10 j q), fun j q => (e 23 j rfl).trans (h11 j q), fun j q => (e 24 j rfl).trans (h12 j q)⟩
theorem PM.eqv {M M' : MM} {W : Nat → Int} (h : PM M W) (e : Eqv M M') : PM M' W := fun j q => (e 45 j rfl).trans (h j q)
theorem PN.eqv {M M' : MM} {W : Nat → Int} (h : PN M W) (e : Eqv M M') : PN M' W := fun j q => (e 45 (70 + j) rfl).trans (h j q)
def nt (W : Nat → Int) (j : Nat) : Nat := (W j).toNat
theorem nt_c {W : Nat → Int} {j : Nat} (h : 0 ≤ W j) : W j = (nt W j : Nat) := (Int.toNat_of_nonneg h).symm
theorem IW.m {W : Nat → Int} (h : IW W) (j : Nat) (hj : j < 3) : W j = (nt W j : Nat) ∧ 1 ≤ nt W j ∧ nt W j ≤ 999 := by
  have h1 := h.1 j hj
  have h2 := nt_c (W := W) (j := j) (by omega)
  omega
def knW (W : Nat → Int) : Nat := kn (W 3) (W 4)
def stW (W : Nat → Int) : Nat → Nat := st (W 3) (W 4) (nt W 0) (nt W 1) (nt W 2)
def alW (W : Nat → Int) : Nat := al (W 3) (W 4) (nt W 0) (nt W 1) (nt W 2)
theorem IW.stp {W : Nat → Int} (h : IW W) : StpOk (knW W) (stW W) (alW W) := stp_ok (h.m 0 (by omega)).2 (h.m 1 (by omega)).2 (h.m 2 (by omega)).2
/-- the least common multiple of those that count, town by town -/
def lf (s : Nat) (ms : Nat → Nat) : Nat → Nat
  | 0 => 1
  | t + 1 => if bt s t = 1 then Nat.lcm (lf s ms t) (ms t) else lf s ms t
theorem lf_s (s : Nat) (ms : Nat → Nat) (t : Nat) : lf s ms (t + 1) = if bt s t = 1 then Nat.lcm (lf s ms t) (ms t) else lf s ms t := rfl
theorem lf_b {s : Nat} {ms : Nat → Nat} (h : ∀ j, j < 3 → 1 ≤ ms j ∧ ms j ≤ 999) : ∀ t, t ≤ 3 → 0 < lf s ms t ∧ lf s ms t ≤ 999 ^ t
  | 0, _ => ⟨Nat.one_pos, Nat.le_refl _⟩
  | t + 1, ht => by
    have ih := lf_b (s := s) h t (by omega)
    have hm := h t (by omega)
    rw [lf_s]
    split
    · rw [Nat.pow_succ]
      exact lcm_b ih.1 hm.1 ih.2 hm.2
    · refine ⟨ih.1, Nat.le_trans ih.2 ?_⟩
      exact Nat.pow_le_pow_right (by omega) (by omega)
theorem lf_st {s l : Int} {sn : Nat} {ms : Nat → Nat} (h : s = 3 ∨ s = 5 ∨ s = 6 ∨ s = 7) (hl : ¬ (s = 7 ∧ l = 1)) (hs : s = sn) : lf sn ms 3 = st0 s l (ms 0) (ms 1) (ms 2) := by
  rcases h with h | h | h | h
  · have e : sn = 3 := by omega
    subst e
    rw [h]
    simp [lf, st0, bt]
  · have e : sn = 5 := by omega
    subst e
    rw [h]
    simp [lf, st0, bt]
  · have e : sn = 6 := by omega
    subst e
    rw [h]
    simp [lf, st0, bt]
  · have e : sn = 7 := by omega
    subst e
    have hl2 : ¬ l = 1 := fun q => hl ⟨h, q⟩
    rw [h]
    simp [lf, st0, bt, hl2]
section
variable {E : FX} {l : Launch} {M : MM} {W : Nat → Int}
theorem c_layC (hP : PC M W) (hW : IW W) : Con E l 4 qX10_lay [vr 3, vr 37] M (fun r M' => r = none ∧ MkC M' (knW W) (stW W) (alW W) ∧ Eqv M M') := by
  obtain ⟨p1, p2, p3, _⟩ := hP
  have hm := hW.m
  obtain ⟨_, hs, hl, _⟩ := id hW
  have hms : ∀ j, j < 3 → 1 ≤ nt W j ∧ nt W j ≤ 999 := fun j hj => (hm j hj).2
  have hsn : W 3 = (nt W 3 : Nat) := nt_c (by omega)
  refine RX10_lay (fun M' x2 x4 => M' = M ∧ ∃ t : Nat, x2 = (lf (nt W 3) (nt W) t : Nat) ∧ x4 = t ∧ t ≤ 3 ∧ ¬ (W 3 = 7 ∧ W 4 = 1)) (fun _ _ x4 => (3 - x4).toNat) ?_ ?_
  · unfold VX10_lay_0
    rw [p2, p3]
    refine ⟨by unfold R32; omega, fun c => ⟨rfl, 0, rfl, rfl, by omega, by omega⟩, fun c => ⟨by unfold R32; omega, fun c2 => ⟨rfl, 0, rfl, rfl, by omega, by omega⟩, fun c2 => ?_⟩⟩
    refine (c_at_in (n := 3) rfl (by decide) (by decide)).fn ⟨_, rfl, (c_at_in (n := 3) rfl (by decide) (by decide)).fn ⟨_, rfl, (c_at_in (n := 3) rfl (by decide) (by decide)).fn ⟨_, rfl, ?_⟩⟩⟩
    have e0 : M 4 (Int.toNat 0) = (nt W 0 : Nat) := (p1 0 (by omega)).trans (hm 0 (by omega)).1
    have e1 : M 4 (Int.toNat 1) = (nt W 1 : Nat) := (p1 1 (by omega)).trans (hm 1 (by omega)).1
    have e2 : M 4 (Int.toNat 2) = (nt W 2 : Nat) := (p1 2 (by omega)).trans (hm 2 (by omega)).1
    rw [e0, e1, e2]
    refine (c_meet3 (hms 0 (by omega)) (hms 1 (by omega)) (hms 2 (by omega))).mono ?_
    rintro _ M' ⟨rfl, h1, h2⟩
    refine ⟨rfl, rfl, ?_, h2⟩
    unfold knW stW alW
    rw [c2, c]
    exact h1
  · rintro M' _ _ ⟨rfl, t, rfl, rfl, ht, hne⟩
    have hb := lf_b (s := nt W 3) hms t ht
    have hb3 : lf (nt W 3) (nt W) t ≤ 999 ^ 3 := Nat.le_trans hb.2 (Nat.pow_le_pow_right (by omega) ht)
    unfold VX10_lay_51 VX10_lay_85
    refine ⟨by unfold R32; omega, fun c => ?_, fun c => ?_⟩
    · refine c_meetEvery.fn ⟨rfl, rfl, ?_, ?_⟩
      · have h3 : t = 3 := by omega
        subst h3
        have e := lf_st (l := W 4) (ms := nt W) hs hne hsn
        have e1 : knW W = 1 := if_neg hne
        have e2 : alW W = st0 (W 3) (W 4) (nt W 0) (nt W 1) (nt W 2) := by
          unfold alW al
          by_cases h7 : W 3 = 7
          · rw [if_pos h7]
            unfold st0
            rw [if_pos h7, if_neg (fun q => hne ⟨h7, q⟩)]
          · rw [if_neg h7]
        rw [e1, e2, e]
        refine ⟨?_, ?_, fun i hi => ?_⟩
        · simp [up]
        · simp [up]
        · have h0 : i = 0 := by omega
          subst h0
          simp [up, stW, st]
      · exact ((Eqv.rf.put rfl).put rfl).put rfl
    · have ht2 : t < 3 := by omega
      have ebit : iand (ishr (M' 3 1) t) 1 = (bt (nt W 3) t : Nat) := by
        rw [p2, hsn]
        exact bit_nat (by omega) (by omega)
      rw [ebit]
      have hbt : bt (nt W 3) t = 0 ∨ bt (nt W 3) t = 1 := Nat.mod_two_eq_zero_or_one _
      refine ⟨by unfold R32; omega, fun c2 y24 h24 => ⟨⟨rfl, t + 1, ?_, by omega, by omega, hne⟩, by omega⟩, fun c2 => (c_at_in (n := 3) rfl (by omega) (by omega)).fn ⟨_, rfl, ?_⟩⟩
      · rw [lf_s, if_neg (by omega)]
      · have hmt := hm t ht2
        rw [Int.toNat_natCast, p1 t ht2, hmt.1]
        refine ⟨by unfold R32; omega, (c_lcm hb.1 (by omega) (by omega) (by omega)).fn ⟨_, rfl, fun y16 h16 => ⟨⟨rfl, t + 1, ?_, by omega, by omega, hne⟩, by omega⟩⟩⟩
        rw [lf_s, if_pos (by omega)]
theorem c_marksNow (hP : PC M W) (hW : IW W) : Con E l 5 qX11_marksNow [vr 0] M (fun r M' => r = some (vr 37) ∧ MkC M' (knW W) (stW W) (alW W) ∧ Eqv M M') := by
  refine RX11_marksNow ?_
  unfold VX11_marksNow_0
  refine (c_layC hP hW).mono ?_
  rintro _ M' ⟨rfl, h⟩
  exact ⟨rfl, rfl, h⟩
theorem c_layM {s lw : Int} {c : Nat} (hP : PM M W) (hW : IW W) (hs : s = 3 ∨ s = 5 ∨ s = 6 ∨ s = 7) (hl : lw = 0 ∨ lw = 1) (hc : 1 ≤ c ∧ c ≤ 999) : Con E l 3 qX12_lay [vr 44, vi s, vi lw, vi c] M (fun r M' => r = none ∧ MkM M' (kn s lw) (st s lw (nt W 0) (nt W 1) c) (al s lw (nt W 0) (nt W 1) c) ∧ Eqv M M') := by
  have m0 := hW.m 0 (by omega)
  have m1 := hW.m 1 (by omega)
  obtain ⟨p1, q1⟩ := lcm_b m0.2.1 m1.2.1 m0.2.2 m1.2.2
  obtain ⟨p2, q2⟩ := lcm_b m0.2.1 hc.1 m0.2.2 hc.2
  obtain ⟨p3, q3⟩ := lcm_b m1.2.1 hc.1 m1.2.2 hc.2
  obtain ⟨p4, q4⟩ := lcm_b p1 hc.1 q1 hc.2
  have rc : R32 (c : Int) := by unfold R32; omega
  refine RX12_lay ?_
  unfold VX12_lay_0
  rw [hP 0 (by omega), hP 1 (by omega), m0.1, m1.1]
  refine ⟨by unfold R32; omega, fun y24 h24 => ⟨by unfold R32; omega, fun y26 h26 M28 h28 => ⟨by unfold R32; omega, fun n7 => ⟨by unfold R32; omega, fun n3 => ⟨by unfold R32; omega, fun n5 => ?_, fun e5 => ?_⟩, fun e3 => ?_⟩, fun e7 => ?_⟩⟩⟩
  · unfold VX12_lay_139 VX12_lay_144 VX12_lay_157
    rw [h26]
    refine ⟨rc, (c_common (by omega) (by omega) (by omega)).fn ⟨_, rfl, fun M1 h1 M3 h3 => ⟨rfl, ⟨?_, ?_, fun i hi => ?_⟩, ?_⟩⟩⟩
    · rw [h3, h1, h28]; simp [up, kn, n7]
    · rw [h3, h1, h28]; simp [up, al, st0, n7, n3, n5]
    · have h0 : i = 0 := by simp [kn, n7] at hi; exact hi
      subst h0
      rw [h3, h1, h28]; simp [up, st, st0, n7, n3, n5]
    · rw [h3, h1, h28]; exact ((Eqv.rf.put rfl).put rfl).put rfl
  · unfold VX12_lay_139 VX12_lay_144 VX12_lay_157
    rw [h24]
    refine ⟨rc, (c_common (by omega) (by omega) (by omega)).fn ⟨_, rfl, fun M1 h1 M3 h3 => ⟨rfl, ⟨?_, ?_, fun i hi => ?_⟩, ?_⟩⟩⟩
    · rw [h3, h1, h28]; simp [up, kn, n7]
    · rw [h3, h1, h28]; simp [up, al, st0, e5]
    · have h0 : i = 0 := by simp [kn, n7] at hi; exact hi
      subst h0
      rw [h3, h1, h28]; simp [up, st, st0, e5]
    · rw [h3, h1, h28]; exact ((Eqv.rf.put rfl).put rfl).put rfl
  · unfold VX12_lay_144 VX12_lay_157
    rw [h24, h26]
    refine (c_common (by omega) (by omega) (by omega)).fn ⟨_, rfl, fun M1 h1 M3 h3 => ⟨rfl, ⟨?_, ?_, fun i hi => ?_⟩, ?_⟩⟩
    · rw [h3, h1, h28]; simp [up, kn, n7]
    · rw [h3, h1, h28]; simp [up, al, st0, e3]
    · have h0 : i = 0 := by simp [kn, n7] at hi; exact hi
      subst h0
      rw [h3, h1, h28]; simp [up, st, st0, e3]
    · rw [h3, h1, h28]; exact ((Eqv.rf.put rfl).put rfl).put rfl
  · rw [h24, h26]
    have tail : ∀ (M45 : MM) (v : Nat), M45 = up M28 44 6 (Nat.lcm (Nat.lcm (nt W 0) (nt W 1)) c : Nat) → v = st0 s lw (nt W 0) (nt W 1) c → VX12_lay_68 E l 2 (fun r M' => r = none ∧ MkM M' (kn s lw) (st s lw (nt W 0) (nt W 1) c) (al s lw (nt W 0) (nt W 1) c) ∧ Eqv M M') M45 lw c (nt W 0 : Nat) (nt W 1 : Nat) 0 (v : Nat) := by
      intro M45 v h45 hv
      unfold VX12_lay_68 VX12_lay_105 VX12_lay_157
      refine ⟨by decide, by decide, fun M10 h10 => ⟨rc, (c_common (by omega) (by omega) (by omega)).fn ⟨_, rfl, fun M15 h15 => ⟨rc, (c_common (by omega) (by omega) (by omega)).fn ⟨_, rfl, fun M20 h20 => ⟨by unfold R32; omega, fun l1 M8 h8 => ⟨rfl, ⟨?_, ?_, fun i hi => ?_⟩, ?_⟩, fun l0 M8 h8 => ⟨rfl, ⟨?_, ?_, fun i hi => ?_⟩, ?_⟩⟩⟩⟩⟩⟩⟩
      · rw [h8]; simp [up, kn, e7, show lw = 1 by omega]
      · rw [h8, h20, h15, h10, h45]; simp [up, al, e7]
      · have hi3 : i < 3 := by simp [kn, e7, show lw = 1 by omega] at hi; exact hi
        rw [h8, h20, h15, h10, h45, hv]
        rcases (show i = 0 ∨ i = 1 ∨ i = 2 by omega) with rfl | rfl | rfl <;> simp [up, st]
      · rw [h8, h20, h15, h10, h45, h28]; exact (((((Eqv.rf.put rfl).put rfl).put rfl).put rfl).put rfl).put rfl
      · rw [h8]; simp [up, kn, l0]
      · rw [h8, h20, h15, h10, h45]; simp [up, al, e7]
      · have h0 : i = 0 := by simp [kn, l0] at hi; exact hi
        subst h0
        rw [h8, h20, h15, h10, h45, hv]; simp [up, st]
      · rw [h8, h20, h15, h10, h45, h28]; exact (((((Eqv.rf.put rfl).put rfl).put rfl).put rfl).put rfl).put rfl
    refine (c_common (by omega) (by omega) (by omega)).fn ⟨_, rfl, rc, (c_common p1 (by omega) (by omega)).fn ⟨_, rfl, fun M45 h45 => ⟨by unfold R32; omega, fun l1 => (c_common (by omega) (by omega) (by omega)).fn ⟨_, rfl, ?_⟩, fun l0 => ?_⟩⟩⟩
    · exact tail M45 (Nat.lcm (nt W 0) (nt W 1)) h45 (by simp [st0, e7, show lw = 1 by omega])
    · have e6 : M45 44 6 = (Nat.lcm (Nat.lcm (nt W 0) (nt W 1)) c : Nat) := by rw [h45]; simp [up]
      rw [e6]
      exact tail M45 _ h45 (by simp [st0, e7, l0])
theorem c_layNow (hP : PM M W) (hW : IW W) : Con E l 4 qX12_layNow [vr 44] M (fun r M' => r = none ∧ MkM M' (knW W) (stW W) (alW W) ∧ Eqv M M') := by
  refine RX12_layNow ?_
  unfold VX12_layNow_0
  have m2 := hW.m 2 (by omega)
  rw [hP 3 (by omega), hP 4 (by omega), hP 2 (by omega), m2.1]
  refine (c_layM hP hW hW.2.1 hW.2.2.1 m2.2).mono ?_
  rintro _ M' ⟨rfl, h⟩
  exact ⟨rfl, rfl, h⟩
end
