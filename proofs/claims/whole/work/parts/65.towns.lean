/-! towns -/
def wT (W : Nat → Int) (ms : Nat → Int) (set lw : Nat) : Nat → Int := fun j => if j < 3 then ms j else if j = 3 then set else if j = 4 then lw else W j
def TTt (W T : Nat → Int) (L : Nat) (x : Int) (W' T' : Nat → Int) (L' : Nat) : Prop := T' = T ∧ L' = 0 ∧ match rd T L with
  | (none, a) => x = -20 - (a : Int) ∧ W' = W
  | (some (ms, set, lw), _) => x = (bcn 3 set : Nat) ∧ W' = wT W ms set lw
theorem bcn_set : ∀ s, s < 8 → 2 ≤ bcn 3 s → s = 3 ∨ s = 5 ∨ s = 6 ∨ s = 7 := by decide +kernel
theorem rd_ok {T : Nat → Int} {L : Nat} {ms : Nat → Int} {set lw a : Nat} (h : rd T L = (some (ms, set, lw), a)) : (∀ j, j < 3 → 1 ≤ ms j ∧ ms j ≤ 999) ∧ (set < 8 ∧ 2 ≤ bcn 3 set) ∧ (lw = 0 ∨ lw = 1) := by
  have hr := rm_b T L 3
  have skb := skp_b (T := T) hr.1
  have key : ∀ b set', set' < 8 → 2 ≤ bcn 3 set' → (rm T L 3).2.2 = true → tl T L b set' (rm T L 3).2.1 = (some (ms, set, lw), a) → (∀ j, j < 3 → 1 ≤ ms j ∧ ms j ≤ 999) ∧ (set < 8 ∧ 2 ≤ bcn 3 set) ∧ (lw = 0 ∨ lw = 1) := by
    intro b set' h1 h2 hok q
    unfold tl at q
    split at q
    · split at q
      · cases q
        exact ⟨hr.2 hok, ⟨h1, h2⟩, Or.inr rfl⟩
      · cases q
    · split at q
      · cases q
        exact ⟨hr.2 hok, ⟨h1, h2⟩, Or.inl rfl⟩
      · cases q
  unfold rd at h
  split at h
  · rename_i hok
    split at h
    · rename_i h59
      have hlt := sgn_lt (T := T) (L := L) (a := skp T L (rm T L 3).1) (by omega)
      have hcb := cn_b (T := T) (L := L) 3 (skp T L (rm T L 3).1 + 1) 0 (by omega) (by omega)
      split at h
      · cases h
      · exact key _ _ hcb.2 (by omega) hok h
    · exact key _ _ (by omega) (by decide) hok h
  · cases h
theorem rd_le {T : Nat → Int} {L a : Nat} (h : rd T L = (none, a)) : a ≤ L := by
  have hr := rm_b T L 3
  have skb := skp_b (T := T) hr.1
  have key : ∀ b set' ms, b ≤ L → tl T L b set' ms = (none, a) → a ≤ L := by
    intro b set' ms hb q
    have h1 := skp_b (T := T) hb
    unfold tl at q
    split at q
    · rename_i h2
      have hlt := sgn_lt (T := T) (L := L) (a := skp T L b) (by omega)
      have h3 := skp_b (T := T) (L := L) (a := skp T L b + 1) (by omega)
      split at q
      · cases q
      · cases q
        exact h3.2.1
    · split at q
      · cases q
      · cases q
        exact h1.2.1
  unfold rd at h
  split at h
  · split at h
    · rename_i h59
      have hlt := sgn_lt (T := T) (L := L) (a := skp T L (rm T L 3).1) (by omega)
      have hcb := cn_b (T := T) (L := L) 3 (skp T L (rm T L 3).1 + 1) 0 (by omega) (by omega)
      split at h
      · cases h
        exact hcb.1
      · exact key _ _ _ hcb.1 h
    · exact key _ _ _ hr.1 h
  · cases h
    exact hr.1
section
variable {E : FX} {l : Launch} {M : MM}
theorem PC.towns {M : MM} {W : Nat → Int} {ms : Nat → Int} {set lw : Nat} (hP : PC M W) (h4 : M 25 4 = set) (h5 : M 25 5 = lw) (h27 : ∀ j, j < 3 → M 27 j = ms j) : PC (up (up (cpM M 27 0 4 0 3) 3 1 (M 25 4)) 3 2 (M 25 5)) (wT W ms set lw) := by
  obtain ⟨a1, a2, a3, a4, a5, a6, a7, a8, a9, a10, a11, a12⟩ := hP
  have q : ∀ k p, k ≠ 3 → k ≠ 4 → up (up (cpM M 27 0 4 0 3) 3 1 (M 25 4)) 3 2 (M 25 5) k p = M k p := fun k p n3 n4 => by
    rw [up_ne (by omega), up_ne (by omega)]
    unfold cpM
    rw [if_neg (by omega)]
  have w : ∀ j, 5 ≤ j → wT W ms set lw j = W j := fun j hj => by
    unfold wT
    rw [if_neg (by omega), if_neg (by omega), if_neg (by omega)]
  refine ⟨fun j hj => ?_, ?_, ?_, ?_, ?_, fun j hj => ?_, fun j hj => ?_, ?_, ?_, fun j hj => ?_, fun j hj => ?_, fun j hj => ?_⟩
  · rw [up_ne (by omega), up_ne (by omega)]
    unfold cpM wT
    rw [if_pos (by omega), if_pos hj, show 0 + (j - 0) = j by omega]
    exact h27 j hj
  · rw [up_ne (by omega), up_eq, h4]; rfl
  · rw [up_eq, h5]; rfl
  · rw [q _ _ (by decide) (by decide), w _ (by decide)]; exact a4
  · rw [q _ _ (by decide) (by decide), w _ (by decide)]; exact a5
  · rw [q _ _ (by decide) (by decide), w _ (by omega)]; exact a6 j hj
  · rw [q _ _ (by decide) (by decide), w _ (by omega)]; exact a7 j hj
  · rw [q _ _ (by decide) (by decide), w _ (by decide)]; exact a8
  · rw [q _ _ (by decide) (by decide), w _ (by decide)]; exact a9
  · rw [q _ _ (by decide) (by decide), w _ (by omega)]; exact a10 j hj
  · rw [q _ _ (by decide) (by decide), w _ (by omega)]; exact a11 j hj
  · rw [q _ _ (by decide) (by decide), w _ (by omega)]; exact a12 j hj
theorem k_towns : ∀ M W T L, PC M W → TpC M T L → IW W → IT T L → Con E l 20 qX11_towns [vr 0] M (fun r M' => (∃ x W' T' L', r = some (vi x) ∧ TTt W T L x W' T' L' ∧ PC M' W' ∧ TpC M' T' L') ∧ FrC M M') := by
  intro M W T L hP hT hW hI
  refine (RX11_towns (D := 9) ?_).up (by decide)
  unfold VX11_towns_0
  try unfold VX11_towns_26
  refine (c_read hT hI).mono ?_ (by decide)
  intro r M1 h
  cases hrd : rd T L with
  | mk o a =>
    rw [hrd] at h
    have tp0 : ∀ Mx, TpC Mx T L → TpC (up Mx 25 1 0) T 0 := fun Mx h => ⟨by rw [up_eq]; rfl, fun j hj => by rw [up_ne (by omega)]; exact h.2 j hj⟩
    cases o with
    | none =>
      obtain ⟨e1, rfl⟩ := h
      refine ⟨_, rfl, ?_⟩
      have ha := rd_le hrd
      have hL := hI.1
      refine ⟨by unfold R32; omega, ?_, fun c1 => by omega⟩
      rintro c1 M2 rfl
      refine ⟨⟨_, W, T, 0, rfl, ⟨rfl, rfl, by rw [hrd]; exact ⟨rfl, rfl⟩⟩, ?_, tp0 _ (hT.eqv e1)⟩, (FrC.eqv e1).put (by simp)⟩
      exact (hP.eqv e1).ag (AG.rf.put (by decide))
    | some p =>
      obtain ⟨ms, set, lw⟩ := p
      obtain ⟨e1, rfl, e2, e3, e4⟩ := h
      obtain ⟨i1, i2, i3⟩ := rd_ok hrd
      have hle := bcn_le set 3
      refine ⟨_, rfl, by unfold R32; omega, fun c1 => by omega, fun c1 => ?_⟩
      refine (RX10_take (D := 3) (post := fun r Mx => r = none ∧ Mx = up (up (cpM M1 27 0 4 0 3) 3 1 (M1 25 4)) 3 2 (M1 25 5)) ?_).mono ?_ (by decide)
      · unfold VX10_take_0
        refine (c_fill (n := 3) rfl rfl).fn ⟨rfl, ?_⟩
        rintro M2 rfl M3 rfl
        exact ⟨rfl, by simp [up, cpM]⟩
      · rintro _ M2 ⟨rfl, rfl⟩
        refine ⟨rfl, ?_⟩
        rintro M3 rfl
        have f1 : FrC M1 (cpM M1 27 0 4 0 3) := fun k p a b c d => by
          unfold cpM
          rw [if_neg]
          rintro ⟨rfl, -⟩
          exact b rfl
        refine ⟨⟨_, _, T, 0, rfl, ⟨rfl, rfl, by rw [hrd]; exact ⟨rfl, rfl⟩⟩, ((hP.eqv e1).towns e2 e3 e4).ag (AG.rf.put (by decide)), tp0 _ ?_⟩, (((FrC.eqv e1).tr ((f1.put (by decide)).put (by decide)))).put (by simp)⟩
        have h1 := hT.eqv e1
        refine ⟨?_, fun j hj => ?_⟩
        · rw [up_ne (by decide), up_ne (by decide)]; exact h1.1
        · rw [up_ne (by omega), up_ne (by omega)]; exact h1.2 j hj
theorem m_towns : ∀ M W T L, PM M W → TpM M T L → IW W → IT T L → Con E l 20 qX12_towns [vr 44] M (fun r M' => (∃ x W' T' L', r = some (vi x) ∧ TTt W T L x W' T' L' ∧ PM M' W' ∧ TpM M' T' L') ∧ FrM M M') := by
  intro M W T L hP hT hW hI
  refine (RX12_towns (D := 6) (fun M' x2 => ∃ ms set lw a k, rd T L = (some (ms, set, lw), a) ∧ x2 = (k : Nat) ∧ k ≤ 3 ∧ M' 44 9 = set ∧ M' 44 10 = lw ∧ (∀ j, j < 3 → M' 48 j = ms j) ∧ TpM M' T 0 ∧ FrM M M' ∧ ∀ j, j < 70 → M' 45 j = if j < k then ms j else W j) (fun _ x2 => (4 - x2).toNat) ?_ ?_).up (by decide)
  · unfold VX12_towns_0
    refine (m_faultOf hT hI).mono ?_ (by decide)
    intro r M1 h
    cases hrd : rd T L with
    | mk o a =>
      rw [hrd] at h
      have tp0 : TpM M1 T L → TpM (up M1 44 3 0) T 0 := fun h => ⟨by rw [up_eq]; rfl, fun j hj => by rw [up_ne (by omega)]; exact h.2 j hj⟩
      cases o with
      | none =>
        obtain ⟨e1, rfl⟩ := h
        refine ⟨_, rfl, ?_⟩
        rintro M2 rfl
        have ha := rd_le hrd
        have hL := hI.1
        refine ⟨by unfold R32; omega, fun c1 => by omega, fun c1 => ?_⟩
        refine ⟨⟨_, W, T, 0, rfl, ⟨rfl, rfl, by rw [hrd]; exact ⟨rfl, rfl⟩⟩, ?_, tp0 (hT.eqv e1)⟩, (FrM.eqv e1).put (by simp)⟩
        exact (hP.eqv e1).ag (AG.rf.put (by decide))
      | some p =>
        obtain ⟨ms, set, lw⟩ := p
        obtain ⟨e1, rfl, e2, e3, e4⟩ := h
        refine ⟨_, rfl, ?_⟩
        rintro M2 rfl
        refine ⟨by decide, fun c1 => ⟨ms, set, lw, a, 0, rfl, rfl, by omega, by rw [up_ne (by decide)]; exact e2, by rw [up_ne (by decide)]; exact e3, fun j hj => by rw [up_ne (by omega)]; exact e4 j hj, tp0 (hT.eqv e1), (FrM.eqv e1).put (by simp), fun j hj => ?_⟩, fun c1 => absurd c1 (by decide)⟩
        rw [if_neg (by omega), up_ne (by omega)]
        exact (hP.eqv e1) j hj
  · rintro M' _ ⟨ms, set, lw, a, k, hrd, rfl, hk, h9, h10, h48, ht, f, h45⟩
    obtain ⟨i1, i2, i3⟩ := rd_ok hrd
    have e8 := (bcn_8 set i2.1).1
    unfold VX12_towns_21
    refine ⟨by unfold R32; omega, fun c1 => ?_, fun c1 => ⟨by omega, by omega, by omega, by omega, ?_⟩⟩
    · rw [h9]
      rintro M2 rfl M3 rfl
      rw [up_ne (by decide), up_ne (by decide), up_ne (M := M') (by decide), h9, h10]
      refine (c_ones (by omega)).fn ⟨_, rfl, ⟨_, wT W ms set lw, T, 0, rfl, ⟨rfl, rfl, by rw [hrd]; exact ⟨by rw [e8], rfl⟩⟩, fun j hj => ?_, ht.1, fun j hj => ht.2 j hj⟩, (f.put (by decide)).put (by decide)⟩
      unfold wT
      by_cases j3 : j = 3
      · subst j3; rw [up_ne (by decide), up_eq]; rfl
      by_cases j4 : j = 4
      · subst j4; rw [up_eq]; rfl
      rw [up_ne (by omega), up_ne (by omega), h45 j hj, if_neg j3, if_neg j4]
      obtain rfl : k = 3 := by omega
      rfl
    · rw [show 0 + (k : Int) = (k : Int) by omega, Int.toNat_natCast]
      rintro M2 rfl y19 h19
      refine ⟨⟨ms, set, lw, a, k + 1, hrd, by omega, by omega, by rw [up_ne (by omega)]; exact h9, by rw [up_ne (by omega)]; exact h10, fun j hj => by rw [up_ne (by omega)]; exact h48 j hj, ⟨by rw [up_ne (by omega)]; exact ht.1, fun j hj => by rw [up_ne (by omega)]; exact ht.2 j hj⟩, f.put (Or.inr (Or.inl (by simp [rg]; omega))), fun j hj => ?_⟩, by omega⟩
      by_cases e : j = k
      · subst e; rw [up_eq, if_pos (by omega)]; exact h48 j (by omega)
      · rw [up_ne (by omega), h45 j hj]
        by_cases c : j < k
        · rw [if_pos c, if_pos (by omega)]
        · rw [if_neg c, if_neg (by omega)]
theorem e_towns : EqA E l vi qX11_towns qX12_towns [] :=
  eqT TTt (fun W T L x x' W1 W2 T1 T2 L1 L2 _ _ h1 h2 => by
    obtain ⟨rfl, rfl, h1⟩ := h1
    obtain ⟨rfl, rfl, h2⟩ := h2
    cases hrd : rd T2 L with
    | mk o a =>
      rw [hrd] at h1 h2
      cases o with
      | none => exact ⟨h1.1.trans h2.1.symm, h1.2.trans h2.2.symm, rfl, rfl⟩
      | some p =>
        obtain ⟨ms, set, lw⟩ := p
        exact ⟨h1.1.trans h2.1.symm, h1.2.trans h2.2.symm, rfl, rfl⟩) (fun W T L x W' T' L' hW hT h => by
    obtain ⟨rfl, rfl, h⟩ := h
    refine ⟨?_, by omega, hT.2⟩
    cases hrd : rd T' L with
    | mk o a =>
      rw [hrd] at h
      cases o with
      | none => rw [h.2]; exact hW
      | some p =>
        obtain ⟨ms, set, lw⟩ := p
        obtain ⟨i1, i2, i3⟩ := rd_ok hrd
        have i4 := bcn_set set i2.1 i2.2
        obtain ⟨h1, h2, h3, h4, h5, h6, h7, h8, h9, h10, h11⟩ := hW
        have w : ∀ j, 5 ≤ j → wT W ms set lw j = W j := fun j hj => by
          unfold wT
          rw [if_neg (by omega), if_neg (by omega), if_neg (by omega)]
        rw [h.2]
        refine ⟨fun j hj => ?_, ?_, ?_, ?_, ?_, fun j hj => ?_, fun j hj => ?_, ?_, fun j hj => ?_, fun j hj => ?_, fun j hj => ?_⟩
        · have e : wT W ms set lw j = ms j := if_pos hj
          rw [e]; exact i1 j hj
        · show (set : Int) = 3 ∨ (set : Int) = 5 ∨ (set : Int) = 6 ∨ (set : Int) = 7
          omega
        · show (lw : Int) = 0 ∨ (lw : Int) = 1
          omega
        · rw [w _ (by decide)]; exact h4
        · rw [w _ (by decide)]; exact h5
        · rw [w _ (by omega)]; exact h6 j hj
        · rw [w _ (by omega)]; exact h7 j hj
        · rw [w _ (by decide)]; exact h8
        · rw [w _ (by omega)]; exact h9 j hj
        · rw [w _ (by omega)]; exact h10 j hj
        · rw [w _ (by omega)]; exact h11 j hj) k_towns m_towns
end
