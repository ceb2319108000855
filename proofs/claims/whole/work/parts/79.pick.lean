/-! the bolts of a cloth that are above 0, as they come -/
abbrev qual (c : Int) (W : Nat → Int) (j : Nat) : Prop := W (7 + j) = c ∧ 0 < W (15 + j)
def qn (c : Int) (W : Nat → Int) : Nat → Nat
  | 0 => 0
  | b + 1 => qn c W b + (if qual c W b then 1 else 0)
theorem qn_s (c : Int) (W : Nat → Int) (b : Nat) : qn c W (b + 1) = qn c W b + (if qual c W b then 1 else 0) := rfl
theorem qn_le (c : Int) (W : Nat → Int) : ∀ k, qn c W k ≤ k
  | 0 => Nat.le_refl _
  | k + 1 => by
    have := qn_le c W k
    rw [qn_s]
    split <;> omega
theorem qn_mono {c : Int} {W : Nat → Int} {a b : Nat} (h : a ≤ b) : qn c W a ≤ qn c W b := by
  obtain ⟨d, rfl⟩ := Nat.exists_eq_add_of_le h
  clear h
  induction d with
  | zero => exact Nat.le_refl _
  | succ d ih => exact Nat.le_trans ih (Nat.le_add_right _ _)
theorem qn_lt {c : Int} {W : Nat → Int} {a b : Nat} (h : a < b) (q : qual c W a) : qn c W a < qn c W b := by
  have h1 := qn_mono (c := c) (W := W) (show a + 1 ≤ b by omega)
  rw [qn_s, if_pos q] at h1
  omega
theorem qn_inj {c : Int} {W : Nat → Int} {a b : Nat} (qa : qual c W a) (qb : qual c W b) (h : qn c W a = qn c W b) : a = b := by
  rcases Nat.lt_trichotomy a b with d | d | d
  · have := qn_lt d qa; omega
  · exact d
  · have := qn_lt d qb; omega
theorem qn_on {c : Int} {W : Nat → Int} {p : Nat} : ∀ h, p < qn c W h → ∃ b, b < h ∧ qual c W b ∧ qn c W b = p
  | 0, hp => absurd hp (Nat.not_lt_zero _)
  | h + 1, hp => by
    rw [qn_s] at hp
    by_cases d : p < qn c W h
    · obtain ⟨b, h1, h2⟩ := qn_on h d
      exact ⟨b, by omega, h2⟩
    · by_cases q : qual c W h
      · rw [if_pos q] at hp
        exact ⟨h, by omega, q, by omega⟩
      · rw [if_neg q] at hp
        omega
/-- the length of the p-th of them -/
def smR (c : Int) (W : Nat → Int) : Nat → Nat → Int
  | 0, _ => 0
  | h + 1, p => if qual c W h ∧ qn c W h = p then W (15 + h) else smR c W h p
theorem smR_s (c : Int) (W : Nat → Int) (h p : Nat) : smR c W (h + 1) p = if qual c W h ∧ qn c W h = p then W (15 + h) else smR c W h p := rfl
theorem smR_q {c : Int} {W : Nat → Int} {b : Nat} (q : qual c W b) : ∀ h, b < h → smR c W h (qn c W b) = W (15 + b)
  | 0, hb => absurd hb (Nat.not_lt_zero _)
  | h + 1, hb => by
    rw [smR_s]
    by_cases d : qual c W h ∧ qn c W h = qn c W b
    · rw [if_pos d, qn_inj d.1 q d.2]
    · rw [if_neg d]
      refine smR_q q h ?_
      by_cases e : b = h
      · subst e; exact absurd ⟨q, rfl⟩ d
      · omega
theorem smR_b {c : Int} {W : Nat → Int} (hW : IW W) (p : Nat) : ∀ h, h ≤ 8 → 0 ≤ smR c W h p ∧ smR c W h p ≤ 99999
  | 0, _ => by simp [smR]
  | h + 1, hh => by
    rw [smR_s]
    split
    · exact hW.le (by omega)
    · exact smR_b hW p h (by omega)
/-- a set of them, joined -/
def lenG (sv : Int) (sm : Nat → Int) (n s : Nat) : Int := sv + sumZ (fun k => if bt s k = 1 then sm k - sv else 0) n
theorem sum_lin (sv : Int) (sm : Nat → Int) (s : Nat) : ∀ n, sumZ (fun k => if bt s k = 1 then sm k - sv else 0) n = sumZ (fun k => if bt s k = 1 then sm k else 0) n - sv * sumZ (fun k => if bt s k = 1 then 1 else 0) n
  | 0 => by simp [sumZ]
  | n + 1 => by
    rw [sumZ_s, sumZ_s, sumZ_s, sum_lin sv sm s n, Int.mul_add]
    by_cases c : bt s n = 1
    · rw [if_pos c, if_pos c, if_pos c, Int.mul_one]; omega
    · rw [if_neg c, if_neg c, if_neg c, Int.mul_zero]; omega
theorem bcn_sum (v : Nat) : ∀ n, ((bcn n v : Nat) : Int) = sumZ (fun b => if bt v b = 1 then 1 else 0) n
  | 0 => rfl
  | n + 1 => by
    have := bcn_sum v n
    have hb := bt_01 v n
    rw [sumZ_s, ← this]
    show ((bcn n v + bt v n : Nat) : Int) = _
    split <;> omega
theorem sum_re {c : Int} {W : Nat → Int} {v s h : Nat} {f g : Nat → Int} (hg : ∀ b, b < h → qual c W b → g (qn c W b) = f b) (hv : ∀ b, b < h → (bt v b = 1 ↔ (qual c W b ∧ bt s (qn c W b) = 1))) : ∀ k, k ≤ h → sumZ (fun b => if bt v b = 1 then f b else 0) k = sumZ (fun p => if bt s p = 1 then g p else 0) (qn c W k)
  | 0, _ => rfl
  | k + 1, hk => by
    have hb := hv k (by omega)
    rw [sumZ_s, sum_re hg hv k (by omega), qn_s]
    by_cases q : qual c W k
    · rw [if_pos q, sumZ_s, hg k (by omega) q]
      by_cases e : bt s (qn c W k) = 1
      · rw [if_pos e, if_pos (hb.mpr ⟨q, e⟩)]
      · rw [if_neg e, if_neg (fun w => e (hb.mp w).2)]
    · rw [if_neg q, if_neg (fun w => q (hb.mp w).1), Nat.add_zero, Int.add_zero]
def svW (c : Int) (W : Nat → Int) : Int := if c < 2 then W 5 else 0
def nW (c : Int) (W : Nat → Int) : Nat := qn c W (W 6).toNat
def smW (c : Int) (W : Nat → Int) : Nat → Int := smR c W (W 6).toNat
theorem lenT_G {c : Int} {W : Nat → Int} {v s : Nat} (hW : IW W) (hv : ∀ b, b < 8 → (bt v b = 1 ↔ (b < (W 6).toNat ∧ qual c W b ∧ bt s (qn c W b) = 1))) : lenT v c W = lenG (svW c W) (smW c W) (nW c W) s := by
  have hh := hW.held
  have e1 := sum_re (c := c) (W := W) (v := v) (s := s) (h := (W 6).toNat) (f := fun b => W (15 + b)) (g := smW c W) (fun b hb q => smR_q q _ hb) (fun b hb => (hv b (by omega)).trans ⟨fun q => q.2, fun q => ⟨hb, q⟩⟩) (W 6).toNat (Nat.le_refl _)
  have e2 := sum_re (c := c) (W := W) (v := v) (s := s) (h := (W 6).toNat) (f := fun _ => 1) (g := fun _ => 1) (fun b hb q => rfl) (fun b hb => (hv b (by omega)).trans ⟨fun q => q.2, fun q => ⟨hb, q⟩⟩) (W 6).toNat (Nat.le_refl _)
  have e3 : sumZ (fun b => if bt v b = 1 then (1 : Int) else 0) 8 = sumZ (fun b => if bt v b = 1 then (1 : Int) else 0) (W 6).toNat := sumZ_ext 8 (by omega) (fun j a b => if_neg (fun q => by have := (hv j b).mp q; omega))
  have e4 := sum_lin (svW c W) (smW c W) s (nW c W)
  unfold lenT lenG
  rw [bcn_sum, e3, e2, e1, e4]
  show -(svW c W) * (sumZ (fun p => if bt s p = 1 then 1 else 0) (nW c W) - 1) + sumZ (fun p => if bt s p = 1 then smW c W p else 0) (nW c W) = _
  rw [Int.mul_sub, Int.neg_mul]
  omega
theorem lenG_b {c : Int} {W : Nat → Int} (hW : IW W) (s : Nat) : lenG (svW c W) (smW c W) (nW c W) s ≤ 1000000 ∧ -1000000 ≤ lenG (svW c W) (smW c W) (nW c W) s := by
  have h5 := hW.seam
  have hh := hW.held
  have hn : nW c W ≤ 8 := by have := qn_le c W (W 6).toNat; unfold nW; omega
  have hv : 0 ≤ svW c W ∧ svW c W ≤ 99 := by unfold svW; split <;> omega
  have hb := sumZ_bb (f := fun k => if bt s k = 1 then smW c W k - svW c W else 0) (B := 99999) (nW c W) (fun j _ => by
    have := smR_b (c := c) hW j (W 6).toNat (by omega)
    show -99999 ≤ (if bt s j = 1 then smR c W (W 6).toNat j - svW c W else 0) ∧ (if bt s j = 1 then smR c W (W 6).toNat j - svW c W else 0) ≤ 99999
    split <;> omega)
  unfold lenG
  omega
/-- what a group of them is worth -/
def wtM (c : Int) (W : Nat → Int) (s : Nat) : Int := if s = 0 then 0 else (lastF (stW W) (pos0 (lenG (svW c W) (smW c W) (nW c W) s)).toNat (knW W) : Nat)
theorem wtM_b {c : Int} {W : Nat → Int} (hW : IW W) (s : Nat) : 0 ≤ wtM c W s ∧ wtM c W s ≤ 1000000 := by
  unfold wtM
  split
  · decide
  · have h1 := lastF_le (stW W) (pos0 (lenG (svW c W) (smW c W) (nW c W) s)).toNat (knW W)
    have h2 := lenG_b (c := c) hW s
    have h3 : pos0 (lenG (svW c W) (smW c W) (nW c W) s) ≤ 1000000 := by
      unfold pos0
      split <;> omega
    omega
section
variable {E : FX} {l : Launch} {M : MM} {W : Nat → Int} {c : Int}
def Pkd (M : MM) (c : Int) (W : Nat → Int) : Prop := ∀ b, b < (W 6).toNat → qual c W b → M 8 (qn c W b) = (b : Nat)
theorem c_pick (hP : PC M W) (hW : IW W) (hc : 0 ≤ c ∧ c ≤ 3) : Con E l 2 qX0_pick [vr 5, vi c] M (fun r M' => r = some (vi (nW c W : Nat)) ∧ Pkd M' c W ∧ Only 8 M M') := by
  have hh := hW.held
  refine RX0_pick (D := 1) (fun M' x1 x2 x3 => x1 = c ∧ ∃ k : Nat, x3 = k ∧ k ≤ (W 6).toNat ∧ x2 = (qn c W k : Nat) ∧ (∀ b, b < k → qual c W b → M' 8 (qn c W b) = (b : Nat)) ∧ Only 8 M M') (fun _ _ _ x3 => (10 - x3).toNat) ?_ ?_
  · exact ⟨rfl, 0, rfl, by omega, rfl, fun b hb => absurd hb (Nat.not_lt_zero _), Only.rf⟩
  · rintro M' c _ _ ⟨rfl, k, rfl, hk, rfl, hp, ho⟩
    have hP' : PC M' W := hP.eqv (ho.eqv Eqv.rf (fun _ => rfl))
    have hql := qn_le c W k
    have hcl := hW.cl (j := k)
    have hle := hW.le (j := k)
    unfold VX0_pick_4
    try unfold VX0_pick_47
    rw [hP'.held]
    refine ⟨by unfold R32; omega, by unfold R32; omega, fun d => ⟨?_, ?_, ho⟩, fun d => (c_at_in (n := 8) rfl (by omega) (by omega)).fn ⟨_, rfl, ?_⟩⟩
    · unfold nW
      rw [show k = (W 6).toNat by omega]
    · intro b hb
      exact hp b (by omega)
    · rw [Int.toNat_natCast, hP'.cl (by omega)]
      have hcl2 := hcl (by omega)
      have hle2 := hle (by omega)
      refine ⟨by unfold R32; omega, by unfold R32; omega, fun d2 y10 h10 => ⟨⟨rfl, k + 1, by omega, by omega, ?_, fun b hb q => ?_, ho⟩, by omega⟩, fun d2 => (c_at_in (n := 8) rfl (by omega) (by omega)).fn ⟨_, rfl, ?_⟩⟩
      · rw [qn_s, if_neg (fun q => d2 q.1), Nat.add_zero]
      · by_cases e : b = k
        · subst e; exact absurd q.1 d2
        · exact hp b (by omega) q
      · rw [Int.toNat_natCast, hP'.le (by omega)]
        refine ⟨by unfold R32; omega, fun d3 y17 h17 => ⟨⟨rfl, k + 1, by omega, by omega, ?_, fun b hb q => ?_, ho⟩, by omega⟩, fun d3 => (c_put (n := 8) rfl (by omega) (by omega)).fn ⟨rfl, fun y21 h21 y1 h1 => ⟨⟨rfl, k + 1, by omega, by omega, ?_, fun b hb q => ?_, ho.put⟩, by omega⟩⟩⟩
        · rw [qn_s, if_neg (fun q => by have := q.2; omega), Nat.add_zero]
        · by_cases e : b = k
          · subst e
            have := q.2
            omega
          · exact hp b (by omega) q
        · rw [qn_s, if_pos ⟨d2, by omega⟩]
          omega
        · rw [Int.toNat_natCast]
          by_cases e : b = k
          · rw [e, up_eq]
          · have hlt := qn_lt (show b < k by omega) q
            rw [up_ne (by omega)]
            exact hp b (by omega) q
theorem c_lengthOfPicked {s : Nat} (hs : s < 2 ^ nW c W) (hk : Pkd M c W) (hP : PC M W) (hW : IW W) (hc : 0 ≤ c ∧ c ≤ 3) : Con E l 3 qX0_lengthOfPicked [vr 5, vi s, vi c] M (fun r M' => r = some (vi (pos0 (lenG (svW c W) (smW c W) (nW c W) s))) ∧ M' = M) := by
  have hh := hW.held
  have hn : nW c W ≤ 8 := by have := qn_le c W (W 6).toNat; unfold nW; omega
  have h2 : 2 ^ nW c W ≤ 2 ^ 8 := Nat.pow_le_pow_right (by omega) hn
  refine RX0_lengthOfPicked (D := 2) (fun M' x1 x2 x3 x4 => M' = M ∧ x1 = s ∧ x2 = c ∧ ∃ p v : Nat, x4 = p ∧ p ≤ 8 ∧ x3 = v ∧ v < 256 ∧ ∀ b, b < 8 → (bt v b = 1 ↔ (b < (W 6).toNat ∧ qual c W b ∧ qn c W b < p ∧ bt s (qn c W b) = 1))) (fun _ _ _ _ x4 => (10 - x4).toNat) ?_ ?_
  · exact ⟨rfl, rfl, rfl, 0, 0, rfl, by omega, rfl, by omega, fun b hb => ⟨fun q => (by rw [bt_0] at q; cases q), fun q => (by omega)⟩⟩
  · rintro M' _ c _ _ ⟨rfl, rfl, rfl, p, v, rfl, hp, rfl, hv, hbits⟩
    unfold VX0_lengthOfPicked_5
    try unfold VX0_lengthOfPicked_36
    refine ⟨by unfold R32; omega, fun d => (c_lengthOfAll hv hP hW hc).fn ⟨_, rfl, ?_, rfl⟩, fun d => ?_⟩
    · rw [lenT_G hW (fun b hb => (hbits b hb).trans ⟨fun q => ⟨q.1, q.2.1, q.2.2.2⟩, fun q => ⟨q.1, q.2.1, by have := qn_le c W b; omega, q.2.2⟩⟩)]
    · rw [bit_nat (by omega) (by omega)]
      have hb := bt_01 s p
      refine ⟨by unfold R32; omega, fun d2 y10 h10 => ⟨⟨rfl, rfl, rfl, p + 1, v, by omega, by omega, rfl, hv, fun b hb2 => (hbits b hb2).trans ⟨fun q => ⟨q.1, q.2.1, by omega, q.2.2.2⟩, fun q => ⟨q.1, q.2.1, ?_, q.2.2.2⟩⟩⟩, by omega⟩, fun d2 => ?_⟩
      · by_cases e : qn c W b = p
        · rw [e] at q
          have := q.2.2.2
          omega
        · omega
      · have hpn : p < nW c W := by
          apply Decidable.byContradiction
          intro q
          have := bt_out hs (show nW c W ≤ p by omega)
          omega
        obtain ⟨b0, g1, g2, g3⟩ := qn_on _ hpn
        have hk0 := hk b0 g1 g2
        rw [g3] at hk0
        refine (c_at_in (n := 8) rfl (by omega) (by omega)).fn ⟨_, rfl, ?_⟩
        rw [Int.toNat_natCast, hk0, ishl_1 b0 (by omega)]
        have hp2 : 2 ^ b0 < 2 ^ 8 := Nat.pow_lt_pow_right (by omega) (by omega)
        rw [ior_nat (by omega) (by omega)]
        have ho : v ||| 2 ^ b0 < 2 ^ 8 := Nat.or_lt_two_pow (by omega) hp2
        refine fun y15 h15 y1 h1 => ⟨⟨rfl, rfl, rfl, p + 1, v ||| 2 ^ b0, by omega, by omega, h15, ho, fun b hb2 => ?_⟩, by omega⟩
        have e1 : bt (v ||| 2 ^ b0) b = 1 ↔ (bt v b = 1 ∨ b0 = b) := by
          rw [bt_or, bt_pow]
          by_cases z1 : bt v b = 1
          · simp [z1]
          · by_cases z2 : b0 = b
            · simp [z2]
            · simp [z1, z2]
        rw [e1, hbits b hb2]
        constructor
        · rintro (q | q)
          · exact ⟨q.1, q.2.1, by omega, q.2.2.2⟩
          · subst q
            exact ⟨g1, g2, by omega, by rw [g3]; omega⟩
        · rintro ⟨q1, q2, q3, q4⟩
          by_cases e : qn c W b = p
          · exact Or.inr (qn_inj g2 q2 (by omega))
          · exact Or.inl ⟨q1, q2, by omega, q4⟩
end
