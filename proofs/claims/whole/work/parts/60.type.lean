/-! the tape: frames, and type -/
def TpC (M : MM) (T : Nat → Int) (L : Nat) : Prop := M 25 1 = L ∧ ∀ j, j < 40 → M 26 j = T j
def TpM (M : MM) (T : Nat → Int) (L : Nat) : Prop := M 44 3 = L ∧ ∀ j, j < 40 → M 46 j = T j
def IT (T : Nat → Int) (L : Nat) : Prop := L ≤ 40 ∧ ∀ j, j < 40 → 0 ≤ T j ∧ T j ≤ 126
def FrC (M M' : MM) : Prop := ∀ k p, rg k p ≠ 0 → rg k p ≠ 1 → k ≠ 26 → ¬ (k = 25 ∧ p = 1) → M' k p = M k p
def FrM (M M' : MM) : Prop := ∀ k p, rg k p ≠ 0 → rg k p ≠ 2 → k ≠ 46 → ¬ (k = 44 ∧ p = 3) → M' k p = M k p
theorem FrC.rf {M : MM} : FrC M M := fun _ _ _ _ _ _ => rfl
theorem FrM.rf {M : MM} : FrM M M := fun _ _ _ _ _ _ => rfl
theorem FrC.tr {M M1 M2 : MM} (h : FrC M M1) (h2 : FrC M1 M2) : FrC M M2 := fun k p a b c d => (h2 k p a b c d).trans (h k p a b c d)
theorem FrM.tr {M M1 M2 : MM} (h : FrM M M1) (h2 : FrM M1 M2) : FrM M M2 := fun k p a b c d => (h2 k p a b c d).trans (h k p a b c d)
theorem FrC.eqv {M M' : MM} (h : Eqv M M') : FrC M M' := fun k p a _ _ _ => h k p (rg_sc a)
theorem FrM.eqv {M M' : MM} (h : Eqv M M') : FrM M M' := fun k p a _ _ _ => h k p (rg_sc a)
theorem FrC.put {M M1 : MM} {k j : Nat} {x : Int} (h : FrC M M1) (hk : rg k j = 0 ∨ rg k j = 1 ∨ k = 26 ∨ (k = 25 ∧ j = 1)) : FrC M (up M1 k j x) := by
  intro k' j' a b c d
  rw [up_ne (fun e => by obtain ⟨e1, e2⟩ := e; subst e1; subst e2; omega)]
  exact h k' j' a b c d
theorem FrM.put {M M1 : MM} {k j : Nat} {x : Int} (h : FrM M M1) (hk : rg k j = 0 ∨ rg k j = 2 ∨ k = 46 ∨ (k = 44 ∧ j = 3)) : FrM M (up M1 k j x) := by
  intro k' j' a b c d
  rw [up_ne (fun e => by obtain ⟨e1, e2⟩ := e; subst e1; subst e2; omega)]
  exact h k' j' a b c d
theorem FrC.ag {M M' : MM} (h : FrC M M') {i : Nat} (hi : i ≠ 0 ∧ i ≠ 1 ∧ i ≠ 3) : AG i M M' := by
  intro k p e
  refine h k p (by omega) (by omega) (fun q => ?_) (fun q => ?_)
  · subst q
    have : rg 26 p = 3 := rfl
    omega
  · obtain ⟨rfl, rfl⟩ := q
    have : rg 25 1 = 3 := rfl
    omega
theorem FrM.ag {M M' : MM} (h : FrM M M') {i : Nat} (hi : i ≠ 0 ∧ i ≠ 2 ∧ i ≠ 3) : AG i M M' := by
  intro k p e
  refine h k p (by omega) (by omega) (fun q => ?_) (fun q => ?_)
  · subst q
    have : rg 46 p = 3 := rfl
    omega
  · obtain ⟨rfl, rfl⟩ := q
    have : rg 44 3 = 3 := rfl
    omega
theorem TpM.fr {M M' : MM} {T : Nat → Int} {L : Nat} (h : TpM M T L) (e : FrC M M') : TpM M' T L := ⟨(e 44 3 (by decide) (by decide) (by decide) (by decide)).trans h.1, fun j hj => (e 46 j (by simp [rg]) (by simp [rg]) (by decide) (by omega)).trans (h.2 j hj)⟩
theorem TpC.fr {M M' : MM} {T : Nat → Int} {L : Nat} (h : TpC M T L) (e : FrM M M') : TpC M' T L := ⟨(e 25 1 (by decide) (by decide) (by decide) (by decide)).trans h.1, fun j hj => (e 26 j (by simp [rg]) (by simp [rg]) (by decide) (by omega)).trans (h.2 j hj)⟩
theorem TpC.eqv {M M' : MM} {T : Nat → Int} {L : Nat} (h : TpC M T L) (e : Eqv M M') : TpC M' T L := ⟨(e 25 1 rfl).trans h.1, fun j hj => (e 26 j rfl).trans (h.2 j hj)⟩
theorem TpM.eqv {M M' : MM} {T : Nat → Int} {L : Nat} (h : TpM M T L) (e : Eqv M M') : TpM M' T L := ⟨(e 44 3 rfl).trans h.1, fun j hj => (e 46 j rfl).trans (h.2 j hj)⟩
theorem RTp_of {M : MM} {T : Nat → Int} {L : Nat} (h1 : TpC M T L) (h2 : TpM M T L) (h3 : IT T L) : RTp M := by
  have := h1.1
  have := h2.1
  have := h3.1
  exact ⟨by omega, by omega, by omega, fun j hj => by rw [h1.2 j hj, h2.2 j hj]; exact ⟨rfl, h3.2 j hj⟩⟩
theorem RTp_to {M : MM} (h : RTp M) : ∃ (T : Nat → Int) (L : Nat), TpC M T L ∧ TpM M T L ∧ IT T L := by
  obtain ⟨h1, h2, h3, h4⟩ := h
  refine ⟨fun j => M 26 j, (M 25 1).toNat, ⟨by omega, fun _ _ => rfl⟩, ⟨by omega, fun j hj => (h4 j hj).1.symm⟩, by omega, fun j hj => (h4 j hj).2⟩
/-- class and reference alike, where numbers and tape may change -/
theorem eqT {E : FX} {l : Launch} {mk : Int → AV} {qc qm : MI} {As : List AV} (F : (Nat → Int) → (Nat → Int) → Nat → Int → (Nat → Int) → (Nat → Int) → Nat → Prop)
    (hu : ∀ W T L x x' W1 W2 T1 T2 L1 L2, IW W → IT T L → F W T L x W1 T1 L1 → F W T L x' W2 T2 L2 → x = x' ∧ W1 = W2 ∧ T1 = T2 ∧ L1 = L2)
    (hi : ∀ W T L x W' T' L', IW W → IT T L → F W T L x W' T' L' → IW W' ∧ IT T' L')
    (hc : ∀ M W T L, PC M W → TpC M T L → IW W → IT T L → Con E l 20 qc (vr 0 :: As) M (fun r M' => (∃ x W' T' L', r = some (mk x) ∧ F W T L x W' T' L' ∧ PC M' W' ∧ TpC M' T' L') ∧ FrC M M'))
    (hm : ∀ M W T L, PM M W → TpM M T L → IW W → IT T L → Con E l 20 qm (vr 44 :: As) M (fun r M' => (∃ x W' T' L', r = some (mk x) ∧ F W T L x W' T' L' ∧ PM M' W' ∧ TpM M' T' L') ∧ FrM M M')) : EqA E l mk qc qm As := by
  intro M hR
  obtain ⟨⟨W, h1, h2, h3⟩, h4, h5, h6⟩ := hR
  obtain ⟨T, L, t1, t2, t3⟩ := RTp_to h4
  refine (hc M W T L h1 t1 h3 t3).mono ?_ (Nat.le_refl _)
  rintro _ M1 ⟨⟨x, W1, T1, L1, rfl, f1, p1, s1⟩, k1⟩
  refine ⟨x, rfl, (hm M1 W T L (h2.ag (k1.ag (by decide))) (t2.fr k1) h3 t3).mono ?_ (Nat.le_refl _)⟩
  rintro _ M2 ⟨⟨x', W2, T2, L2, rfl, f2, p2, s2⟩, k2⟩
  obtain ⟨rfl, rfl, rfl, rfl⟩ := hu _ _ _ _ _ _ _ _ _ _ _ h3 t3 f1 f2
  obtain ⟨i1, i2⟩ := hi _ _ _ _ _ _ _ h3 t3 f1
  refine ⟨rfl, ⟨⟨W1, p1.ag (k2.ag (by decide)), p2, i1⟩, RTp_of (s1.fr k2) s2 i2, ?_, ?_⟩, ?_⟩
  · exact (h5.ag (k1.ag (by decide))).ag (k2.ag (by decide))
  · exact (h6.ag (k1.ag (by decide))).ag (k2.ag (by decide))
  · exact (k1.ag (i := 6) (by decide)).tr (k2.ag (by decide))
/-- the tape with the first k bytes of n written behind L -/
def tpW (v : Int) (n : Nat) (T : Nat → Int) (L k : Nat) : Nat → Int := fun j => if L ≤ j ∧ j < L + k then (byt v (n - 1 - (j - L)) : Nat) else T j
theorem tpW_0 (v : Int) (n : Nat) (T : Nat → Int) (L : Nat) : tpW v n T L 0 = T := by
  funext j
  unfold tpW
  rw [if_neg (by omega)]
def okTy (v : Int) (n : Int) : Prop := (1 ≤ n ∧ n ≤ 8) ∧ ∀ i : Nat, (i : Int) < n → 32 ≤ byt v i ∧ byt v i ≤ 126
def TTy (v n : Int) (W T : Nat → Int) (L : Nat) (x : Int) (W' T' : Nat → Int) (L' : Nat) : Prop := W' = W ∧ ((¬ okTy v n ∧ x = -1 ∧ T' = T ∧ L' = L) ∨ (okTy v n ∧ 40 < L + n ∧ x = -3 ∧ T' = T ∧ L' = L) ∨ (okTy v n ∧ L + n ≤ 40 ∧ x = L + n ∧ T' = tpW v n.toNat T L n.toNat ∧ L' = L + n.toNat))
section
variable {E : FX} {l : Launch} {M : MM} {v n : Int}
theorem c_byteOf {i : Nat} (hi : i < 8) : Con E l 1 qX11_byteOf [vj v, vi i] M (fun r M' => r = some (vi (byt v i : Nat)) ∧ M' = M) := by
  refine RX11_byteOf ?_
  unfold VX11_byteOf_0
  rw [byt_c hi]
  exact ⟨rfl, rfl⟩
theorem k_type (hv : R64 v) (hn : R32 n) : ∀ M W T L, PC M W → TpC M T L → IW W → IT T L → Con E l 20 qX11_type [vr 0, vj v, vi n] M (fun r M' => (∃ x W' T' L', r = some (vi x) ∧ TTy v n W T L x W' T' L' ∧ PC M' W' ∧ TpC M' T' L') ∧ FrC M M') := by
  intro M W T L hP hT hW hI
  have hL := hI.1
  have hT1 := hT.1
  have bad : ¬ okTy v n → (∃ x W' T' L', some (vi (-1)) = some (vi x) ∧ TTy v n W T L x W' T' L' ∧ PC M W' ∧ TpC M T' L') ∧ FrC M M := fun h => ⟨⟨-1, W, T, L, rfl, ⟨rfl, Or.inl ⟨h, rfl, rfl, rfl⟩⟩, hP, hT⟩, FrC.rf⟩
  refine (RX11_type (D := 3) (fun M' x1 x3 x4 => M' = M ∧ x1 = v ∧ x3 = n ∧ (1 ≤ n ∧ n ≤ 8) ∧ ∃ i : Nat, x4 = i ∧ x4 ≤ n ∧ ∀ j : Nat, j < i → 32 ≤ byt v j ∧ byt v j ≤ 126) (fun _ _ _ x4 => (109 - x4).toNat) (fun M' x1 x4 => x1 = v ∧ okTy v n ∧ L + n ≤ 40 ∧ PC M' W ∧ FrC M M' ∧ ∃ k : Nat, x4 = n - 1 - k ∧ k ≤ n ∧ TpC M' (tpW v n.toNat T L k) (L + k)) (fun _ _ x4 => (x4 + 1).toNat) ?_ ?_ ?_).up (by decide)
  · unfold VX11_type_0
    refine (c_within hn (by decide) (by decide)).fn ⟨_, rfl, b01_R, fun k1 => ?_, fun k1 => bad (fun q => b01_0.mp k1 q.1)⟩
    rw [b01_n0] at k1
    exact ⟨rfl, rfl, rfl, k1, 0, rfl, by omega, fun j hj => by omega⟩
  · rintro M' x1 x3 _ ⟨rfl, rfl, rfl, hk, i, rfl, hi, hb⟩
    unfold VX11_type_15
    refine ⟨by unfold R32; omega, hn, fun c1 => ?_, fun c1 => ?_⟩
    · have hok : okTy x1 x3 := ⟨hk, fun j hj => hb j (by omega)⟩
      rw [hT1]
      refine ⟨hn, by unfold R32; omega, fun c2 y10 h10 => ⟨⟨rfl, hok, by omega, hP, FrC.rf, 0, by omega, by omega, by rw [tpW_0]; exact hT⟩, by omega⟩, fun c2 => ?_⟩
      exact ⟨⟨-3, W, T, L, rfl, ⟨rfl, Or.inr (Or.inl ⟨hok, by omega, rfl, rfl, rfl⟩)⟩, hP, hT⟩, FrC.rf⟩
    · have hlt := byt_lt x1 i
      refine (c_byteOf (by omega)).fn ⟨_, rfl, (c_within (by unfold R32; omega) (by decide) (by decide)).fn ⟨_, rfl, b01_R, fun k2 y20 h20 => ?_, fun k2 => bad (fun q => ?_)⟩⟩
      · rw [b01_n0] at k2
        refine ⟨⟨rfl, rfl, rfl, hk, i + 1, by omega, by omega, fun j hj => ?_⟩, by omega⟩
        by_cases e : j = i
        · subst e; omega
        · exact hb j (by omega)
      · have := q.2 i (by omega)
        exact b01_0.mp k2 (by omega)
  · rintro M' x1 x4 ⟨rfl, hok, hfit, p, f, k, rfl, hk, t⟩
    have h8 := hok.1
    unfold VX11_type_67
    refine ⟨by unfold R32; omega, fun c1 => ?_, fun c1 => ?_⟩
    · have ek : (k : Int) = n := by omega
      have ek2 : k = n.toNat := by omega
      refine ⟨⟨M' 25 1, W, tpW x1 n.toNat T L n.toNat, L + n.toNat, rfl, ⟨rfl, Or.inr (Or.inr ⟨hok, hfit, ?_, rfl, rfl⟩)⟩, p, ?_⟩, f⟩
      · rw [t.1]; omega
      · subst ek2; exact t
    · rw [show n - 1 - (k : Int) = ((n.toNat - 1 - k : Nat) : Int) by omega]
      refine (c_byteOf (by omega)).fn ⟨_, rfl, ?_⟩
      refine (RX9_add (D := 1) (post := fun r Mx => r = none ∧ Mx = up (up M' 26 (L + k) (byt x1 (n.toNat - 1 - k) : Nat)) 25 1 ((L + k : Nat) + 1)) ?_).mono ?_ (by decide)
      · unfold VX9_add_0
        rw [t.1]
        refine (c_put (n := 40) rfl (by omega) (by omega)).fn ⟨rfl, ?_⟩
        intro M3 h3
        rw [Int.toNat_natCast, up_ne (by omega), t.1] at h3
        exact ⟨rfl, h3⟩
      · rintro _ M2 ⟨rfl, rfl⟩
        refine ⟨rfl, fun y29 h29 => ⟨⟨rfl, hok, hfit, ?_, ?_, k + 1, by omega, by omega, ?_, ?_⟩, by omega⟩⟩
        · exact p.ag ((AG.rf.put (by simp [rg])).put (by simp [rg]))
        · exact (f.put (Or.inr (Or.inr (Or.inl rfl)))).put (Or.inr (Or.inr (Or.inr ⟨rfl, rfl⟩)))
        · rw [up_eq]; omega
        · intro j hj
          rw [up_ne (by omega)]
          by_cases e : j = L + k
          · subst e
            rw [up_eq]
            unfold tpW
            rw [if_pos (by omega), show L + k - L = k by omega]
          · rw [up_ne (by omega), t.2 j hj]
            unfold tpW
            by_cases c : L ≤ j ∧ j < L + k
            · rw [if_pos c, if_pos (by omega)]
            · rw [if_neg c, if_neg (by omega)]
theorem m_type (hv : R64 v) (hn : R32 n) : ∀ M W T L, PM M W → TpM M T L → IW W → IT T L → Con E l 20 qX12_type [vr 44, vj v, vi n] M (fun r M' => (∃ x W' T' L', r = some (vi x) ∧ TTy v n W T L x W' T' L' ∧ PM M' W' ∧ TpM M' T' L') ∧ FrM M M') := by
  intro M W T L hP hT hW hI
  have hL := hI.1
  have hT1 := hT.1
  have bad : ¬ okTy v n → (∃ x W' T' L', some (vi (-1)) = some (vi x) ∧ TTy v n W T L x W' T' L' ∧ PM M W' ∧ TpM M T' L') ∧ FrM M M := fun h => ⟨⟨-1, W, T, L, rfl, ⟨rfl, Or.inl ⟨h, rfl, rfl, rfl⟩⟩, hP, hT⟩, FrM.rf⟩
  refine (RX12_type (D := 3) (fun M' x1 x3 x4 => M' = M ∧ x1 = v ∧ x3 = n ∧ (1 ≤ n ∧ n ≤ 8) ∧ ∃ i : Nat, x4 = i ∧ x4 ≤ n ∧ ∀ j : Nat, j < i → 32 ≤ byt v j ∧ byt v j ≤ 126) (fun _ _ _ x4 => (109 - x4).toNat) (fun M' x1 x4 => x1 = v ∧ okTy v n ∧ L + n ≤ 40 ∧ PM M' W ∧ FrM M M' ∧ ∃ k : Nat, x4 = n - 1 - k ∧ k ≤ n ∧ TpM M' (tpW v n.toNat T L k) (L + k)) (fun _ _ x4 => (x4 + 1).toNat) ?_ ?_ ?_).up (by decide)
  · unfold VX12_type_0
    refine ⟨hn, (c_in (r32_64 hn) (by decide) (by decide)).fn ⟨_, rfl, b01_R, fun k1 => ?_, fun k1 => bad (fun q => b01_0.mp k1 q.1)⟩⟩
    rw [b01_n0] at k1
    exact ⟨rfl, rfl, rfl, k1, 0, rfl, by omega, fun j hj => by omega⟩
  · rintro M' x1 x3 _ ⟨rfl, rfl, rfl, hk, i, rfl, hi, hb⟩
    unfold VX12_type_17
    refine ⟨by unfold R32; omega, hn, fun c1 => ?_, fun c1 => ?_⟩
    · have hok : okTy x1 x3 := ⟨hk, fun j hj => hb j (by omega)⟩
      rw [hT1]
      refine ⟨by unfold R32; omega, fun c2 y10 h10 => ⟨⟨rfl, hok, by omega, hP, FrM.rf, 0, by omega, by omega, by rw [tpW_0]; exact hT⟩, by omega⟩, fun c2 => ?_⟩
      exact ⟨⟨-3, W, T, L, rfl, ⟨rfl, Or.inr (Or.inl ⟨hok, by omega, rfl, rfl, rfl⟩)⟩, hP, hT⟩, FrM.rf⟩
    · have hlt := byt_lt x1 i
      rw [byt_m hv (by omega)]
      refine (c_in (by unfold R64; omega) (by decide) (by decide)).fn ⟨_, rfl, b01_R, fun k2 y20 h20 => ?_, fun k2 => bad (fun q => ?_)⟩
      · rw [b01_n0] at k2
        refine ⟨⟨rfl, rfl, rfl, hk, i + 1, by omega, by omega, fun j hj => ?_⟩, by omega⟩
        by_cases e : j = i
        · subst e; omega
        · exact hb j (by omega)
      · have := q.2 i (by omega)
        exact b01_0.mp k2 (by omega)
  · rintro M' x1 x4 ⟨rfl, hok, hfit, p, f, k, rfl, hk, t⟩
    have h8 := hok.1
    unfold VX12_type_73
    refine ⟨by unfold R32; omega, fun c1 => ?_, fun c1 => ?_⟩
    · have ek : (k : Int) = n := by omega
      have ek2 : k = n.toNat := by omega
      refine ⟨⟨M' 44 3, W, tpW x1 n.toNat T L n.toNat, L + n.toNat, rfl, ⟨rfl, Or.inr (Or.inr ⟨hok, hfit, ?_, rfl, rfl⟩)⟩, p, ?_⟩, f⟩
      · rw [t.1]; omega
      · subst ek2; exact t
    · rw [show n - 1 - (k : Int) = ((n.toNat - 1 - k : Nat) : Int) by omega, byt_m hv (by omega), w32_byt, t.1]
      refine ⟨by omega, by omega, ?_⟩
      rintro M2 rfl M3 rfl y25 h25
      rw [Int.toNat_natCast, up_ne (M := M') (k := 46) (by omega), t.1]
      refine ⟨⟨rfl, hok, hfit, ?_, ?_, k + 1, by omega, by omega, ?_, ?_⟩, by omega⟩
      · exact p.ag ((AG.rf.put (by simp [rg])).put (by simp [rg]))
      · exact (f.put (Or.inr (Or.inr (Or.inl rfl)))).put (Or.inr (Or.inr (Or.inr ⟨rfl, rfl⟩)))
      · rw [up_eq]; omega
      · intro j hj
        rw [up_ne (by omega)]
        by_cases e : j = L + k
        · subst e
          rw [up_eq]
          unfold tpW
          rw [if_pos (by omega), show L + k - L = k by omega]
        · rw [up_ne (by omega), t.2 j hj]
          unfold tpW
          by_cases c : L ≤ j ∧ j < L + k
          · rw [if_pos c, if_pos (by omega)]
          · rw [if_neg c, if_neg (by omega)]
theorem e_type (hv : R64 v) (hn : R32 n) : EqA E l vi qX11_type qX12_type [vj v, vi n] :=
  eqT (TTy v n) (fun W T L x x' W1 W2 T1 T2 L1 L2 _ _ h1 h2 => by
    obtain ⟨rfl, h1⟩ := h1
    obtain ⟨rfl, h2⟩ := h2
    rcases h1 with ⟨a1, rfl, rfl, rfl⟩ | ⟨a1, b1, rfl, rfl, rfl⟩ | ⟨a1, b1, rfl, rfl, rfl⟩ <;> rcases h2 with ⟨a2, rfl, e2, rfl⟩ | ⟨a2, b2, rfl, e2, rfl⟩ | ⟨a2, b2, rfl, e2, rfl⟩ <;> first
      | exact ⟨rfl, rfl, e2.symm, rfl⟩
      | exact absurd a1 a2
      | exact absurd a2 a1
      | omega) (fun W T L x W' T' L' hW hT h => by
    obtain ⟨rfl, h⟩ := h
    refine ⟨hW, ?_⟩
    rcases h with ⟨_, _, rfl, rfl⟩ | ⟨_, _, _, rfl, rfl⟩ | ⟨a, b, _, rfl, rfl⟩
    · exact hT
    · exact hT
    · have := a.1
      refine ⟨by omega, fun j hj => ?_⟩
      unfold tpW
      split
      · have := a.2 (n.toNat - 1 - (j - L)) (by omega)
        omega
      · exact hT.2 j hj) (k_type hv hn) (m_type hv hn)
end
