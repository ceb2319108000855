/-! leaves, the reference's -/
theorem lvF_no {a lane i : Int} {W : Nat → Int} {S : SS} (ok : (0 ≤ a ∧ a ≤ 3) ∧ (0 ≤ lane ∧ lane ≤ 2)) (hb : barS S a lane i (W 24) = 0) (q : ¬ (0 < W 24 ∧ shOk (S.2.2.2 a.toNat) i.toNat (W 24).toNat)) : lvF a lane i W S = (-2, S) := by
  unfold lvF
  rw [if_pos ok, if_pos hb, if_neg q]
theorem lvF_yes {a lane i : Int} {W : Nat → Int} {S : SS} (ok : (0 ≤ a ∧ a ≤ 3) ∧ (0 ≤ lane ∧ lane ≤ 2)) (hb : barS S a lane i (W 24) = 0) (q : 0 < W 24 ∧ shOk (S.2.2.2 a.toNat) i.toNat (W 24).toNat) : lvF a lane i W S = (fsF (lvP (S.2.2.2 a.toNat) i.toNat (W 24).toNat W) (2 ^ (W 24).toNat - 1) 1, S) := by
  unfold lvF
  rw [if_pos ok, if_pos hb, if_pos q]
theorem lvF_bar {a lane i : Int} {W : Nat → Int} {S : SS} (ok : (0 ≤ a ∧ a ≤ 3) ∧ (0 ≤ lane ∧ lane ≤ 2)) (hb : ¬ barS S a lane i (W 24) = 0) : lvF a lane i W S = (barS S a lane i (W 24), S) := by
  unfold lvF
  rw [if_pos ok, if_neg hb]
theorem lvF_bad {a lane i : Int} {W : Nat → Int} {S : SS} (ok : ¬ ((0 ≤ a ∧ a ≤ 3) ∧ (0 ≤ lane ∧ lane ≤ 2))) : lvF a lane i W S = (-1, S) := if_neg ok
section
variable {E : FX} {l : Launch} {M : MM} {S : SS} {a b lane n v : Int}
theorem m_leaves {W : Nat → Int} {i : Int} (ha : R32 a) (hl : R32 lane) (hi : R32 i) (hP : PM M W) (hC : MS M S) (hW : IW W) (hS : IS S) : Con E l 20 qX12_leaves [vr 44, vi a, vi lane, vi i] M (fun r M' => r = some (vi (lvF a lane i W S).1) ∧ MS M' (lvF a lane i W S).2 ∧ FsM M M') := by
  have hh := hW.nb
  have bad : ∀ x, lvF a lane i W S = (x, S) → some (vi x) = some (vi (lvF a lane i W S).1) ∧ MS M (lvF a lane i W S).2 ∧ FsM M M := fun x e => by
    rw [e]
    exact ⟨rfl, hC, FsM.rf⟩
  obtain ⟨h, hhe⟩ : ∃ h : Nat, W 24 = h := ⟨(W 24).toNat, by omega⟩
  have eh : (W 24).toNat = h := by omega
  have h6 : h ≤ 6 := by omega
  have h2 : 2 ^ h ≤ 2 ^ 6 := Nat.pow_le_pow_right (by omega) h6
  have h1 : 1 ≤ 2 ^ h := Nat.one_le_two_pow
  refine (RX12_leaves (D := 5)
    (fun M' x1 x3 x4 x6 x7 => M' = M ∧ ∃ (p s k : Nat), a = s ∧ i = p ∧ x1 = s ∧ x3 = p ∧ x4 = h ∧ s < 4 ∧ p + h ≤ 16 ∧ ((0 ≤ a ∧ a ≤ 3) ∧ (0 ≤ lane ∧ lane ≤ 2)) ∧ barS S a lane i (W 24) = 0 ∧ x6 = b01 (0 < h ∧ shOk (S.2.2.2 s) p k) ∧ x7 = k ∧ k ≤ h)
    (fun _ _ _ _ _ x7 => 100000 + (10 - x7).toNat)
    (fun M' x1 x3 x4 x7 => ∃ (p s g : Nat), a = s ∧ i = p ∧ x1 = s ∧ x3 = p ∧ x4 = h ∧ s < 4 ∧ p + h ≤ 16 ∧ shOk (S.2.2.2 s) p h ∧ Eqv M M' ∧ MkM M' (knW W) (stW W) (alW W) ∧ (lvF a lane i W S).1 = fsF (lvP (S.2.2.2 s) p h W) (2 ^ h - g) g ∧ x7 = g ∧ 1 ≤ g ∧ g ≤ 2 ^ h)
    (fun _ _ _ _ x7 => ((70 - x7) * 20 + 19).toNat)
    (fun M' x1 x3 x4 x7 x8 x10 => ∃ (p s g k : Nat), a = s ∧ i = p ∧ x1 = s ∧ x3 = p ∧ x4 = h ∧ s < 4 ∧ p + h ≤ 16 ∧ shOk (S.2.2.2 s) p h ∧ Eqv M M' ∧ MkM M' (knW W) (stW W) (alW W) ∧ (lvF a lane i W S).1 = fsF (lvP (S.2.2.2 s) p h W) (2 ^ h - g) g ∧ x7 = g ∧ 1 ≤ g ∧ g < 2 ^ h ∧ x8 = sumZ (fun j => if bt g j = 1 then S.2.2.2 s (p + j) else 0) k ∧ x10 = k ∧ k ≤ h)
    (fun _ _ _ _ x7 _ x10 => ((70 - x7) * 20 + (10 - x10)).toNat) ?_ ?_ ?_ ?_).up (by decide)
  · unfold VX12_leaves_0
    try unfold VX12_leaves_59
    refine (c_isSheet ha).fn ⟨_, rfl, b01_R, fun c1 => bad _ (lvF_bad (fun q => b01_0.mp c1 q.1)), fun c1 => ⟨hl, (c_in (r32_64 hl) (by decide) (by decide)).fn ⟨_, rfl, b01_R, fun c2 => ?_, fun c2 => bad _ (lvF_bad (fun q => b01_0.mp c2 q.2))⟩⟩⟩
    rw [b01_n0] at c1 c2
    intro y11 h11
    rw [hP 24 (by decide)] at h11
    subst h11
    obtain ⟨s, rfl⟩ : ∃ s : Nat, a = s := ⟨a.toNat, by omega⟩
    have hs4 : s < 4 := by omega
    have eb : barS S s lane i (W 24) = barv (S.1 s) (S.2.1 s) (S.2.2.1 s) lane i (W 24) := rfl
    have hr := barv_R (S.1 s) (S.2.1 s) (S.2.2.1 s) lane i (W 24)
    refine (m_bars hC hS hs4 hl hi (by unfold R32; omega)).fn ⟨_, rfl, hr.1, fun c3 => ?_, fun c3 => ?_⟩
    · obtain ⟨b1, b2, b3⟩ := barv_0 c3
      obtain ⟨i1, i2, i3, i4⟩ := hS s hs4
      obtain ⟨p, rfl⟩ : ∃ p : Nat, i = p := ⟨i.toNat, by omega⟩
      rw [hhe] at c3 ⊢
      refine ⟨by unfold R32; omega, fun c4 => ⟨rfl, p, s, 0, rfl, rfl, rfl, rfl, rfl, hs4, by omega, ⟨by omega, c2⟩, ?_, ?_, rfl, by omega⟩, fun c4 => ⟨rfl, p, s, 0, rfl, rfl, rfl, rfl, rfl, hs4, by omega, ⟨by omega, c2⟩, ?_, ?_, rfl, by omega⟩⟩
      · exact c3
      · rw [b01, if_neg (by omega)]
      · exact c3
      · rw [b01, if_pos ⟨by omega, fun j hj => absurd hj (by omega)⟩]
    · refine bad _ ?_
      rw [lvF_bar ⟨c1, c2⟩ (by rw [eb]; exact c3), eb]
  · rintro M' _ _ _ _ _ ⟨rfl, p, s, k, hs, hp, rfl, rfl, rfl, hs4, hph, ok, hb, rfl, rfl, hk⟩
    obtain ⟨e1, e2, e3⟩ := hC s hs4
    obtain ⟨i1, i2, i3, i4⟩ := hS s hs4
    have es : a.toNat = s := by omega
    have ep : i.toNat = p := by omega
    unfold VX12_leaves_64
    try unfold VX12_leaves_104
    try unfold VX12_leaves_105
    refine ⟨by unfold R32; omega, by unfold R32; omega, fun c1 => ⟨b01_R, fun c2 => ?_, fun c2 => ?_⟩, fun c1 => ⟨b01_R, fun c2 y20 h20 => ⟨⟨rfl, p, s, k + 1, hs, hp, rfl, rfl, rfl, hs4, hph, ok, hb, ?_, by omega, by omega⟩, by omega⟩, fun c2 => ⟨by omega, by omega, ?_⟩⟩⟩
    · rw [b01_n0] at c2
      have hsh : 0 < h ∧ shOk (S.2.2.2 s) p h := by rw [show h = k by omega]; exact ⟨by omega, c2.2⟩
      refine (c_layNow hP hW).mono ?_
      rintro _ M1 ⟨rfl, hkM, he⟩
      refine ⟨rfl, ⟨p, s, 1, hs, hp, rfl, rfl, rfl, hs4, hph, hsh.2, he, hkM, ?_, rfl, by omega, h1⟩, by omega⟩
      rw [lvF_yes ok hb (by rw [es, ep, eh]; exact ⟨by omega, hsh.2⟩), es, ep, eh]
    · rw [b01_0] at c2
      refine bad _ (lvF_no ok hb ?_)
      rw [es, ep, eh]
      rintro ⟨q1, q2⟩
      exact c2 ⟨by omega, fun j hj => q2 j (by omega)⟩
    · rw [b01_0] at c2
      rw [b01, if_neg]
      rintro ⟨q1, q2⟩
      exact c2 ⟨q1, fun j hj => q2 j (by omega)⟩
    · rw [b01_n0] at c2
      rw [show (16 * (s : Int) + (p : Int) + (k : Int)).toNat = 16 * s + (p + k) by omega, e3 (p + k) (by omega)]
      refine (c_in (i4 (p + k) (by omega)) (by decide) (by decide)).fn ⟨_, rfl, b01_R, fun c3 y20 h20 => ⟨⟨rfl, p, s, k + 1, hs, hp, rfl, rfl, rfl, hs4, hph, ok, hb, ?_, by omega, by omega⟩, by omega⟩, fun c3 y20 h20 => ⟨⟨rfl, p, s, k + 1, hs, hp, rfl, rfl, rfl, hs4, hph, ok, hb, ?_, by omega, by omega⟩, by omega⟩⟩
      · rw [b01_0] at c3
        rw [b01, if_neg]
        rintro ⟨q1, q2⟩
        exact c3 (q2 k (by omega))
      · rw [b01_n0] at c3
        rw [b01, if_pos]
        refine ⟨c2.1, fun j hj => ?_⟩
        by_cases d : j = k
        · rw [d]; exact c3
        · exact c2.2 j (by omega)
  · rintro M' _ _ _ _ ⟨p, s, g, hs, hp, rfl, rfl, rfl, hs4, hph, hsh, he, hk, hA, rfl, hg1, hg2⟩
    unfold VX12_leaves_128
    rw [ishl_1 h (by omega)]
    refine ⟨by unfold R32; omega, by unfold R32; omega, fun c1 => ?_, fun c1 => ⟨⟨p, s, g, 0, hs, hp, rfl, rfl, rfl, hs4, hph, hsh, he, hk, hA, rfl, hg1, by omega, rfl, rfl, by omega⟩, by omega⟩⟩
    rw [show 2 ^ h - g = 0 by omega] at hA
    rw [show lvF a lane i W S = (-4, S) from Prod.ext hA lvF_S]
    exact ⟨rfl, hC.eqv he, FsM.eqv he⟩
  · rintro M' _ _ _ _ _ _ ⟨p, s, g, k, hs, hp, rfl, rfl, rfl, hs4, hph, hsh, he, hk, hA, rfl, hg1, hg2, rfl, rfl, hkh⟩
    have hP' := hP.eqv he
    have hC' := hC.eqv he
    obtain ⟨e1, e2, e3⟩ := hC' s hs4
    unfold VX12_leaves_143
    try unfold VX12_leaves_180
    refine ⟨by unfold R32; omega, by unfold R32; omega, fun c1 => ?_, fun c1 => (c_has (s := g) (k := k) (by omega) (by omega)).fn ⟨_, rfl, ?_⟩⟩
    · have hb1 := shT_b hsh h6 g
      have hb2 := price_b hW g
      have e : sumZ (fun j => if bt g j = 1 then S.2.2.2 s (p + j) else 0) k = shT (S.2.2.2 s) p h g := by rw [show k = h by omega]; rfl
      rw [e]
      rw [show 2 ^ h - g = (2 ^ h - (g + 1)) + 1 by omega, fsF_s] at hA
      refine (c_priceOfM (by omega) hk hP' hW).fn ⟨_, rfl, by unfold R64; omega, by unfold R64; omega, fun c2 y48 h48 => ⟨⟨p, s, g + 1, hs, hp, rfl, rfl, rfl, hs4, hph, hsh, he, hk, ?_, by omega, by omega, by omega⟩, by omega⟩, fun c2 => ?_⟩
      · rw [hA, if_neg]
        unfold lvP
        rw [decide_eq_true_iff]
        omega
      · rw [if_pos (by unfold lvP; rw [decide_eq_true_iff]; omega)] at hA
        rw [show lvF a lane i W S = ((g : Int), S) from Prod.ext hA lvF_S]
        exact ⟨rfl, hC', FsM.eqv he⟩
    · have hb := bt_01 g k
      refine ⟨by unfold R32; omega, fun c2 y37 h37 y39 h39 => ⟨⟨p, s, g, k + 1, hs, hp, rfl, rfl, rfl, hs4, hph, hsh, he, hk, hA, rfl, hg1, hg2, ?_, by omega, by omega⟩, by omega⟩, fun c2 => ⟨by omega, by omega, fun y37 h37 y39 h39 => ⟨⟨p, s, g, k + 1, hs, hp, rfl, rfl, rfl, hs4, hph, hsh, he, hk, hA, rfl, hg1, hg2, ?_, by omega, by omega⟩, by omega⟩⟩⟩
      · rw [h37, sumZ_s, if_neg (by omega)]
      · rw [h37, sumZ_s, if_pos (by omega), show (16 * (s : Int) + (p : Int) + (k : Int)).toNat = 16 * s + (p + k) by omega, e3 (p + k) (by omega)]
theorem e_leaves {i : Int} (ha : R32 a) (hl : R32 lane) (hi : R32 i) : EqA E l vi qX11_leaves qX12_leaves [vi a, vi lane, vi i] :=
  eqH (lvF a lane i) (fun W S hW hS => by rw [lvF_S]; exact hS) (fun M W S hP hC hW hS => k_leaves ha hl hi hP hC hW hS) (fun M W S hP hC hW hS => m_leaves ha hl hi hP hC hW hS)
end
